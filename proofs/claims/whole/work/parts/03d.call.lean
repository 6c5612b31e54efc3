/-! calls, a method's entry -/
theorem zG {w0 : Cond} (h : w0 ∈ zU) : GoodIn zU (w0 :: zU) := fun w hw => ⟨(List.mem_cons.mp hw).elim (fun e => e ▸ h) id, good_of_word (List.all_eq_true.mp zgood w ((List.mem_cons.mp hw).elim (fun e => e ▸ h) id))⟩
def zsplit : Nat → zSS → List zAV → Option (List zAV × zSS)
  | 0, S, acc => some (acc, S)
  | n + 1, v :: S, acc => zsplit n S (v :: acc)
  | _ + 1, [], _ => none
theorem zsplit_spec : ∀ (n : Nat) (S acc as S' : List zAV), zsplit n S acc = some (as, S') → ∃ xs : List zAV, xs.length = n ∧ S = xs ++ S' ∧ as = xs.reverse ++ acc
  | 0, S, acc, as, S', h => by
    cases h
    exact ⟨[], rfl, rfl, rfl⟩
  | n + 1, [], acc, as, S', h => by cases h
  | n + 1, v :: S, acc, as, S', h => by
    obtain ⟨xs, h1, h2, h3⟩ := zsplit_spec n S (v :: acc) as S' h
    exact ⟨v :: xs, by simp [h1], by simp [h2], by simp [h3]⟩
theorem zcat_sum (E : zEN) (S : zSS) : ((S.map (zcv E)).map fun v => v.category).sum = S.length := by
  induction S with
  | nil => rfl
  | cons v S ih => simp only [List.map_cons, List.sum_cons, List.length_cons, zcv_cat, ih]; omega
/-- a call on an object of class ci, n arguments with the receiver -/
def zo_callV (ci : Nat) (C : zCT) (M' : zMD) (n : Nat) (k : zKT) : zKT := fun L S σ => match zsplit n S [] with
  | some (.inr r :: as, S') => (match Nat.beq r.1 ci && Nat.ble S'.length 8 with
    | true => C M' (.inr r :: as) σ (fun x σ' => k L (.inl x :: S') σ')
    | false => False)
  | _ => False
def zo_callVv (ci : Nat) (C : zCT) (M' : zMD) (n : Nat) (k : zKT) : zKT := fun L S σ => match zsplit n S [] with
  | some (.inr r :: as, S') => (match Nat.beq r.1 ci && Nat.ble S'.length 8 with
    | true => C M' (.inr r :: as) σ (fun _ σ' => k L S' σ')
    | false => False)
  | _ => False
def zo_callS (C : zCT) (M' : zMD) (n : Nat) (k : zKT) : zKT := fun L S σ => match zsplit n S [] with
  | some (as, S') => (match Nat.ble S'.length 8 with
    | true => C M' as σ (fun x σ' => k L (.inl x :: S') σ')
    | false => False)
  | _ => False
def zo_callSv (C : zCT) (M' : zMD) (n : Nat) (k : zKT) : zKT := fun L S σ => match zsplit n S [] with
  | some (as, S') => (match Nat.ble S'.length 8 with
    | true => C M' as σ (fun _ σ' => k L S' σ')
    | false => False)
  | _ => False
theorem zPc_blind {E : zEN} {as : List zAV} {σ : zST} : FrameBlind (zPc E as σ) := fun a U g mk h => ⟨h.1, h.2.1, h.2.2.call⟩
/-- behind a call -/
theorem zgo {E : zEN} {M' : zMD} {P' : zPT} {p : Program} {l : Launch} {e : Env} {R : Room} {s : State} {m : MethodId} {args : Array Value} {below : List Frame} {meth : Method} {c : Code} {H : Heap} {locs : List Loc} {cells slots : Nat} {Q : State → Prop} {pc : Nat} {ls : Array Slot} {st0 rest : List Value} {a : Array Value} {A0 : Nat → Prop} {H0 : Heap}
    (hr : va_Run p l e R s m args below meth c H locs cells slots 0 0 (F0 m pc ls st0) rest (zQc E M' P' a) (zAA E)) (hS : va_S A0 H0 H locs) (hA : ∀ q, zAA E q → A0 q)
    (kk : ∀ (r : Int32) (σ : zST) (H1 : Heap) (locs1 : List Loc), P' r σ → zWD E σ H1 → H.size ≤ H1.size → (∀ q : Nat, q < H.size → ¬ zAA E q → H1[q]? = H[q]?) → va_S A0 H0 H1 locs1 → W p l e R s m args below meth c H1 locs1 cells slots Q (F0 m (pc + 3) ls ((zrv M' r).toList ++ rest))) : W p l e R s m args below meth c H locs cells slots Q (F0 m pc ls st0) := by
  intro T hT X
  obtain ⟨v, st₀, t, T', L, h0, X', hL, e1, e2, ⟨r, σ', hv, hp, hb, hz, hk⟩, st⟩ := hr T hT X
  cases hv
  rw [h0] at hz hk
  obtain ⟨t2, a1, b1⟩ := kk r σ' T'.heap (locs ++ L) hp (by rw [e1]; exact hb) (by rw [e1]; exact hz) (fun q h1 h2 => by rw [e1]; exact hk q h1 h2)
    ⟨Nat.le_trans hS.1 (by rw [e1]; exact hz), fun q h1 h2 => by rw [e1, hk q (Nat.lt_of_lt_of_le h1 hS.1) (fun z => h2 (hA q z))]; exact hS.2.1 q h1 h2, fun q hq => by
      rcases List.mem_append.mp hq with h | h
      · exact hS.2.2 q h
      · exact hA _ (hL q h)⟩ T' rfl X'
  exact ⟨t2, st t2 a1, b1⟩
section zCalls
variable {E : zEN} {d : Nat} {M : zMD} {P : zPT} {pc : Nat} {k : zKT} {C : zCT}
theorem zrunV {M' : zMD} {ci index : Nat} {CC : String} {T : u_T} {N : Nat} {P' : zPT} {as S' S : List zAV} {r : Nat × Nat} {σ : zST} {R : Room} {L0 : Launch} {cells slots : Nat} {cc : ByteArray} {nL : Nat} {own : String}
    {p : Program} {e : Env} {s : State} {m : MethodId} {args : Array Value} {below : List Frame} {meth : Method} {c : Code} {ls : Array Slot} {H : Heap} {locs : List Loc}
    (hL0 : L0 = E.1) (hF : p.tables.exec = Jvm.exec ∧ c.code = cc ∧ c.maxLocals = nL ∧ s.vm.findClass own = some m.cls ∧ (∀ w ∈ zU, w.before args s = true)) (hKK : zKK E s) (hls : ls.size = nL)
    (hc : vwCl[ci]? = some (CC, T, N)) (hci : ci < 9) (hcl : M'.1.cls = CC) (hnh : CC ≠ "java/lang/invoke/MethodHandle" ∧ CC ≠ "java/lang/invoke/VarHandle")
    (hpl : (parseMethodDescriptor M'.1.desc).map (fun d => d.parameters.length) = some as.length)
    (hcode : Cond.code M'.1 M'.2.1 M'.2.2.1 M'.2.2.2 ∈ zU) (hlink : Cond.methodLink own index M'.1 ∈ zU) (hinst : Cond.instanceMethod M'.1 ∈ zU) (hsel : Cond.selects CC M'.1 M'.1 ∈ zU) (hini : Cond.initialized CC ∈ zU)
    (hr1 : r.1 = ci) (hvs : zvs (.inr r :: as)) (hS : S = as.reverse ++ .inr r :: S') (hlen : S'.length ≤ 8) (hd : decode cc pc = .ok (.invokevirtual index, 3)) (hW : zWD E σ H)
    (hR : d + 1 ≤ R.frames ∧ 19 + M'.2.2.1 + 40 * d ≤ R.locals) (hcr : cells ≤ R.cells ∧ slots ≤ R.slots) (hsp : zSp E d M' (.inr r :: as) σ P') :
    va_Run p L0 e R s m args below meth c H locs cells slots 0 0 (F0 m pc ls (S.map (zcv E))) (S'.map (zcv E)) (zQc E M' P' (Value.ref (E.2.1 r.2) :: as.map (zcv E)).toArray) (zAA E) := by
  subst hL0
  obtain ⟨hr2, hkd⟩ : zok r := hvs.head
  rw [hr1] at hkd
  have he : (zWL E σ)[r.2]? = some (E.2.1 r.2, .inr (ci, zfs E.2.1 σ ci r.2)) := by
    rw [zWL_get E σ hr2, zce_obj hkd (zaK_obj hci)]
  have hM := hsp hvs
  have hGV : GoodIn zU (wsV own index CC M'.1 (Cond.code M'.1 M'.2.1 M'.2.2.1 M'.2.2.2 :: zU)) := by
    refine fun w hw => ?_
    have hm : w ∈ zU := by
      unfold wsV at hw
      rcases List.mem_append.mp hw with h | h
      · simp only [List.mem_cons, List.not_mem_nil, or_false] at h
        rcases h with rfl | rfl | rfl | rfl <;> assumption
      · exact (List.mem_cons.mp h).elim (fun e => e ▸ hcode) id
    exact ⟨hm, good_of_word (List.all_eq_true.mp zgood w hm)⟩
  have hcw := cwV (R := R) (s := s) (args := args) (own := own) (C := CC) (index := index) (y := M'.1) (bytes := M'.2.1) (maxL := M'.2.2.1) (ret := M'.2.2.2) (rm := zrm d) (mc := 0) (ms := 0) as.length hF.2.2.2.2 hGV rfl rfl rfl ⟨hcl, hcl ▸ hnh.1, hcl ▸ hnh.2, hpl⟩ ⟨hR.1, by show 8 + (M'.2.2.1 + 11) + 40 * d ≤ R.locals; omega⟩
  have hblen : (as.map (zcv E)).length = as.length := List.length_map _
  refine va_runV (b := E.2.1 r.2) (As := as.map (zcv E)) ⟨hF.1, hF.2.1, hF.2.2.1, hF.2.2.2.1, hF.2.2.2.2⟩ hM hcw ⟨zPc_blind, ?_, ?_⟩ rfl hblen hls ?_ (lv_room (by rw [zcat_sum]; exact hlen)) hd ⟨by omega, by omega⟩
  · obtain ⟨cell, q1, q2, q3⟩ := va_recv hKK.1 hW.1 hc he
    exact ⟨cell, q1, q2, q3⟩
  · intro U hU hw
    exact ⟨rfl, by rw [hU]; exact hW, hKK.warm hw⟩
  · subst hS
    simp [List.map_append, List.map_reverse, zcv]
theorem zrunS {M' : zMD} {index : Nat} {P' : zPT} {as S' S : List zAV} {σ : zST} {R : Room} {L0 : Launch} {cells slots : Nat} {cc : ByteArray} {nL : Nat} {own : String}
    {p : Program} {e : Env} {s : State} {m : MethodId} {args : Array Value} {below : List Frame} {meth : Method} {c : Code} {ls : Array Slot} {H : Heap} {locs : List Loc}
    (hL0 : L0 = E.1) (hF : p.tables.exec = Jvm.exec ∧ c.code = cc ∧ c.maxLocals = nL ∧ s.vm.findClass own = some m.cls ∧ (∀ w ∈ zU, w.before args s = true)) (hKK : zKK E s) (hls : ls.size = nL)
    (hnh : M'.1.cls ≠ "java/lang/invoke/MethodHandle" ∧ M'.1.cls ≠ "java/lang/invoke/VarHandle")
    (hpl : (parseMethodDescriptor M'.1.desc).map (fun d => d.parameters.length) = some as.length)
    (hcode : Cond.code M'.1 M'.2.1 M'.2.2.1 M'.2.2.2 ∈ zU) (hlink : Cond.methodLink own index M'.1 ∈ zU) (hst : Cond.static M'.1 ∈ zU) (hini : Cond.initialized M'.1.cls ∈ zU)
    (hvs : zvs as) (hS : S = as.reverse ++ S') (hlen : S'.length ≤ 8) (hd : decode cc pc = .ok (.invokestatic index, 3)) (hW : zWD E σ H)
    (hR : d + 1 ≤ R.frames ∧ 19 + M'.2.2.1 + 40 * d ≤ R.locals) (hcr : cells ≤ R.cells ∧ slots ≤ R.slots) (hsp : zSp E d M' as σ P') :
    va_Run p L0 e R s m args below meth c H locs cells slots 0 0 (F0 m pc ls (S.map (zcv E))) (S'.map (zcv E)) (zQc E M' P' (as.map (zcv E)).toArray) (zAA E) := by
  subst hL0
  have hM := hsp hvs
  have hcb := callB_of (R := R) (s := s) (args := args) (own := own) (index := index) (y := M'.1) (bytes := M'.2.1) (maxL := M'.2.2.1) (ret := M'.2.2.2) (rm := zrm d) (mc := 0) (ms := 0) as.length hF.2.2.2.2 (zG hcode) rfl rfl rfl (hF.2.2.2.2 _ hini) (hF.2.2.2.2 _ hlink) ⟨hnh.1, hnh.2, hpl⟩ ⟨hR.1, by show 8 + (M'.2.2.1 + 11) + 40 * d ≤ R.locals; omega⟩
  have hblen : (as.map (zcv E)).length = as.length := List.length_map _
  refine va_runS (As := as.map (zcv E)) ⟨hF.1, hF.2.1, hF.2.2.1, hF.2.2.2.1, hF.2.2.2.2⟩ hM ⟨hcb, hF.2.2.2.2 _ hst⟩ ⟨zPc_blind, ?_⟩ rfl hblen hls ?_ (lv_room (by rw [zcat_sum]; exact hlen)) hd ⟨by omega, by omega⟩
  · intro U hU hw
    exact ⟨rfl, by rw [hU]; exact hW, hKK.warm hw⟩
  · subst hS
    simp [List.map_append, List.map_reverse]
theorem zrunSN {M' : zMD} {index : Nat} {host : String} {P' : zPT} {as S' S : List zAV} {σ : zST} {R : Room} {L0 : Launch} {cells slots : Nat} {cc : ByteArray} {nL : Nat} {own : String}
    {p : Program} {e : Env} {s : State} {m : MethodId} {args : Array Value} {below : List Frame} {meth : Method} {c : Code} {ls : Array Slot} {H : Heap} {locs : List Loc}
    (hL0 : L0 = E.1) (hF : p.tables.exec = Jvm.exec ∧ c.code = cc ∧ c.maxLocals = nL ∧ s.vm.findClass own = some m.cls ∧ (∀ w ∈ zU, w.before args s = true)) (hKK : zKK E s) (hls : ls.size = nL)
    (hnh : M'.1.cls ≠ "java/lang/invoke/MethodHandle" ∧ M'.1.cls ≠ "java/lang/invoke/VarHandle")
    (hpl : (parseMethodDescriptor M'.1.desc).map (fun d => d.parameters.length) = some as.length)
    (hcode : Cond.code M'.1 M'.2.1 M'.2.2.1 M'.2.2.2 ∈ zU) (hlink : (own, index, M'.1, host) ∈ zNQ) (hst : Cond.static M'.1 ∈ zU) (hini : Cond.initialized M'.1.cls ∈ zU)
    (hvs : zvs as) (hS : S = as.reverse ++ S') (hlen : S'.length ≤ 8) (hd : decode cc pc = .ok (.invokestatic index, 3)) (hW : zWD E σ H)
    (hR : d + 1 ≤ R.frames ∧ 19 + M'.2.2.1 + 40 * d ≤ R.locals) (hcr : cells ≤ R.cells ∧ slots ≤ R.slots) (hsp : zSp E d M' as σ P') :
    va_Run p L0 e R s m args below meth c H locs cells slots 0 0 (F0 m pc ls (S.map (zcv E))) (S'.map (zcv E)) (zQc E M' P' (as.map (zcv E)).toArray) (zAA E) := by
  subst hL0
  have hM := hsp hvs
  have hcb := va_cnB (R := R) (s := s) (args := args) (own := own) (host := host) (index := index) (y := M'.1) (bytes := M'.2.1) (maxL := M'.2.2.1) (ret := M'.2.2.2) (rm := zrm d) (mc := 0) (ms := 0) as.length hF.2.2.2.2 (zG hcode) rfl rfl rfl (hKK.2 _ hlink) (hF.2.2.2.2 _ hini) ⟨hnh.1, hnh.2, hpl⟩ ⟨hR.1, by show 8 + (M'.2.2.1 + 11) + 40 * d ≤ R.locals; omega⟩
  have hblen : (as.map (zcv E)).length = as.length := List.length_map _
  refine va_runSN (As := as.map (zcv E)) ⟨hF.1, hF.2.1, hF.2.2.1, hF.2.2.2.1, hF.2.2.2.2⟩ hM ⟨hcb, hF.2.2.2.2 _ hst, trivial⟩ ⟨zPc_blind, ?_⟩ rfl hblen hls ?_ (lv_room (by rw [zcat_sum]; exact hlen)) hd ⟨by omega, by omega⟩
  · intro U hU hw
    exact ⟨rfl, by rw [hU]; exact hW, hKK.warm hw⟩
  · subst hS
    simp [List.map_append, List.map_reverse]
end zCalls
