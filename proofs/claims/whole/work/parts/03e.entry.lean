/-! calls in the judgement; a method's entry -/
section zCalls2
variable {E : zEN} {d : Nat} {M : zMD} {P : zPT} {pc : Nat} {k : zKT} {C : zCT}
theorem zvs.app {a b : zSS} (h : zvs (a ++ b)) : zvs a ∧ zvs b := ⟨fun v hv => h v (List.mem_append_left _ hv), fun v hv => h v (List.mem_append_right _ hv)⟩
theorem zvs.rev {a : zSS} (h : zvs a) : zvs a.reverse := fun v hv => h v (List.mem_reverse.mp hv)
theorem zq_callV {M' : zMD} {ci n index : Nat} {CC : String} {T : u_T} {N : Nat} (hd : decode M.2.1 pc = .ok (.invokevirtual index, 3)) (hc : vwCl[ci]? = some (CC, T, N)) (hci : ci < 9) (hcl : M'.1.cls = CC) (hnh : CC ≠ "java/lang/invoke/MethodHandle" ∧ CC ≠ "java/lang/invoke/VarHandle")
    (hpl : (parseMethodDescriptor M'.1.desc).map (fun d => d.parameters.length + 1) = some n) (hret : M'.2.2.2.isSome = true) (hmx : M'.2.2.1 ≤ 20)
    (hcode : Cond.code M'.1 M'.2.1 M'.2.2.1 M'.2.2.2 ∈ zU) (hlink : Cond.methodLink M.1.cls index M'.1 ∈ zU) (hinst : Cond.instanceMethod M'.1 ∈ zU) (hsel : Cond.selects CC M'.1 M'.1 ∈ zU) (hini : Cond.initialized CC ∈ zU)
    (hC : ∀ M as σ P, C M as σ P → zSp E d M as σ P) (hk : ∀ L S σ, k L S σ → zWp E (d + 1) M P (pc + 3) L S σ) : ∀ L S σ, zo_callV ci C M' n k L S σ → zWp E (d + 1) M P pc L S σ := by
  intro L S σ h p e s m args below meth c ls H locs hF hl hs hvl hW hS
  unfold zo_callV at h
  split at h
  · rename_i r as S' hsp
    split at h
    · rename_i hb
      simp only [Bool.and_eq_true] at hb
      obtain ⟨xs, hx1, hx2, hx3⟩ := zsplit_spec _ _ _ _ _ hsp
      simp only [List.append_nil] at hx3
      have hxr : xs = as.reverse ++ [.inr r] := by rw [← List.reverse_reverse xs, ← hx3]; simp
      have hSS : S = as.reverse ++ .inr r :: S' := by rw [hx2, hxr]; simp
      have hvx : zvs (.inr r :: as) := by rw [hx3]; exact (zvs.app (hx2 ▸ hs)).1.rev
      have hal : as.length + 1 = n := by rw [← hx1, hxr]; simp
      have hpl' : (parseMethodDescriptor M'.1.desc).map (fun d => d.parameters.length) = some as.length := by
        cases hq : parseMethodDescriptor M'.1.desc with
        | none => rw [hq] at hpl; cases hpl
        | some sg => rw [hq] at hpl; simp only [Option.map_some, Option.some.injEq] at hpl ⊢; omega
      refine zgo (zrunV (R := zrm (d + 1)) (cells := 0) (slots := 0) rfl ⟨hF.1, hF.2.1, hF.2.2.1, hF.2.2.2.2.2.1, hF.2.2.2.2.2.2.1⟩ hF.2.2.2.2.2.2.2 hl.1 hc hci hcl hnh hpl' hcode hlink hinst hsel hini (Nat.eq_of_beq_eq_true hb.1) hvx hSS (Nat.le_of_ble_eq_true hb.2) hd hW ⟨Nat.le_refl _, by show _ ≤ 40 * (d + 1); omega⟩ ⟨Nat.le_refl _, Nat.le_refl _⟩ (hC _ _ _ _ h)) hS (fun q h => h) (fun x σ' H1 locs1 hP1 hW1 _ _ hS1 => ?_)
      have hrv : (zrv M' x).toList = [.int x] := by
        unfold zrv
        cases hq : M'.2.2.2 with
        | none => rw [hq] at hret; cases hret
        | some _ => rfl
      rw [hrv]
      exact hk _ _ _ hP1 p e s m args below meth c ls H1 locs1 hF hl ((zvs.app (hx2 ▸ hs)).2.cons trivial) hvl hW1 hS1
    · exact h.elim
  · exact h.elim
theorem zq_callVv {M' : zMD} {ci n index : Nat} {CC : String} {T : u_T} {N : Nat} (hd : decode M.2.1 pc = .ok (.invokevirtual index, 3)) (hc : vwCl[ci]? = some (CC, T, N)) (hci : ci < 9) (hcl : M'.1.cls = CC) (hnh : CC ≠ "java/lang/invoke/MethodHandle" ∧ CC ≠ "java/lang/invoke/VarHandle")
    (hpl : (parseMethodDescriptor M'.1.desc).map (fun d => d.parameters.length + 1) = some n) (hret : M'.2.2.2.isSome = false) (hmx : M'.2.2.1 ≤ 20)
    (hcode : Cond.code M'.1 M'.2.1 M'.2.2.1 M'.2.2.2 ∈ zU) (hlink : Cond.methodLink M.1.cls index M'.1 ∈ zU) (hinst : Cond.instanceMethod M'.1 ∈ zU) (hsel : Cond.selects CC M'.1 M'.1 ∈ zU) (hini : Cond.initialized CC ∈ zU)
    (hC : ∀ M as σ P, C M as σ P → zSp E d M as σ P) (hk : ∀ L S σ, k L S σ → zWp E (d + 1) M P (pc + 3) L S σ) : ∀ L S σ, zo_callVv ci C M' n k L S σ → zWp E (d + 1) M P pc L S σ := by
  intro L S σ h p e s m args below meth c ls H locs hF hl hs hvl hW hS
  unfold zo_callVv at h
  split at h
  · rename_i r as S' hsp
    split at h
    · rename_i hb
      simp only [Bool.and_eq_true] at hb
      obtain ⟨xs, hx1, hx2, hx3⟩ := zsplit_spec _ _ _ _ _ hsp
      simp only [List.append_nil] at hx3
      have hxr : xs = as.reverse ++ [.inr r] := by rw [← List.reverse_reverse xs, ← hx3]; simp
      have hSS : S = as.reverse ++ .inr r :: S' := by rw [hx2, hxr]; simp
      have hvx : zvs (.inr r :: as) := by rw [hx3]; exact (zvs.app (hx2 ▸ hs)).1.rev
      have hal : as.length + 1 = n := by rw [← hx1, hxr]; simp
      have hpl' : (parseMethodDescriptor M'.1.desc).map (fun d => d.parameters.length) = some as.length := by
        cases hq : parseMethodDescriptor M'.1.desc with
        | none => rw [hq] at hpl; cases hpl
        | some sg => rw [hq] at hpl; simp only [Option.map_some, Option.some.injEq] at hpl ⊢; omega
      refine zgo (zrunV (R := zrm (d + 1)) (cells := 0) (slots := 0) rfl ⟨hF.1, hF.2.1, hF.2.2.1, hF.2.2.2.2.2.1, hF.2.2.2.2.2.2.1⟩ hF.2.2.2.2.2.2.2 hl.1 hc hci hcl hnh hpl' hcode hlink hinst hsel hini (Nat.eq_of_beq_eq_true hb.1) hvx hSS (Nat.le_of_ble_eq_true hb.2) hd hW ⟨Nat.le_refl _, by show _ ≤ 40 * (d + 1); omega⟩ ⟨Nat.le_refl _, Nat.le_refl _⟩ (hC _ _ _ _ h)) hS (fun q h => h) (fun x σ' H1 locs1 hP1 hW1 _ _ hS1 => ?_)
      have hrv : (zrv M' x).toList = [] := by
        unfold zrv
        cases hq : M'.2.2.2 with
        | none => rfl
        | some _ => rw [hq] at hret; cases hret
      rw [hrv]
      exact hk _ _ _ hP1 p e s m args below meth c ls H1 locs1 hF hl (zvs.app (hx2 ▸ hs)).2 hvl hW1 hS1
    · exact h.elim
  · exact h.elim
theorem zq_callS {M' : zMD} {n index : Nat}  (hd : decode M.2.1 pc = .ok (.invokestatic index, 3)) (hnh : M'.1.cls ≠ "java/lang/invoke/MethodHandle" ∧ M'.1.cls ≠ "java/lang/invoke/VarHandle")
    (hpl : (parseMethodDescriptor M'.1.desc).map (fun d => d.parameters.length) = some n) (hret : M'.2.2.2.isSome = true) (hmx : M'.2.2.1 ≤ 20)
    (hcode : Cond.code M'.1 M'.2.1 M'.2.2.1 M'.2.2.2 ∈ zU) (hlink : Cond.methodLink M.1.cls index M'.1 ∈ zU) (hst : Cond.static M'.1 ∈ zU) (hini : Cond.initialized M'.1.cls ∈ zU)
    (hC : ∀ M as σ P, C M as σ P → zSp E d M as σ P) (hk : ∀ L S σ, k L S σ → zWp E (d + 1) M P (pc + 3) L S σ) : ∀ L S σ, zo_callS C M' n k L S σ → zWp E (d + 1) M P pc L S σ := by
  intro L S σ h p e s m args below meth c ls H locs hF hl hs hvl hW hS
  unfold zo_callS at h
  split at h
  · rename_i as S' hsp
    split at h
    · rename_i hb
      obtain ⟨xs, hx1, hx2, hx3⟩ := zsplit_spec _ _ _ _ _ hsp
      simp only [List.append_nil] at hx3
      have hxr : xs = as.reverse := by rw [hx3]; simp
      have hSS : S = as.reverse ++ S' := by rw [hx2, hxr]
      have hvx : zvs as := by rw [hx3]; exact (zvs.app (hx2 ▸ hs)).1.rev
      have hal : as.length = n := by rw [← hx1, hxr]; simp
      refine zgo (zrunS (R := zrm (d + 1)) (cells := 0) (slots := 0) rfl ⟨hF.1, hF.2.1, hF.2.2.1, hF.2.2.2.2.2.1, hF.2.2.2.2.2.2.1⟩ hF.2.2.2.2.2.2.2 hl.1 hnh (hal ▸ hpl) hcode hlink hst hini hvx hSS (Nat.le_of_ble_eq_true hb) hd hW ⟨Nat.le_refl _, by show _ ≤ 40 * (d + 1); omega⟩ ⟨Nat.le_refl _, Nat.le_refl _⟩ (hC _ _ _ _ h)) hS (fun q h => h) (fun x σ' H1 locs1 hP1 hW1 _ _ hS1 => ?_)
      have hrv : (zrv M' x).toList = [.int x] := by
        unfold zrv
        cases hq : M'.2.2.2 with
        | none => rw [hq] at hret; cases hret
        | some _ => rfl
      rw [hrv]
      exact hk _ _ _ hP1 p e s m args below meth c ls H1 locs1 hF hl ((zvs.app (hx2 ▸ hs)).2.cons trivial) hvl hW1 hS1
    · exact h.elim
  · exact h.elim
theorem zq_callSv {M' : zMD} {n index : Nat}  (hd : decode M.2.1 pc = .ok (.invokestatic index, 3)) (hnh : M'.1.cls ≠ "java/lang/invoke/MethodHandle" ∧ M'.1.cls ≠ "java/lang/invoke/VarHandle")
    (hpl : (parseMethodDescriptor M'.1.desc).map (fun d => d.parameters.length) = some n) (hret : M'.2.2.2.isSome = false) (hmx : M'.2.2.1 ≤ 20)
    (hcode : Cond.code M'.1 M'.2.1 M'.2.2.1 M'.2.2.2 ∈ zU) (hlink : Cond.methodLink M.1.cls index M'.1 ∈ zU) (hst : Cond.static M'.1 ∈ zU) (hini : Cond.initialized M'.1.cls ∈ zU)
    (hC : ∀ M as σ P, C M as σ P → zSp E d M as σ P) (hk : ∀ L S σ, k L S σ → zWp E (d + 1) M P (pc + 3) L S σ) : ∀ L S σ, zo_callSv C M' n k L S σ → zWp E (d + 1) M P pc L S σ := by
  intro L S σ h p e s m args below meth c ls H locs hF hl hs hvl hW hS
  unfold zo_callSv at h
  split at h
  · rename_i as S' hsp
    split at h
    · rename_i hb
      obtain ⟨xs, hx1, hx2, hx3⟩ := zsplit_spec _ _ _ _ _ hsp
      simp only [List.append_nil] at hx3
      have hxr : xs = as.reverse := by rw [hx3]; simp
      have hSS : S = as.reverse ++ S' := by rw [hx2, hxr]
      have hvx : zvs as := by rw [hx3]; exact (zvs.app (hx2 ▸ hs)).1.rev
      have hal : as.length = n := by rw [← hx1, hxr]; simp
      refine zgo (zrunS (R := zrm (d + 1)) (cells := 0) (slots := 0) rfl ⟨hF.1, hF.2.1, hF.2.2.1, hF.2.2.2.2.2.1, hF.2.2.2.2.2.2.1⟩ hF.2.2.2.2.2.2.2 hl.1 hnh (hal ▸ hpl) hcode hlink hst hini hvx hSS (Nat.le_of_ble_eq_true hb) hd hW ⟨Nat.le_refl _, by show _ ≤ 40 * (d + 1); omega⟩ ⟨Nat.le_refl _, Nat.le_refl _⟩ (hC _ _ _ _ h)) hS (fun q h => h) (fun x σ' H1 locs1 hP1 hW1 _ _ hS1 => ?_)
      have hrv : (zrv M' x).toList = [] := by
        unfold zrv
        cases hq : M'.2.2.2 with
        | none => rfl
        | some _ => rw [hq] at hret; cases hret
      rw [hrv]
      exact hk _ _ _ hP1 p e s m args below meth c ls H1 locs1 hF hl (zvs.app (hx2 ▸ hs)).2 hvl hW1 hS1
    · exact h.elim
  · exact h.elim
theorem zq_callSN {M' : zMD} {n index : Nat} {host : String} (hd : decode M.2.1 pc = .ok (.invokestatic index, 3)) (hnh : M'.1.cls ≠ "java/lang/invoke/MethodHandle" ∧ M'.1.cls ≠ "java/lang/invoke/VarHandle")
    (hpl : (parseMethodDescriptor M'.1.desc).map (fun d => d.parameters.length) = some n) (hret : M'.2.2.2.isSome = true) (hmx : M'.2.2.1 ≤ 20)
    (hcode : Cond.code M'.1 M'.2.1 M'.2.2.1 M'.2.2.2 ∈ zU) (hlink : (M.1.cls, index, M'.1, host) ∈ zNQ) (hst : Cond.static M'.1 ∈ zU) (hini : Cond.initialized M'.1.cls ∈ zU)
    (hC : ∀ M as σ P, C M as σ P → zSp E d M as σ P) (hk : ∀ L S σ, k L S σ → zWp E (d + 1) M P (pc + 3) L S σ) : ∀ L S σ, zo_callS C M' n k L S σ → zWp E (d + 1) M P pc L S σ := by
  intro L S σ h p e s m args below meth c ls H locs hF hl hs hvl hW hS
  unfold zo_callS at h
  split at h
  · rename_i as S' hsp
    split at h
    · rename_i hb
      obtain ⟨xs, hx1, hx2, hx3⟩ := zsplit_spec _ _ _ _ _ hsp
      simp only [List.append_nil] at hx3
      have hxr : xs = as.reverse := by rw [hx3]; simp
      have hSS : S = as.reverse ++ S' := by rw [hx2, hxr]
      have hvx : zvs as := by rw [hx3]; exact (zvs.app (hx2 ▸ hs)).1.rev
      have hal : as.length = n := by rw [← hx1, hxr]; simp
      refine zgo (zrunSN (R := zrm (d + 1)) (cells := 0) (slots := 0) rfl ⟨hF.1, hF.2.1, hF.2.2.1, hF.2.2.2.2.2.1, hF.2.2.2.2.2.2.1⟩ hF.2.2.2.2.2.2.2 hl.1 hnh (hal ▸ hpl) hcode hlink hst hini hvx hSS (Nat.le_of_ble_eq_true hb) hd hW ⟨Nat.le_refl _, by show _ ≤ 40 * (d + 1); omega⟩ ⟨Nat.le_refl _, Nat.le_refl _⟩ (hC _ _ _ _ h)) hS (fun q h => h) (fun x σ' H1 locs1 hP1 hW1 _ _ hS1 => ?_)
      have hrv : (zrv M' x).toList = [.int x] := by
        unfold zrv
        cases hq : M'.2.2.2 with
        | none => rw [hq] at hret; cases hret
        | some _ => rfl
      rw [hrv]
      exact hk _ _ _ hP1 p e s m args below meth c ls H1 locs1 hF hl ((zvs.app (hx2 ▸ hs)).2.cons trivial) hvl hW1 hS1
    · exact h.elim
  · exact h.elim
theorem zq_callSNv {M' : zMD} {n index : Nat} {host : String} (hd : decode M.2.1 pc = .ok (.invokestatic index, 3)) (hnh : M'.1.cls ≠ "java/lang/invoke/MethodHandle" ∧ M'.1.cls ≠ "java/lang/invoke/VarHandle")
    (hpl : (parseMethodDescriptor M'.1.desc).map (fun d => d.parameters.length) = some n) (hret : M'.2.2.2.isSome = false) (hmx : M'.2.2.1 ≤ 20)
    (hcode : Cond.code M'.1 M'.2.1 M'.2.2.1 M'.2.2.2 ∈ zU) (hlink : (M.1.cls, index, M'.1, host) ∈ zNQ) (hst : Cond.static M'.1 ∈ zU) (hini : Cond.initialized M'.1.cls ∈ zU)
    (hC : ∀ M as σ P, C M as σ P → zSp E d M as σ P) (hk : ∀ L S σ, k L S σ → zWp E (d + 1) M P (pc + 3) L S σ) : ∀ L S σ, zo_callSv C M' n k L S σ → zWp E (d + 1) M P pc L S σ := by
  intro L S σ h p e s m args below meth c ls H locs hF hl hs hvl hW hS
  unfold zo_callSv at h
  split at h
  · rename_i as S' hsp
    split at h
    · rename_i hb
      obtain ⟨xs, hx1, hx2, hx3⟩ := zsplit_spec _ _ _ _ _ hsp
      simp only [List.append_nil] at hx3
      have hxr : xs = as.reverse := by rw [hx3]; simp
      have hSS : S = as.reverse ++ S' := by rw [hx2, hxr]
      have hvx : zvs as := by rw [hx3]; exact (zvs.app (hx2 ▸ hs)).1.rev
      have hal : as.length = n := by rw [← hx1, hxr]; simp
      refine zgo (zrunSN (R := zrm (d + 1)) (cells := 0) (slots := 0) rfl ⟨hF.1, hF.2.1, hF.2.2.1, hF.2.2.2.2.2.1, hF.2.2.2.2.2.2.1⟩ hF.2.2.2.2.2.2.2 hl.1 hnh (hal ▸ hpl) hcode hlink hst hini hvx hSS (Nat.le_of_ble_eq_true hb) hd hW ⟨Nat.le_refl _, by show _ ≤ 40 * (d + 1); omega⟩ ⟨Nat.le_refl _, Nat.le_refl _⟩ (hC _ _ _ _ h)) hS (fun q h => h) (fun x σ' H1 locs1 hP1 hW1 _ _ hS1 => ?_)
      have hrv : (zrv M' x).toList = [] := by
        unfold zrv
        cases hq : M'.2.2.2 with
        | none => rfl
        | some _ => rw [hq] at hret; cases hret
      rw [hrv]
      exact hk _ _ _ hP1 p e s m args below meth c ls H1 locs1 hF hl (zvs.app (hx2 ▸ hs)).2 hvl hW1 hS1
    · exact h.elim
  · exact h.elim
end zCalls2
theorem zsl_eq (E : zEN) (as : List zAV) : lg_sl (as.map (zcv E)) = as.map fun v => Slot.val (zcv E v) := by
  induction as with
  | nil => rfl
  | cons v as ih =>
    have h : lg_sl ((v :: as).map (zcv E)) = (if (zcv E v).category = 2 then [.val (zcv E v), .second] else [.val (zcv E v)]) ++ lg_sl (as.map (zcv E)) := by simp [lg_sl]
    rw [h, ih, zcv_cat]; rfl
theorem zargs_mem (E : zEN) : ∀ (as : List zAV) (o i : Nat) (v : zAV), as[i]? = some v → (o + i, zcv E v) ∈ lv_args o (as.map (zcv E))
  | [], o, i, v, h => by simp at h
  | a :: as, o, 0, v, h => by
    cases h
    cases a <;> simp [lv_args, zcv]
  | a :: as, o, i + 1, v, h => by
    have ih := zargs_mem E as (o + 1) i v (by simpa using h)
    have e : o + (i + 1) = o + 1 + i := by omega
    rw [e]
    cases a <;> simp [lv_args, zcv, Value.category] <;> exact Or.inr ih
def zent (n : Nat) (as : List zAV) : zLS := as.map some ++ List.replicate (n - as.length) none
theorem zSp.of {E : zEN} {d : Nat} {M : zMD} {P : zPT} {as : List zAV} {σ : zST} (hn : plainName M.1.cls = true) (hlen : as.length ≤ M.2.2.1) (h : zWp E d M P 0 (zent M.2.2.1 as) [] σ) : zSp E d M as σ P := by
  intro hv
  refine Met.ofW (cc := M.2.1) (maxL := M.2.2.1) (ret := M.2.2.2) hn rfl ?_
  intro p e s m args below meth c s₁ B hml hPc
  obtain ⟨rfl, hWD, hKK⟩ := hPc
  have hts := atoms_spec (ws := .code M.1 M.2.1 M.2.2.1 M.2.2.2 :: zU) B.pre
  have hl := lv_entry (as.map (zcv E)) (n := M.2.2.1) (by rw [zsl_eq]; simpa using hlen)
  rw [lg_entry_eq]
  generalize (lg_sl (as.map (zcv E)) ++ List.replicate (M.2.2.1 - (lg_sl (as.map (zcv E))).length) Slot.unset).toArray = ls at hl ⊢
  refine h p e s m _ below meth c ls s.heap [] ⟨B.exec, B.bytes, hml, B.returns, B.notSynchronized, findClass_of_methodNamed B.named, fun w hw => hts w (List.mem_cons_of_mem _ hw), hKK⟩ ⟨hl.1, hl.2.1, by simp [zent]; omega, ?_⟩ (fun _ h => by cases h) ?_ hWD va_S.rf
  · intro i v hiv
    have hia : as[i]? = some v := by
      unfold zent at hiv
      by_cases hi : i < as.length
      · rw [List.getElem?_append_left (by simpa using hi), List.getElem?_map] at hiv
        cases hq : as[i]? with
        | none => rw [hq] at hiv; cases hiv
        | some w => rw [hq] at hiv; simpa using hiv
      · rw [List.getElem?_append_right (by simpa using hi), List.getElem?_replicate] at hiv
        split at hiv <;> cases hiv
    have := hl.2.2 _ (zargs_mem E as 0 i v hia)
    simpa using this
  · intro v hm
    unfold zent at hm
    rcases List.mem_append.mp hm with h1 | h1
    · obtain ⟨w, hw, e⟩ := List.mem_map.mp h1
      cases e
      exact hv _ hw
    · rw [List.mem_replicate] at h1
      cases h1.2
/-! min and max -/
def zo_mm (f : Int32 → Int32 → Int32) (k : zKT) : zKT := fun L S σ => match S with
  | .inl y :: .inl x :: S' => (match Nat.ble S'.length 8 with
    | true => k L (.inl (f x y) :: S') σ
    | false => False)
  | _ => False
theorem zw_min : Cond.code Lib.Math.min.name Lib.Math.min.code 2 (some .int) ∈ zU := zu_2_84
theorem zw_max : Cond.code Lib.Math.max.name Lib.Math.max.code 2 (some .int) ∈ zU := zu_2_87
theorem zq_mmin {E : zEN} {d : Nat} {M : zMD} {P : zPT} {pc : Nat} {k : zKT} {index : Nat} (hd : decode M.2.1 pc = .ok (.invokestatic index, 3)) (hlink : Cond.methodLink M.1.cls index Lib.Math.min.name ∈ zU) (hst : Cond.static Lib.Math.min.name ∈ zU) (hini : Cond.initialized "java/lang/Math" ∈ zU) (hk : ∀ L S σ, k L S σ → zWp E (d + 1) M P (pc + 3) L S σ) : ∀ L S σ, zo_mm (fun x y => if y < x then y else x) k L S σ → zWp E (d + 1) M P pc L S σ := by
  intro L S σ h p e s m args below meth c ls H locs hF hl hs hvl hW hS
  unfold zo_mm at h
  split at h
  · rename_i y x S'
    split at h
    · rename_i hb
      have hb := Nat.le_of_ble_eq_true hb
      have hu := hF.2.2.2.2.2.2.1
      exact va_mmin (x := x) (y := y) (rest := S'.map (zcv E)) hF.1 hF.2.1 (hF.2.2.1.trans hl.1.symm) hF.2.2.2.2.2.1 (hu _ hlink) (hu _ hst) (hu _ hini) (hu _ zw_min) (show 1 ≤ d + 1 by omega) (by rw [zcat_sum]; show _ ≤ 40 * (d + 1); have : S'.length ≤ 8 := hb; omega) (Nat.le_refl _) (Nat.le_refl _) hd (hk _ _ _ h p e s m args below meth c ls H locs hF hl (hs.tail.tail.cons trivial) hvl hW hS)
    · exact h.elim
  · exact h.elim
theorem zq_mmax {E : zEN} {d : Nat} {M : zMD} {P : zPT} {pc : Nat} {k : zKT} {index : Nat} (hd : decode M.2.1 pc = .ok (.invokestatic index, 3)) (hlink : Cond.methodLink M.1.cls index Lib.Math.max.name ∈ zU) (hst : Cond.static Lib.Math.max.name ∈ zU) (hini : Cond.initialized "java/lang/Math" ∈ zU) (hk : ∀ L S σ, k L S σ → zWp E (d + 1) M P (pc + 3) L S σ) : ∀ L S σ, zo_mm (fun x y => if x < y then y else x) k L S σ → zWp E (d + 1) M P pc L S σ := by
  intro L S σ h p e s m args below meth c ls H locs hF hl hs hvl hW hS
  unfold zo_mm at h
  split at h
  · rename_i y x S'
    split at h
    · rename_i hb
      have hb := Nat.le_of_ble_eq_true hb
      have hu := hF.2.2.2.2.2.2.1
      exact va_mmax (x := x) (y := y) (rest := S'.map (zcv E)) hF.1 hF.2.1 (hF.2.2.1.trans hl.1.symm) hF.2.2.2.2.2.1 (hu _ hlink) (hu _ hst) (hu _ hini) (hu _ zw_max) (show 1 ≤ d + 1 by omega) (by rw [zcat_sum]; show _ ≤ 40 * (d + 1); have : S'.length ≤ 8 := hb; omega) (Nat.le_refl _) (Nat.le_refl _) hd (hk _ _ _ h p e s m args below meth c ls H locs hF hl (hs.tail.tail.cons trivial) hvl hW hS)
    · exact h.elim
  · exact h.elim
