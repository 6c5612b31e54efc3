/-! making: constructors by the kit's rows, over worlds that grow -/
def zrn (f c s l : Nat) : Room := { frames := f, cells := c, slots := s, locals := l }
def zPi (E : zEN) (as : List Value) (ws : va_W) (sz : Nat) : Array Value → State → Prop := va_Pc as (fun U => U.heap.size = sz ∧ va_P (zDD E) vwCl ws U.heap ∧ va_D (fun _ => True) ws ∧ zKK E U)
theorem zPi_blind {E : zEN} {as : List Value} {ws : va_W} {sz : Nat} : FrameBlind (zPi E as ws sz) := fun a U g mk h => ⟨h.1, h.2.1, h.2.2.1, h.2.2.2.1, h.2.2.2.2.call⟩
def zQi (E : zEN) (wf : (Nat → Nat) → va_W) (A : Nat → Prop) : Array Value → State → Outcome → State → Prop := va_Qv (fun _ : Nat → Nat => True) (fun u t => va_P (zDD E) vwCl (wf u) t.heap ∧ va_D A (wf u)) A
/-- the world under way -/
def zNW (E : zEN) (A : Nat → Prop) (s : State) (ws : va_W) (H : Heap) (locs : List Loc) : Prop := va_P (zDD E) vwCl ws H ∧ va_D A ws ∧ va_S A s.heap H locs ∧ ∀ q, s.heap.size ≤ q → A q
/-- an array of zeros -/
abbrev zar (E : zEN) (b : Bool) (n : Nat) : va_E := .inl (cond b E.2.2.2.2.2 E.2.2.2.2.1, n, .inl (fun _ => 0))
section zMake
variable {E : zEN} {M : zMD} {A : Nat → Prop} {p : Program} {e : Env} {R : Room} {s : State} {m : MethodId} {args : Array Value} {below : List Frame} {meth : Method} {c : Code} {H : Heap} {locs : List Loc} {cells slots : Nat} {Q : State → Prop} {pc : Nat} {ls : Array Slot} {rest : List Value} {ws : va_W}
theorem zn_obj {a idx : Nat} (hF : zFX E M p s m args meth c) (hls : ls.size = M.2.2.1) (hlink : Cond.methodLink M.1.cls idx Lib.objectInit ∈ zU) (hd : decode M.2.1 pc = .ok (.invokespecial idx, 3)) (hR : 1 ≤ R.frames ∧ 20 ≤ R.locals) (kk : W p E.1 e R s m args below meth c H locs cells slots Q (F0 m (pc + 3) ls [])) : W p E.1 e R s m args below meth c H locs cells slots Q (F0 m pc ls [.ref a]) := by
  have hu := hF.2.2.2.2.2.2.1
  have hrm := lv_room (m := m) (pc := pc) (ls := ls) (rest := [.ref a]) (st := []) (Nat.zero_le _)
  refine W.objInit hF.1 hF.2.1 hF.2.2.2.2.2.1 (hu _ hlink) (hu _ zu_1_19) (hu _ zu_1_20) rfl (hls.trans hF.2.2.1.symm) rfl hd hR.1 (by have := hR.2; omega) ?_
  exact W.eq rfl kk
theorem zn_newI {N : Nat} (hN : N ≤ 1000) (hF : zFX E M p s m args meth c) (hw : zNW E A s ws H locs) (hcells : cells + 1 ≤ R.cells) (hslots : slots + N ≤ R.slots) (hd : decode M.2.1 pc = .ok (.newarray .int, 2))
    (kk : ∀ (q : Nat) (H1 : Heap), zNW E A s (ws ++ [(q, zar E false N)]) H1 locs → W p E.1 e R s m args below meth c H1 locs (cells + 1) (slots + N) Q (F0 m (pc + 2) ls (.ref q :: rest))) : W p E.1 e R s m args below meth c H locs cells slots Q (F0 m pc ls (.int (nI N) :: rest)) := by
  obtain ⟨hP, hD, hS, hA⟩ := hw
  have hu := hF.2.2.2.2.2.2.1
  have hK := hF.2.2.2.2.2.2.2.1
  refine va_newa (atype := .int) (ty := .int) (a0 := (N, .inl fun _ => 0)) hF.1 hF.2.1 (hu _ zu_1_83) rfl hK hP hD hS hA (fun _ => rfl) (nI_pos (by omega)) (nI_clamp (by omega)) (by show N * 4 ≤ _; omega) hcells hslots hd (fun q cA H1 hK1 hP1 hD1 hS1 => ?_)
  have h1 : s.vm.findClass ("[" ++ FieldType.int.toString) = some cA := (hK1.2 2 _ rfl).2
  have h2 : s.vm.findClass ("[" ++ FieldType.int.toString) = some E.2.2.2.2.1 := (hK1.2 0 _ rfl).2
  have hc : cA = E.2.2.2.2.1 := Option.some.inj (h1.symm.trans h2)
  subst hc
  exact kk q H1 ⟨hP1, hD1, hS1, hA⟩
theorem zn_newB {N : Nat} (hN : N ≤ 1000) (hF : zFX E M p s m args meth c) (hw : zNW E A s ws H locs) (hcells : cells + 1 ≤ R.cells) (hslots : slots + N ≤ R.slots) (hd : decode M.2.1 pc = .ok (.newarray .boolean, 2))
    (kk : ∀ (q : Nat) (H1 : Heap), zNW E A s (ws ++ [(q, zar E true N)]) H1 locs → W p E.1 e R s m args below meth c H1 locs (cells + 1) (slots + N) Q (F0 m (pc + 2) ls (.ref q :: rest))) : W p E.1 e R s m args below meth c H locs cells slots Q (F0 m pc ls (.int (nI N) :: rest)) := by
  obtain ⟨hP, hD, hS, hA⟩ := hw
  have hu := hF.2.2.2.2.2.2.1
  have hK := hF.2.2.2.2.2.2.2.1
  refine va_newa (atype := .boolean) (ty := .boolean) (a0 := (N, .inl fun _ => 0)) hF.1 hF.2.1 (hu _ zu_1_84) rfl hK hP hD hS hA (fun _ => rfl) (nI_pos (by omega)) (nI_clamp (by omega)) (by show N * 1 ≤ _; omega) hcells hslots hd (fun q cA H1 hK1 hP1 hD1 hS1 => ?_)
  have h1 : s.vm.findClass ("[" ++ FieldType.boolean.toString) = some cA := (hK1.2 2 _ rfl).2
  have h2 : s.vm.findClass ("[" ++ FieldType.boolean.toString) = some E.2.2.2.2.2 := (hK1.2 1 _ rfl).2
  have hc : cA = E.2.2.2.2.2 := Option.some.inj (h1.symm.trans h2)
  subst hc
  exact kk q H1 ⟨hP1, hD1, hS1, hA⟩
theorem zn_new {ci idx N : Nat} {C : String} {T : u_T} {ty : Nat → FieldType} {fs : List Value} (hF : zFX E M p s m args meth c) (hw : zNW E A s ws H locs) (hc : vwCl[ci]? = some (C, T, N)) (hin : ∀ w ∈ u_ws C T N, w ∈ zU) (hty : ∀ k, k < N → parseFieldDescriptor (T k).2.2.1 = some (ty k)) (hfs : ∀ j, j < N → defaultValue (ty j) = vp_V fs j) (hcl : Cond.classLink M.1.cls idx C ∈ zU) (hinst : Cond.instantiable C N ∈ zU) (hini : Cond.initialized C ∈ zU) (hcells : cells + 1 ≤ R.cells) (hslots : slots + N ≤ R.slots) (hd : decode M.2.1 pc = .ok (.new idx, 3))
    (kk : ∀ (q : Nat) (H1 : Heap), zNW E A s (ws ++ [(q, .inr (ci, fs))]) H1 locs → W p E.1 e R s m args below meth c H1 locs (cells + 1) (slots + N) Q (F0 m (pc + 3) ls (.ref q :: rest))) : W p E.1 e R s m args below meth c H locs cells slots Q (F0 m pc ls rest) := by
  obtain ⟨hP, hD, hS, hA⟩ := hw
  have hu := hF.2.2.2.2.2.2.1
  exact va_new (ci := ci) (fs := fs) hF.1 hF.2.1 hu hin ty hty hF.2.2.2.2.2.1 (hu _ hcl) (hu _ hinst) (hu _ hini) hF.2.2.2.2.2.2.2.1 hP hD hS hA hc hfs hcells hslots hd (fun q H1 hP1 hD1 hS1 => kk q H1 ⟨hP1, hD1, hS1, hA⟩)
theorem zn_putF {ci idx N a k : Nat} {C ref : String} {T : u_T} {ty0 : Nat → FieldType} {ty : FieldType} {v : Value} {fs : List Value} (q0 : Nat) (hF : zFX E M p s m args meth c) (hnm : meth.name = "<init>") (hw : zNW E A s ws H locs) (he : ws[q0]? = some (a, .inr (ci, fs))) (hc : vwCl[ci]? = some (C, T, N)) (hin : ∀ w ∈ u_ws C T N, w ∈ zU) (hty : ∀ k, k < N → parseFieldDescriptor (T k).2.2.1 = some (ty0 k)) (hdis : ∀ a, a < N → ∀ b, b < N → a ≠ b → (T a).2.1 ≠ (T b).2.1) (hk : k < N) (hlink : Cond.fieldLink M.1.cls idx ref (T k).2.1 (T k).2.2.1 ∈ zU) (href : ref = (T k).1) (hfin : (T k).2.2.2 = true) (hdecl : (T k).1 = M.1.cls) (hT : ty0 k = ty) (hn : narrow ty v = v) (hfit : fits ty v = true) (hl : k < fs.length) (hd : decode M.2.1 pc = .ok (.putfield idx, 3))
    (kk : ∀ (H1 : Heap) (locs1 : List Loc), zNW E A s (ws.set q0 (a, .inr (ci, fs.set k v))) H1 locs1 → W p E.1 e R s m args below meth c H1 locs1 cells slots Q (F0 m (pc + 3) ls rest)) : W p E.1 e R s m args below meth c H locs cells slots Q (F0 m pc ls (v :: .ref a :: rest)) := by
  obtain ⟨hP, hD, hS, hA⟩ := hw
  have hu := hF.2.2.2.2.2.2.1
  subst href
  exact va_putF (D := zDD E) (ci := ci) (v := v) (ty := ty) hF.1 hF.2.1 hu hin ty0 hty hdis hF.2.2.2.2.2.1 hF.2.2.2.2.2.2.2.1 hP hD hS q0 he hc k hk (hu _ hlink) (fun _ h9 => h9) hfin hnm hdecl (by rw [hty k hk, hT]) hn hfit hl hd (fun H1 locs1 hP1 hD1 hS1 => kk H1 locs1 ⟨hP1, hD1, hS1, hA⟩)
theorem zn_put {ci idx N a k : Nat} {C ref : String} {T : u_T} {ty0 : Nat → FieldType} {ty : FieldType} {v : Value} {fs : List Value} (q0 : Nat) (hF : zFX E M p s m args meth c) (hw : zNW E A s ws H locs) (he : ws[q0]? = some (a, .inr (ci, fs))) (hc : vwCl[ci]? = some (C, T, N)) (hin : ∀ w ∈ u_ws C T N, w ∈ zU) (hty : ∀ k, k < N → parseFieldDescriptor (T k).2.2.1 = some (ty0 k)) (hdis : ∀ a, a < N → ∀ b, b < N → a ≠ b → (T a).2.1 ≠ (T b).2.1) (hk : k < N) (hlink : Cond.fieldLink M.1.cls idx ref (T k).2.1 (T k).2.2.1 ∈ zU) (href : ref = (T k).1) (hfin : (T k).2.2.2 = false) (hT : ty0 k = ty) (hn : narrow ty v = v) (hfit : fits ty v = true) (hl : k < fs.length) (hd : decode M.2.1 pc = .ok (.putfield idx, 3))
    (kk : ∀ (H1 : Heap) (locs1 : List Loc), zNW E A s (ws.set q0 (a, .inr (ci, fs.set k v))) H1 locs1 → W p E.1 e R s m args below meth c H1 locs1 cells slots Q (F0 m (pc + 3) ls rest)) : W p E.1 e R s m args below meth c H locs cells slots Q (F0 m pc ls (v :: .ref a :: rest)) := by
  obtain ⟨hP, hD, hS, hA⟩ := hw
  have hu := hF.2.2.2.2.2.2.1
  subst href
  exact va_put (D := zDD E) (ci := ci) (v := v) (ty := ty) hF.1 hF.2.1 hu hin ty0 hty hdis hF.2.2.2.2.2.1 hF.2.2.2.2.2.2.2.1 hP hD hS q0 he hc k hk (hu _ hlink) (fun _ h9 => h9) hfin (by rw [hty k hk, hT]) hn hfit hl hd (fun H1 locs1 hP1 hD1 hS1 => kk H1 locs1 ⟨hP1, hD1, hS1, hA⟩)
theorem zn_get {ci idx N a k : Nat} {C ref : String} {T : u_T} {v : Value} {fs : List Value} (q0 : Nat) (hF : zFX E M p s m args meth c) (hw : zNW E A s ws H locs) (he : ws[q0]? = some (a, .inr (ci, fs))) (hc : vwCl[ci]? = some (C, T, N)) (hin : ∀ w ∈ u_ws C T N, w ∈ zU) (hk : k < N) (hlink : Cond.fieldLink M.1.cls idx ref (T k).2.1 (T k).2.2.1 ∈ zU) (href : ref = (T k).1) (hv : fs[k]? = some v) (hd : decode M.2.1 pc = .ok (.getfield idx, 3))
    (kk : W p E.1 e R s m args below meth c H locs cells slots Q (F0 m (pc + 3) ls (v :: rest))) : W p E.1 e R s m args below meth c H locs cells slots Q (F0 m pc ls (.ref a :: rest)) := by
  obtain ⟨hP, hD, hS, hA⟩ := hw
  have hu := hF.2.2.2.2.2.2.1
  subst href
  exact va_get (D := zDD E) (ci := ci) (v := v) hF.1 hF.2.1 hu hin hF.2.2.2.2.2.1 hF.2.2.2.2.2.2.2.1 hP q0 he hc k hk (hu _ hlink) (fun _ h9 => h9) hv hd kk
theorem zn_ret {wf : (Nat → Nat) → va_W} (hF : zFX E M p s m args meth c) (hr : M.2.2.2 = none) (hw : zNW E A s ws H locs) (u : Nat → Nat) (hu : wf u = ws) (hd : decode M.2.1 pc = .ok (.return_, 1)) : W p E.1 e R s m args below meth c H locs cells slots (MQ below (zQi E wf A) args s cells slots A) (F0 m pc ls []) := by
  obtain ⟨hP, hD, hS, hA⟩ := hw
  exact W.vret hF.1 hF.2.1 (hF.2.2.2.1.trans hr) (fun t ht hW => ⟨⟨u, rfl, trivial, by rw [ht, hu]; exact hP, by rw [hu]; exact hD⟩, hS.F ht⟩) hS.2.2 hd hF.2.2.2.2.1
/-- a constructor's contract out of its walk -/
theorem zn_of {rm : Room} {as : List Value} {wf : (Nat → Nat) → va_W} {sz mc ms : Nat} {lv : List (Nat × Value)} (hn : plainName M.1.cls = true) (hlen : (lg_sl as).length ≤ M.2.2.1) (hname : M.1.name = "<init>") (hlv : lv_args 0 as = lv)
    (h : ∀ (p : Program) (e : Env) (s : State) (m : MethodId) (args : Array Value) (below : List Frame) (meth : Method) (c : Code) (ls : Array Slot), zFX E M p s m args meth c → meth.name = "<init>" → lv_has ls M.2.2.1 lv → zNW E (va_A ws sz) s ws s.heap [] → W p E.1 e rm s m args below meth c s.heap [] 0 0 (MQ below (zQi E wf (va_A ws sz)) args s mc ms (va_A ws sz)) (F0 m 0 ls [])) : Met E.1 M.1 (.code M.1 M.2.1 M.2.2.1 M.2.2.2 :: zU) rm (zPi E as ws sz) (zQi E wf (va_A ws sz)) mc ms (va_A ws sz) := by
  refine Met.ofW (cc := M.2.1) (maxL := M.2.2.1) (ret := M.2.2.2) hn rfl ?_
  intro p e s m args below meth c s₁ B hml hPc
  obtain ⟨rfl, hsz, hP, hD0, hKK⟩ := hPc
  have hts := atoms_spec (ws := .code M.1 M.2.1 M.2.2.1 M.2.2.2 :: zU) B.pre
  have hin : meth.name = "<init>" := (name_of_methodNamed B.named B.method).1.trans hname
  have hl := lv_entry as (n := M.2.2.1) hlen
  rw [lg_entry_eq]
  generalize (lg_sl as ++ List.replicate (M.2.2.1 - (lg_sl as).length) Slot.unset).toArray = ls at hl ⊢
  have hl : lv_has ls M.2.2.1 lv := hlv ▸ hl
  subst hsz
  exact h p e s m _ below meth c ls ⟨B.exec, B.bytes, hml, B.returns, B.notSynchronized, findClass_of_methodNamed B.named, fun w hw => hts w (List.mem_cons_of_mem _ hw), hKK⟩ hin hl ⟨hP, hD0.self, va_S.rf, fun q hq => Or.inr hq⟩
/-- a constructor called on the object made last -/
theorem zn_init {M' : zMD} {As : List Value} {b idx mc ms : Nat} {e0 : va_E} {wf : (Nat → Nat) → va_W} {wr : va_W} {rm : Room} (nC : Nat) (isR : List Nat) (hF : zFX E M p s m args meth c) (hls : ls.size = M.2.2.1) (hw : zNW E A s ws H locs)
    (hM : Met E.1 M'.1 (.code M'.1 M'.2.1 M'.2.2.1 M'.2.2.2 :: zU) rm (zPi E (.ref b :: As) [(b, e0)] H.size) (zQi E wf (va_A [(b, e0)] H.size)) mc ms (va_A [(b, e0)] H.size)) (hret : M'.2.2.2 = none) (hrm : rm.cells = mc ∧ rm.slots = ms)
    (hC : [nC].map (fun i => ws[i]?) = [(b, e0)].map some) (hR : isR.map (fun i => ws[i]?) = wr.map some) (hnd : va_nd isR = true) (hdis : ∀ i ∈ isR, i ∉ [nC])
    (hcode : Cond.code M'.1 M'.2.1 M'.2.2.1 M'.2.2.2 ∈ zU) (hlk : Cond.methodLink M.1.cls idx M'.1 ∈ zU ∨ ∃ host, (M.1.cls, idx, M'.1, host) ∈ zNQ) (hinst : Cond.instanceMethod M'.1 ∈ zU) (hini : Cond.initialized M'.1.cls ∈ zU) (hname : M'.1.name = "<init>") (hnh : M'.1.cls ≠ "java/lang/invoke/MethodHandle" ∧ M'.1.cls ≠ "java/lang/invoke/VarHandle") (hpl : (parseMethodDescriptor M'.1.desc).map (fun d => d.parameters.length) = some As.length)
    (hroom : rm.frames + 1 ≤ R.frames ∧ 19 + M'.2.2.1 + rm.locals ≤ R.locals) (hcr : cells + mc ≤ R.cells ∧ slots + ms ≤ R.slots) (hst : (rest.map fun v => v.category).sum ≤ 8) (hd : decode M.2.1 pc = .ok (.invokespecial idx, 3))
    (kk : ∀ (u : Nat → Nat) (H1 : Heap) (locs1 : List Loc), zNW E A s (wr ++ wf u) H1 locs1 → W p E.1 e R s m args below meth c H1 locs1 (cells + mc) (slots + ms) Q (F0 m (pc + 3) ls rest)) : W p E.1 e R s m args below meth c H locs cells slots Q (F0 m pc ls (As.reverse ++ .ref b :: rest)) := by
  obtain ⟨hP, hD, hS, hA⟩ := hw
  have hu := hF.2.2.2.2.2.2.1
  have hKK := hF.2.2.2.2.2.2.2
  have hg : ws[nC]? = some (b, e0) := by simpa using hC
  have hPc : va_P (zDD E) vwCl [(b, e0)] H := hP.sub [nC] (by simp [hg])
  have hDc : va_D A [(b, e0)] := hD.sub [nC] rfl hC
  have hFc := va_free (wc := [(b, e0)]) hD hS hA [nC] hC
  rw [hret] at hM hcode
  have hpre : PreS s H (zPi E (.ref b :: As) [(b, e0)] H.size) (.ref b :: As) := ⟨zPi_blind, fun U hU hW => ⟨rfl, by rw [hU], by rw [hU]; exact hPc, hDc.weaken (fun _ _ _ _ => trivial), hKK.warm hW⟩⟩
  have hRR : rm.frames + 1 ≤ R.frames ∧ 8 + (M'.2.2.1 + 11) + rm.locals ≤ R.locals := ⟨hroom.1, by have := hroom.2; omega⟩
  have hrun : va_Run p E.1 e R s m args below meth c H locs cells slots mc ms (F0 m pc ls (As.reverse ++ .ref b :: rest)) rest (zQi E wf (va_A [(b, e0)] H.size) (Value.ref b :: As).toArray) (va_A [(b, e0)] H.size) := by
    rcases hlk with hlk | ⟨host, hlk⟩
    · exact va_runI (As := As) (rest := rest) ⟨hF.1, hF.2.1, hF.2.2.1, hF.2.2.2.2.2.1, hu⟩ hM (cwI As.length hu (zG hcode) rfl hrm.1 hrm.2 (hu _ hini) (hu _ hlk) (hu _ hinst) hname ⟨hnh.1, hnh.2, hpl⟩ hRR) hpre rfl rfl hls rfl (lv_room hst) hd hcr
    · exact va_runIN (As := As) (rest := rest) ⟨hF.1, hF.2.1, hF.2.2.1, hF.2.2.2.2.2.1, hu⟩ hM ⟨va_cnB As.length hu (zG hcode) rfl hrm.1 hrm.2 (hKK.2 _ hlk) (hu _ hini) ⟨hnh.1, hnh.2, hpl⟩ hRR, hname, hu _ hinst⟩ hpre rfl rfl hls rfl (lv_room hst) hd hcr
  refine va_callv hrun hS (fun q _ h => hFc q h) hFc (fun u t H1 locs1 ht hvm _ hB hz1 hk1 hS1 => ?_)
  obtain ⟨hP1, hD1⟩ := hB
  rw [ht] at hP1
  obtain ⟨hP2, hD2⟩ := va_join (wr := wr) (w1 := wf u) hP hD [nC] isR hC hR hnd hdis hk1 hFc hP1 hD1
  exact kk u H1 locs1 ⟨hP2, hD2, hS1, hA⟩
end zMake
