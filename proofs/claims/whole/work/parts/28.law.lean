/-! the law's own walk: a judgement between its calls, its rules -/
/-- from pc with i in the counter, this stack and this store the law comes to its good end -/
def zLp (E : zEN) (b L : Nat) (xs : Nat → Int32) (pc i : Nat) (S : zSS) (σ : zST) : Prop :=
  ∀ (p : Program) (e : Env) (s : State) (m : MethodId) (below : List Frame) (meth : Method) (c : Code) (ls : Array Slot) (H : Heap) (locs : List Loc),
    lw_At p s m meth c b L xs → zKK E s → (∀ q, zAA E q → s.heap.size ≤ q) → lv_has ls 4 [(3, .int (nI i)), (2, .ref (E.2.1 48)), (1, .ref (E.2.1 0)), (0, .ref b)] → zWD E σ H → va_S (fun q : Nat => s.heap.size ≤ q) s.heap H locs →
    W p E.1 e room_1 s m #[Value.ref b] below meth c H locs 600000 7302250 (lw_Z below #[Value.ref b] s) (F0 m pc ls (S.map (zcv E)))
section zLaw
variable {E : zEN} {b L pc i : Nat} {xs : Nat → Int32} {S : zSS} {σ : zST}
theorem zl_this1 (hd : decode cL_law pc = .ok (.aload_n 1, 1)) (h : zLp E b L xs (pc + 1) i (.inr (7, 0) :: S) σ) : zLp E b L xs pc i S σ := by
  intro p e s m below meth c ls H locs hC hKK hA hl hW hS
  exact lv_aload_n hC.1 hC.2.1 hd rfl (lv_at hl 2 rfl) (h p e s m below meth c ls H locs hC hKK hA hl hW hS)
theorem zl_this2 (hd : decode cL_law pc = .ok (.aload_n 2, 1)) (h : zLp E b L xs (pc + 1) i (.inr (8, 48) :: S) σ) : zLp E b L xs pc i S σ := by
  intro p e s m below meth c ls H locs hC hKK hA hl hW hS
  exact lv_aload_n hC.1 hC.2.1 hd rfl (lv_at hl 1 rfl) (h p e s m below meth c ls H locs hC hKK hA hl hW hS)
theorem zl_arg (k : Nat) {v : Int} (hv : Int32.ofInt v = nI k) (d1 : decode cL_law pc = .ok (.aload_n 0, 1)) (d2 : decode cL_law (pc + 1) = .ok (.iload_n 3, 1)) (d3 : decode cL_law (pc + 2) = .ok (.iconst v, 1)) (d4 : decode cL_law (pc + 3) = .ok (.iadd, 1)) (d5 : decode cL_law (pc + 4) = .ok (.iaload, 1)) (hk : i + k < L) (hL : L ≤ 2048) (h : zLp E b L xs (pc + 5) i (.inl (xs (i + k)) :: S) σ) : zLp E b L xs pc i S σ := by
  intro p e s m below meth c ls H locs hC hKK hA hl hW hS
  have hbA : ¬ (fun q : Nat => s.heap.size ≤ q) b := Nat.not_le.mpr hC.2.2.2.2.2.2.2.1
  refine lv_aload_n hC.1 hC.2.1 d1 rfl (lv_at hl 3 rfl) ?_
  refine lv_iload_n hC.1 hC.2.1 d2 rfl (lv_at hl 0 rfl) ?_
  refine lv_iconst hC.1 hC.2.1 d3 hv ?_
  refine lv_iadd hC.1 hC.2.1 d4 ?_
  rw [nI_add]
  refine va_sld hC.1 hC.2.1 hC.2.2.2.2.2.2.1 hC.2.2.2.2.2.2.2.1 hbA hS (vp_in_nI hk (by omega)) d5 ?_
  rw [nI_clamp (by omega)]
  exact h p e s m below meth c ls H locs hC hKK hA hl hW hS
theorem zl_bool {v : Int32} {q1 q2 : Nat} (hq1 : pc + 7 = q1) (hq2 : pc + 8 = q2) (d1 : decode cL_law pc = .ok (.ifCond .eq 7, 3)) (d2 : decode cL_law (pc + 3) = .ok (.iconst 1, 1)) (d3 : decode cL_law (pc + 4) = .ok (.goto 4, 3)) (d4 : decode cL_law q1 = .ok (.iconst 0, 1)) (h : zLp E b L xs q2 i (.inl (zbo (!decide (v = 0))) :: S) σ) : zLp E b L xs pc i (.inl v :: S) σ := by
  intro p e s m below meth c ls H locs hC hKK hA hl hW hS
  have hh := h p e s m below meth c ls H locs hC hKK hA hl hW hS
  refine lv_if_eq (tgt := q1) hC.1 hC.2.1 d1 (by omega) (fun hz => ?_) (fun hz => ?_)
  · refine lv_iconst (v := 0) hC.1 hC.2.1 d4 (by decide) ?_
    have e1 : zbo (!decide (v = 0)) = 0 := by rw [decide_eq_true hz]; rfl
    rw [e1] at hh
    have e2 : q1 + 1 = q2 := by omega
    rw [e2]
    exact hh
  · refine lv_iconst (v := 1) hC.1 hC.2.1 d2 (by decide) ?_
    refine lv_goto (tgt := q2) hC.1 hC.2.1 d3 (by omega) ?_
    have e1 : zbo (!decide (v = 0)) = 1 := by rw [decide_eq_false hz]; rfl
    rw [e1] at hh
    exact hh
theorem zvs_i {r : Nat × Nat} (hr : zok r) (ys : List Int32) : zvs (.inr r :: ys.map Sum.inl) := by
  intro v hv
  rcases List.mem_cons.mp hv with e | h
  · rw [e]; exact hr
  · obtain ⟨y, -, rfl⟩ := List.mem_map.mp h
    exact trivial
theorem zl_call {M' : zMD} {d ci idx N : Nat} {CC : String} {T : u_T} {P' : zPT} {ys : List Int32} {S' : zSS} {r : Nat × Nat} (hc : vwCl[ci]? = some (CC, T, N)) (hci : ci < 9) (hcl : M'.1.cls = CC) (hnh : CC ≠ "java/lang/invoke/MethodHandle" ∧ CC ≠ "java/lang/invoke/VarHandle")
    (hpl : (parseMethodDescriptor M'.1.desc).map (fun d => d.parameters.length) = some ys.length) (hret : M'.2.2.2 = some .int)
    (hcode : Cond.code M'.1 M'.2.1 M'.2.2.1 M'.2.2.2 ∈ zU) (hlink : Cond.methodLink RL idx M'.1 ∈ zU) (hinst : Cond.instanceMethod M'.1 ∈ zU) (hsel : Cond.selects CC M'.1 M'.1 ∈ zU) (hini : Cond.initialized CC ∈ zU)
    (hr1 : r.1 = ci) (hok : zok r) (hlen : S'.length ≤ 8) (hR : d + 1 ≤ 2048 ∧ 19 + M'.2.2.1 + 40 * d ≤ 84000) (hd : decode cL_law pc = .ok (.invokevirtual idx, 3)) (hS : S = (ys.map Sum.inl).reverse ++ .inr r :: S')
    (hsp : zSp E d M' (.inr r :: ys.map Sum.inl) σ P') (kk : ∀ x σ', P' x σ' → zLp E b L xs (pc + 3) i (.inl x :: S') σ') : zLp E b L xs pc i S σ := by
  intro p e s m below meth c ls H locs hC hKK hA hl hW hSv
  have hu : ∀ w ∈ zU, w.before #[Value.ref b] s = true := fun w hw => hC.2.2.2.2.2.1 w (zU_in hw)
  refine zgo (zrunV (R := room_1) (cells := 600000) (slots := 7302250) (as := ys.map Sum.inl) (S' := S') rfl ⟨hC.1, hC.2.1, hC.2.2.2.1, hC.2.2.2.2.1, hu⟩ hKK hl.1 hc hci hcl hnh (by rw [List.length_map]; exact hpl) hcode hlink hinst hsel hini hr1 (zvs_i hok ys) hS hlen hd hW hR ⟨Nat.le_refl _, Nat.le_refl _⟩ hsp) hSv hA (fun x σ' H1 locs1 hP1 hW1 _ _ hS1 => ?_)
  have hrv : (zrv M' x).toList = [.int x] := by unfold zrv; rw [hret]; rfl
  rw [hrv]
  exact kk x σ' hP1 p e s m below meth c ls H1 locs1 hC hKK hA hl hW1 hS1
theorem zl_cmp {x y : Int32} {off : Int} (hd : decode cL_law pc = .ok (.if_icmp .eq off, 3)) (ht : (pc : Int) + off = ((958 : Nat) : Int)) (e : x = y) (h : zLp E b L xs 958 i [] σ) : zLp E b L xs pc i [.inl y, .inl x] σ := by
  intro p e' s m below meth c ls H locs hC hKK hA hl hW hS
  exact lv_icmp_eq (tgt := 958) hC.1 hC.2.1 hd ht (fun _ => h p e' s m below meth c ls H locs hC hKK hA hl hW hS) (fun hne => absurd e hne)
theorem zl_next (h : zLp E b L xs 18 (i + 4) [] σ) : zLp E b L xs 958 i [] σ := by
  intro p e s m below meth c ls H locs hC hKK hA hl hW hS
  refine lv_iinc (v := nI (i + 4)) (lv' := [(3, .int (nI (i + 4))), (2, .ref (E.2.1 48)), (1, .ref (E.2.1 0)), (0, .ref b)]) hC.1 hC.2.1 dL_law_958 hl (k := 0) rfl ?_ (by decide) rfl (fun ls hl => ?_)
  · rw [← nI_add]; rfl
  · exact lv_goto (tgt := 18) hC.1 hC.2.1 dL_law_961 (by decide) (h p e s m below meth c ls H locs hC hKK hA hl hW hS)
theorem zl_end : zLp E b L xs 964 i [] σ := by
  intro p e s m below meth c ls H locs hC hKK hA hl hW hS
  refine lv_iconst (v := 1) hC.1 hC.2.1 dL_law_964 (by decide) ?_
  refine va_forget hS.2.2 ?_
  exact lw_ret hC.1 hC.2.1 hC.2.2.1 hC.2.2.2.2.2.2.2.2.1 dL_law_965
theorem zl_head (hL : L ≤ 2048) (hi : i ≤ L) (h : i + 4 ≤ L → zLp E b L xs 26 i [] σ) : zLp E b L xs 18 i [] σ := by
  intro p e s m below meth c ls H locs hC hKK hA hl hW hS
  have hbA : ¬ (fun q : Nat => s.heap.size ≤ q) b := Nat.not_le.mpr hC.2.2.2.2.2.2.2.1
  refine lv_iload_n hC.1 hC.2.1 dL_law_18 rfl (lv_at hl 0 rfl) ?_
  refine lv_aload_n hC.1 hC.2.1 dL_law_19 rfl (lv_at hl 3 rfl) ?_
  refine va_slen hC.1 hC.2.1 hC.2.2.2.2.2.2.1 hC.2.2.2.2.2.2.2.1 hbA hS dL_law_20 ?_
  refine lv_iconst (v := nI 4) hC.1 hC.2.1 dL_law_21 (by decide) ?_
  refine lv_isub hC.1 hC.2.1 dL_law_22 ?_
  refine lv_icmp_gt (tgt := 964) hC.1 hC.2.1 dL_law_23 (by decide) (fun hg => ?_) (fun hg => ?_)
  · exact zl_end p e s m below meth c ls H locs hC hKK hA hl hW hS
  · refine h ?_ p e s m below meth c ls H locs hC hKK hA hl hW hS
    apply Classical.byContradiction
    intro hc
    apply hg
    show nI L - nI 4 < nI i
    rw [Int32.lt_iff_toInt_lt, pk_sub_toInt (by omega) (by omega), nI_toInt (by omega)]
    omega
/-- the switch -/
theorem zl_switch {pcs : List Nat} (hL : L ≤ 2048) (hi : i + 4 ≤ L) (hp : ∀ j, j < 32 → ∃ off : Int, (#[144, 157, 200, 249, 282, 295, 308, 321, 344, 367, 390, 423, 456, 469, 492, 525, 558, 581, 594, 607, 630, 643, 666, 699, 712, 725, 748, 781, 824, 857, 870, 903] : Array Int)[j]? = some off ∧ (32 : Int) + off = ((pcs.getD j 0 : Nat) : Int)) (h : ∀ j, j < 32 → zLp E b L xs (pcs.getD j 0) i [] σ) : zLp E b L xs 26 i [] σ := by
  intro p e s m below meth c ls H locs hC hKK hA hl hW hS
  have hbA : ¬ (fun q : Nat => s.heap.size ≤ q) b := Nat.not_le.mpr hC.2.2.2.2.2.2.2.1
  refine lv_aload_n hC.1 hC.2.1 dL_law_26 rfl (lv_at hl 3 rfl) ?_
  refine lv_iload_n hC.1 hC.2.1 dL_law_27 rfl (lv_at hl 0 rfl) ?_
  refine va_sld hC.1 hC.2.1 hC.2.2.2.2.2.2.1 hC.2.2.2.2.2.2.2.1 hbA hS (vp_in_nI (by omega) (by omega)) dL_law_28 ?_
  refine lv_bipush (v := 31) hC.1 hC.2.1 dL_law_29 (by decide +kernel) ?_
  refine lv_iand hC.1 hC.2.1 dL_law_31 ?_
  obtain ⟨j, hj, ej⟩ := pk_andE (xs (nI i).toNatClampNeg) (m := 31) 5 (by decide)
  rw [ej]
  have hj : j < 32 := hj
  obtain ⟨off, ho, ht⟩ := hp j hj
  have ti : (nI j).toInt = (j : Int) := nI_toInt (by omega)
  refine lv_tableIn (off := off) (tgt := pcs.getD j 0) hC.1 hC.2.1 dL_law_32 (by rw [ti]; omega) (by rw [ti]; omega) (by rw [ti]; simpa using ho) ht ?_
  exact h j hj p e s m below meth c ls H locs hC hKK hA hl hW hS
end zLaw
