/-! the reference: what it holds; refuse, isIn, joint, areJoints, between, isBar -/
def zmf (A : zAS) (rf : Nat → Int32) (σ : zST) : Prop := zvd A ∧ σ 48 5 = nI (zan A) ∧ σ 48 6 = nI (zam A) ∧ (∀ x, x < zam A → σ 50 x = nI (zaa A x) ∧ σ 51 x = nI (zab A x) ∧ σ 52 x = nI (zac A x) ∧ σ 53 x = if zat A x = true then 1 else 0) ∧ ∀ k, k < 6 → σ 49 (k + 1) = rf k
/-- the class's cells stand -/
def zlo (σ σ' : zST) : Prop := ∀ q, q < 48 → σ' q = σ q
theorem zlo.rf {σ : zST} : zlo σ σ := fun _ _ => rfl
theorem zlo.tr {σ σ' σ'' : zST} (h : zlo σ σ') (h' : zlo σ' σ'') : zlo σ σ'' := fun q hq => (h' q hq).trans (h q hq)
theorem zlo.up {σ σ' : zST} (h : zlo σ σ') {j k : Nat} {x : Int32} (hj : 48 ≤ j) : zlo σ (zup σ' j k x) := fun q hq => (zup_ne (by omega)).trans (h q hq)
theorem zagw.lo {js fs : List Nat} {σ σ' : zST} (h : zagw js fs σ σ') (hd : ∀ q, q ∈ js → 48 ≤ q) : zlo σ σ' := fun q hq => h.1 q (fun e => by have := hd q e; omega) (by omega)
theorem zmf.agw {A : zAS} {rf : Nat → Int32} {js fs : List Nat} {σ σ' : zST} (h : zmf A rf σ) (hag : zagw js fs σ σ') (hd : ∀ q, q ∈ js → 54 ≤ q) (hf : ∀ f, f ∈ fs → 7 ≤ f) : zmf A rf σ' := by
  have e : ∀ q, 49 ≤ q → q < 54 → σ' q = σ q := fun q h1 h2 => hag.1 q (fun e => by have := hd q e; omega) (by omega)
  have e' : ∀ f, f < 7 → σ' 48 f = σ 48 f := fun f h1 => hag.2 f (fun e => by have := hf f e; omega)
  unfold zmf
  rw [e' 5 (by decide), e' 6 (by decide), e 49 (by decide) (by decide), e 50 (by decide) (by decide), e 51 (by decide) (by decide), e 52 (by decide) (by decide), e 53 (by decide) (by decide)]
  exact h
def zMP (A : zAS) (rf : Nat → Int32) (o : zO) (σ : zST) : zPT := fun r σ' => zlo σ σ' ∧ zmf A (zrfo rf o) σ' ∧ r = zres o
section zQ
variable {E : zEN} {d : Nat} {A : zAS} {rf : Nat → Int32} {σ : zST}
theorem sm_refuse {k : Nat} (hk : k < 6) (hI : zmf A rf σ) : zSp E (d + 1) zM_X8_refuse [.inr (8, 48), .inl (-(nI (k + 1)))] σ (zMP A rf (.inl k) σ) := by
  have e : ∀ k, k < 6 → -(-(nI (k + 1))) = nI (k + 1) := by decide +kernel
  refine zSp.of rfl (Nat.le_of_ble_eq_true rfl) (zg_X8_refuse_0 fun G C hG hC => ?_)
  conv => whnf
  dsimp only
  rw [e k hk]
  refine ⟨pk_in (k + 1) 7 (by omega), ?_⟩
  conv => whnf
  refine ⟨pk_in (k + 1) 7 (by omega), ?_⟩
  conv => whnf
  dsimp only
  rw [nI_clamp (by omega : k + 1 < 2 ^ 31)]
  refine ⟨zlo.rf.up (by decide), ?_, rfl⟩
  obtain ⟨h1, h2, h3, h4, h5⟩ := hI
  refine ⟨h1, by rw [zup_ne (by decide)]; exact h2, by rw [zup_ne (by decide)]; exact h3, ?_, fun i hi => ?_⟩
  · rw [zup_ne (by decide), zup_ne (by decide), zup_ne (by decide), zup_ne (by decide)]; exact h4
  · rw [zup_self]
    show _ = if i = k then rf i + 1 else rf i
    by_cases e : i = k
    · subst e; rw [pk_us, h5 i hi, if_pos rfl]
    · rw [pk_un (by omega), h5 i hi, if_neg e]
theorem sm_isIn {n : Nat} {x y : Int32} (hn : n < 2 ^ 31) (h : y = nI n) : zSp E (d + 1) zM_X8_isIn [.inl x, .inl y] σ (fun r σ' => σ' = σ ∧ r = if zix x n = true then 1 else 0) := by
  refine zSp.of rfl (Nat.le_of_ble_eq_true rfl) (zg_X8_isIn_0 fun G C hG hC => ?_)
  conv => whnf
  rcases zix_cases x hn with ⟨h1, h2⟩ | ⟨j, hj, rfl, h1⟩
  · rw [h1]
    refine ⟨fun h3 => ?_, fun h3 => ?_⟩
    · conv => whnf
      exact ⟨Or.inl rfl, rfl, rfl⟩
    · conv => whnf
      refine br_t ?_ ?_
      · show y ≤ x
        rw [h]
        rcases h2 with h2 | h2
        · exact absurd h2 h3
        · exact h2
      · conv => whnf
        exact ⟨Or.inl rfl, rfl, rfl⟩
  · rw [h1]
    refine br_f (nI_pos (by omega)) ?_
    conv => whnf
    refine pk_le n j (fun _ => by omega) (fun _ => ?_) h rfl
    conv => whnf
    exact ⟨Or.inr rfl, rfl, rfl⟩
theorem sm_isBar (hI : zmf A rf σ) {x : Int32} : zSp E (d + 2) zM_X8_isBar [.inr (8, 48), .inl x] σ (fun r σ' => σ' = σ ∧ r = if zix x (zam A) = true then 1 else 0) := by
  have hm := hI.1.2.1
  refine zSp.of rfl (Nat.le_of_ble_eq_true rfl) (zg_X8_isBar_0 fun G C hG hC => ?_)
  conv => whnf
  refine hC _ _ _ _ ((sm_isIn (d := d) (n := zam A) (by omega) hI.2.2.1).conseq ?_)
  rintro r σ' ⟨rfl, rfl⟩
  conv => whnf
  refine ⟨?_, rfl, rfl⟩
  cases zix x (zam A)
  · exact Or.inl rfl
  · exact Or.inr rfl
theorem sm_areJoints (hI : zmf A rf σ) {x y : Int32} : zSp E (d + 2) zM_X8_areJoints [.inr (8, 48), .inl x, .inl y] σ (fun r σ' => σ' = σ ∧ r = if zpr A x y = true then 1 else 0) := by
  have hn := hI.1.1
  refine zSp.of rfl (Nat.le_of_ble_eq_true rfl) (zg_X8_areJoints_0 fun G C hG hC => ?_)
  conv => whnf
  refine hC _ _ _ _ ((sm_isIn (d := d) (n := zan A) (by omega) hI.2.1).conseq ?_)
  rintro r σ' ⟨rfl, rfl⟩
  conv => whnf
  unfold zpr
  cases zix x (zan A)
  · rw [if_neg (by decide)]
    refine br_t rfl ?_
    conv => whnf
    exact ⟨Or.inl rfl, rfl, rfl⟩
  · rw [if_pos rfl]
    refine br_f (by decide) ?_
    conv => whnf
    refine hC _ _ _ _ ((sm_isIn (d := d) (n := zan A) (by omega) hI.2.1).conseq ?_)
    rintro r σ' ⟨rfl, rfl⟩
    conv => whnf
    cases zix y (zan A)
    · rw [if_neg (by decide)]
      refine br_t rfl ?_
      conv => whnf
      exact ⟨Or.inl rfl, rfl, rfl⟩
    · rw [if_pos rfl]
      refine br_f (by decide) ?_
      conv => whnf
      refine ⟨fun e => ?_, fun e => ?_⟩
      · have e : x = y := e
        conv => whnf
        exact ⟨Or.inl rfl, rfl, by simp [e]⟩
      · have e : ¬ x = y := e
        conv => whnf
        exact ⟨Or.inr rfl, rfl, by simp [e]⟩
theorem sm_joint (hI : zmf A rf σ) : zSp E (d + 40) zM_X8_joint [.inr (8, 48)] σ (zMP (zt_joint A) rf (zo_joint A) σ) := by
  have hn := hI.1.1
  refine zSp.of rfl (Nat.le_of_ble_eq_true rfl) (zg_X8_joint_0 fun G C hG hC => ?_)
  conv => whnf
  unfold zo_joint zt_joint
  refine pk_eq (zan A) 24 (fun h => ?_) (fun h => ?_) hI.2.1 rfl
  · rw [if_pos h, if_pos h]
    conv => whnf
    refine hC _ _ _ _ ((sm_refuse (d := d + 38) (k := 5) (by decide) hI).conseq ?_)
    intro r σ' hq
    conv => whnf
    exact hq
  · rw [if_neg h, if_neg h]
    conv => whnf
    dsimp only
    rw [zup_self, pk_us, hI.2.1, nI_1]
    refine ⟨zlo.rf.up (by decide), ?_, ?_⟩
    · obtain ⟨⟨v1, v2, v3⟩, h2, h3, h4, h5⟩ := hI
      refine ⟨⟨by show zan A + 1 ≤ 24; omega, v2, fun x hx => ?_⟩, ?_, ?_, ?_, ?_⟩
      · have := v3 x hx
        exact ⟨this.1, by show zab A x < zan A + 1; omega, this.2.2⟩
      · rw [zup_self, pk_us]
      · rw [zup_self, pk_un (by decide)]; exact h3
      · rw [zup_ne (by decide), zup_ne (by decide), zup_ne (by decide), zup_ne (by decide)]; exact h4
      · rw [zup_ne (by decide)]; exact h5
    · exact nI_pred _
theorem zmin_nI {u w : Nat} (hu : u < 2 ^ 31) (hw : w < 2 ^ 31) : (if nI w < nI u then nI w else nI u) = nI (min u w) := by
  by_cases h : w < u
  · rw [if_pos (nI_lt h (by omega)), Nat.min_eq_right (by omega)]
  · rw [if_neg (nI_nlt (by omega) (by omega)), Nat.min_eq_left (by omega)]
theorem zmax_nI {u w : Nat} (hu : u < 2 ^ 31) (hw : w < 2 ^ 31) : (if nI u < nI w then nI w else nI u) = nI (max u w) := by
  by_cases h : u < w
  · rw [if_pos (nI_lt h (by omega)), Nat.max_eq_right (by omega)]
  · rw [if_neg (nI_nlt (by omega) (by omega)), Nat.max_eq_left (by omega)]
theorem sm_between (hI : zmf A rf σ) {u w : Nat} (hu : u < 24) (hw : w < 24) : zSp E (d + 1) zM_X8_between [.inr (8, 48), .inl (nI u), .inl (nI w)] σ (fun r σ' => σ' = σ ∧ ((r < 0 ∧ ztd A (min u w) (max u w) = false) ∨ (¬ r < 0 ∧ ztd A (min u w) (max u w) = true))) := by
  have hm := hI.1.2.1
  have loop : ∀ r i (x3 : Int32), i + r = zam A → x3 = nI i → (∀ x, x < i → ¬ (zaa A x = min u w ∧ zab A x = max u w)) → zWp E (d + 1) zM_X8_between (fun r σ' => σ' = σ ∧ ((r < 0 ∧ ztd A (min u w) (max u w) = false) ∨ (¬ r < 0 ∧ ztd A (min u w) (max u w) = true))) 2 [some (.inr (8, 48)), some (.inl (nI u)), some (.inl (nI w)), some (.inl x3)] [] σ := by
    intro r
    induction r with
    | zero =>
      intro i x3 hi hx3 hno
      refine zg_X8_between_2 fun G C hG hC => ?_
      conv => whnf
      refine pk_le (zam A) i (fun _ => ?_) (fun _ => by omega) hI.2.2.1 hx3
      conv => whnf
      refine ⟨rfl, Or.inl ⟨by decide, ?_⟩⟩
      cases h : ztd A (min u w) (max u w)
      · rfl
      · obtain ⟨x, h1, h2⟩ := ztd_t.mp h
        exact absurd h2 (hno x (by omega))
    | succ r ih =>
      intro i x3 hi hx3 hno
      have hx := hI.2.2.2.1 i (by omega)
      have hv := hI.1.2.2 i (by omega)
      have hn := hI.1.1
      refine zg_X8_between_2 fun G C hG hC => ?_
      conv => whnf
      refine pk_le (zam A) i (fun _ => by omega) (fun _ => ?_) hI.2.2.1 hx3
      conv => whnf
      refine ⟨pk_in i 80 (by omega) hx3, ?_⟩
      conv => whnf
      dsimp only
      rw [pk_cl i hx3, zmin_nI (by omega) (by omega)]
      refine pk_eq (zaa A i) (min u w) (fun h => ?_) (fun h => ?_) hx.1 rfl
      · conv => whnf
        refine ⟨pk_in i 80 (by omega) hx3, ?_⟩
        conv => whnf
        dsimp only
        rw [pk_cl i hx3, zmax_nI (by omega) (by omega)]
        refine pk_eq (zab A i) (max u w) (fun h' => ?_) (fun h' => ?_) hx.2.1 rfl
        · conv => whnf
          refine ⟨rfl, Or.inr ⟨by rw [hx3]; exact nI_pos (by omega), ztd_t.mpr ⟨i, by omega, h, h'⟩⟩⟩
        · conv => whnf
          refine hG _ _ _ _ (ih (i + 1) _ (by omega) (by rw [hx3, nI_1]) (fun x hx => ?_))
          by_cases e : x = i
          · subst e; exact fun q => h' q.2
          · exact hno x (by omega)
      · conv => whnf
        refine hG _ _ _ _ (ih (i + 1) _ (by omega) (by rw [hx3, nI_1]) (fun x hx => ?_))
        by_cases e : x = i
        · subst e; exact fun q => h q.1
        · exact hno x (by omega)
  refine zSp.of rfl (Nat.le_of_ble_eq_true rfl) (zg_X8_between_0 fun G C hG hC => ?_)
  conv => whnf
  exact hG _ _ _ _ (loop (zam A) 0 0 (by omega) rfl (fun x hx => absurd hx (Nat.not_lt_zero x)))
end zQ
