/-! the reference: bundles -/
abbrev zbu2 : List Nat := [54, 55, 56, 57, 58, 59, 61, 62, 71]
section zQ
variable {E : zEN} {d : Nat} {A : zAS} {rf : Nat → Int32} {σ : zST}
theorem sm_merges (hI : zmf A rf σ) {p q : Nat} {h : Nat → Nat} (hh : zhs A h (σ 71)) (hlt : ∀ x, x < zam A → h x < zam A) (hp : p < zam A) (hq : q < zam A) : zSp E (d + 1) zM_X8_merges [.inr (8, 48), .inl (nI p), .inl (nI q)] σ (fun _ σ' => zagw [71] [] σ σ' ∧ zhs A (zmg h p q) (σ' 71)) := by
  have hm := hI.1.2.1
  have loop : ∀ r i (x5 : Int32) (σ' : zST), i + r = zam A → x5 = nI i → zagw [71] [] σ σ' → (∀ x, x < zam A → σ' 71 x = if x < i then nI (zmg h p q x) else nI (h x)) → zWp E (d + 1) zM_X8_merges (fun _ σ' => zagw [71] [] σ σ' ∧ zhs A (zmg h p q) (σ' 71)) 16 [some (.inr (8, 48)), some (.inl (nI p)), some (.inl (nI q)), some (.inl (nI (min p q))), some (.inl (nI (max p q))), some (.inl x5)] [] σ' := by
    intro r
    induction r with
    | zero =>
      intro i x5 σ' hi hx5 hag hx
      have hI' := hI.agw hag (by simp) (by simp)
      refine zg_X8_merges_16 fun G C hG hC => ?_
      conv => whnf
      refine pk_le (zam A) i (fun _ => ?_) (fun _ => by omega) hI'.2.2.1 hx5
      conv => whnf
      exact ⟨hag, fun x hxm => by rw [hx x hxm, if_pos (by omega)]⟩
    | succ r ih =>
      intro i x5 σ' hi hx5 hag hx
      have hI' := hI.agw hag (by simp) (by simp)
      have hli := hlt i (by omega)
      refine zg_X8_merges_16 fun G C hG hC => ?_
      conv => whnf
      refine pk_le (zam A) i (fun _ => by omega) (fun _ => ?_) hI'.2.2.1 hx5
      conv => whnf
      refine ⟨pk_in i 80 (by omega) hx5, ?_⟩
      conv => whnf
      dsimp only
      rw [pk_cl i hx5, hx i (by omega), if_neg (Nat.lt_irrefl _)]
      have hmp : max p q < 2 ^ 31 := by omega
      refine pk_eq (h i) (max p q) (fun e => ?_) (fun e => ?_)
      · conv => whnf
        refine ⟨pk_in i 80 (by omega) hx5, ?_⟩
        conv => whnf
        dsimp only
        rw [pk_cl i hx5]
        refine hG _ _ _ _ (ih (i + 1) _ _ (by omega) (by rw [hx5, nI_1]) (hag.up (by simp) (by decide)) (fun x hxm => ?_))
        rw [zup_self]
        by_cases e2 : x = i
        · subst e2; rw [pk_us, if_pos (by omega)]; unfold zmg; rw [if_pos e]
        · rw [pk_un e2, hx x hxm]
          by_cases e3 : x < i
          · rw [if_pos e3, if_pos (by omega)]
          · rw [if_neg e3, if_neg (by omega)]
      · conv => whnf
        refine hG _ _ _ _ (ih (i + 1) _ _ (by omega) (by rw [hx5, nI_1]) hag (fun x hxm => ?_))
        rw [hx x hxm]
        by_cases e2 : x = i
        · subst e2; rw [if_neg (Nat.lt_irrefl _), if_pos (by omega)]; unfold zmg; rw [if_neg e]
        · by_cases e3 : x < i
          · rw [if_pos e3, if_pos (by omega)]
          · rw [if_neg e3, if_neg (by omega)]
  refine zSp.of rfl (Nat.le_of_ble_eq_true rfl) (zg_X8_merges_0 fun G C hG hC => ?_)
  conv => whnf
  dsimp only
  rw [zmin_nI (by omega) (by omega), zmax_nI (by omega) (by omega)]
  exact hG _ _ _ _ (loop (zam A) 0 0 σ (by omega) rfl zagw.rf (fun x _ => by rw [if_neg (Nat.not_lt_zero x)]; exact hh x (by assumption)))
def zbup (A : zAS) (σ : zST) : zPT := fun r σ' => zagw zbu2 [11, 12, 13] σ σ' ∧ zhs A (zba A (zam A)) (σ' 71) ∧ r = nI (fb_ct (zhd A) (zam A))
theorem sm_findBundles (hI : zmf A rf σ) : zSp E (d + 31) zM_X8_findBundles [.inr (8, 48)] σ (zbup A σ) := by
  have hm := hI.1.2.1
  -- the count
  have cnt : ∀ r i (x1 x2 : Int32) (x3 : Option zAV) (σ' : zST), i + r = zam A → x1 = nI (fb_ct (zhd A) i) → x2 = nI i → zagw zbu2 [11, 12, 13] σ σ' → zhs A (zba A (zam A)) (σ' 71) → zWp E (d + 31) zM_X8_findBundles (zbup A σ) 115 [some (.inr (8, 48)), some (.inl x1), some (.inl x2), x3] [] σ' := by
    intro r
    induction r with
    | zero =>
      intro i x1 x2 x3 σ' hi hx1 hx2 hag hh
      have hI' := hI.agw hag (by simp) (by simp)
      have hi : i = zam A := by omega
      subst hi
      refine zg_X8_findBundles_115 fun G C hG hC => ?_
      conv => whnf
      refine pk_le (zam A) (zam A) (fun _ => ?_) (fun _ => by omega) hI'.2.2.1 hx2
      conv => whnf
      exact ⟨hag, hh, hx1⟩
    | succ r ih =>
      intro i x1 x2 x3 σ' hi hx1 hx2 hag hh
      have hI' := hI.agw hag (by simp) (by simp)
      have hx := hI'.2.2.2.1 i (by omega)
      have hl := zba_lt (A := A) (zam A) (Nat.le_refl _) i (by omega)
      refine zg_X8_findBundles_115 fun G C hG hC => ?_
      conv => whnf
      refine pk_le (zam A) i (fun _ => by omega) (fun _ => ?_) hI'.2.2.1 hx2
      conv => whnf
      refine ⟨pk_in i 80 (by omega) hx2, ?_⟩
      conv => whnf
      dsimp only
      rw [pk_cl i hx2, hx.2.2.2]
      have no : zhd A i = false → zWp E (d + 31) zM_X8_findBundles (zbup A σ) 115 [some (.inr (8, 48)), some (.inl (x1 + 0)), some (.inl (x2 + 1)), x3] [] σ' := fun h => ih (i + 1) _ _ _ _ (by omega) (by rw [hx1, fb_ct_succ, h]; exact nI_add _ 0) (by rw [hx2, nI_1]) hag hh
      cases ht : zat A i
      · rw [if_neg (by decide)]
        refine br_t rfl ?_
        conv => whnf
        exact hG _ _ _ _ (no (by unfold zhd; rw [ht]; rfl))
      · rw [if_pos rfl]
        refine br_f (by decide) ?_
        conv => whnf
        refine ⟨pk_in i 80 (by omega) hx2, ?_⟩
        conv => whnf
        dsimp only
        rw [pk_cl i hx2, hh i (by omega)]
        refine pk_eq (zba A (zam A) i) i (fun e => ?_) (fun e => ?_) rfl hx2
        · conv => whnf
          have h : zhd A i = true := by unfold zhd; rw [ht]; simp [e]
          exact hG _ _ _ _ (ih (i + 1) _ _ _ _ (by omega) (by rw [hx1, fb_ct_succ, h]; exact nI_add _ 1) (by rw [hx2, nI_1]) hag hh)
        · conv => whnf
          exact hG _ _ _ _ (no (by unfold zhd; rw [ht]; simp [e]))
  -- one circuit
  have inner : ∀ k, k < zam A → zlf A k = true → (∀ (x1 : Int32) (x2 x3 : Option zAV) (σ' : zST), x1 = nI (k + 1) → zagw zbu2 [11, 12, 13] σ σ' → zbase A σ' → zhs A (zba A (k + 1)) (σ' 71) → zWp E (d + 31) zM_X8_findBundles (zbup A σ) 29 [some (.inr (8, 48)), some (.inl x1), x2, x3] [] σ') → ∀ r f (x1 x3 : Int32) (x2 : Option zAV) (σ' : zST), f + r = zam A → x1 = nI k → x3 = nI f → zagw zbu2 [11, 12, 13] σ σ' → zbase A σ' → (∀ x, x < zam A → σ' 61 x = if zci A k x = true then 1 else 0) → zhs A (zbl A k (zba A k) f) (σ' 71) → zWp E (d + 31) zM_X8_findBundles (zbup A σ) 66 [some (.inr (8, 48)), some (.inl x1), x2, some (.inl x3)] [] σ' := by
    intro k hk hlf next r
    induction r with
    | zero =>
      intro f x1 x3 x2 σ' hf hx1 hx3 hag hB h61 hh
      have hI' := hI.agw hag (by simp) (by simp)
      have hf : f = zam A := by omega
      subst hf
      refine zg_X8_findBundles_66 fun G C hG hC => ?_
      conv => whnf
      refine pk_le (zam A) (zam A) (fun _ => ?_) (fun _ => by omega) hI'.2.2.1 hx3
      conv => whnf
      refine hG _ _ _ _ (next _ _ _ _ (by rw [hx1, nI_1]) hag hB ?_)
      have : zba A (k + 1) = zbl A k (zba A k) (zam A) := by rw [zba, if_pos hlf]
      rw [this]; exact hh
    | succ r ih =>
      intro f x1 x3 x2 σ' hf hx1 hx3 hag hB h61 hh
      have hI' := hI.agw hag (by simp) (by simp)
      have hlt := zbl_lt (A := A) hk (zba_lt (A := A) k (by omega)) f
      refine zg_X8_findBundles_66 fun G C hG hC => ?_
      conv => whnf
      refine pk_le (zam A) f (fun _ => by omega) (fun _ => ?_) hI'.2.2.1 hx3
      conv => whnf
      refine ⟨pk_in f 80 (by omega) hx3, ?_⟩
      conv => whnf
      dsimp only
      rw [pk_cl f hx3, h61 f (by omega)]
      have e3 : x3 + 1 = nI (f + 1) := by rw [hx3, nI_1]
      cases hc : zci A k f
      · rw [if_neg (by decide)]
        refine br_t rfl ?_
        conv => whnf
        refine hG _ _ _ _ (ih (f + 1) _ _ _ _ (by omega) hx1 e3 hag hB h61 ?_)
        have : zbl A k (zba A k) (f + 1) = zbl A k (zba A k) f := by rw [zbl, zbs, hc]; rfl
        rw [this]; exact hh
      · rw [if_pos rfl]
        refine br_f (by decide) ?_
        conv => whnf
        refine ⟨pk_in k 80 (by omega) hx1, ?_⟩
        conv => whnf
        refine ⟨pk_in f 80 (by omega) hx3, ?_⟩
        conv => whnf
        dsimp only
        rw [pk_cl k hx1, pk_cl f hx3, hh k hk, hh f (by omega)]
        refine hC _ _ _ _ ((sm_merges (d := d + 29) hI' hh hlt (hlt k hk) (hlt f (by omega))).conseq ?_)
        rintro r2 σ2 ⟨h1, h2⟩
        conv => whnf
        refine hG _ _ _ _ (ih (f + 1) _ _ _ _ (by omega) hx1 e3 (hag.tr (h1.sub (by simp) (by simp))) (fun x hx => by rw [h1.1 62 (by simp) (by decide)]; exact hB x hx) (fun x hx => by rw [h1.1 61 (by simp) (by decide)]; exact h61 x hx) ?_)
        have : zbl A k (zba A k) (f + 1) = zmg (zbl A k (zba A k) f) (zbl A k (zba A k) f k) (zbl A k (zba A k) f f) := by rw [zbl, zbs, hc]; rfl
        rw [this]; exact h2
  have outer : ∀ r k (x1 : Int32) (x2 x3 : Option zAV) (σ' : zST), k + r = zam A → x1 = nI k → zagw zbu2 [11, 12, 13] σ σ' → zbase A σ' → zhs A (zba A k) (σ' 71) → zWp E (d + 31) zM_X8_findBundles (zbup A σ) 29 [some (.inr (8, 48)), some (.inl x1), x2, x3] [] σ' := by
    intro r
    induction r with
    | zero =>
      intro k x1 x2 x3 σ' hk hx1 hag hB hh
      have hI' := hI.agw hag (by simp) (by simp)
      have hk : k = zam A := by omega
      subst hk
      refine zg_X8_findBundles_29 fun G C hG hC => ?_
      conv => whnf
      refine pk_le (zam A) (zam A) (fun _ => ?_) (fun _ => by omega) hI'.2.2.1 hx1
      conv => whnf
      exact hG _ _ _ _ (cnt (zam A) 0 0 0 _ σ' (by omega) rfl rfl hag hh)
    | succ r ih =>
      intro k x1 x2 x3 σ' hk hx1 hag hB hh
      have hI' := hI.agw hag (by simp) (by simp)
      have hx := hI'.2.2.2.1 k (by omega)
      refine zg_X8_findBundles_29 fun G C hG hC => ?_
      conv => whnf
      refine pk_le (zam A) k (fun _ => by omega) (fun _ => ?_) hI'.2.2.1 hx1
      conv => whnf
      refine ⟨pk_in k 80 (by omega) hx1, ?_⟩
      conv => whnf
      dsimp only
      rw [pk_cl k hx1, hx.2.2.2]
      have no : zlf A k = false → zWp E (d + 31) zM_X8_findBundles (zbup A σ) 29 [some (.inr (8, 48)), some (.inl (x1 + 1)), x2, x3] [] σ' := fun h => ih (k + 1) _ _ _ _ (by omega) (by rw [hx1, nI_1]) hag hB (by rw [zba, h]; exact hh)
      cases ht : zat A k
      · rw [if_neg (by decide)]
        refine br_t rfl ?_
        conv => whnf
        exact hG _ _ _ _ (no (by unfold zlf; rw [ht]; rfl))
      · rw [if_pos rfl]
        refine br_f (by decide) ?_
        conv => whnf
        refine ⟨pk_in k 80 (by omega) hx1, ?_⟩
        conv => whnf
        dsimp only
        rw [pk_cl k hx1, hB k (by omega)]
        cases hK : zK A false 2 3 k
        · have hlf : zlf A k = true := by unfold zlf; rw [ht, hK]; rfl
          rw [if_neg (by decide)]
          refine br_t rfl ?_
          conv => whnf
          subst hx1
          refine hC _ _ _ _ ((sm_findCircuit (d := d + 2) hI' hB (by omega : k < zam A)).conseq ?_)
          rintro r2 σ2 ⟨h1, rfl, h3⟩
          conv => whnf
          refine hG _ _ _ _ (inner k (by omega) hlf (fun x1 x2 x3 σ3 g1 g2 g3 g4 => ih (k + 1) x1 x2 x3 σ3 (by omega) g1 g2 g3 g4) (zam A) 0 _ 0 _ σ2 (by omega) rfl rfl (hag.tr (h1.sub (by simp) (by simp))) (fun x hx => by rw [h1.1 62 (by simp) (by decide)]; exact hB x hx) h3 (by rw [h1.1 71 (by simp) (by decide)]; exact hh))
        · rw [if_pos rfl]
          refine br_f (by decide) ?_
          conv => whnf
          exact hG _ _ _ _ (no (by unfold zlf; rw [ht, hK]; rfl))
  have ini : ∀ r i (x1 : Int32) (x2 x3 : Option zAV) (σ' : zST), i + r = zam A → x1 = nI i → zagw zbu2 [11, 12, 13] σ σ' → zbase A σ' → (∀ x, x < i → σ' 71 x = nI x) → zWp E (d + 31) zM_X8_findBundles (zbup A σ) 6 [some (.inr (8, 48)), some (.inl x1), x2, x3] [] σ' := by
    intro r
    induction r with
    | zero =>
      intro i x1 x2 x3 σ' hi hx1 hag hB hh
      have hI' := hI.agw hag (by simp) (by simp)
      have hi : i = zam A := by omega
      subst hi
      refine zg_X8_findBundles_6 fun G C hG hC => ?_
      conv => whnf
      refine pk_le (zam A) (zam A) (fun _ => ?_) (fun _ => by omega) hI'.2.2.1 hx1
      conv => whnf
      exact hG _ _ _ _ (outer (zam A) 0 0 _ _ σ' (by omega) rfl hag hB hh)
    | succ r ih =>
      intro i x1 x2 x3 σ' hi hx1 hag hB hh
      have hI' := hI.agw hag (by simp) (by simp)
      refine zg_X8_findBundles_6 fun G C hG hC => ?_
      conv => whnf
      refine pk_le (zam A) i (fun _ => by omega) (fun _ => ?_) hI'.2.2.1 hx1
      conv => whnf
      refine ⟨pk_in i 80 (by omega) hx1, ?_⟩
      conv => whnf
      dsimp only
      rw [pk_cl i hx1]
      refine hG _ _ _ _ (ih (i + 1) _ _ _ _ (by omega) (by rw [hx1, nI_1]) (hag.up (by simp) (by decide)) (fun x hx => by rw [zup_ne (by decide)]; exact hB x hx) (fun x hx => ?_))
      rw [zup_self]
      by_cases e : x = i
      · subst e; rw [pk_us, hx1]
      · rw [pk_un e]; exact hh x (by omega)
  refine zSp.of rfl (Nat.le_of_ble_eq_true rfl) (zg_X8_findBundles_0 fun G C hG hC => ?_)
  conv => whnf
  refine hC _ _ _ _ ((sm_findBase (d := d) hI).conseq ?_)
  rintro r σ2 ⟨h1, h2, h3⟩
  conv => whnf
  exact hG _ _ _ _ (ini (zam A) 0 0 _ _ σ2 (by omega) rfl (h1.sub (by simp) (by simp)) h3 (fun y hy => absurd hy (Nat.not_lt_zero y)))
theorem sm_bundles (hI : zmf A rf σ) : zSp E (d + 40) zM_X8_bundles [.inr (8, 48)] σ (zMP A rf (.inr (nI (fb_ct (zhd A) (zam A)))) σ) := by
  refine zSp.of rfl (Nat.le_of_ble_eq_true rfl) (zg_X8_bundles_0 fun G C hG hC => ?_)
  conv => whnf
  refine hC _ _ _ _ ((sm_findBundles (d := d + 8) hI).conseq ?_)
  rintro r σ2 ⟨h1, h2, rfl⟩
  conv => whnf
  exact ⟨h1.lo (by simp), hI.agw h1 (by simp) (by simp), rfl⟩
theorem sm_bundle (hI : zmf A rf σ) {x : Int32} : zSp E (d + 40) zM_X8_bundle [.inr (8, 48), .inl x] σ (zMP A rf (zob A x (fun i => .inr (if zat A i = true then nI (fb_ct (zhd A) (zba A (zam A) i)) else -9))) σ) := by
  have hm := hI.1.2.1
  refine zSp.of rfl (Nat.le_of_ble_eq_true rfl) (zg_X8_bundle_0 fun G C hG hC => ?_)
  conv => whnf
  refine hC _ _ _ _ ((sm_isBar (d := d + 37) hI).conseq ?_)
  rintro r σ' ⟨rfl, rfl⟩
  conv => whnf
  rcases zix_cases x (n := zam A) (by omega) with ⟨hz, -⟩ | ⟨i, hi, rfl, hz⟩
  · rw [hz, if_neg (by decide), zob_out hz]
    refine br_t rfl ?_
    conv => whnf
    refine hC _ _ _ _ ((sm_refuse (d := d + 38) (k := 0) (by decide) hI).conseq ?_)
    intro r σ' hq
    conv => whnf
    exact hq
  · rw [hz, if_pos rfl]
    refine br_f (by decide) ?_
    conv => whnf
    refine ⟨pk_in i 80 (by omega), ?_⟩
    conv => whnf
    dsimp only
    rw [nI_clamp (by omega : i < 2 ^ 31), (hI.2.2.2.1 i hi).2.2.2]
    cases h3 : zat A i
    · rw [if_neg (by decide)]
      refine br_t rfl ?_
      conv => whnf
      exact ⟨zlo.rf, by rw [zob_in hm hi]; exact hI, by rw [zob_in hm hi, h3]; rfl⟩
    · rw [if_pos rfl]
      refine br_f (by decide) ?_
      conv => whnf
      refine hC _ _ _ _ ((sm_findBundles (d := d + 8) hI).conseq ?_)
      rintro r σ2 ⟨h1, h2, rfl⟩
      have hI2 := hI.agw h1 (by simp) (by simp)
      have hz2 := h1.lo (by simp)
      have hl := zba_lt (A := A) (zam A) (Nat.le_refl _) i hi
      have loop : ∀ q f (x2 x3 x4 : Int32), f + q = zba A (zam A) i → x3 = nI (fb_ct (zhd A) f) → x4 = nI f → zWp E (d + 40) zM_X8_bundle (zMP A rf (zob A (nI i) (fun i => .inr (if zat A i = true then nI (fb_ct (zhd A) (zba A (zam A) i)) else -9))) σ') 36 [some (.inr (8, 48)), some (.inl (nI i)), some (.inl x2), some (.inl x3), some (.inl x4)] [] σ2 := by
        intro q
        induction q with
        | zero =>
          intro f x2 x3 x4 hf hx3 hx4
          have hf : f = zba A (zam A) i := by omega
          subst hf
          refine zg_X8_bundle_36 fun G C hG hC => ?_
          conv => whnf
          refine ⟨pk_in i 80 (by omega), ?_⟩
          conv => whnf
          dsimp only
          rw [nI_clamp (by omega : i < 2 ^ 31), h2 i hi]
          refine pk_le (zba A (zam A) i) (zba A (zam A) i) (fun _ => ?_) (fun _ => by omega) rfl hx4
          conv => whnf
          exact ⟨hz2, by rw [zob_in hm hi]; exact hI2, by rw [zob_in hm hi, h3, hx3]; rfl⟩
        | succ q ih =>
          intro f x2 x3 x4 hf hx3 hx4
          have hx := hI2.2.2.2.1 f (by omega)
          have hl2 := zba_lt (A := A) (zam A) (Nat.le_refl _) f (by omega)
          refine zg_X8_bundle_36 fun G C hG hC => ?_
          conv => whnf
          refine ⟨pk_in i 80 (by omega), ?_⟩
          conv => whnf
          dsimp only
          rw [nI_clamp (by omega : i < 2 ^ 31), h2 i hi]
          refine pk_le (zba A (zam A) i) f (fun _ => by omega) (fun _ => ?_) rfl hx4
          conv => whnf
          refine ⟨pk_in f 80 (by omega) hx4, ?_⟩
          conv => whnf
          dsimp only
          rw [pk_cl f hx4, hx.2.2.2]
          cases ht : zat A f
          · rw [if_neg (by decide)]
            refine br_t rfl ?_
            conv => whnf
            have h : zhd A f = false := by unfold zhd; rw [ht]; rfl
            exact hG _ _ _ _ (ih (f + 1) _ _ _ (by omega) (by rw [hx3, fb_ct_succ, h]; exact nI_add _ 0) (by rw [hx4, nI_1]))
          · rw [if_pos rfl]
            refine br_f (by decide) ?_
            conv => whnf
            refine ⟨pk_in f 80 (by omega) hx4, ?_⟩
            conv => whnf
            dsimp only
            rw [pk_cl f hx4, h2 f (by omega)]
            refine pk_eq (zba A (zam A) f) f (fun e => ?_) (fun e => ?_) rfl hx4
            · conv => whnf
              have h : zhd A f = true := by unfold zhd; rw [ht]; simp [e]
              exact hG _ _ _ _ (ih (f + 1) _ _ _ (by omega) (by rw [hx3, fb_ct_succ, h]; exact nI_add _ 1) (by rw [hx4, nI_1]))
            · conv => whnf
              have h : zhd A f = false := by unfold zhd; rw [ht]; simp [e]
              exact hG _ _ _ _ (ih (f + 1) _ _ _ (by omega) (by rw [hx3, fb_ct_succ, h]; exact nI_add _ 0) (by rw [hx4, nI_1]))
      conv => whnf
      exact hG _ _ _ _ (loop (zba A (zam A) i) 0 _ 0 0 (by omega) rfl rfl)
end zQ
