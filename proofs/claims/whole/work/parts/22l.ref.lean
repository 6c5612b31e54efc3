/-! the reference: clusterOf, isHinge, adds -/
/-- the clusters found so far -/
def zmcl (A : zAS) (L : List (Nat × Nat)) (σ : zST) : Prop := σ 48 21 = nI L.length ∧ zcx A L (σ 63)
noncomputable def zcL (A : zAS) (L : List (Nat × Nat)) (i x : Nat) : Bool := zcS A (L.getD i (0, 0)).1 (L.getD i (0, 0)).2 x
section zQ
variable {E : zEN} {d : Nat} {A : zAS} {rf : Nat → Int32} {σ : zST}
theorem sm_clusterOf {L : List (Nat × Nat)} (hL : zmcl A L σ) (hlen : L.length ≤ 276) {u w : Nat} (hu : u < 24) (hw : w < 24) : zSp E (d + 1) zM_X8_clusterOf [.inr (8, 48), .inl (nI u), .inl (nI w)] σ (fun r σ' => σ' = σ ∧ zfst (fun i => zcL A L i u && zcL A L i w) L.length r) := by
  obtain ⟨h5, hx⟩ := hL
  have loop : ∀ r i (x3 : Int32), i + r = L.length → x3 = nI i → (∀ q, q < i → (zcL A L q u && zcL A L q w) = false) → zWp E (d + 1) zM_X8_clusterOf (fun r σ' => σ' = σ ∧ zfst (fun i => zcL A L i u && zcL A L i w) L.length r) 2 [some (.inr (8, 48)), some (.inl (nI u)), some (.inl (nI w)), some (.inl x3)] [] σ := by
    intro r
    induction r with
    | zero =>
      intro i x3 hi hx3 hno
      refine zg_X8_clusterOf_2 fun G C hG hC => ?_
      conv => whnf
      refine pk_le L.length i (fun _ => ?_) (fun _ => by omega) h5 hx3
      conv => whnf
      exact ⟨rfl, Or.inr ⟨fun q hq => hno q (by omega), rfl⟩⟩
    | succ r ih =>
      intro i x3 hi hx3 hno
      have he : σ 63 i = zmk (zcL A L i) := hx i (by omega)
      have hnext : x3 + 1 = nI (i + 1) := by rw [hx3, nI_1]
      have no : (zcL A L i u && zcL A L i w) = false → zWp E (d + 1) zM_X8_clusterOf (fun r σ' => σ' = σ ∧ zfst (fun i => zcL A L i u && zcL A L i w) L.length r) 2 [some (.inr (8, 48)), some (.inl (nI u)), some (.inl (nI w)), some (.inl (x3 + 1))] [] σ := fun h => ih (i + 1) _ (by omega) hnext (fun q hq => by
        by_cases e : q = i
        · rw [e]; exact h
        · exact hno q (by omega))
      refine zg_X8_clusterOf_2 fun G C hG hC => ?_
      conv => whnf
      refine pk_le L.length i (fun _ => by omega) (fun _ => ?_) h5 hx3
      conv => whnf
      refine ⟨pk_in i 576 (by omega) hx3, ?_⟩
      conv => whnf
      dsimp only
      rw [pk_cl i hx3, he, zbitv (by omega), zmk_bt _ hu]
      cases h1 : zcL A L i u
      · rw [if_neg (by decide)]
        refine br_f (by decide) ?_
        conv => whnf
        exact hG _ _ _ _ (no (by rw [h1]; rfl))
      · rw [if_pos rfl]
        refine br_t rfl ?_
        conv => whnf
        refine ⟨pk_in i 576 (by omega) hx3, ?_⟩
        conv => whnf
        dsimp only
        rw [pk_cl i hx3, he, zbitv (by omega), zmk_bt _ hw]
        cases h2 : zcL A L i w
        · rw [if_neg (by decide)]
          refine br_f (by decide) ?_
          conv => whnf
          exact hG _ _ _ _ (no (by rw [h1, h2]; rfl))
        · rw [if_pos rfl]
          refine br_t rfl ?_
          conv => whnf
          exact ⟨rfl, Or.inl ⟨i, by omega, by simp only [h1, h2]; rfl, hno, hx3⟩⟩
  refine zSp.of rfl (Nat.le_of_ble_eq_true rfl) (zg_X8_clusterOf_0 fun G C hG hC => ?_)
  conv => whnf
  exact hG _ _ _ _ (loop L.length 0 0 (by omega) rfl (fun q hq => absurd hq (Nat.not_lt_zero q)))
theorem sm_isHinge {L : List (Nat × Nat)} (hL : zmcl A L σ) (hlen : L.length ≤ 276) {u : Nat} (hu : u < 24) : zSp E (d + 1) zM_X8_isHinge [.inr (8, 48), .inl (nI u)] σ (fun r σ' => σ' = σ ∧ r = if 2 ≤ fb_ct (fun i => zcL A L i u) L.length then 1 else 0) := by
  obtain ⟨h5, hx⟩ := hL
  have loop : ∀ r i (x2 x3 : Int32), i + r = L.length → x2 = nI (fb_ct (fun i => zcL A L i u) i) → x3 = nI i → zWp E (d + 1) zM_X8_isHinge (fun r σ' => σ' = σ ∧ r = if 2 ≤ fb_ct (fun i => zcL A L i u) L.length then 1 else 0) 4 [some (.inr (8, 48)), some (.inl (nI u)), some (.inl x2), some (.inl x3)] [] σ := by
    intro r
    induction r with
    | zero =>
      intro i x2 x3 hi hx2 hx3
      have hi : i = L.length := by omega
      subst hi
      have := fb_ct_le (fun i => zcL A L i u) L.length
      refine zg_X8_isHinge_4 fun G C hG hC => ?_
      conv => whnf
      refine pk_le L.length L.length (fun _ => ?_) (fun _ => by omega) h5 hx3
      conv => whnf
      refine pk_le (fb_ct (fun i => zcL A L i u) L.length) 1 (fun h => ?_) (fun h => ?_) hx2 rfl
      · conv => whnf
        exact ⟨Or.inl rfl, rfl, by rw [if_neg (by omega)]⟩
      · conv => whnf
        exact ⟨Or.inr rfl, rfl, by rw [if_pos (by omega)]⟩
    | succ r ih =>
      intro i x2 x3 hi hx2 hx3
      have he : σ 63 i = zmk (zcL A L i) := hx i (by omega)
      refine zg_X8_isHinge_4 fun G C hG hC => ?_
      conv => whnf
      refine pk_le L.length i (fun _ => by omega) (fun _ => ?_) h5 hx3
      conv => whnf
      refine ⟨pk_in i 576 (by omega) hx3, ?_⟩
      conv => whnf
      dsimp only
      rw [pk_cl i hx3, he, zbitv (by omega), zmk_bt _ hu]
      refine hG _ _ _ _ (ih (i + 1) _ _ (by omega) ?_ (by rw [hx3, nI_1]))
      rw [hx2, fb_ct_succ]
      cases h1 : zcL A L i u
      · exact nI_add _ 0
      · exact nI_add _ 1
  refine zSp.of rfl (Nat.le_of_ble_eq_true rfl) (zg_X8_isHinge_0 fun G C hG hC => ?_)
  conv => whnf
  exact hG _ _ _ _ (loop L.length 0 0 0 (by omega) rfl rfl)
end zQ
