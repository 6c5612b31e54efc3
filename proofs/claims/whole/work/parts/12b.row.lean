/-! the frame and a row of it -/
/-- joints, bars, their ends, costs, those there -/
abbrev zAS : Type := Nat × Nat × (Nat → Nat) × (Nat → Nat) × (Nat → Nat) × (Nat → Bool)
abbrev zan (A : zAS) : Nat := A.1
abbrev zam (A : zAS) : Nat := A.2.1
abbrev zaa (A : zAS) : Nat → Nat := A.2.2.1
abbrev zab (A : zAS) : Nat → Nat := A.2.2.2.1
abbrev zac (A : zAS) : Nat → Nat := A.2.2.2.2.1
abbrev zat (A : zAS) : Nat → Bool := A.2.2.2.2.2
def zvd (A : zAS) : Prop := zan A ≤ 24 ∧ zam A ≤ 80 ∧ ∀ x, x < zam A → zaa A x < zab A x ∧ zab A x < zan A ∧ zac A x < 1000
theorem zvd.eo {A : zAS} (h : zvd A) : zeo (zaa A) (zab A) (zam A) := fun x hx => by
  obtain ⟨h1, h2, h3⟩ := h
  have := h3 x hx
  omega
def zcf (A : zAS) (ch : Nat) (σ : zST) : Prop := zvd A ∧ ch < 2 ^ 30 ∧ σ 1 5 = nI (zan A) ∧ σ 1 6 = nI (zam A) ∧ σ 1 7 = nI (fb_ct (zat A) (zam A)) ∧ σ 1 8 = nI ch ∧ (∀ x, x < zam A → σ 2 x = nI (zaa A x) ∧ σ 3 x = nI (zab A x) ∧ σ 4 x = nI (zac A x) ∧ σ 5 x = if zat A x = true then 1 else 0) ∧ ∀ u, u < 24 → ∀ w, w < 24 → (bt (σ 6 u) w = true ↔ ∃ x, x < zam A ∧ ((zaa A x = u ∧ zab A x = w) ∨ (zaa A x = w ∧ zab A x = u)))
theorem zcf.agr {A : zAS} {ch : Nat} {σ σ' : zST} {js : List Nat} (h : zcf A ch σ) (hag : zagr js σ σ') (hd : ∀ j, j ∈ js → 7 ≤ j) : zcf A ch σ' := by
  have e : ∀ q, q < 7 → σ' q = σ q := fun q hq => hag q (fun hm => by have := hd q hm; omega)
  unfold zcf
  rw [e 1 (by omega), e 2 (by omega), e 3 (by omega), e 4 (by omega), e 5 (by omega), e 6 (by omega)]
  exact h
noncomputable def zK (A : zAS) (bc : Bool) (k l : Nat) : Nat → Bool := zkp (zaa A) (zab A) (zam A) k l (zord bc (zac A) (zat A) (zam A))
abbrev zL (A : zAS) (bc : Bool) : List Nat := zord bc (zac A) (zat A) (zam A)
def zrow (A : zAS) (ch j : Nat) (bc : Bool) (k l : Nat) (σ : zST) : Prop := σ j 8 = nI ch ∧ σ j 6 = nI k ∧ σ j 7 = nI l ∧ σ j 9 = nI (fb_ct (zK A bc k l) (zam A)) ∧ (∀ x, x < 80 → σ (j + 5) x = if zK A bc k l x = true then 1 else 0) ∧ zbd (j + 1) k l (zib (zaa A) (zab A) (zam A) (zK A bc k l)) σ ∧ (k = 2 → l = 3 → ∀ x, x < zam A → zat A x = true → zK A bc k l x = false → zring (zaa A) (zab A) (zam A) (zK A bc k l) x (σ (j + 6) x))
/-- a row as it may stand between calls -/
def zri (A : zAS) (ch j : Nat) (bc : Bool) (σ : zST) : Prop := (σ j 5 = if bc = true then 1 else 0) ∧ (σ j 8 = -1 ∨ ∃ q, q ≤ ch ∧ σ j 8 = nI q) ∧ (σ j 8 = nI ch → ∃ k l, k ≤ 3 ∧ l < 6 ∧ zrow A ch j bc k l σ)
abbrev zrj (j : Nat) : List Nat := [j, j + 1, j + 2, j + 3, j + 4, j + 5, j + 6, j + 7]
theorem zrj_ge {j : Nat} (hj : 7 ≤ j) : ∀ q, q ∈ zrj j → 7 ≤ q := fun q hq => by
  simp only [zrj, List.mem_cons, List.not_mem_nil, or_false] at hq
  omega
theorem ztake {L : List Nat} {i : Nat} (h : i < L.length) : L.take (i + 1) = L.take i ++ [L.getD i 0] := by
  rw [List.take_succ, List.getD_eq_getElem?_getD, List.getElem?_eq_getElem h]; rfl
theorem zL_lt {A : zAS} {bc : Bool} {x : Nat} (h : x ∈ zL A bc) : x < zam A ∧ zat A x = true := (zord_mem _ _ _ _ _).mp h
theorem zgetD_mem {L : List Nat} {i : Nat} (h : i < L.length) : L.getD i 0 ∈ L := by
  rw [List.getD_eq_getElem?_getD, List.getElem?_eq_getElem h]; exact List.getElem_mem h
theorem zsub1 {p : Nat} (h : 1 ≤ p) : nI p - 1 = nI (p - 1) := by
  obtain ⟨q, rfl⟩ : ∃ q, p = q + 1 := ⟨p - 1, by omega⟩
  rw [nI_pred]; rfl
set_option maxHeartbeats 4000000 in
theorem sp_lineUp {E : zEN} {d j ch : Nat} {A : zAS} {bc : Bool} {σ : zST} (hj : 7 ≤ j) (hF : zcf A ch σ) (hbc : σ j 5 = if bc = true then 1 else 0) : zSp E (d + 1) zM_X5_lineUp [.inr (5, j)] σ (fun r σ' => zagr [j + 7] σ σ' ∧ r = nI (zL A bc).length ∧ ∀ i, i < (zL A bc).length → σ' (j + 7) i = nI ((zL A bc).getD i 0)) := by
  have hF0 := hF
  obtain ⟨⟨hn24, hm80, hv⟩, hch, f1, f2, f3, f4, f5, f6⟩ := hF
  refine zSp.of rfl (Nat.le_of_ble_eq_true rfl) ?_
  have loop : ∀ r i (x1 x2 : Int32) (x3 : Option zAV) (σ' : zST), i + r = zam A → x1 = nI (zord bc (zac A) (zat A) i).length → x2 = nI i → zagr [j + 7] σ σ' → (∀ q, q < (zord bc (zac A) (zat A) i).length → σ' (j + 7) q = nI ((zord bc (zac A) (zat A) i).getD q 0)) → zWp E (d + 1) zM_X5_lineUp (fun r σ' => zagr [j + 7] σ σ' ∧ r = nI (zL A bc).length ∧ ∀ i, i < (zL A bc).length → σ' (j + 7) i = nI ((zL A bc).getD i 0)) 4 [some (.inr (5, j)), some (.inl x1), some (.inl x2), x3] [] σ' := by
    intro r
    induction r with
    | zero =>
      intro i x1 x2 x3 σ' hi hx1 hx2 hag hq
      have e1 : σ' 1 = σ 1 := hag 1 (by simp <;> omega)
      refine zg_X5_lineUp_4 fun G C hG hC => ?_
      conv => whnf
      refine pk_le (zam A) i (fun _ => ?_) (fun _ => by omega) (by rw [e1]; exact f2) hx2
      conv => whnf
      have : i = zam A := by omega
      subst this
      exact ⟨hag, hx1, hq⟩
    | succ r ih =>
      intro i x1 x2 x3 σ' hi hx1 hx2 hag hq
      have hF' := hF0.agr hag (by simp <;> omega)
      obtain ⟨-, -, g1, g2, g3, g4, g5, g6⟩ := hF'
      have hlen := zord_len bc (zac A) (zat A) i
      have hlen2 := fb_ct_le (zat A) i
      refine zg_X5_lineUp_4 fun G C hG hC => ?_
      conv => whnf
      refine pk_le (zam A) i (fun _ => by omega) (fun _ => ?_) g2 hx2
      conv => whnf
      refine ⟨pk_in i 80 (by omega) hx2, ?_⟩
      conv => whnf
      dsimp only
      rw [pk_cl i hx2, (g5 i (by omega)).2.2.2]
      have hnext : x2 + 1 = nI (i + 1) := by rw [hx2, nI_1]
      cases ht : zat A i
      · rw [if_neg (by decide)]
        refine br_t rfl ?_
        conv => whnf
        refine hG _ _ _ _ (ih (i + 1) _ _ _ _ (by omega) ?_ hnext hag ?_)
        · rw [zord_skip _ _ _ _ ht]; exact hx1
        · rw [zord_skip _ _ _ _ ht]; exact hq
      · rw [if_pos rfl]
        refine br_f (by decide) ?_
        conv => whnf
        have hord : zord bc (zac A) (zat A) (i + 1) = zins (zord bc (zac A) (zat A) i) (zpp bc (zac A) (zord bc (zac A) (zat A) i) i) i := by
          show (if zat A i = true then _ else _) = _
          rw [if_pos ht]
        -- put in at its place
        have place : ∀ (G : Nat → zKT) (C : zCT) (p : Nat) (x3 : Int32) (σ2 : zST), (∀ pc L S σ1, zWp E (d + 1) zM_X5_lineUp (fun r σ' => zagr [j + 7] σ σ' ∧ r = nI (zL A bc).length ∧ ∀ i, i < (zL A bc).length → σ' (j + 7) i = nI ((zL A bc).getD i 0)) pc L S σ1 → G pc L S σ1) → p = zpp bc (zac A) (zord bc (zac A) (zat A) i) i → x3 = nI p → zagr [j + 7] σ σ2 → (∀ q, q < p → σ2 (j + 7) q = nI ((zord bc (zac A) (zat A) i).getD q 0)) → (∀ q, p < q → q ≤ (zord bc (zac A) (zat A) i).length → σ2 (j + 7) q = nI ((zord bc (zac A) (zat A) i).getD (q - 1) 0)) → zB_X5_lineUp_91 G C (fun r σ' => zagr [j + 7] σ σ' ∧ r = nI (zL A bc).length ∧ ∀ i, i < (zL A bc).length → σ' (j + 7) i = nI ((zL A bc).getD i 0)) [some (.inr (5, j)), some (.inl x1), some (.inl x2), some (.inl x3)] [] σ2 := by
          intro G C p x3 σ2 hG hp hx3 hag2 h1 h2
          have hple := zpp_le bc (zac A) (zord bc (zac A) (zat A) i) i
          conv => whnf
          refine ⟨pk_in p 80 (by omega) hx3, ?_⟩
          conv => whnf
          dsimp only
          rw [pk_cl p hx3]
          refine hG _ _ _ _ (ih (i + 1) _ _ _ _ (by omega) ?_ hnext (hag2.up (by simp)) ?_)
          · rw [hord, zins_len, hx1, nI_1]
          · intro q hq1
            rw [hord] at hq1 ⊢
            rw [zins_len] at hq1
            rw [zup_self, zins_get hple, ← hp]
            by_cases e : q = p
            · subst e; rw [pk_us, if_neg (Nat.lt_irrefl _), if_pos rfl, hx2]
            · rw [pk_un e]
              by_cases hlt : q < p
              · rw [if_pos hlt]; exact h1 q hlt
              · rw [if_neg hlt, if_neg e]; exact h2 q (by omega) (by omega)
        have inner : ∀ p (x3 : Int32) (σ2 : zST), p ≤ (zord bc (zac A) (zat A) i).length → x3 = nI p → zagr [j + 7] σ σ2 → (bc = false → p = (zord bc (zac A) (zat A) i).length) → (bc = true → zpos (zac A) (zac A i) (zord bc (zac A) (zat A) i) (zord bc (zac A) (zat A) i).length = zpos (zac A) (zac A i) (zord bc (zac A) (zat A) i) p) → (∀ q, q < p → σ2 (j + 7) q = nI ((zord bc (zac A) (zat A) i).getD q 0)) → (∀ q, p < q → q ≤ (zord bc (zac A) (zat A) i).length → σ2 (j + 7) q = nI ((zord bc (zac A) (zat A) i).getD (q - 1) 0)) → zWp E (d + 1) zM_X5_lineUp (fun r σ' => zagr [j + 7] σ σ' ∧ r = nI (zL A bc).length ∧ ∀ i, i < (zL A bc).length → σ' (j + 7) i = nI ((zL A bc).getD i 0)) 32 [some (.inr (5, j)), some (.inl x1), some (.inl x2), some (.inl x3)] [] σ2 := by
          intro p
          induction p with
          | zero =>
            intro x3 σ2 hp hx3 hag2 hb0 hb1 h1 h2
            have e5 : σ2 j 5 = if bc = true then 1 else 0 := by rw [hag2 j (by simp)]; exact hbc
            refine zg_X5_lineUp_32 fun G C hG hC => ?_
            conv => whnf
            dsimp only
            rw [e5]
            cases hbv : bc
            · rw [if_neg (by decide)]
              refine br_t rfl ?_
              subst hbv
              exact place G C 0 x3 σ2 hG (hb0 rfl) hx3 hag2 h1 h2
            · rw [if_pos rfl]
              refine br_f (by decide) ?_
              conv => whnf
              refine br_t (by rw [hx3]; decide) ?_
              subst hbv
              refine place G C 0 x3 σ2 hG ?_ hx3 hag2 h1 h2
              show 0 = zpp true _ _ _
              unfold zpp
              rw [if_pos rfl, hb1 rfl]; rfl
          | succ p ihp =>
            intro x3 σ2 hp hx3 hag2 hb0 hb1 h1 h2
            have e5 : σ2 j 5 = if bc = true then 1 else 0 := by rw [hag2 j (by simp)]; exact hbc
            refine zg_X5_lineUp_32 fun G C hG hC => ?_
            conv => whnf
            dsimp only
            rw [e5]
            cases hbv : bc
            · rw [if_neg (by decide)]
              refine br_t rfl ?_
              subst hbv
              exact place G C (p + 1) x3 σ2 hG (hb0 rfl) hx3 hag2 h1 h2
            · rw [if_pos rfl]
              refine br_f (by decide) ?_
              conv => whnf
              refine br_f (by rw [hx3]; exact nI_nle (by omega) (by omega)) ?_
              conv => whnf
              have hx3' : x3 - 1 = nI p := by rw [hx3, nI_pred]
              have hmem : (zord bc (zac A) (zat A) i).getD p 0 ∈ zord bc (zac A) (zat A) i := zgetD_mem (by omega)
              have hmb := (zord_mem bc (zac A) (zat A) i _).mp hmem
              have e7 : σ2 (j + 7) (x3 - 1).toNatClampNeg = nI ((zord bc (zac A) (zat A) i).getD p 0) := by rw [hx3', nI_clamp (by omega)]; exact h1 p (by omega)
              have e4 : σ2 4 = σ 4 := hag2 4 (by simp <;> omega)
              refine ⟨pk_in p 80 (by omega) hx3', ?_⟩
              conv => whnf
              refine ⟨pk_in _ 80 (by omega) e7, ?_⟩
              conv => whnf
              refine ⟨pk_in i 80 (by omega) hx2, ?_⟩
              conv => whnf
              dsimp only
              rw [e7, pk_cl i hx2, e4, nI_clamp (by omega), (f5 _ (by omega : (zord bc (zac A) (zat A) i).getD p 0 < zam A)).2.2.1, (f5 i (by omega)).2.2.1]
              have hc1 := (hv _ (by omega : (zord bc (zac A) (zat A) i).getD p 0 < zam A)).2.2
              have hc2 := (hv i (by omega)).2.2
              refine pk_le (zac A ((zord bc (zac A) (zat A) i).getD p 0)) (zac A i) (fun hle => ?_) (fun hlt => ?_)
              · subst hbv
                refine place G C (p + 1) x3 σ2 hG ?_ hx3 hag2 h1 h2
                show p + 1 = zpp true _ _ _
                unfold zpp
                rw [if_pos rfl, hb1 rfl]
                show p + 1 = if zac A i < zac A ((zord true (zac A) (zat A) i).getD p 0) then _ else p + 1
                rw [if_neg (by omega)]
              · conv => whnf
                refine ⟨pk_in p 80 (by omega) hx3', ?_⟩
                conv => whnf
                refine ⟨pk_in (p + 1) 80 (by omega) hx3, ?_⟩
                conv => whnf
                dsimp only
                rw [e7, pk_cl (p + 1) hx3]
                refine hG _ _ _ _ (ihp _ _ (by omega) (by rw [hx3]; exact pk_m1 p) (hag2.up (by simp)) (fun h => by rw [hbv] at h; cases h) (fun hb => ?_) (fun q hq1 => ?_) (fun q hq1 hq2 => ?_))
                · rw [hb1 hb]
                  show (if zac A i < zac A ((zord bc (zac A) (zat A) i).getD p 0) then _ else p + 1) = _
                  rw [if_pos hlt]
                · rw [zup_self, pk_un (by omega)]; exact h1 q (by omega)
                · rw [zup_self]
                  by_cases e : q = p + 1
                  · subst e; rw [pk_us]; rfl
                  · rw [pk_un e]; exact h2 q (by omega) hq2
        exact hG _ _ _ _ (inner _ _ σ' (Nat.le_refl _) hx1 hag (fun _ => rfl) (fun _ => rfl) hq (fun q h1 h2 => by omega))
  refine zg_X5_lineUp_0 fun G C hG hC => ?_
  conv => whnf
  exact hG _ _ _ _ (loop (zam A) 0 _ _ _ _ (by omega) rfl rfl zagr.rf (fun q hq => absurd hq (Nat.not_lt_zero q)))
