/-! the reference: keeps, ranks, rank, freedom, kept -/
theorem zmb.cong {k l n : Nat} {F F' : (Nat → Bool) → Nat} {σ : zST} (h : zmb k l n F σ) (e : ∀ V, F V = F' V) : zmb k l n F' σ := by
  obtain ⟨h1, h2, ea, eb, le, h3, h4⟩ := h
  exact ⟨h1, h2, ea, eb, le, h3, fun V => by rw [h4, e]⟩
theorem zmb.agw {k l n : Nat} {F : (Nat → Bool) → Nat} {js fs : List Nat} {σ σ' : zST} (h : zmb k l n F σ) (hag : zagw js fs σ σ') (hd : ∀ q, q ∈ js → q < 54 ∨ 58 ≤ q) (hf : ∀ f, f ∈ fs → f < 11 ∨ 14 ≤ f) : zmb k l n F σ' := by
  have e : ∀ q, 54 ≤ q → q < 58 → σ' q = σ q := fun q h1 h2 => hag.1 q (fun e => by have := hd q e; omega) (by omega)
  have e' : ∀ f, 11 ≤ f → f < 14 → σ' 48 f = σ 48 f := fun f h1 h2 => hag.2 f (fun e => by have := hf f e; omega)
  unfold zmb zmo at *
  rw [e' 11 (by decide) (by decide), e' 12 (by decide) (by decide), e' 13 (by decide) (by decide), e 54 (by decide) (by decide), e 55 (by decide) (by decide), e 56 (by decide) (by decide), e 57 (by decide) (by decide)]
  exact h
theorem zmb.n {k l n : Nat} {F : (Nat → Bool) → Nat} {σ : zST} (h : zmb k l n F σ) : σ 48 11 = nI n := by
  obtain ⟨-, -, ea, eb, le, h3, -⟩ := h
  exact h3.2.2.1
def zwo (A : zAS) (wo : Int32) : zAS := (zan A, zam A, zaa A, zab A, zac A, fun x => zat A x && !decide (nI x = wo))
abbrev zkj : List Nat := [54, 55, 56, 57, 58, 59]
/-- after keeps -/
def zkeep (A : zAS) (k l : Nat) (σ : zST) : Prop := zmb k l (zrk A false k l) (zib (zaa A) (zab A) (zam A) (zK A false k l)) σ ∧ ∀ x, x < zam A → σ 59 x = if zK A false k l x = true then 1 else 0
section zQ
variable {E : zEN} {d : Nat} {A : zAS} {rf : Nat → Int32} {σ : zST}
theorem sm_keeps (hI : zmf A rf σ) {k l : Nat} {wo : Int32} (hk : k ≤ 3) (hl : l < 6) : zSp E (d + 28) zM_X8_keeps [.inr (8, 48), .inl (nI k), .inl (nI l), .inl wo] σ (fun r σ' => zagw zkj [11, 12, 13] σ σ' ∧ zkeep (zwo A wo) k l σ' ∧ r = nI (zrk (zwo A wo) false k l)) := by
  have hn := hI.1.1
  have hm := hI.1.2.1
  have hv := hI.1.2.2
  have loop : ∀ r i (x4 : Int32) (σ' : zST), i + r = zam A → x4 = nI i → zagw zkj [11, 12, 13] σ σ' → zmb k l (fb_ct (zkp (zaa A) (zab A) (zam A) k l (zord false (zac A) (zat (zwo A wo)) i)) (zam A)) (zib (zaa A) (zab A) (zam A) (zkp (zaa A) (zab A) (zam A) k l (zord false (zac A) (zat (zwo A wo)) i))) σ' → (∀ y, y < i → σ' 59 y = if zkp (zaa A) (zab A) (zam A) k l (zord false (zac A) (zat (zwo A wo)) i) y = true then 1 else 0) → zWp E (d + 28) zM_X8_keeps (fun r σ' => zagw zkj [11, 12, 13] σ σ' ∧ zkeep (zwo A wo) k l σ' ∧ r = nI (zrk (zwo A wo) false k l)) 9 [some (.inr (8, 48)), some (.inl (nI k)), some (.inl (nI l)), some (.inl wo), some (.inl x4)] [] σ' := by
    intro r
    induction r with
    | zero =>
      intro i x4 σ' hi hx4 hag hM hK
      have hI' := hI.agw hag (by simp) (by simp)
      have hi : i = zam A := by omega
      subst hi
      refine zg_X8_keeps_9 fun G C hG hC => ?_
      conv => whnf
      refine pk_le (zam A) (zam A) (fun _ => ?_) (fun _ => by omega) hI'.2.2.1 hx4
      conv => whnf
      exact ⟨hag, ⟨hM, hK⟩, hM.n⟩
    | succ r ih =>
      intro i x4 σ' hi hx4 hag hM hK
      have hI' := hI.agw hag (by simp) (by simp)
      have hx := hI'.2.2.2.1 i (by omega)
      have hvx := hv i (by omega)
      refine zg_X8_keeps_9 fun G C hG hC => ?_
      conv => whnf
      refine pk_le (zam A) i (fun _ => by omega) (fun _ => ?_) hI'.2.2.1 hx4
      conv => whnf
      have hKi : zkp (zaa A) (zab A) (zam A) k l (zord false (zac A) (zat (zwo A wo)) i) i = false := by
        cases h : zkp (zaa A) (zab A) (zam A) k l (zord false (zac A) (zat (zwo A wo)) i) i
        · rfl
        · have := (zord_mem false (zac A) (zat (zwo A wo)) i i).mp (zkp_in _ _ h)
          omega
      -- not taken
      have no : ∀ σ2, zagw zkj [11, 12, 13] σ σ2 → (∀ y, y < i → σ2 59 y = σ' 59 y) → zmb k l (fb_ct (zkp (zaa A) (zab A) (zam A) k l (zord false (zac A) (zat (zwo A wo)) i)) (zam A)) (zib (zaa A) (zab A) (zam A) (zkp (zaa A) (zab A) (zam A) k l (zord false (zac A) (zat (zwo A wo)) i))) σ2 → zkp (zaa A) (zab A) (zam A) k l (zord false (zac A) (zat (zwo A wo)) (i + 1)) = zkp (zaa A) (zab A) (zam A) k l (zord false (zac A) (zat (zwo A wo)) i) → zWp E (d + 28) zM_X8_keeps (fun r σ' => zagw zkj [11, 12, 13] σ σ' ∧ zkeep (zwo A wo) k l σ' ∧ r = nI (zrk (zwo A wo) false k l)) 9 [some (.inr (8, 48)), some (.inl (nI k)), some (.inl (nI l)), some (.inl wo), some (.inl (x4 + 1))] [] (zup σ2 59 i 0) := by
        intro σ2 hag2 h59 hM2 hst
        refine ih (i + 1) _ _ (by omega) (by rw [hx4, nI_1]) (hag2.up (by simp) (by decide)) ?_ ?_
        · rw [hst]
          exact hM2.agw (js := [59]) (fs := []) (zagw.rf.up (by simp) (by decide)) (by simp) (by simp)
        · intro y hy
          rw [hst, zup_self]
          by_cases e : y = i
          · subst e; rw [pk_us, hKi]; rfl
          · rw [pk_un e, h59 y (by omega)]; exact hK y (by omega)
      refine ⟨pk_in i 80 (by omega) hx4, ?_⟩
      conv => whnf
      dsimp only
      rw [pk_cl i hx4, hx.2.2.2]
      cases ht : zat A i
      · have ht' : zat (zwo A wo) i = false := by show (zat A i && _) = false; rw [ht]; rfl
        rw [if_neg (by decide)]
        refine br_t rfl ?_
        conv => whnf
        refine ⟨pk_in i 80 (by omega) hx4, Or.inl rfl, ?_⟩
        conv => whnf
        dsimp only
        rw [pk_cl i hx4]
        exact hG _ _ _ _ (no σ' hag (fun _ _ => rfl) hM (by rw [zord_skip _ _ _ _ ht']))
      · rw [if_pos rfl]
        refine br_f (by decide) ?_
        conv => whnf
        refine ⟨fun hw => ?_, fun hw => ?_⟩
        · have hw : x4 = wo := hw
          have ht' : zat (zwo A wo) i = false := by show (zat A i && !decide (nI i = wo)) = false; rw [ht, ← hx4, hw]; simp
          conv => whnf
          refine ⟨pk_in i 80 (by omega) hx4, Or.inl rfl, ?_⟩
          conv => whnf
          dsimp only
          rw [pk_cl i hx4]
          exact hG _ _ _ _ (no σ' hag (fun _ _ => rfl) hM (by rw [zord_skip _ _ _ _ ht']))
        · have hw : ¬ x4 = wo := hw
          have ht' : zat (zwo A wo) i = true := by show (zat A i && !decide (nI i = wo)) = true; rw [ht, ← hx4]; simp [hw]
          have hst : zkp (zaa A) (zab A) (zam A) k l (zord false (zac A) (zat (zwo A wo)) (i + 1)) = zst1 (zaa A) (zab A) (zam A) k l (zkp (zaa A) (zab A) (zam A) k l (zord false (zac A) (zat (zwo A wo)) i)) i := by rw [zord_app _ _ _ ht', zkp_snoc]
          conv => whnf
          refine ⟨pk_in i 80 (by omega) hx4, ?_⟩
          conv => whnf
          refine ⟨pk_in i 80 (by omega) hx4, ?_⟩
          conv => whnf
          dsimp only
          rw [pk_cl i hx4, hx.1, hx.2.1]
          refine hC _ _ _ _ ((sp_isFree (d := d) hM (by omega) (by omega) (by omega) (Or.inr rfl)).conseq ?_)
          rintro r σ2 ⟨hag2, hr⟩
          have hag3 : zagw zkj [11, 12, 13] σ σ2 := hag.tr (hag2.sub (by simp) (by simp))
          have h59 : σ2 59 = σ' 59 := hag2.1 59 (by simp) (by decide)
          conv => whnf
          rcases hr with ⟨rfl, hf, hM2, -⟩ | ⟨rfl, hf, hM2⟩
          · refine br_f (by decide) ?_
            conv => whnf
            refine ⟨pk_in i 80 (by omega) hx4, Or.inr rfl, ?_⟩
            conv => whnf
            dsimp only
            rw [pk_cl i hx4]
            have hst' := hst.trans (zst1_t hf)
            refine hG _ _ _ _ (ih (i + 1) _ _ (by omega) (by rw [hx4, nI_1]) (hag3.up (by simp) (by decide)) ?_ ?_)
            · rw [hst', fb_ct_add1 (by omega) hKi]
              exact ((hM2 rfl).cong (fun V => by rw [zib_add (by omega) hKi]; rfl)).agw (js := [59]) (fs := []) (zagw.rf.up (by simp) (by decide)) (by simp) (by simp)
            · intro y hy
              rw [hst', zup_self]
              by_cases e : y = i
              · subst e; rw [pk_us]; simp
              · rw [pk_un e, h59]
                have := hK y (by omega)
                simp only [e, if_false]
                exact this
          · refine br_t rfl ?_
            conv => whnf
            refine ⟨pk_in i 80 (by omega) hx4, Or.inl rfl, ?_⟩
            conv => whnf
            dsimp only
            rw [pk_cl i hx4]
            exact hG _ _ _ _ (no σ2 hag3 (fun y _ => by rw [h59]) hM2 (hst.trans (zst1_f hf)))
  refine zSp.of rfl (Nat.le_of_ble_eq_true rfl) (zg_X8_keeps_0 fun G C hG hC => ?_)
  conv => whnf
  refine hC _ _ _ _ ((sp_begins (d := d + 26) hk hl).conseq ?_)
  rintro r σ2 ⟨h1, h2⟩
  conv => whnf
  refine hG _ _ _ _ (loop (zam A) 0 0 σ2 (by omega) rfl (h1.sub (by simp) (by simp)) ?_ (fun y hy => absurd hy (Nat.not_lt_zero y)))
  have e0 : fb_ct (zkp (zaa A) (zab A) (zam A) k l (zord false (zac A) (zat (zwo A wo)) 0)) (zam A) = 0 := fb_ct_zero.mpr (fun _ _ => rfl)
  rw [e0]
  exact h2.cong (fun V => (fb_ct_zero.mpr (fun _ _ => rfl)).symm)
theorem zord_cong {bc : Bool} {c : Nat → Nat} {t t' : Nat → Bool} : ∀ {m : Nat}, (∀ x, x < m → t x = t' x) → zord bc c t m = zord bc c t' m
  | 0, _ => rfl
  | m + 1, h => by
    have ih := zord_cong (bc := bc) (c := c) (t := t) (t' := t') (m := m) (fun x hx => h x (by omega))
    unfold zord
    rw [h m (by omega), ih]
theorem zwo_none (hm : zam A ≤ 80) (k l : Nat) : zK (zwo A (-1)) false k l = zK A false k l := by
  unfold zK
  have : zord false (zac (zwo A (-1))) (zat (zwo A (-1))) (zam (zwo A (-1))) = zord false (zac A) (zat A) (zam A) := by
    show zord false (zac A) (zat (zwo A (-1))) (zam A) = zord false (zac A) (zat A) (zam A)
    refine zord_cong fun x hx => ?_
    show (zat A x && !decide (nI x = -1)) = zat A x
    have : ¬ nI x = -1 := fun e => by
      have e1 : (nI x).toInt = (-1 : Int32).toInt := by rw [e]
      rw [nI_toInt (by omega)] at e1
      have : (-1 : Int32).toInt = -1 := rfl
      omega
    simp [this]
  rw [this]
  rfl
theorem zkeep_none (hm : zam A ≤ 80) {k l : Nat} (h : zkeep (zwo A (-1)) k l σ) : zkeep A k l σ := by
  unfold zkeep zrk at *
  rw [zwo_none hm] at h
  exact h
theorem sm_keeps1 (hI : zmf A rf σ) {k l : Nat} (hk : k ≤ 3) (hl : l < 6) : zSp E (d + 28) zM_X8_keeps [.inr (8, 48), .inl (nI k), .inl (nI l), .inl (-1)] σ (fun r σ' => zagw zkj [11, 12, 13] σ σ' ∧ zkeep A k l σ' ∧ r = nI (zrk A false k l)) := by
  refine (sm_keeps hI hk hl).conseq ?_
  rintro r σ' ⟨h1, h2, rfl⟩
  refine ⟨h1, zkeep_none hI.1.2.1 h2, ?_⟩
  unfold zrk
  rw [zwo_none hI.1.2.1]
  rfl
theorem sm_ranks (hI : zmf A rf σ) : zSp E (d + 29) zM_X8_ranks [.inr (8, 48)] σ (fun r σ' => zagw zkj [11, 12, 13] σ σ' ∧ zkeep A 2 3 σ' ∧ r = nI (zrk A false 2 3)) := by
  refine zSp.of rfl (Nat.le_of_ble_eq_true rfl) (zg_X8_ranks_0 fun G C hG hC => ?_)
  conv => whnf
  refine hC _ _ _ _ ((sm_keeps1 (d := d) (k := 2) (l := 3) hI (by decide) (by decide)).conseq ?_)
  intro r σ' hq
  conv => whnf
  exact hq
theorem sm_rank (hI : zmf A rf σ) : zSp E (d + 40) zM_X8_rank [.inr (8, 48)] σ (zMP A rf (.inr (nI (zrk A false 2 3))) σ) := by
  refine zSp.of rfl (Nat.le_of_ble_eq_true rfl) (zg_X8_rank_0 fun G C hG hC => ?_)
  conv => whnf
  refine hC _ _ _ _ ((sm_ranks (d := d + 10) hI).conseq ?_)
  rintro r σ' ⟨h1, h2, rfl⟩
  conv => whnf
  exact ⟨h1.lo (by simp), hI.agw h1 (by simp) (by simp), rfl⟩
end zQ
