/-! Frame: tied, within; Row: isLeft, inCircuit, circuitLength, circuitAt, isSpare, countSpare, costOfKept -/
theorem sp_tied {E : zEN} {d u w : Nat} {σ : zST} (hu : u < 24) (hw : w < 24) : zSp E (d + 2) zM_X2_tied [.inr (2, 1), .inl (nI u), .inl (nI w)] σ (fun r σ' => σ' = σ ∧ r = if bt (σ 6 u) w = true then 1 else 0) := by
  refine zSp.of rfl (Nat.le_of_ble_eq_true rfl) (zg_X2_tied_0 fun G C hG hC => ?_)
  conv => whnf
  refine ⟨pk_in u 24 hu, ?_⟩
  conv => whnf
  refine hC _ _ _ _ ((sp_has (v := w) (by omega)).conseq ?_)
  rintro r σ' ⟨rfl, rfl⟩
  conv => whnf
  dsimp only
  rw [nI_clamp (by omega : u < 2 ^ 31)]
  refine ⟨?_, rfl, rfl⟩
  split
  · exact Or.inr rfl
  · exact Or.inl rfl
theorem sp_within {E : zEN} {d ch x : Nat} {A : zAS} {s : Int32} {σ : zST} (hF : zcf A ch σ) (hx : x < zam A) : zSp E (d + 2) zM_X2_within [.inr (2, 1), .inl (nI x), .inl s] σ (fun r σ' => σ' = σ ∧ r = if zinb (zaa A) (zab A) (bt s) x = true then 1 else 0) := by
  obtain ⟨⟨hn24, hm80, hv⟩, hch, f1, f2, f3, f4, f5, f6⟩ := hF
  have hvx := hv x hx
  refine zSp.of rfl (Nat.le_of_ble_eq_true rfl) (zg_X2_within_0 fun G C hG hC => ?_)
  conv => whnf
  refine ⟨pk_in x 80 (by omega), ?_⟩
  conv => whnf
  dsimp only
  rw [nI_clamp (by omega : x < 2 ^ 31), (f5 x hx).1]
  refine hC _ _ _ _ ((sp_has (v := zaa A x) (by omega)).conseq ?_)
  rintro r σ' ⟨rfl, rfl⟩
  conv => whnf
  unfold zinb
  cases h1 : bt s (zaa A x)
  · rw [if_neg (by decide)]
    refine br_t rfl ?_
    conv => whnf
    exact ⟨Or.inl rfl, rfl, rfl⟩
  · rw [if_pos rfl]
    refine br_f (by decide) ?_
    conv => whnf
    refine ⟨pk_in x 80 (by omega), ?_⟩
    conv => whnf
    dsimp only
    rw [nI_clamp (by omega : x < 2 ^ 31), (f5 x hx).2.1]
    refine hC _ _ _ _ ((sp_has (v := zab A x) (by omega)).conseq ?_)
    rintro r σ' ⟨rfl, rfl⟩
    conv => whnf
    cases h2 : bt s (zab A x)
    · rw [if_neg (by decide)]
      refine br_t rfl ?_
      conv => whnf
      exact ⟨Or.inl rfl, rfl, rfl⟩
    · rw [if_pos rfl]
      refine br_f (by decide) ?_
      conv => whnf
      exact ⟨Or.inr rfl, rfl, rfl⟩
theorem zK_t {A : zAS} {bc : Bool} {k l x : Nat} (h : zK A bc k l x = true) : x < zam A ∧ zat A x = true := zL_lt (zkp_in _ _ h)
theorem zK_sp {A : zAS} {bc : Bool} {k l : Nat} (hl : l ≤ 2 * k) : zsp (zaa A) (zab A) (zam A) k l (zK A bc k l) := zkp_sp hl _ (zord_nodup _ _ _ _) (fun _ h => (zL_lt h).1)
theorem zK_max {A : zAS} {bc : Bool} {k l x : Nat} (hx : x < zam A) (ht : zat A x = true) (h : zK A bc k l x = false) : ¬ zfb (zaa A) (zab A) (zam A) k l (zK A bc k l) (zaa A x) (zab A x) := zkp_max _ _ ((zord_mem _ _ _ _ _).mpr ⟨hx, ht⟩) h
/-- f is in the circuit of a bar that is left -/
noncomputable def zci (A : zAS) (left f : Nat) : Bool := zK A false 2 3 f && @decide (zfb (zaa A) (zab A) (zam A) 2 3 (fun x => if x = f then false else zK A false 2 3 x) (zaa A left) (zab A left)) (Classical.propDecidable _)
theorem zci_ring {A : zAS} (hvd : zvd A) {left f : Nat} {r : Int32} (hl : left < zam A) (hf : f < zam A) (hr : zring (zaa A) (zab A) (zam A) (zK A false 2 3) left r) : zci A left f = (zK A false 2 3 f && zinb (zaa A) (zab A) (bt r) f) := by
  unfold zci
  cases hK : zK A false 2 3 f
  · rfl
  · obtain ⟨Kt, h1, h2, h3, h4, h5⟩ := hr
    obtain ⟨o1, o2, o3⟩ := hvd.eo left hl
    have h := zcirc hvd.eo o1 o2 o3 (zK_sp (by decide)) h1 h2 h3 h4 h5 hf hK
    simp only [Bool.true_and]
    cases hz : zinb (zaa A) (zab A) (bt r) f
    · rw [hz] at h
      exact @decide_eq_false _ (Classical.propDecidable _) (fun q => absurd (h.mp q) (by decide))
    · rw [hz] at h
      exact @decide_eq_true _ (Classical.propDecidable _) (h.mpr rfl)
noncomputable def zlf (A : zAS) (x : Nat) : Bool := zat A x && !zK A false 2 3 x
theorem sp_isLeft {E : zEN} {d ch x : Nat} {A : zAS} {σ : zST} (hF : zcf A ch σ) (hR : zrow A ch 7 false 2 3 σ) (hx : x < zam A) : zSp E (d + 1) zM_X5_isLeft [.inr (5, 7), .inl (nI x)] σ (fun r σ' => σ' = σ ∧ r = if zlf A x = true then 1 else 0) := by
  obtain ⟨⟨hn24, hm80, hv⟩, hch, f1, f2, f3, f4, f5, f6⟩ := hF
  obtain ⟨-, -, -, -, hkept, -, -⟩ := hR
  refine zSp.of rfl (Nat.le_of_ble_eq_true rfl) (zg_X5_isLeft_0 fun G C hG hC => ?_)
  conv => whnf
  refine ⟨pk_in x 80 (by omega), ?_⟩
  conv => whnf
  dsimp only
  rw [nI_clamp (by omega : x < 2 ^ 31), (f5 x hx).2.2.2]
  cases h1 : zat A x
  · rw [if_neg (by decide)]
    refine br_t rfl ?_
    conv => whnf
    exact ⟨Or.inl rfl, rfl, by simp [zlf, h1]⟩
  · rw [if_pos rfl]
    refine br_f (by decide) ?_
    conv => whnf
    refine ⟨pk_in x 80 (by omega), ?_⟩
    conv => whnf
    dsimp only
    rw [nI_clamp (by omega : x < 2 ^ 31), hkept x (by omega)]
    cases h2 : zK A false 2 3 x
    · rw [if_neg (by decide)]
      refine br_t rfl ?_
      conv => whnf
      exact ⟨Or.inr rfl, rfl, by simp [zlf, h1, h2]⟩
    · rw [if_pos rfl]
      refine br_f (by decide) ?_
      conv => whnf
      exact ⟨Or.inl rfl, rfl, by simp [zlf, h1, h2]⟩
theorem sp_inCircuit {E : zEN} {d ch x left : Nat} {A : zAS} {σ : zST} (hF : zcf A ch σ) (hR : zrow A ch 7 false 2 3 σ) (hx : x < zam A) (hl : left < zam A) (hlf : zlf A left = true) : zSp E (d + 3) zM_X5_inCircuit [.inr (5, 7), .inl (nI x), .inl (nI left)] σ (fun r σ' => σ' = σ ∧ r = if zci A left x = true then 1 else 0) := by
  have hF0 := hF
  obtain ⟨hvd, hch, f1, f2, f3, f4, f5, f6⟩ := hF
  have hm80 := hvd.2.1
  obtain ⟨-, -, -, -, hkept, -, hring⟩ := hR
  simp only [zlf, Bool.and_eq_true, Bool.not_eq_true'] at hlf
  have hci := zci_ring hvd hl hx (hring rfl rfl left hl hlf.1 hlf.2)
  refine zSp.of rfl (Nat.le_of_ble_eq_true rfl) (zg_X5_inCircuit_0 fun G C hG hC => ?_)
  conv => whnf
  refine ⟨pk_in x 80 (by omega), ?_⟩
  conv => whnf
  dsimp only
  rw [nI_clamp (by omega : x < 2 ^ 31), hkept x (by omega)]
  cases h1 : zK A false 2 3 x
  · rw [if_neg (by decide)]
    refine br_t rfl ?_
    conv => whnf
    rw [h1] at hci
    exact ⟨Or.inl rfl, rfl, by rw [hci]; rfl⟩
  · rw [if_pos rfl]
    refine br_f (by decide) ?_
    conv => whnf
    refine ⟨pk_in left 80 (by omega), ?_⟩
    conv => whnf
    refine hC _ _ _ _ ((sp_within hF0 hx).conseq ?_)
    rintro r σ' ⟨rfl, rfl⟩
    conv => whnf
    dsimp only
    rw [nI_clamp (by omega : left < 2 ^ 31)]
    rw [h1, Bool.true_and] at hci
    rw [← hci]
    cases h2 : zci A left x
    · rw [if_neg (by decide)]
      refine br_t rfl ?_
      conv => whnf
      exact ⟨Or.inl rfl, rfl, rfl⟩
    · rw [if_pos rfl]
      refine br_f (by decide) ?_
      conv => whnf
      exact ⟨Or.inr rfl, rfl, rfl⟩
theorem sp_circuitLength {E : zEN} {d ch left : Nat} {A : zAS} {σ : zST} (hF : zcf A ch σ) (hR : zrow A ch 7 false 2 3 σ) (hl : left < zam A) (hlf : zlf A left = true) : zSp E (d + 4) zM_X5_circuitLength [.inr (5, 7), .inl (nI left)] σ (fun r σ' => σ' = σ ∧ r = nI (fb_ct (zci A left) (zam A))) := by
  have hm80 := hF.1.2.1
  refine zSp.of rfl (Nat.le_of_ble_eq_true rfl) ?_
  have loop : ∀ r i (x2 x3 : Int32), i + r = zam A → x2 = nI (fb_ct (zci A left) i) → x3 = nI i → zWp E (d + 4) zM_X5_circuitLength (fun r σ' => σ' = σ ∧ r = nI (fb_ct (zci A left) (zam A))) 4 [some (.inr (5, 7)), some (.inl (nI left)), some (.inl x2), some (.inl x3)] [] σ := by
    intro r
    induction r with
    | zero =>
      intro i x2 x3 hi hx2 hx3
      refine zg_X5_circuitLength_4 fun G C hG hC => ?_
      conv => whnf
      refine pk_le (zam A) i (fun _ => ?_) (fun _ => by omega) hF.2.2.2.1 hx3
      conv => whnf
      have : i = zam A := by omega
      subst this
      exact ⟨rfl, hx2⟩
    | succ r ih =>
      intro i x2 x3 hi hx2 hx3
      refine zg_X5_circuitLength_4 fun G C hG hC => ?_
      conv => whnf
      refine pk_le (zam A) i (fun _ => by omega) (fun _ => ?_) hF.2.2.2.1 hx3
      conv => whnf
      subst hx3
      refine hC _ _ _ _ ((sp_inCircuit hF hR (by omega) hl hlf).conseq ?_)
      rintro r2 σ' ⟨rfl, rfl⟩
      conv => whnf
      cases h : zci A left i
      · rw [if_neg (by decide)]
        refine br_t rfl ?_
        conv => whnf
        exact hG _ _ _ _ (ih (i + 1) _ _ (by omega) (by rw [hx2, fb_ct_succ, h]; rfl) (nI_1 _))
      · rw [if_pos rfl]
        refine br_f (by decide) ?_
        conv => whnf
        exact hG _ _ _ _ (ih (i + 1) _ _ (by omega) (by rw [hx2, fb_ct_succ, h, nI_1]; rfl) (nI_1 _))
  refine zg_X5_circuitLength_0 fun G C hG hC => ?_
  conv => whnf
  exact hG _ _ _ _ (loop (zam A) 0 _ _ (by omega) rfl rfl)
/-- the i-th of those that have p -/
def zith (p : Nat → Bool) (n : Nat) (i r : Int32) : Prop := (∃ x, x < n ∧ p x = true ∧ i = nI (fb_ct p x) ∧ r = nI x) ∨ ((∀ x, x < n → p x = true → i ≠ nI (fb_ct p x)) ∧ r = -9)
theorem zith_one {p : Nat → Bool} {n : Nat} {i r r' : Int32} (hn : n < 2 ^ 31) (h : zith p n i r) (h' : zith p n i r') : r = r' := by
  rcases h with ⟨x, x1, x2, x3, x4⟩ | ⟨x1, x2⟩ <;> rcases h' with ⟨y, y1, y2, y3, y4⟩ | ⟨y1, y2⟩
  · have l1 := fb_ct_le p x
    have l2 := fb_ct_le p y
    have := fb_ct_kth_one x2 y2 (znI_inj (by omega) (by omega) (x3.symm.trans y3))
    rw [x4, y4, this]
  · exact absurd x3 (y1 x x1 x2)
  · exact absurd y3 (x1 y y1 y2)
  · rw [x2, y2]
theorem sp_circuitAt {E : zEN} {d ch left : Nat} {A : zAS} {σ : zST} {n : Int32} (hF : zcf A ch σ) (hR : zrow A ch 7 false 2 3 σ) (hl : left < zam A) (hlf : zlf A left = true) : zSp E (d + 4) zM_X5_circuitAt [.inr (5, 7), .inl (nI left), .inl n] σ (fun r σ' => σ' = σ ∧ zith (zci A left) (zam A) n r) := by
  have hm80 := hF.1.2.1
  refine zSp.of rfl (Nat.le_of_ble_eq_true rfl) ?_
  have loop : ∀ r i (x2 x3 : Int32), i + r = zam A → x2 = nI (fb_ct (zci A left) i) → x3 = nI i → (∀ x, x < i → zci A left x = true → n ≠ nI (fb_ct (zci A left) x)) → zWp E (d + 4) zM_X5_circuitAt (fun r σ' => σ' = σ ∧ zith (zci A left) (zam A) n r) 5 [some (.inr (5, 7)), some (.inl (nI left)), some (.inl n), some (.inl x2), some (.inl x3)] [] σ := by
    intro r
    induction r with
    | zero =>
      intro i x2 x3 hi hx2 hx3 hno
      refine zg_X5_circuitAt_5 fun G C hG hC => ?_
      conv => whnf
      refine pk_le (zam A) i (fun _ => ?_) (fun _ => by omega) hF.2.2.2.1 hx3
      conv => whnf
      exact ⟨rfl, Or.inr ⟨fun x hx h => hno x (by omega) h, rfl⟩⟩
    | succ r ih =>
      intro i x2 x3 hi hx2 hx3 hno
      refine zg_X5_circuitAt_5 fun G C hG hC => ?_
      conv => whnf
      refine pk_le (zam A) i (fun _ => by omega) (fun _ => ?_) hF.2.2.2.1 hx3
      conv => whnf
      subst hx3
      refine hC _ _ _ _ ((sp_inCircuit hF hR (by omega) hl hlf).conseq ?_)
      rintro r2 σ' ⟨rfl, rfl⟩
      conv => whnf
      cases h : zci A left i
      · rw [if_neg (by decide)]
        refine br_t rfl ?_
        conv => whnf
        refine hG _ _ _ _ (ih (i + 1) _ _ (by omega) (by rw [hx2, fb_ct_succ, h]; rfl) (nI_1 _) (fun x hx hq => ?_))
        by_cases e : x = i
        · subst e; rw [h] at hq; cases hq
        · exact hno x (by omega) hq
      · rw [if_pos rfl]
        refine br_f (by decide) ?_
        conv => whnf
        refine ⟨fun he => ?_, fun he => ?_⟩
        · conv => whnf
          have he : x2 = n := he
          exact ⟨rfl, Or.inl ⟨i, by omega, h, by rw [← he, hx2], rfl⟩⟩
        · conv => whnf
          have he : ¬ x2 = n := he
          refine hG _ _ _ _ (ih (i + 1) _ _ (by omega) (by rw [hx2, fb_ct_succ, h, nI_1]; rfl) (nI_1 _) (fun x hx hq => ?_))
          by_cases e : x = i
          · subst e; exact fun e2 => he (by rw [hx2, e2])
          · exact hno x (by omega) hq
  refine zg_X5_circuitAt_0 fun G C hG hC => ?_
  conv => whnf
  exact hG _ _ _ _ (loop (zam A) 0 _ _ (by omega) rfl rfl (fun x hx => absurd hx (Nat.not_lt_zero x)))
/-- spare: left, or in a circuit -/
def zspr (A : zAS) (x : Nat) : Prop := zK A false 2 3 x = false ∨ ∃ left, left < zam A ∧ zlf A left = true ∧ zci A left x = true
noncomputable def zspb (A : zAS) (x : Nat) : Bool := @decide (zspr A x) (Classical.propDecidable _)
theorem zspb_t {A : zAS} {x : Nat} (h : zspr A x) : zspb A x = true := @decide_eq_true _ (Classical.propDecidable _) h
theorem zspb_f {A : zAS} {x : Nat} (h : ¬ zspr A x) : zspb A x = false := @decide_eq_false _ (Classical.propDecidable _) h
theorem sp_isSpare {E : zEN} {d ch x : Nat} {A : zAS} {σ : zST} (hF : zcf A ch σ) (hR : zrow A ch 7 false 2 3 σ) (hx : x < zam A) : zSp E (d + 4) zM_X5_isSpare [.inr (5, 7), .inl (nI x)] σ (fun r σ' => σ' = σ ∧ r = if zspb A x = true then 1 else 0) := by
  have hm80 := hF.1.2.1
  refine zSp.of rfl (Nat.le_of_ble_eq_true rfl) ?_
  have loop : ∀ r i (x2 : Int32), i + r = zam A → x2 = nI i → zK A false 2 3 x = true → (∀ y, y < i → zlf A y = true → zci A y x = false) → zWp E (d + 4) zM_X5_isSpare (fun r σ' => σ' = σ ∧ r = if zspb A x = true then 1 else 0) 13 [some (.inr (5, 7)), some (.inl (nI x)), some (.inl x2)] [] σ := by
    intro r
    induction r with
    | zero =>
      intro i x2 hi hx2 hK hno
      refine zg_X5_isSpare_13 fun G C hG hC => ?_
      conv => whnf
      refine pk_le (zam A) i (fun _ => ?_) (fun _ => by omega) hF.2.2.2.1 hx2
      conv => whnf
      refine ⟨Or.inl rfl, rfl, ?_⟩
      rw [zspb_f]
      · rfl
      · rintro (h | ⟨y, y1, y2, y3⟩)
        · rw [hK] at h; cases h
        · rw [hno y (by omega) y2] at y3; cases y3
    | succ r ih =>
      intro i x2 hi hx2 hK hno
      refine zg_X5_isSpare_13 fun G C hG hC => ?_
      conv => whnf
      refine pk_le (zam A) i (fun _ => by omega) (fun _ => ?_) hF.2.2.2.1 hx2
      conv => whnf
      subst hx2
      refine hC _ _ _ _ ((sp_isLeft (d := d + 2) hF hR (by omega : i < zam A)).conseq ?_)
      rintro r2 σ' ⟨rfl, rfl⟩
      conv => whnf
      cases h : zlf A i
      · rw [if_neg (by decide)]
        refine br_t rfl ?_
        conv => whnf
        refine hG _ _ _ _ (ih (i + 1) _ (by omega) (nI_1 _) hK (fun y hy hq => ?_))
        by_cases e : y = i
        · subst e; rw [h] at hq; cases hq
        · exact hno y (by omega) hq
      · rw [if_pos rfl]
        refine br_f (by decide) ?_
        conv => whnf
        refine hC _ _ _ _ ((sp_inCircuit hF hR hx (by omega) h).conseq ?_)
        rintro r2 σ' ⟨rfl, rfl⟩
        conv => whnf
        cases h2 : zci A i x
        · rw [if_neg (by decide)]
          refine br_t rfl ?_
          conv => whnf
          refine hG _ _ _ _ (ih (i + 1) _ (by omega) (nI_1 _) hK (fun y hy hq => ?_))
          by_cases e : y = i
          · subst e; exact h2
          · exact hno y (by omega) hq
        · rw [if_pos rfl]
          refine br_f (by decide) ?_
          conv => whnf
          refine ⟨Or.inr rfl, rfl, ?_⟩
          rw [zspb_t (Or.inr ⟨i, by omega, h, h2⟩)]; rfl
  refine zg_X5_isSpare_0 fun G C hG hC => ?_
  conv => whnf
  refine ⟨pk_in x 80 (by omega), ?_⟩
  conv => whnf
  dsimp only
  rw [nI_clamp (by omega : x < 2 ^ 31), hR.2.2.2.2.1 x (by omega)]
  cases hK : zK A false 2 3 x
  · rw [if_neg (by decide)]
    refine br_t rfl ?_
    conv => whnf
    refine ⟨Or.inr rfl, rfl, ?_⟩
    rw [zspb_t (Or.inl hK)]; rfl
  · rw [if_pos rfl]
    refine br_f (by decide) ?_
    conv => whnf
    exact hG _ _ _ _ (loop (zam A) 0 _ (by omega) rfl hK (fun y hy => absurd hy (Nat.not_lt_zero y)))
theorem sp_countSpare {E : zEN} {d ch : Nat} {A : zAS} {σ : zST} (hF : zcf A ch σ) (hR : zrow A ch 7 false 2 3 σ) : zSp E (d + 5) zM_X5_countSpare [.inr (5, 7)] σ (fun r σ' => σ' = σ ∧ r = nI (fb_ct (fun x => zat A x && zspb A x) (zam A))) := by
  have hm80 := hF.1.2.1
  have f5 := hF.2.2.2.2.2.2.1
  refine zSp.of rfl (Nat.le_of_ble_eq_true rfl) ?_
  have loop : ∀ r i (x1 x2 : Int32), i + r = zam A → x1 = nI (fb_ct (fun x => zat A x && zspb A x) i) → x2 = nI i → zWp E (d + 5) zM_X5_countSpare (fun r σ' => σ' = σ ∧ r = nI (fb_ct (fun x => zat A x && zspb A x) (zam A))) 4 [some (.inr (5, 7)), some (.inl x1), some (.inl x2)] [] σ := by
    intro r
    induction r with
    | zero =>
      intro i x1 x2 hi hx1 hx2
      refine zg_X5_countSpare_4 fun G C hG hC => ?_
      conv => whnf
      refine pk_le (zam A) i (fun _ => ?_) (fun _ => by omega) hF.2.2.2.1 hx2
      conv => whnf
      have : i = zam A := by omega
      subst this
      exact ⟨rfl, hx1⟩
    | succ r ih =>
      intro i x1 x2 hi hx1 hx2
      refine zg_X5_countSpare_4 fun G C hG hC => ?_
      conv => whnf
      refine pk_le (zam A) i (fun _ => by omega) (fun _ => ?_) hF.2.2.2.1 hx2
      conv => whnf
      refine ⟨pk_in i 80 (by omega) hx2, ?_⟩
      conv => whnf
      dsimp only
      rw [pk_cl i hx2, (f5 i (by omega)).2.2.2]
      cases h1 : zat A i
      · rw [if_neg (by decide)]
        refine br_t rfl ?_
        conv => whnf
        exact hG _ _ _ _ (ih (i + 1) _ _ (by omega) (by rw [hx1, fb_ct_succ, h1]; rfl) (by rw [hx2, nI_1]))
      · rw [if_pos rfl]
        refine br_f (by decide) ?_
        conv => whnf
        subst hx2
        refine hC _ _ _ _ ((sp_isSpare hF hR (by omega : i < zam A)).conseq ?_)
        rintro r2 σ' ⟨rfl, rfl⟩
        conv => whnf
        cases h2 : zspb A i
        · rw [if_neg (by decide)]
          refine br_t rfl ?_
          conv => whnf
          exact hG _ _ _ _ (ih (i + 1) _ _ (by omega) (by rw [hx1, fb_ct_succ, h1, h2]; rfl) (nI_1 _))
        · rw [if_pos rfl]
          refine br_f (by decide) ?_
          conv => whnf
          exact hG _ _ _ _ (ih (i + 1) _ _ (by omega) (by rw [hx1, fb_ct_succ, h1, h2, nI_1]; rfl) (nI_1 _))
  refine zg_X5_countSpare_0 fun G C hG hC => ?_
  conv => whnf
  exact hG _ _ _ _ (loop (zam A) 0 _ _ (by omega) rfl rfl)
theorem sp_costOfKept {E : zEN} {d ch : Nat} {A : zAS} {σ : zST} (hF : zcf A ch σ) (hR : zrow A ch 15 true 2 3 σ) : zSp E (d + 1) zM_X5_costOfKept [.inr (5, 15)] σ (fun r σ' => σ' = σ ∧ r = nI (fb_sm (fun x => if zK A true 2 3 x = true then zac A x else 0) (zam A))) := by
  have hm80 := hF.1.2.1
  have f5 := hF.2.2.2.2.2.2.1
  refine zSp.of rfl (Nat.le_of_ble_eq_true rfl) ?_
  have loop : ∀ r i (x1 x2 : Int32), i + r = zam A → x1 = nI (fb_sm (fun x => if zK A true 2 3 x = true then zac A x else 0) i) → x2 = nI i → zWp E (d + 1) zM_X5_costOfKept (fun r σ' => σ' = σ ∧ r = nI (fb_sm (fun x => if zK A true 2 3 x = true then zac A x else 0) (zam A))) 4 [some (.inr (5, 15)), some (.inl x1), some (.inl x2)] [] σ := by
    intro r
    induction r with
    | zero =>
      intro i x1 x2 hi hx1 hx2
      refine zg_X5_costOfKept_4 fun G C hG hC => ?_
      conv => whnf
      refine pk_le (zam A) i (fun _ => ?_) (fun _ => by omega) hF.2.2.2.1 hx2
      conv => whnf
      have : i = zam A := by omega
      subst this
      exact ⟨rfl, hx1⟩
    | succ r ih =>
      intro i x1 x2 hi hx1 hx2
      refine zg_X5_costOfKept_4 fun G C hG hC => ?_
      conv => whnf
      refine pk_le (zam A) i (fun _ => by omega) (fun _ => ?_) hF.2.2.2.1 hx2
      conv => whnf
      refine ⟨pk_in i 80 (by omega) hx2, ?_⟩
      conv => whnf
      dsimp only
      rw [pk_cl i hx2, hR.2.2.2.2.1 i (by omega)]
      cases h1 : zK A true 2 3 i
      · rw [if_neg (by decide)]
        refine br_t rfl ?_
        conv => whnf
        exact hG _ _ _ _ (ih (i + 1) _ _ (by omega) (by rw [hx1, fb_sm_succ, h1]; rfl) (by rw [hx2, nI_1]))
      · rw [if_pos rfl]
        refine br_f (by decide) ?_
        conv => whnf
        refine ⟨pk_in i 80 (by omega) hx2, ?_⟩
        conv => whnf
        refine hG _ _ _ _ (ih (i + 1) _ _ (by omega) ?_ (by rw [hx2, nI_1]))
        dsimp only
        rw [pk_cl i hx2, (f5 i (by omega)).2.2.1, hx1, nI_add, fb_sm_succ, h1, if_pos rfl]
  refine zg_X5_costOfKept_0 fun G C hG hC => ?_
  conv => whnf
  exact hG _ _ _ _ (loop (zam A) 0 _ _ (by omega) rfl rfl)
