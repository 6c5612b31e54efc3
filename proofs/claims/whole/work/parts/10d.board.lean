/-! start, allows, put, reach -/
/-- a board at cell j by k, l with the edges F -/
def zbd (j k l : Nat) (F : (Nat → Bool) → Nat) (σ : zST) : Prop := k ≤ 3 ∧ l < 6 ∧ σ j 3 = nI k ∧ σ j 4 = nI l ∧ zva k (σ (j + 1)) ∧ ∀ V, ziL k (σ (j + 1)) V = F V
/-- no more pebbles can be brought to a and b -/
def zstk (k l : Nat) (f : Nat → Int32) (a b : Nat) : Prop := ∃ R : Nat → Bool, R a = true ∧ R b = true ∧ zcl k f R ∧ (∀ x, x < 24 → R x = true → x ≠ a → x ≠ b → zlos f k x = 0) ∧ zlos f k a + zlos f k b ≤ l
abbrev zjs (j : Nat) : List Nat := [j + 1, j + 2, j + 3]
def zapost (j k l a b : Nat) (F : (Nat → Bool) → Nat) (σ : zST) : zPT := fun r σ' => zagr (zjs j) σ σ' ∧ zbd j k l F σ' ∧ ((r = 1 ∧ zfr k l F a b ∧ l < zlos (σ' (j + 1)) k a + zlos (σ' (j + 1)) k b) ∨ (r = 0 ∧ ¬ zfr k l F a b ∧ zstk k l (σ' (j + 1)) a b))
theorem sp_start {E : zEN} {d j k l : Nat} {σ : zST} (hk : k ≤ 3) (hl : l < 6) : zSp E (d + 2) zM_X4_start [.inr (4, j), .inl (nI k), .inl (nI l)] σ (fun _ σ' => zagr [j, j + 1] σ σ' ∧ zbd j k l (fun _ => 0) σ') := by
  refine zSp.of rfl (Nat.le_of_ble_eq_true rfl) (zg_X4_start_0 fun G C hG hC => ?_)
  conv => whnf
  refine hC _ _ _ _ ((sp_fill (n := 72) (Or.inr ⟨rfl, rfl⟩)).conseq ?_)
  rintro r σ' ⟨h1, h2⟩
  conv => whnf
  have hall : ∀ p, p < 72 → σ' (j + 1) p = -1 := h2
  refine ⟨?_, hk, hl, ?_, ?_, ?_, ?_⟩
  · intro q hq
    simp only [List.mem_cons, List.not_mem_nil, or_false, not_or] at hq
    rw [h1 q (by simpa using hq.2), zup_ne hq.1, zup_ne hq.1]
  · rw [h1 j (by simp), zup_self, pk_un (by decide), zup_self, pk_us]
  · rw [h1 j (by simp), zup_self, pk_us]
  · intro v i hv hi; exact Or.inl (hall _ (by omega))
  · intro V
    refine fb_ct_zero.mpr fun p hp => ?_
    simp [zpin, hall p hp]
theorem zbd.not {j k l : Nat} {F : (Nat → Bool) → Nat} {σ : zST} (h : zbd j k l F σ) {a b : Nat} (ha : a < 24) (hb : b < 24) (hab : a ≠ b) (hs : zstk k l (σ (j + 1)) a b) : ¬ zfr k l F a b := by
  obtain ⟨R, h1, h2, h3, h4, h5⟩ := hs
  intro hf
  have := hf R h1 h2
  have := zlost h.1 h.2.2.2.2.2 ha hb hab h3 h1 h2 h4 h5
  omega
theorem sp_allows {E : zEN} {d j k l a b : Nat} {F : (Nat → Bool) → Nat} {σ : zST} (hB : zbd j k l F σ) (ha : a < 24) (hb : b < 24) (hab : a ≠ b) : zSp E (d + 3) zM_X4_allows [.inr (4, j), .inl (nI a), .inl (nI b)] σ (zapost j k l a b F σ) := by
  refine zSp.of rfl (Nat.le_of_ble_eq_true rfl) ?_
  have hk := hB.1
  have hl6 := hB.2.1
  have loop : ∀ n i (x3 x4 : Int32) (σ' : zST), i + n = 6 → x3 = nI (zlos (σ' (j + 1)) k a + zlos (σ' (j + 1)) k b) → x4 = nI i → i ≤ zlos (σ' (j + 1)) k a + zlos (σ' (j + 1)) k b → zagr (zjs j) σ σ' → zbd j k l F σ' → zWp E (d + 3) zM_X4_allows (zapost j k l a b F σ) 15 [some (.inr (4, j)), some (.inl (nI a)), some (.inl (nI b)), some (.inl x3), some (.inl x4)] [] σ' := by
    intro n
    induction n with
    | zero =>
      intro i x3 x4 σ' hi hx3 hx4 hle hag hB'
      obtain ⟨-, -, g1, g2, g3, g4⟩ := hB'
      have l1 := fb_ct_le (fun i => decide (σ' (j + 1) (3 * a + i) = -1)) k
      have l2 := fb_ct_le (fun i => decide (σ' (j + 1) (3 * b + i) = -1)) k
      have l1 : zlos (σ' (j + 1)) k a ≤ k := l1
      have l2 : zlos (σ' (j + 1)) k b ≤ k := l2
      refine zg_X4_allows_15 fun G C hG hC => ?_
      conv => whnf
      refine pk_le 6 i (fun _ => ?_) (fun _ => by omega) rfl hx4
      conv => whnf
      refine pk_le _ l (fun _ => by omega) (fun _ => ?_) hx3 g2
      conv => whnf
      exact ⟨Or.inr rfl, hag, ⟨hk, hl6, g1, g2, g3, g4⟩, Or.inl ⟨rfl, zgot hk g4 ha hb hab (by omega), by omega⟩⟩
    | succ n ih =>
      intro i x3 x4 σ' hi hx3 hx4 hle hag hB'
      have hB2 := hB'
      obtain ⟨-, -, g1, g2, g3, g4⟩ := hB'
      have l1 := fb_ct_le (fun i => decide (σ' (j + 1) (3 * a + i) = -1)) k
      have l2 := fb_ct_le (fun i => decide (σ' (j + 1) (3 * b + i) = -1)) k
      have l1 : zlos (σ' (j + 1)) k a ≤ k := l1
      have l2 : zlos (σ' (j + 1)) k b ≤ k := l2
      refine zg_X4_allows_15 fun G C hG hC => ?_
      conv => whnf
      refine pk_le 6 i (fun _ => by omega) (fun _ => ?_) rfl hx4
      conv => whnf
      refine pk_lt l _ (fun _ => ?_) (fun hle2 => ?_) g2 hx3
      · conv => whnf
        refine pk_le _ l (fun _ => by omega) (fun _ => ?_) hx3 g2
        conv => whnf
        exact ⟨Or.inr rfl, hag, hB2, Or.inl ⟨rfl, zgot hk g4 ha hb hab (by omega), by omega⟩⟩
      · conv => whnf
        refine hC _ _ _ _ ((sp_fetch hk g1 g3 ha hb hab).conseq ?_)
        rintro r σ2 (⟨rfl, f1, f2, f3, f4, f5⟩ | ⟨rfl, f1, R1, f2, f3, f4, f5⟩)
        · conv => whnf
          refine br_f (by decide) ?_
          conv => whnf
          refine hG _ _ _ _ (ih (i + 1) _ _ σ2 (by omega) ?_ (by rw [hx4, nI_1]) (by omega) (hag.tr f1) ⟨hk, hl6, ?_, ?_, f2, fun V => by rw [f3, g4]⟩)
          · rw [hx3, nI_1]; congr 1; omega
          · rw [f1 j (by simp)]; exact g1
          · rw [f1 j (by simp)]; exact g2
        · conv => whnf
          refine br_t rfl ?_
          conv => whnf
          have k1 : σ2 (j + 1) = σ' (j + 1) := f1 (j + 1) (by simp)
          refine hC _ _ _ _ ((sp_fetch hk (by rw [f1 j (by simp)]; exact g1) (by rw [k1]; exact g3) hb ha (Ne.symm hab)).conseq ?_)
          rintro r σ3 (⟨rfl, e1, e2, e3, e4, e5⟩ | ⟨rfl, e1, R2, e2, e3, e4, e5⟩)
          · conv => whnf
            refine br_f (by decide) ?_
            conv => whnf
            rw [k1] at e3 e4 e5
            refine hG _ _ _ _ (ih (i + 1) _ _ σ3 (by omega) ?_ (by rw [hx4, nI_1]) (by omega) ((hag.tr (f1.sub (by simp))).tr e1) ⟨hk, hl6, ?_, ?_, e2, fun V => by rw [e3, g4]⟩)
            · rw [hx3, nI_1]; congr 1; omega
            · rw [e1 j (by simp), f1 j (by simp)]; exact g1
            · rw [e1 j (by simp), f1 j (by simp)]; exact g2
          · conv => whnf
            refine br_t rfl ?_
            conv => whnf
            have k2 : σ3 (j + 1) = σ' (j + 1) := by rw [e1 (j + 1) (by simp), k1]
            rw [k1] at e4 e5
            have hB3 : zbd j k l F σ3 := ⟨hk, hl6, by rw [e1 j (by simp), f1 j (by simp)]; exact g1, by rw [e1 j (by simp), f1 j (by simp)]; exact g2, by rw [k2]; exact g3, fun V => by rw [k2]; exact g4 V⟩
            have hst : zstk k l (σ3 (j + 1)) a b := by
              rw [k2]
              refine ⟨zor R1 R2, by simp [zor, f2], by simp [zor, f3], ?_, ?_, by omega⟩
              · intro v c hv hR hc
                have pick : (R1 v = true ∧ v ≠ b) ∨ (R2 v = true ∧ v ≠ a) := by
                  simp only [zor, Bool.or_eq_true] at hR
                  by_cases e : v = b
                  · subst e; exact Or.inr ⟨e2, Ne.symm hab⟩
                  · by_cases e' : v = a
                    · subst e'; exact Or.inl ⟨f2, hab⟩
                    · exact hR.imp (fun h => ⟨h, e⟩) (fun h => ⟨h, e'⟩)
                rcases pick with ⟨h1, h2⟩ | ⟨h1, h2⟩
                · exact (f4 v c hv h1 h2 hc).imp id fun ⟨w, p1, p2, p3⟩ => ⟨w, p1, p2, by simp [zor, p3]⟩
                · exact (e4 v c hv h1 h2 hc).imp id fun ⟨w, p1, p2, p3⟩ => ⟨w, p1, p2, by simp [zor, p3]⟩
              · intro x hx hR h1 h2
                simp only [zor, Bool.or_eq_true] at hR
                rcases hR with h | h
                · exact f5 x hx h h1 h2
                · exact e5 x hx h h2 h1
            exact ⟨Or.inl rfl, (hag.tr (f1.sub (by simp))).tr (e1.sub (by simp)), hB3, Or.inr ⟨rfl, hB3.not ha hb hab hst, hst⟩⟩
  refine zg_X4_allows_0 fun G C hG hC => ?_
  conv => whnf
  refine hC _ _ _ _ ((sp_countLoose ha hk hB.2.2.1).conseq ?_)
  rintro r σ' ⟨rfl, rfl⟩
  conv => whnf
  refine hC _ _ _ _ ((sp_countLoose hb hk hB.2.2.1).conseq ?_)
  rintro r σ' ⟨rfl, rfl⟩
  conv => whnf
  exact hG _ _ _ _ (loop 6 0 _ _ _ (by omega) (nI_add _ _) rfl (Nat.zero_le _) zagr.rf hB)
/-- put: a comes to b, if it may -/
def zppost (j k l a b : Nat) (F : (Nat → Bool) → Nat) (σ : zST) : zPT := fun r σ' => zagr (zjs j) σ σ' ∧ ((r = 1 ∧ zfr k l F a b ∧ zbd j k l (fun V => F V + (if (V a && V b) = true then 1 else 0)) σ') ∨ (r = 0 ∧ ¬ zfr k l F a b ∧ zbd j k l F σ' ∧ zstk k l (σ' (j + 1)) a b))
theorem sp_put {E : zEN} {d j k l a b : Nat} {F : (Nat → Bool) → Nat} {σ : zST} (hB : zbd j k l F σ) (ha : a < 24) (hb : b < 24) (hab : a ≠ b) : zSp E (d + 4) zM_X4_put [.inr (4, j), .inl (nI a), .inl (nI b)] σ (zppost j k l a b F σ) := by
  refine zSp.of rfl (Nat.le_of_ble_eq_true rfl) (zg_X4_put_0 fun G C hG hC => ?_)
  conv => whnf
  refine hC _ _ _ _ ((sp_allows hB ha hb hab).conseq ?_)
  rintro r σ' ⟨hag, hB', hr⟩
  conv => whnf
  have hk := hB.1
  rcases hr with ⟨rfl, hf, hlo⟩ | ⟨rfl, hf, hst⟩
  · refine br_f (by decide) ?_
    conv => whnf
    have hB2 := hB'
    obtain ⟨-, hl6, g1, g2, g3, g4⟩ := hB'
    refine hC _ _ _ _ ((sp_loosePebble ha hk g1).conseq ?_)
    rintro r σ' ⟨rfl, hr⟩
    conv => whnf
    refine hC _ _ _ _ ((sp_loosePebble hb hk g1).conseq ?_)
    rintro r2 σ' ⟨rfl, hr2⟩
    conv => whnf
    have key : ∀ u w i, (u = a ∧ w = b ∨ u = b ∧ w = a) → i < k → σ' (j + 1) (3 * u + i) = -1 → zppost j k l a b F σ 1 (zup σ' (j + 1) (3 * u + i) (nI w)) := by
      intro u w i huw hi hlo
      have hu : u < 24 := by rcases huw with ⟨h, -⟩ | ⟨h, -⟩ <;> omega
      have hw : w < 24 := by rcases huw with ⟨-, h⟩ | ⟨-, h⟩ <;> omega
      refine ⟨hag.up (by simp), Or.inl ⟨rfl, hf, hk, hl6, by rw [zup_ne (by omega)]; exact g1, by rw [zup_ne (by omega)]; exact g2, by rw [zup_self]; exact zva_upd g3 (Or.inr ⟨w, hw, rfl⟩), fun V => ?_⟩⟩
      rw [zup_self]
      have e := ziL_upd (k := k) (f := σ' (j + 1)) (p := 3 * u + i) (x := nI w) V (by omega) (by omega)
      rw [hlo, g4 V] at e
      have d1 : zpin V (3 * u + i) (-1) = false := by simp [zpin]
      have d2 : zpin V (3 * u + i) (nI w) = (V a && V b) := by
        unfold zpin
        rw [nI_clamp (by omega), show (3 * u + i) / 3 = u by omega]
        rcases huw with ⟨rfl, rfl⟩ | ⟨rfl, rfl⟩
        · simp [zm1 (by omega : w < 2 ^ 31)]
        · simp [zm1 (by omega : w < 2 ^ 31), Bool.and_comm]
      rw [d1, d2] at e
      simp only [Bool.false_eq_true, if_false] at e
      omega
    rcases hr with ⟨i, hi, rfl, hlo1⟩ | ⟨rfl, hlo1⟩
    · refine br_f (nI_pos (by omega)) ?_
      conv => whnf
      refine ⟨pk_in (3 * a + i) 72 (by omega), ?_⟩
      conv => whnf
      refine ⟨Or.inr rfl, ?_⟩
      dsimp only
      rw [nI_clamp (by omega : 3 * a + i < 2 ^ 31)]
      exact key a b i (Or.inl ⟨rfl, rfl⟩) hi hlo1
    · refine br_t (by decide) ?_
      conv => whnf
      rcases hr2 with ⟨i, hi, rfl, hlo2⟩ | ⟨rfl, hlo2⟩
      · refine br_f (nI_pos (by omega)) ?_
        conv => whnf
        refine ⟨pk_in (3 * b + i) 72 (by omega), ?_⟩
        conv => whnf
        refine ⟨Or.inr rfl, ?_⟩
        dsimp only
        rw [nI_clamp (by omega : 3 * b + i < 2 ^ 31)]
        exact key b a i (Or.inr ⟨rfl, rfl⟩) hi hlo2
      · omega
  · refine br_t rfl ?_
    conv => whnf
    exact ⟨Or.inl rfl, hag, Or.inr ⟨rfl, hf, hB', hst⟩⟩
/-- the least closed set with a and b -/
def zrch (k : Nat) (f : Nat → Int32) (a b : Nat) (r : Int32) : Prop := (∀ x, 24 ≤ x → x < 32 → bt r x = false) ∧ bt r a = true ∧ bt r b = true ∧ zcl k f (bt r) ∧ ∀ V : Nat → Bool, zcl k f V → V a = true → V b = true → ∀ x, x < 24 → bt r x = true → V x = true
theorem zext24 {s s' : Int32} (h : ∀ x, x < 24 → bt s x = bt s' x) (h1 : ∀ x, 24 ≤ x → x < 32 → bt s x = false) (h2 : ∀ x, 24 ≤ x → x < 32 → bt s' x = false) : s = s' := by
  apply b_ext
  intro i hi
  by_cases h24 : i < 24
  · exact h i h24
  · rw [h1 i (by omega) hi, h2 i (by omega) hi]
theorem sp_reach {E : zEN} {d j k a b : Nat} {σ : zST} (hk : k ≤ 3) (hσ : σ j 3 = nI k) (hva : zva k (σ (j + 1))) (ha : a < 24) (hb : b < 24) (hab : a ≠ b) : zSp E (d + 2) zM_X4_reach [.inr (4, j), .inl (nI a), .inl (nI b)] σ (fun r σ' => σ' = σ ∧ zrch k (σ (j + 1)) a b r) := by
  refine zSp.of rfl (Nat.le_of_ble_eq_true rfl) ?_
  have loop : ∀ n i (s x4 : Int32) (x5 x6 : Option zAV), i + n = 24 → x4 = nI i → (∀ x, 24 ≤ x → x < 32 → bt s x = false) → bt s a = true → bt s b = true → i + 2 ≤ fb_ct (bt s) 24 → (∀ V : Nat → Bool, zcl k (σ (j + 1)) V → V a = true → V b = true → ∀ x, x < 24 → bt s x = true → V x = true) → zWp E (d + 2) zM_X4_reach (fun r σ' => σ' = σ ∧ zrch k (σ (j + 1)) a b r) 11 [some (.inr (4, j)), some (.inl (nI a)), some (.inl (nI b)), some (.inl s), some (.inl x4), x5, x6] [] σ := by
    intro n
    induction n with
    | zero =>
      intro i s x4 x5 x6 hi hx4 hs1 hs2 hs3 hs4 hs5
      have := fb_ct_le (bt s) 24
      omega
    | succ n ih =>
      intro i s x4 x5 x6 hi hx4 hs1 hs2 hs3 hs4 hs5
      refine zg_X4_reach_11 fun G C hG hC => ?_
      conv => whnf
      refine pk_le 24 i (fun _ => by omega) (fun _ => ?_) rfl hx4
      conv => whnf
      have inner : ∀ m v (e x6 : Int32), v + m = 24 → x6 = nI v → (∀ x, 24 ≤ x → x < 32 → bt e x = false) → (∀ x, x < 24 → bt s x = true → bt e x = true) → (∀ V : Nat → Bool, zcl k (σ (j + 1)) V → V a = true → V b = true → ∀ x, x < 24 → bt e x = true → V x = true) → (∀ u c, u < v → bt s u = true → c < k → σ (j + 1) (3 * u + c) = -1 ∨ ∃ w, w < 24 ∧ σ (j + 1) (3 * u + c) = nI w ∧ bt e w = true) → zWp E (d + 2) zM_X4_reach (fun r σ' => σ' = σ ∧ zrch k (σ (j + 1)) a b r) 24 [some (.inr (4, j)), some (.inl (nI a)), some (.inl (nI b)), some (.inl s), some (.inl x4), some (.inl e), some (.inl x6)] [] σ := by
        intro m
        induction m with
        | zero =>
          intro v e x6 hv hx6 he1 he2 he3 he4
          refine zg_X4_reach_24 fun G C hG hC => ?_
          conv => whnf
          refine pk_le 24 v (fun _ => ?_) (fun _ => by omega) rfl hx6
          conv => whnf
          refine ⟨fun hes => ?_, fun hes => ?_⟩
          · conv => whnf
            refine ⟨rfl, hs1, hs2, hs3, ?_, hs5⟩
            intro u c hu hbu hc
            have hes : e = s := hes
            rw [← hes]
            rw [hes] at he4 ⊢
            exact he4 u c (by omega) hbu hc
          · conv => whnf
            refine hG _ _ _ _ (ih (i + 1) e _ _ _ (by omega) (by rw [hx4, nI_1]) he1 (he2 a ha hs2) (he2 b hb hs3) ?_ he3)
            apply Classical.byContradiction
            intro hlt
            have hes : ¬ e = s := hes
            refine hes (zext24 (fun x hx => ?_) he1 hs1)
            have hsm := fb_ct_same (p := bt s) (q := bt e) (n := 24) (fun k hk h => he2 k hk h) (by omega)
            cases h1 : bt s x
            · cases h2 : bt e x
              · rfl
              · rw [hsm x hx h2] at h1; cases h1
            · exact he2 x hx h1
        | succ m ihm =>
          intro v e x6 hv hx6 he1 he2 he3 he4
          refine zg_X4_reach_24 fun G C hG hC => ?_
          conv => whnf
          refine pk_le 24 v (fun _ => by omega) (fun _ => ?_) rfl hx6
          conv => whnf
          subst hx6
          refine hC _ _ _ _ ((sp_has (v := v) (by omega)).conseq ?_)
          rintro r σ' ⟨rfl, rfl⟩
          conv => whnf
          cases hsv : bt s v
          · rw [if_neg (by decide)]
            refine br_t rfl ?_
            conv => whnf
            refine hG _ _ _ _ (ihm (v + 1) e _ (by omega) (nI_1 _) he1 he2 he3 (fun u c hu hbu hc => ?_))
            by_cases eu : u = v
            · subst eu; rw [hsv] at hbu; cases hbu
            · exact he4 u c (by omega) hbu hc
          · rw [if_pos rfl]
            refine br_f (by decide) ?_
            conv => whnf
            refine hC _ _ _ _ ((sp_ledTo (by omega) hk hσ hva).conseq ?_)
            rintro r σ' ⟨rfl, hr⟩
            conv => whnf
            dsimp only
            refine hG _ _ _ _ (ihm (v + 1) _ _ (by omega) (nI_1 _) (fun x h1 h2 => ?_) (fun x hx h => by rw [b_or, he2 x hx h]; rfl) (fun V hV hVa hVb x hx h => ?_) (fun u c hu hbu hc => ?_))
            · rw [b_or, he1 x h1 h2]
              cases hq : bt r x
              · rfl
              · have := ((hr x h2).mp hq).1; omega
            · rw [b_or, Bool.or_eq_true] at h
              rcases h with h | h
              · exact he3 V hV hVa hVb x hx h
              · obtain ⟨-, c, hc, hfc⟩ := (hr x (by omega)).mp h
                have hVv := hs5 V hV hVa hVb v (by omega) hsv
                rcases hV v c (by omega) hVv hc with h9 | ⟨w, hw, h9, hVw⟩
                · exact absurd (hfc.symm.trans h9) (zm1 (by omega))
                · rw [znI_inj (by omega) (by omega) (hfc.symm.trans h9)]; exact hVw
            · by_cases eu : u = v
              · subst eu
                rcases hva u c (by omega) hc with h9 | ⟨w, hw, h9⟩
                · exact Or.inl h9
                · refine Or.inr ⟨w, hw, h9, ?_⟩
                  rw [b_or, (hr w (by omega)).mpr ⟨hw, c, hc, h9⟩, Bool.or_true]
              · exact (he4 u c (by omega) hbu hc).imp id fun ⟨w, p1, p2, p3⟩ => ⟨w, p1, p2, by rw [b_or, p3]; rfl⟩
      exact hG _ _ _ _ (inner 24 0 s _ (by omega) rfl hs1 (fun _ _ h => h) hs5 (fun u c hu => absurd hu (Nat.not_lt_zero u)))
  refine zg_X4_reach_0 fun G C hG hC => ?_
  conv => whnf
  have hs : ∀ x, x < 32 → bt ((1 : Int32) <<< (nI a &&& 31) ||| (1 : Int32) <<< (nI b &&& 31)) x = (decide (x = a) || decide (x = b)) := fun x hx => by rw [b_or, zsh1 a (by omega) x (by omega), zsh1 b (by omega) x (by omega)]
  refine hG _ _ _ _ (loop 24 0 _ _ _ _ (by omega) rfl (fun x h1 h2 => ?_) ?_ ?_ ?_ (fun V _ hVa hVb x hx h => ?_))
  · rw [hs x h2]; simp; omega
  · rw [hs a (by omega)]; simp
  · rw [hs b (by omega)]; simp
  · rw [fb_ct_cong (fun x hx => hs x (by omega))]
    have g : ∀ u, u < 24 → ∀ w, w < 24 → u ≠ w → fb_ct (fun x => decide (x = u) || decide (x = w)) 24 = 2 := by decide +kernel
    have := g a ha b hb hab
    omega
  · rw [hs x (by omega), Bool.or_eq_true, decide_eq_true_eq, decide_eq_true_eq] at h
    rcases h with rfl | rfl
    · exact hVa
    · exact hVb
