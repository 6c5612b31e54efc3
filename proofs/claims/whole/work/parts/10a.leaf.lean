/-! the small methods: has, min, max, fill, countLoose, loosePebble, ledTo -/
theorem sp_has {E : zEN} {d : Nat} {s : Int32} {v : Nat} {σ : zST} (hv : v < 32) : zSp E (d + 1) zM_X7_has [.inl s, .inl (nI v)] σ (fun r σ' => σ' = σ ∧ r = if bt s v = true then 1 else 0) := by
  refine zSp.of rfl (Nat.le_of_ble_eq_true rfl) (zg_X7_has_0 fun G C hG hC => ?_)
  conv => whnf
  dsimp only
  rw [zbitv hv]
  refine ⟨fun h => ?_, fun h => ?_⟩
  · conv => whnf
    refine ⟨Or.inr rfl, rfl, ?_⟩
    cases hb : bt s v
    · rw [hb] at h; exact absurd h (by decide)
    · rfl
  · conv => whnf
    refine ⟨Or.inl rfl, rfl, ?_⟩
    cases hb : bt s v
    · rfl
    · rw [hb] at h; exact absurd rfl h
/-- what is the same outside some cells -/
def zagr (js : List Nat) (σ σ' : zST) : Prop := ∀ j, j ∉ js → σ' j = σ j
theorem zagr.rf {js : List Nat} {σ : zST} : zagr js σ σ := fun _ _ => rfl
theorem zagr.tr {js : List Nat} {σ σ' σ'' : zST} (h : zagr js σ σ') (h' : zagr js σ' σ'') : zagr js σ σ'' := fun j hj => (h' j hj).trans (h j hj)
theorem zagr.up {js : List Nat} {σ σ' : zST} {j k : Nat} {x : Int32} (h : zagr js σ σ') (hj : j ∈ js) : zagr js σ (zup σ' j k x) := fun q hq => (zup_ne (fun e => hq (by rw [e]; exact hj))).trans (h q hq)
theorem zagr.sub {js js' : List Nat} {σ σ' : zST} (h : zagr js σ σ') (hs : ∀ j, j ∈ js → j ∈ js') : zagr js' σ σ' := fun q hq => h q (fun e => hq (hs q e))
theorem sp_fill {E : zEN} {d t j n : Nat} {x : Int32} {σ : zST} (ht : t = 22 ∧ n = 24 ∨ t = 23 ∧ n = 72) : zSp E (d + 1) zM_J7_fill_53178 [.inr (t, j), .inl x] σ (fun _ σ' => zagr [j] σ σ' ∧ ∀ i, i < n → σ' j i = x) := by
  have hn : n < 2 ^ 31 := by omega
  have hK : zaK t = some (false, n) := by rcases ht with ⟨rfl, rfl⟩ | ⟨rfl, rfl⟩ <;> rfl
  refine zSp.of rfl (Nat.le_of_ble_eq_true rfl) ?_
  have loop : ∀ r i (y z : Int32) (σ' : zST), i + r = n → y = nI i → z = nI n → zagr [j] σ σ' → (∀ q, q < i → σ' j q = x) → zWp E (d + 1) zM_J7_fill_53178 (fun _ σ' => zagr [j] σ σ' ∧ ∀ i, i < n → σ' j i = x) 5 [some (.inr (t, j)), some (.inl x), some (.inl y), some (.inl z)] [] σ' := by
    intro r
    induction r with
    | zero =>
      intro i y z σ' hi hy hz ha hq
      refine zg_J7_fill_53178_5 fun G C hG hC => ?_
      conv => whnf
      refine pk_le n i (fun h => ?_) (fun h => by omega) hz hy
      conv => whnf
      exact ⟨ha, fun q hq1 => hq q (by omega)⟩
    | succ r ih =>
      intro i y z σ' hi hy hz ha hq
      refine zg_J7_fill_53178_5 fun G C hG hC => ?_
      conv => whnf
      refine pk_le n i (fun h => by omega) (fun h => ?_) hz hy
      rcases ht with ⟨rfl, rfl⟩ | ⟨rfl, rfl⟩ <;>
      · conv => whnf
        refine ⟨pk_in i _ (by omega) hy, ?_⟩
        conv => whnf
        refine hG _ _ _ _ (ih (i + 1) _ _ _ (by omega) (by rw [hy, nI_1]) hz (ha.up (by simp)) (fun q hq1 => ?_))
        rw [zup_self, pk_cl i hy]
        by_cases e : q = i
        · subst e; exact pk_us
        · rw [pk_un e]; exact hq q (by omega)
  refine zg_J7_fill_53178_0 fun G C hG hC => ?_
  rcases ht with ⟨rfl, rfl⟩ | ⟨rfl, rfl⟩ <;>
  · conv => whnf
    exact hG _ _ _ _ (loop _ 0 _ _ _ (Nat.zero_add _) rfl rfl zagr.rf (fun q hq => absurd hq (Nat.not_lt_zero q)))
theorem sp_countLoose {E : zEN} {d : Nat} {j v k : Nat} {σ : zST} (hv : v < 24) (hk : k ≤ 3) (hσ : σ j 3 = nI k) : zSp E (d + 1) zM_X4_countLoose [.inr (4, j), .inl (nI v)] σ (fun r σ' => σ' = σ ∧ r = nI (zlos (σ (j + 1)) k v)) := by
  refine zSp.of rfl (Nat.le_of_ble_eq_true rfl) ?_
  have e1 : nI v * 3 = nI (3 * v) := (pk_mul v 3).trans (by rw [Nat.mul_comm])
  have e2 : nI v * 3 + σ j 3 = nI (3 * v + k) := by rw [e1, hσ, nI_add]
  have loop : ∀ n i (x y : Int32), i + n = k → x = nI (fb_ct (fun i => decide (σ (j + 1) (3 * v + i) = -1)) i) → y = nI (3 * v + i) → zWp E (d + 1) zM_X4_countLoose (fun r σ' => σ' = σ ∧ r = nI (zlos (σ (j + 1)) k v)) 6 [some (.inr (4, j)), some (.inl (nI v)), some (.inl x), some (.inl y)] [] σ := by
    intro n
    induction n with
    | zero =>
      intro i x y hi hx hy
      refine zg_X4_countLoose_6 (fun G C hG hC => ?_)
      conv => whnf
      refine pk_le (3 * v + k) (3 * v + i) (fun h => ?_) (fun h => by omega) e2 hy
      conv => whnf
      have : i = k := by omega
      subst this
      exact ⟨rfl, hx⟩
    | succ n ih =>
      intro i x y hi hx hy
      refine zg_X4_countLoose_6 (fun G C hG hC => ?_)
      conv => whnf
      refine pk_le (3 * v + k) (3 * v + i) (fun h => by omega) (fun h => ?_) e2 hy
      conv => whnf
      refine ⟨pk_in (3 * v + i) 72 (by omega) hy, ?_⟩
      conv => whnf
      dsimp only
      rw [pk_cl (3 * v + i) hy]
      refine ⟨fun h => ?_, fun h => ?_⟩
      · conv => whnf
        exact hG _ _ _ _ (ih (i + 1) _ _ (by omega) (by rw [hx, nI_1, fb_ct_succ, h]; rfl) (by rw [hy, nI_1]; rfl))
      · conv => whnf
        exact hG _ _ _ _ (ih (i + 1) _ _ (by omega) (by rw [hx, fb_ct_succ]; simp [h]) (by rw [hy, nI_1]; rfl))
  refine zg_X4_countLoose_0 (fun G C hG hC => ?_)
  conv => whnf
  exact hG _ _ _ _ (loop k 0 _ _ (by omega) rfl e1)
theorem sp_loosePebble {E : zEN} {d : Nat} {j v k : Nat} {σ : zST} (hv : v < 24) (hk : k ≤ 3) (hσ : σ j 3 = nI k) : zSp E (d + 1) zM_X4_loosePebble [.inr (4, j), .inl (nI v)] σ (fun r σ' => σ' = σ ∧ ((∃ i, i < k ∧ r = nI (3 * v + i) ∧ σ (j + 1) (3 * v + i) = -1) ∨ (r = -9 ∧ zlos (σ (j + 1)) k v = 0))) := by
  refine zSp.of rfl (Nat.le_of_ble_eq_true rfl) ?_
  have e1 : nI v * 3 = nI (3 * v) := (pk_mul v 3).trans (by rw [Nat.mul_comm])
  have e2 : nI v * 3 + σ j 3 = nI (3 * v + k) := by rw [e1, hσ, nI_add]
  have loop : ∀ n i (y : Int32), i + n = k → fb_ct (fun i => decide (σ (j + 1) (3 * v + i) = -1)) i = 0 → y = nI (3 * v + i) → zWp E (d + 1) zM_X4_loosePebble (fun r σ' => σ' = σ ∧ ((∃ i, i < k ∧ r = nI (3 * v + i) ∧ σ (j + 1) (3 * v + i) = -1) ∨ (r = -9 ∧ zlos (σ (j + 1)) k v = 0))) 4 [some (.inr (4, j)), some (.inl (nI v)), some (.inl y)] [] σ := by
    intro n
    induction n with
    | zero =>
      intro i y hi hx hy
      refine zg_X4_loosePebble_4 (fun G C hG hC => ?_)
      conv => whnf
      refine pk_le (3 * v + k) (3 * v + i) (fun h => ?_) (fun h => by omega) e2 hy
      conv => whnf
      have : i = k := by omega
      subst this
      exact ⟨rfl, Or.inr ⟨rfl, hx⟩⟩
    | succ n ih =>
      intro i y hi hx hy
      refine zg_X4_loosePebble_4 (fun G C hG hC => ?_)
      conv => whnf
      refine pk_le (3 * v + k) (3 * v + i) (fun h => by omega) (fun h => ?_) e2 hy
      conv => whnf
      refine ⟨pk_in (3 * v + i) 72 (by omega) hy, ?_⟩
      conv => whnf
      dsimp only
      rw [pk_cl (3 * v + i) hy]
      refine ⟨fun h => ?_, fun h => ?_⟩
      · conv => whnf
        exact ⟨rfl, Or.inl ⟨i, by omega, hy, h⟩⟩
      · conv => whnf
        exact hG _ _ _ _ (ih (i + 1) _ (by omega) (by rw [fb_ct_succ, hx]; simp [h]) (by rw [hy, nI_1]; rfl))
  refine zg_X4_loosePebble_0 (fun G C hG hC => ?_)
  conv => whnf
  exact hG _ _ _ _ (loop k 0 _ (by omega) rfl e1)
theorem sp_ledTo {E : zEN} {d : Nat} {j v k : Nat} {σ : zST} (hv : v < 24) (hk : k ≤ 3) (hσ : σ j 3 = nI k) (hva : zva k (σ (j + 1))) : zSp E (d + 1) zM_X4_ledTo [.inr (4, j), .inl (nI v)] σ (fun r σ' => σ' = σ ∧ ∀ x, x < 32 → (bt r x = true ↔ x < 24 ∧ ∃ i, i < k ∧ σ (j + 1) (3 * v + i) = nI x)) := by
  refine zSp.of rfl (Nat.le_of_ble_eq_true rfl) ?_
  have e1 : nI v * 3 = nI (3 * v) := (pk_mul v 3).trans (by rw [Nat.mul_comm])
  have e2 : nI v * 3 + σ j 3 = nI (3 * v + k) := by rw [e1, hσ, nI_add]
  have loop : ∀ n i (s y : Int32), i + n = k → (∀ x, x < 32 → (bt s x = true ↔ x < 24 ∧ ∃ q, q < i ∧ σ (j + 1) (3 * v + q) = nI x)) → y = nI (3 * v + i) → zWp E (d + 1) zM_X4_ledTo (fun r σ' => σ' = σ ∧ ∀ x, x < 32 → (bt r x = true ↔ x < 24 ∧ ∃ i, i < k ∧ σ (j + 1) (3 * v + i) = nI x)) 6 [some (.inr (4, j)), some (.inl (nI v)), some (.inl s), some (.inl y)] [] σ := by
    intro n
    induction n with
    | zero =>
      intro i s y hi hs hy
      refine zg_X4_ledTo_6 (fun G C hG hC => ?_)
      conv => whnf
      refine pk_le (3 * v + k) (3 * v + i) (fun h => ?_) (fun h => by omega) e2 hy
      conv => whnf
      have : i = k := by omega
      subst this
      exact ⟨rfl, hs⟩
    | succ n ih =>
      intro i s y hi hs hy
      refine zg_X4_ledTo_6 (fun G C hG hC => ?_)
      conv => whnf
      refine pk_le (3 * v + k) (3 * v + i) (fun h => by omega) (fun h => ?_) e2 hy
      conv => whnf
      refine ⟨pk_in (3 * v + i) 72 (by omega) hy, ?_⟩
      conv => whnf
      dsimp only
      rw [pk_cl (3 * v + i) hy]
      refine ⟨fun h => ?_, fun h => ?_⟩
      · conv => whnf
        refine hG _ _ _ _ (ih (i + 1) _ _ (by omega) (fun x hx => ?_) (by rw [hy, nI_1]; rfl))
        rw [hs x hx]
        refine and_congr_right fun hx24 => ⟨fun ⟨q, q1, q2⟩ => ⟨q, by omega, q2⟩, fun ⟨q, q1, q2⟩ => ?_⟩
        by_cases e : q = i
        · subst e; exact absurd (q2.symm.trans h) (zm1 (by omega))
        · exact ⟨q, by omega, q2⟩
      · conv => whnf
        refine ⟨pk_in (3 * v + i) 72 (by omega) hy, ?_⟩
        conv => whnf
        refine hG _ _ _ _ (ih (i + 1) _ _ (by omega) (fun x hx => ?_) (by rw [hy, nI_1]; rfl))
        dsimp only
        rw [pk_cl (3 * v + i) hy]
        rcases hva v i hv (by omega) with h1 | ⟨w, hw, h1⟩
        · exact absurd h1 h
        · rw [h1, b_or, zsh1 w (by omega) x hx, Bool.or_eq_true, hs x hx, decide_eq_true_eq]
          constructor
          · rintro (⟨g1, q, g2, g3⟩ | g1)
            · exact ⟨g1, q, by omega, g3⟩
            · subst g1; exact ⟨hw, i, by omega, h1⟩
          · rintro ⟨g1, q, g2, g3⟩
            by_cases e : q = i
            · subst e
              right
              exact znI_inj (by omega) (by omega) (g3.symm.trans h1)
            · exact Or.inl ⟨g1, q, by omega, g3⟩
  refine zg_X4_ledTo_0 (fun G C hG hC => ?_)
  conv => whnf
  refine hG _ _ _ _ (loop k 0 _ _ (by omega) (fun x hx => ?_) e1)
  rw [b_0]
  exact ⟨fun h => (by cases h), fun ⟨_, q, h, _⟩ => absurd h (Nat.not_lt_zero q)⟩
