/-! bitCount, jointAt; the reference's bits and first -/
theorem zdg_lt : ∀ n x, 3 * zdg n x < 16 ^ n
  | 0, x => by simp [zdg]
  | n + 1, x => by
    have ih := zdg_lt n (x / 16)
    have := zp4_le (x % 16)
    show 3 * (zp4 (x % 16) + 16 * zdg n (x / 16)) < 16 ^ (n + 1)
    rw [Nat.pow_succ]
    omega
theorem zushr_nI {n : Nat} (hn : n < 2 ^ 32) (s : Int32) (k : Nat) (hs : ((s.toUInt32 &&& Int32.toUInt32 31).toBitVec % 32).toNat = k) : zushr (nI n) s = nI (n / 2 ^ k) := pk_ushrN hn s k hs
theorem sp_bitCount {E : zEN} {d : Nat} {x : Int32} {σ : zST} : zSp E (d + 1) zM_J6_bitCount_0f7a4 [.inl x] σ (fun r σ' => σ' = σ ∧ r = nI (fb_ct (bt x) 32)) := by
  obtain ⟨n, hn, rfl⟩ := zof32 x
  refine zSp.of rfl (Nat.le_of_ble_eq_true rfl) (zg_J6_bitCount_0f7a4_0 fun G C hG hC => ?_)
  conv => whnf
  refine ⟨rfl, ?_⟩
  dsimp only
  rw [zpop_eq rfl, ← zjb_eq hn]
  have r5 : zrep 5 8 = 1431655765 := by decide
  have r3 : zrep 3 8 = 858993459 := by decide
  have c5 : (1431655765 : Int32) = nI 1431655765 := rfl
  have c3 : (858993459 : Int32) = nI 858993459 := rfl
  have cf : (252645135 : Int32) = nI 252645135 := rfl
  have c63 : (63 : Int32) = nI 63 := rfl
  have e1 : nI n - (zushr (nI n) 1 &&& 1431655765) = nI (zs1 8 n) := by
    rw [zushr_nI hn 1 1 (by decide), c5, zand_nI]
    have : n / 2 ^ 1 &&& 1431655765 ≤ n / 2 ^ 1 := Nat.and_le_left
    rw [pk_sub (by omega)]
    unfold zs1
    rw [r5]
  have hs1 : zs1 8 n ≤ n := by unfold zs1; omega
  have e2 : (nI (zs1 8 n) &&& 858993459) + (zushr (nI (zs1 8 n)) 2 &&& 858993459) = nI (zs2 8 n) := by
    rw [zushr_nI (by omega) 2 2 (by decide), c3, zand_nI, zand_nI, nI_add]
    unfold zs2
    rw [r3]
  have h16 : (16 : Nat) ^ 8 = 2 ^ 32 := by decide
  have hd : zs2 8 n = zdg 8 n := zs2_dg 8 n (by rw [h16]; exact hn)
  have hlt := zdg_lt 8 n
  rw [h16, ← hd] at hlt
  have e3 : (nI (zs2 8 n) + zushr (nI (zs2 8 n)) 4) &&& 252645135 = nI ((zs2 8 n + zs2 8 n / 16) &&& 252645135) := by
    rw [zushr_nI (by omega) 4 4 (by decide), nI_add, cf, zand_nI]
  rw [e1, e2, e3]
  have ht : (zs2 8 n + zs2 8 n / 16) &&& 252645135 ≤ 252645135 := Nat.and_le_right
  unfold zjb
  dsimp only
  generalize (zs2 8 n + zs2 8 n / 16) &&& 252645135 = t at *
  rw [zushr_nI (by omega) 8 8 (by decide), nI_add, zushr_nI (by omega) 16 16 (by decide), nI_add, c63, zand_nI]
theorem zpop24 {s : Int32} (h : ∀ x, 24 ≤ x → x < 32 → bt s x = false) : fb_ct (bt s) 32 = fb_ct (bt s) 24 := by
  have e := fb_ct_split (bt s) 24 8
  have z : fb_ct (fun k => bt s (24 + k)) 8 = 0 := fb_ct_zero.mpr fun k hk => h (24 + k) (by omega) (by omega)
  rw [z] at e
  exact e
theorem zpopmk (p : Nat → Bool) : fb_ct (bt (zmk p)) 32 = fb_ct p 24 := by
  rw [zpop24 (fun x h1 h2 => zmk_hi p h1 h2)]
  exact fb_ct_cong fun x hx => zmk_bt p hx
theorem sp_jointAt {E : zEN} {d : Nat} {p : Nat → Bool} {i : Int32} {σ : zST} : zSp E (d + 2) zM_X7_jointAt [.inl (zmk p), .inl i] σ (fun r σ' => σ' = σ ∧ zith p 24 i r) := by
  refine zSp.of rfl (Nat.le_of_ble_eq_true rfl) ?_
  have loop : ∀ r v (x2 x3 : Int32), v + r = 24 → x2 = nI (fb_ct p v) → x3 = nI v → (∀ x, x < v → p x = true → i ≠ nI (fb_ct p x)) → zWp E (d + 2) zM_X7_jointAt (fun r σ' => σ' = σ ∧ zith p 24 i r) 4 [some (.inl (zmk p)), some (.inl i), some (.inl x2), some (.inl x3)] [] σ := by
    intro r
    induction r with
    | zero =>
      intro v x2 x3 hv hx2 hx3 hno
      refine zg_X7_jointAt_4 fun G C hG hC => ?_
      conv => whnf
      refine pk_le 24 v (fun _ => ?_) (fun _ => by omega) rfl hx3
      conv => whnf
      exact ⟨rfl, Or.inr ⟨fun x hx h => hno x (by omega) h, rfl⟩⟩
    | succ r ih =>
      intro v x2 x3 hv hx2 hx3 hno
      subst hx3
      refine zg_X7_jointAt_4 fun G C hG hC => ?_
      conv => whnf
      refine pk_le 24 v (fun _ => by omega) (fun _ => ?_) rfl rfl
      conv => whnf
      refine hC _ _ _ _ ((sp_has (v := v) (by omega)).conseq ?_)
      rintro r2 σ' ⟨rfl, rfl⟩
      conv => whnf
      rw [zmk_bt p (by omega)]
      cases h : p v
      · rw [if_neg (by decide)]
        refine br_t rfl ?_
        conv => whnf
        refine hG _ _ _ _ (ih (v + 1) _ _ (by omega) (by rw [hx2, fb_ct_succ, h]; rfl) (nI_1 v) (fun x hx hq => ?_))
        by_cases e : x = v
        · subst e; rw [h] at hq; cases hq
        · exact hno x (by omega) hq
      · rw [if_pos rfl]
        refine br_f (by decide) ?_
        conv => whnf
        refine ⟨fun he => ?_, fun he => ?_⟩
        · conv => whnf
          have he : x2 = i := he
          exact ⟨rfl, Or.inl ⟨v, by omega, h, by rw [← he, hx2], rfl⟩⟩
        · conv => whnf
          have he : ¬ x2 = i := he
          refine hG _ _ _ _ (ih (v + 1) _ _ (by omega) (by rw [hx2, fb_ct_succ, h, nI_1]; rfl) (nI_1 v) (fun x hx hq => ?_))
          by_cases e : x = v
          · subst e; exact fun e2 => he (by rw [hx2, e2])
          · exact hno x (by omega) hq
  refine zg_X7_jointAt_0 fun G C hG hC => ?_
  conv => whnf
  exact hG _ _ _ _ (loop 24 0 _ _ (by omega) rfl rfl (fun x hx => absurd hx (Nat.not_lt_zero x)))
theorem sp_bits {E : zEN} {d : Nat} {s : Int32} {σ : zST} : zSp E (d + 1) zM_X8_bits [.inl s] σ (fun r σ' => σ' = σ ∧ r = nI (fb_ct (bt s) 32)) := by
  obtain ⟨n, hn, rfl⟩ := zof32 s
  refine zSp.of rfl (Nat.le_of_ble_eq_true rfl) ?_
  have loop : ∀ r q (x1 x2 : Int32), fb_ct (fun i => q.testBit i) 32 = r → q < 2 ^ 32 → x2 = nI q → x1 = nI (fb_ct (bt (nI n)) 32 - r) → r ≤ fb_ct (bt (nI n)) 32 → zWp E (d + 1) zM_X8_bits (fun r σ' => σ' = σ ∧ r = nI (fb_ct (bt (nI n)) 32)) 4 [some (.inl (nI n)), some (.inl x1), some (.inl x2)] [] σ := by
    intro r
    induction r with
    | zero =>
      intro q x1 x2 hq hq32 hx2 hx1 hr
      have : q = 0 := zpop_le hq hq32
      subst this
      refine zg_X8_bits_4 fun G C hG hC => ?_
      conv => whnf
      refine br_t hx2 ?_
      conv => whnf
      exact ⟨rfl, hx1⟩
    | succ r ih =>
      intro q x1 x2 hq hq32 hx2 hx1 hr
      have hq0 : 0 < q := by
        rcases Nat.eq_zero_or_pos q with e | e
        · subst e
          have : fb_ct (fun i => Nat.testBit 0 i) 32 = 0 := fb_ct_zero.mpr fun i _ => Nat.zero_testBit i
          omega
        · exact e
      have hne : ¬ x2 = 0 := by
        rw [hx2]
        intro e
        have := congrArg (fun x : Int32 => x.toBitVec.toNat) e
        simp only [pk_tn hq32] at this
        have h0 : (0 : Int32).toBitVec.toNat = 0 := rfl
        omega
      have hl := zlow 32 q hq0 hq32
      refine zg_X8_bits_4 fun G C hG hC => ?_
      conv => whnf
      refine br_f hne ?_
      conv => whnf
      have e1 : x2 &&& (x2 - 1) = nI (q &&& (q - 1)) := by
        have : nI q - 1 = nI (q - 1) := pk_sub (b := 1) (by omega)
        rw [hx2, this, zand_nI]
      have hle : q &&& (q - 1) ≤ q := Nat.and_le_left
      refine hG _ _ _ _ (ih (q &&& (q - 1)) _ _ (by omega) (by omega) e1 ?_ (by omega))
      rw [hx1, nI_1]
      congr 1
      omega
  refine zg_X8_bits_0 fun G C hG hC => ?_
  conv => whnf
  refine hG _ _ _ _ (loop _ n _ _ rfl hn rfl ?_ ?_)
  · rw [zpop_eq rfl, Nat.sub_self]; rfl
  · rw [zpop_eq rfl]; exact Nat.le_refl _
theorem sp_first {E : zEN} {d v : Nat} {s : Int32} {σ : zST} (hv : v < 32) (h1 : bt s v = true) (h2 : ∀ x, x < v → bt s x = false) : zSp E (d + 1) zM_X8_first [.inl s] σ (fun r σ' => σ' = σ ∧ r = nI v) := by
  refine zSp.of rfl (Nat.le_of_ble_eq_true rfl) ?_
  have loop : ∀ r i (x1 : Int32), i + r = v → x1 = nI i → zWp E (d + 1) zM_X8_first (fun r σ' => σ' = σ ∧ r = nI v) 2 [some (.inl s), some (.inl x1)] [] σ := by
    intro r
    induction r with
    | zero =>
      intro i x1 hi hx1
      have : i = v := by omega
      subst this
      refine zg_X8_first_2 fun G C hG hC => ?_
      conv => whnf
      dsimp only
      rw [hx1, zbitv hv, h1, if_pos rfl]
      refine br_f (by decide) ?_
      conv => whnf
      exact ⟨rfl, rfl⟩
    | succ r ih =>
      intro i x1 hi hx1
      refine zg_X8_first_2 fun G C hG hC => ?_
      conv => whnf
      dsimp only
      rw [hx1, zbitv (by omega), h2 i (by omega), if_neg (by decide)]
      refine br_t rfl ?_
      conv => whnf
      exact hG _ _ _ _ (ih (i + 1) _ (by omega) (nI_1 i))
  refine zg_X8_first_0 fun G C hG hC => ?_
  conv => whnf
  exact hG _ _ _ _ (loop v 0 _ (by omega) rfl)
