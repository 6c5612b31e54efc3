/-! Steps' methods -/
def zne (N : zNT) (f : Nat → Int32) : Prop := ∀ v, v < 24 → f v = zmk (N v)
theorem zmk_or (p q : Nat → Bool) {s : Int32} (hs : ∀ i, i < 32 → bt s i = (decide (i < 24) && q i)) : zmk p ||| s = zmk (fun x => p x || q x) := by
  refine zmk_eq (fun i hi => ?_) (fun i h1 h2 => ?_)
  · rw [b_or, zmk_bt p hi, hs i (by omega)]; simp [hi]
  · rw [b_or, zmk_hi p h1 h2, hs i h2]
    have : ¬ i < 24 := by omega
    simp [this]
theorem zmk_or1 (p : Nat → Bool) {w : Nat} (hw : w < 24) : zmk p ||| ((1 : Int32) <<< (nI w &&& 31)) = zmk (fun x => p x || decide (x = w)) := zmk_or p (fun x => decide (x = w)) (fun i hi => by
  rw [zsh1 w (by omega) i hi]
  by_cases e : i = w
  · subst e; simp [hw]
  · simp [e])
theorem zmk_del (p : Nat → Bool) {w : Nat} (hw : w < 24) : zmk p &&& (((1 : Int32) <<< (nI w &&& 31)) ^^^ (-1)) = zmk (fun x => p x && !decide (x = w)) := by
  refine zmk_eq (fun i hi => ?_) (fun i h1 h2 => ?_)
  · rw [b_and, zmk_bt p hi, zbnot (by omega), zsh1 w (by omega) i (by omega)]
  · rw [b_and, zmk_hi p h1 h2]; rfl
theorem zmk_none : zmk (fun _ => false) = 0 := (zmk_eq (fun i _ => b_0 i) (fun i _ _ => b_0 i)).symm
theorem zne.tie {N : zNT} {f : Nat → Int32} (h : zne N f) {a b : Nat} (ha : a < 24) (hb : b < 24) (hab : a ≠ b) : zne (zadd N (some (a, b))) (upd (upd f a (f a ||| ((1 : Int32) <<< (nI b &&& 31)))) b (f b ||| ((1 : Int32) <<< (nI a &&& 31)))) := by
  intro v hv
  by_cases e1 : v = b
  · subst e1
    rw [pk_us, h v hv, zmk_or1 _ ha]
    refine zmk_cong fun x _ => ?_
    have : ¬ v = a := fun e => hab e.symm
    simp [zadd, this]
  · rw [pk_un e1]
    by_cases e2 : v = a
    · subst e2
      rw [pk_us, h v hv, zmk_or1 _ hb]
      refine zmk_cong fun x _ => ?_
      simp [zadd, hab]
    · rw [pk_un e2, h v hv]
      refine zmk_cong fun x _ => ?_
      simp [zadd, e1, e2]
theorem sp_tie {E : zEN} {d a b : Nat} {N : zNT} {σ : zST} (hN : zne N (σ 46)) (ha : a < 24) (hb : b < 24) (hab : a ≠ b) : zSp E (d + 1) zM_X6_tie [.inr (6, 42), .inl (nI a), .inl (nI b)] σ (fun _ σ' => zagr [46] σ σ' ∧ zne (zadd N (some (a, b))) (σ' 46)) := by
  refine zSp.of rfl (Nat.le_of_ble_eq_true rfl) (zg_X6_tie_0 fun G C hG hC => ?_)
  conv => whnf
  refine ⟨pk_in a 24 ha, ?_⟩
  conv => whnf
  refine ⟨pk_in a 24 ha, ?_⟩
  conv => whnf
  refine ⟨pk_in b 24 hb, ?_⟩
  conv => whnf
  refine ⟨pk_in b 24 hb, ?_⟩
  conv => whnf
  dsimp only
  rw [nI_clamp (by omega : a < 2 ^ 31), nI_clamp (by omega : b < 2 ^ 31)]
  refine ⟨(zagr.rf.up (by simp)).up (by simp), ?_⟩
  rw [zup_self, zup_self, pk_un (Ne.symm hab)]
  exact hN.tie ha hb hab
theorem sp_leastTied {E : zEN} {d ch : Nat} {A : zAS} {N : zNT} {S : Nat → Bool} {σ : zST} (hF : zcf A ch σ) (hN : zne N (σ 46)) (hw : zwf (zan A) N) : zSp E (d + 2) zM_X6_leastTied [.inr (6, 42), .inl (zmk S)] σ (fun r σ' => σ' = σ ∧ r = nI ((zbst N S (zan A)).getD 0)) := by
  have hn := hF.1.1
  refine zSp.of rfl (Nat.le_of_ble_eq_true rfl) ?_
  have loop : ∀ r v (x2 x3 x4 : Int32) (x5 : Option zAV), v + r = zan A → x4 = nI v → ((zbst N S v = none ∧ x2 = nI 0 ∧ x3 = nI 24) ∨ ∃ b, zbst N S v = some b ∧ b < 24 ∧ x2 = nI b ∧ x3 = nI (zdeg N b)) → zWp E (d + 2) zM_X6_leastTied (fun r σ' => σ' = σ ∧ r = nI ((zbst N S (zan A)).getD 0)) 8 [some (.inr (6, 42)), some (.inl (zmk S)), some (.inl x2), some (.inl x3), some (.inl x4), x5] [] σ := by
    intro r
    induction r with
    | zero =>
      intro v x2 x3 x4 x5 hv hx4 hb
      refine zg_X6_leastTied_8 fun G C hG hC => ?_
      conv => whnf
      refine pk_le _ v (fun _ => ?_) (fun _ => by omega) hF.2.2.1 hx4
      conv => whnf
      have : v = zan A := by omega
      subst this
      rcases hb with ⟨h1, h2, h3⟩ | ⟨b, h1, h2, h3, h4⟩
      · exact ⟨rfl, by rw [h1, h2]; rfl⟩
      · exact ⟨rfl, by rw [h1, h3]; rfl⟩
    | succ r ih =>
      intro v x2 x3 x4 x5 hv hx4 hb
      subst hx4
      have hdv := zdeg_lt hw v (by omega)
      refine zg_X6_leastTied_8 fun G C hG hC => ?_
      conv => whnf
      refine pk_le _ v (fun _ => by omega) (fun _ => ?_) hF.2.2.1 rfl
      conv => whnf
      refine ⟨pk_in v 24 (by omega), ?_⟩
      conv => whnf
      dsimp only
      rw [nI_clamp (by omega : v < 2 ^ 31), hN v (by omega)]
      refine hC _ _ _ _ (sp_bitCount.conseq ?_)
      rintro r2 σ' ⟨rfl, rfl⟩
      conv => whnf
      refine hC _ _ _ _ ((sp_has (v := v) (by omega)).conseq ?_)
      rintro r2 σ' ⟨rfl, rfl⟩
      conv => whnf
      rw [zmk_bt S (by omega), zpopmk]
      have hstep : zbst N S (v + 1) = if S v = true then (match zbst N S v with
        | none => some v
        | some b => if zdeg N v < zdeg N b then some v else some b) else zbst N S v := rfl
      cases hS : S v
      · rw [if_neg (by decide)]
        refine br_t rfl ?_
        conv => whnf
        refine hG _ _ _ _ (ih (v + 1) _ _ _ _ (by omega) (nI_1 v) ?_)
        rw [hstep, hS, if_neg (by decide)]; exact hb
      · rw [if_pos rfl]
        refine br_f (by decide) ?_
        conv => whnf
        rw [hS, if_pos rfl] at hstep
        rcases hb with ⟨h1, h2, h3⟩ | ⟨b, h1, h2, h3, h4⟩
        · rw [h1] at hstep
          refine pk_le 24 (zdeg N v) (fun _ => by omega) (fun _ => ?_) h3 rfl
          conv => whnf
          exact hG _ _ _ _ (ih (v + 1) _ _ _ _ (by omega) (nI_1 v) (Or.inr ⟨v, hstep, by omega, rfl, rfl⟩))
        · rw [h1] at hstep
          have hdb := zdeg_lt hw b h2
          refine pk_le (zdeg N b) (zdeg N v) (fun hle => ?_) (fun hlt => ?_) h4 rfl
          · conv => whnf
            refine hG _ _ _ _ (ih (v + 1) _ _ _ _ (by omega) (nI_1 v) (Or.inr ⟨b, ?_, h2, h3, h4⟩))
            rw [hstep]
            dsimp only
            rw [if_neg (by omega)]
          · conv => whnf
            refine hG _ _ _ _ (ih (v + 1) _ _ _ _ (by omega) (nI_1 v) (Or.inr ⟨v, ?_, by omega, rfl, rfl⟩))
            rw [hstep]
            dsimp only
            rw [if_pos hlt]
  refine zg_X6_leastTied_0 fun G C hG hC => ?_
  conv => whnf
  exact hG _ _ _ _ (loop (zan A) 0 _ _ _ _ (by omega) rfl (Or.inl ⟨rfl, rfl, rfl⟩))
theorem sp_takeAway {E : zEN} {d v : Nat} {N : zNT} {σ : zST} (hN : zne N (σ 46)) (hv : v < 24) : zSp E (d + 1) zM_X6_takeAway [.inr (6, 42), .inl (nI v)] σ (fun _ σ' => zagr [46] σ σ' ∧ zne (zaw N v) (σ' 46)) := by
  refine zSp.of rfl (Nat.le_of_ble_eq_true rfl) ?_
  have loop : ∀ r i (x2 : Int32) (σ' : zST), i + r = 24 → x2 = nI i → zagr [46] σ σ' → (∀ w, w < 24 → σ' 46 w = if w < i then zmk (zaw N v w) else if w = v then 0 else zmk (N w)) → zWp E (d + 1) zM_X6_takeAway (fun _ σ' => zagr [46] σ σ' ∧ zne (zaw N v) (σ' 46)) 9 [some (.inr (6, 42)), some (.inl (nI v)), some (.inl x2)] [] σ' := by
    intro r
    induction r with
    | zero =>
      intro i x2 σ' hi hx2 hag hq
      refine zg_X6_takeAway_9 fun G C hG hC => ?_
      conv => whnf
      refine pk_le 24 i (fun _ => ?_) (fun _ => by omega) rfl hx2
      conv => whnf
      exact ⟨hag, fun w hw => by rw [hq w hw, if_pos (by omega)]⟩
    | succ r ih =>
      intro i x2 σ' hi hx2 hag hq
      refine zg_X6_takeAway_9 fun G C hG hC => ?_
      conv => whnf
      refine pk_le 24 i (fun _ => by omega) (fun _ => ?_) rfl hx2
      conv => whnf
      refine ⟨pk_in i 24 (by omega) hx2, ?_⟩
      conv => whnf
      refine ⟨pk_in i 24 (by omega) hx2, ?_⟩
      conv => whnf
      dsimp only
      rw [pk_cl i hx2]
      refine hG _ _ _ _ (ih (i + 1) _ _ (by omega) (by rw [hx2, nI_1]) (hag.up (by simp)) (fun w hw => ?_))
      rw [zup_self]
      by_cases e : w = i
      · subst e
        rw [pk_us, if_pos (by omega), hq w hw, if_neg (by omega)]
        by_cases e2 : w = v
        · subst e2
          rw [if_pos rfl, ← zmk_none, zmk_del _ hv]
          refine zmk_cong fun x _ => ?_
          simp [zaw]
        · rw [if_neg e2, zmk_del _ hv]
          refine zmk_cong fun x _ => ?_
          simp [zaw, e2]
      · rw [pk_un e, hq w hw]
        have : w < i ↔ w < i + 1 := by omega
        simp only [this]
  refine zg_X6_takeAway_0 fun G C hG hC => ?_
  conv => whnf
  refine ⟨pk_in v 24 hv, ?_⟩
  conv => whnf
  dsimp only
  rw [nI_clamp (by omega : v < 2 ^ 31)]
  refine hG _ _ _ _ (loop 24 0 _ _ (by omega) rfl (zagr.rf.up (by simp)) (fun w hw => ?_))
  rw [zup_self, if_neg (Nat.not_lt_zero w)]
  by_cases e : w = v
  · subst e; rw [pk_us, if_pos rfl]
  · rw [pk_un e, if_neg e]; exact hN w hw
set_option maxHeartbeats 4000000 in
theorem sp_layBoard {E : zEN} {d : Nat} {N : zNT} {σ : zST} (hN : zne N (σ 46)) : zSp E (d + 5) zM_X6_layBoard [.inr (6, 42)] σ (fun _ σ' => zagr [36, 37, 38, 39] σ σ' ∧ zbd 36 2 3 (zGl (zlb N)) σ') := by
  refine zSp.of rfl (Nat.le_of_ble_eq_true rfl) ?_
  have outer : ∀ r u (x1 : Int32) (x2 : Option zAV) (σ' : zST), u + r = 24 → x1 = nI u → zagr [36, 37, 38, 39] σ σ' → zbd 36 2 3 (zGl (zlu N 24 u)) σ' → zWp E (d + 5) zM_X6_layBoard (fun _ σ' => zagr [36, 37, 38, 39] σ σ' ∧ zbd 36 2 3 (zGl (zlb N)) σ') 11 [some (.inr (6, 42)), some (.inl x1), x2] [] σ' := by
    intro r
    induction r with
    | zero =>
      intro u x1 x2 σ' hu hx1 hag hB
      refine zg_X6_layBoard_11 fun G C hG hC => ?_
      conv => whnf
      refine pk_le 24 u (fun _ => ?_) (fun _ => by omega) rfl hx1
      conv => whnf
      have : u = 24 := by omega
      subst this
      exact ⟨hag, hB⟩
    | succ r ih =>
      intro u x1 x2 σ' hu hx1 hag hB
      subst hx1
      refine zg_X6_layBoard_11 fun G C hG hC => ?_
      conv => whnf
      refine pk_le 24 u (fun _ => by omega) (fun _ => ?_) rfl rfl
      conv => whnf
      have inner : ∀ r2 w (x2 : Int32) (σ' : zST), w + r2 = 24 → u < w → x2 = nI w → zagr [36, 37, 38, 39] σ σ' → zbd 36 2 3 (zGl (zlw N u (zlu N 24 u) w)) σ' → zWp E (d + 5) zM_X6_layBoard (fun _ σ' => zagr [36, 37, 38, 39] σ σ' ∧ zbd 36 2 3 (zGl (zlb N)) σ') 21 [some (.inr (6, 42)), some (.inl (nI u)), some (.inl x2)] [] σ' := by
        intro r2
        induction r2 with
        | zero =>
          intro w x2 σ' hw huw hx2 hag hB
          refine zg_X6_layBoard_21 fun G C hG hC => ?_
          conv => whnf
          refine pk_le 24 w (fun _ => ?_) (fun _ => by omega) rfl hx2
          conv => whnf
          have : w = 24 := by omega
          subst this
          exact hG _ _ _ _ (ih (u + 1) _ _ σ' (by omega) (nI_1 u) hag hB)
        | succ r2 ih2 =>
          intro w x2 σ' hw huw hx2 hag hB
          subst hx2
          have hN' : σ' 46 u = zmk (N u) := by rw [hag 46 (by simp)]; exact hN u (by omega)
          have hstep : zlw N u (zlu N 24 u) (w + 1) = zls N (zlw N u (zlu N 24 u) w) u w := by
            show (if u < w then _ else _) = _
            rw [if_pos huw]
          refine zg_X6_layBoard_21 fun G C hG hC => ?_
          conv => whnf
          refine pk_le 24 w (fun _ => by omega) (fun _ => ?_) rfl rfl
          conv => whnf
          refine ⟨pk_in u 24 (by omega), ?_⟩
          conv => whnf
          dsimp only
          rw [nI_clamp (by omega : u < 2 ^ 31), hN']
          refine hC _ _ _ _ ((sp_has (v := w) (by omega)).conseq ?_)
          rintro r3 σ' ⟨rfl, rfl⟩
          conv => whnf
          rw [zmk_bt _ (by omega)]
          cases h : N u w
          · rw [if_neg (by decide)]
            refine br_t rfl ?_
            conv => whnf
            refine hG _ _ _ _ (ih2 (w + 1) _ σ' (by omega) (by omega) (nI_1 w) hag ?_)
            rw [hstep, zls_no h]; exact hB
          · rw [if_pos rfl]
            refine br_f (by decide) ?_
            conv => whnf
            refine hC _ _ _ _ ((sp_put (d := d) hB (by omega : u < 24) (by omega : w < 24) (by omega)).conseq ?_)
            rintro r4 σ2 ⟨w1, hr⟩
            conv => whnf
            refine hG _ _ _ _ (ih2 (w + 1) _ σ2 (by omega) (by omega) (nI_1 w) (hag.tr (w1.sub (by simp))) ?_)
            rw [hstep]
            unfold zls
            rw [h, Bool.true_and]
            rcases hr with ⟨-, hf, hB2⟩ | ⟨-, hf, hB2, -⟩
            · rw [if_pos (zgrb_t.mpr hf)]
              exact hB2.cong (fun V => (zGl_snoc _ u w V).symm)
            · rw [if_neg (by rw [zgrb_f.mpr hf]; decide)]
              exact hB2
      refine hG _ _ _ _ (inner (24 - (u + 1)) (u + 1) _ σ' (by omega) (by omega) (nI_1 u) hag ?_)
      rw [zlw_low _ _ _ _ (Nat.le_refl _)]; exact hB
  refine zg_X6_layBoard_0 fun G C hG hC => ?_
  conv => whnf
  refine hC _ _ _ _ ((sp_start (d := d + 2) (j := 36) (k := 2) (l := 3) (by decide) (by decide)).conseq ?_)
  rintro r3 σ3 ⟨s1, s2⟩
  conv => whnf
  exact hG _ _ _ _ (outer 24 0 _ _ σ3 (by omega) rfl (s1.sub (by simp)) s2)
set_option maxHeartbeats 4000000 in
theorem sp_bridge {E : zEN} {d : Nat} {N : zNT} {nb : Nat → Bool} {l : List (Nat × Nat)} {σ : zST} (hN : zne N (σ 46)) (hB : zbd 36 2 3 (zGl l) σ) : zSp E (d + 4) zM_X6_bridge [.inr (6, 42), .inl (zmk nb)] σ (fun r σ' => zagr [37, 38, 39, 46] σ σ' ∧ r = zcode (zbf2 nb l) ∧ zne (zadd N (zbf2 nb l)) (σ' 46)) := by
  refine zSp.of rfl (Nat.le_of_ble_eq_true rfl) ?_
  have outer : ∀ r u (x2 : Int32) (x3 : Option zAV) (σ' : zST), u + r = 24 → x2 = nI u → zagr [37, 38, 39, 46] σ σ' → zne N (σ' 46) → zbd 36 2 3 (zGl l) σ' → (∀ a b, a < b → b < 24 → a < u → nb a = true → nb b = true → ¬ zfr 2 3 (zGl l) a b) → zWp E (d + 4) zM_X6_bridge (fun r σ' => zagr [37, 38, 39, 46] σ σ' ∧ r = zcode (zbf2 nb l) ∧ zne (zadd N (zbf2 nb l)) (σ' 46)) 2 [some (.inr (6, 42)), some (.inl (zmk nb)), some (.inl x2), x3] [] σ' := by
    intro r
    induction r with
    | zero =>
      intro u x2 x3 σ' hu hx2 hag hN' hB' hno
      refine zg_X6_bridge_2 fun G C hG hC => ?_
      conv => whnf
      refine pk_le 24 u (fun _ => ?_) (fun _ => by omega) rfl hx2
      conv => whnf
      have e := zbf2_none (nb := nb) (l := l) (fun a b h1 h2 h3 h4 => hno a b h1 h2 (by omega) h3 h4)
      rw [e]
      exact ⟨hag, rfl, hN'⟩
    | succ r ih =>
      intro u x2 x3 σ' hu hx2 hag hN' hB' hno
      subst hx2
      refine zg_X6_bridge_2 fun G C hG hC => ?_
      conv => whnf
      refine pk_le 24 u (fun _ => by omega) (fun _ => ?_) rfl rfl
      conv => whnf
      have inner : ∀ r2 w (x3 : Int32) (σ' : zST), w + r2 = 24 → u < w → x3 = nI w → zagr [37, 38, 39, 46] σ σ' → zne N (σ' 46) → zbd 36 2 3 (zGl l) σ' → (∀ a b, a < b → b < 24 → (a < u ∨ a = u ∧ b < w) → nb a = true → nb b = true → ¬ zfr 2 3 (zGl l) a b) → zWp E (d + 4) zM_X6_bridge (fun r σ' => zagr [37, 38, 39, 46] σ σ' ∧ r = zcode (zbf2 nb l) ∧ zne (zadd N (zbf2 nb l)) (σ' 46)) 12 [some (.inr (6, 42)), some (.inl (zmk nb)), some (.inl (nI u)), some (.inl x3)] [] σ' := by
        intro r2
        induction r2 with
        | zero =>
          intro w x3 σ' hw huw hx3 hag hN' hB' hno
          refine zg_X6_bridge_12 fun G C hG hC => ?_
          conv => whnf
          refine pk_le 24 w (fun _ => ?_) (fun _ => by omega) rfl hx3
          conv => whnf
          exact hG _ _ _ _ (ih (u + 1) _ _ σ' (by omega) (nI_1 u) hag hN' hB' (fun a b h1 h2 h3 => hno a b h1 h2 (by omega)))
        | succ r2 ih2 =>
          intro w x3 σ' hw huw hx3 hag hN' hB' hno
          subst hx3
          have next : (nb u = true → nb w = true → ¬ zfr 2 3 (zGl l) u w) → ∀ a b, a < b → b < 24 → (a < u ∨ a = u ∧ b < w + 1) → nb a = true → nb b = true → ¬ zfr 2 3 (zGl l) a b := by
            intro h a b h1 h2 h3 h4 h5
            by_cases e : a = u ∧ b = w
            · obtain ⟨rfl, rfl⟩ := e; exact h h4 h5
            · exact hno a b h1 h2 (by omega) h4 h5
          refine zg_X6_bridge_12 fun G C hG hC => ?_
          conv => whnf
          refine pk_le 24 w (fun _ => by omega) (fun _ => ?_) rfl rfl
          conv => whnf
          refine hC _ _ _ _ ((sp_has (v := u) (by omega)).conseq ?_)
          rintro r3 σ' ⟨rfl, rfl⟩
          conv => whnf
          rw [zmk_bt _ (by omega)]
          cases h1 : nb u
          · rw [if_neg (by decide)]
            refine br_t rfl ?_
            conv => whnf
            exact hG _ _ _ _ (ih2 (w + 1) _ σ' (by omega) (by omega) (nI_1 w) hag hN' hB' (next (fun h => by rw [h1] at h; cases h)))
          · rw [if_pos rfl]
            refine br_f (by decide) ?_
            conv => whnf
            refine hC _ _ _ _ ((sp_has (v := w) (by omega)).conseq ?_)
            rintro r3 σ' ⟨rfl, rfl⟩
            conv => whnf
            rw [zmk_bt _ (by omega)]
            cases h2 : nb w
            · rw [if_neg (by decide)]
              refine br_t rfl ?_
              conv => whnf
              exact hG _ _ _ _ (ih2 (w + 1) _ σ' (by omega) (by omega) (nI_1 w) hag hN' hB' (next (fun _ h => by rw [h2] at h; cases h)))
            · rw [if_pos rfl]
              refine br_f (by decide) ?_
              conv => whnf
              refine hC _ _ _ _ ((sp_allows (d := d) hB' (by omega : u < 24) (by omega : w < 24) (by omega)).conseq ?_)
              rintro r4 σ2 ⟨w1, w2, hr⟩
              have hag2 : zagr [37, 38, 39, 46] σ σ2 := hag.tr (w1.sub (by simp))
              have hN2 : zne N (σ2 46) := by rw [w1 46 (by simp)]; exact hN'
              conv => whnf
              rcases hr with ⟨rfl, hf, -⟩ | ⟨rfl, hf, -⟩
              · refine br_f (by decide) ?_
                conv => whnf
                have hbr : zbr nb l (u, w) := ⟨huw, by show w < 24; omega, h1, h2, hf, fun a b q1 q2 q3 q4 q5 => hno a b q1 q2 q3 q4 q5⟩
                refine hC _ _ _ _ ((sp_tie (d := d + 2) hN2 (by omega : u < 24) (by omega : w < 24) (by omega)).conseq ?_)
                rintro r5 σ3 ⟨t1, t2⟩
                conv => whnf
                rw [zbf2_some hbr]
                refine ⟨hag2.tr (t1.sub (by simp)), ?_, t2⟩
                show (100 : Int32) * nI u + nI w = nI (100 * u + w)
                have e : (100 : Int32) * nI u = nI (100 * u) := pk_mul 100 u
                rw [e, nI_add]
              · refine br_t rfl ?_
                conv => whnf
                exact hG _ _ _ _ (ih2 (w + 1) _ σ2 (by omega) (by omega) (nI_1 w) hag2 hN2 w2 (next (fun _ _ => hf)))
      exact hG _ _ _ _ (inner (24 - (u + 1)) (u + 1) _ σ' (by omega) (by omega) (nI_1 u) hag hN' hB' (fun a b h1 h2 h3 => hno a b h1 h2 (by omega)))
  refine zg_X6_bridge_0 fun G C hG hC => ?_
  conv => whnf
  exact hG _ _ _ _ (outer 24 0 _ _ σ (by omega) rfl zagr.rf hN hB (fun a b _ _ h => absurd h (Nat.not_lt_zero a)))
