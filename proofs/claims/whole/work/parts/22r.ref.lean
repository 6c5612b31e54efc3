/-! the reference: links, mends -/
def zner (n : Nat) (N : zNT) (f : Nat → Int32) : Prop := ∀ v, v < n → f v = zmk (N v)
theorem zner.tie {n : Nat} {N : zNT} {f : Nat → Int32} (h : zner n N f) {a b : Nat} (hn : n ≤ 24) (ha : a < n) (hb : b < n) (hab : a ≠ b) : zner n (zadd N (some (a, b))) (upd (upd f a (f a ||| ((1 : Int32) <<< (nI b &&& 31)))) b (f b ||| ((1 : Int32) <<< (nI a &&& 31)))) := by
  intro v hv
  by_cases e1 : v = b
  · subst e1
    rw [pk_us, h v hv, zmk_or1 _ (by omega)]
    refine zmk_cong fun x _ => ?_
    have : ¬ v = a := fun e => hab e.symm
    simp [zadd, this]
  · rw [pk_un e1]
    by_cases e2 : v = a
    · subst e2
      rw [pk_us, h v hv, zmk_or1 _ (by omega)]
      refine zmk_cong fun x _ => ?_
      simp [zadd, hab]
    · rw [pk_un e2, h v hv]
      refine zmk_cong fun x _ => ?_
      simp [zadd, e1, e2]
theorem sm_links {E : zEN} {d n a b : Nat} {N : zNT} {σ : zST} (hN : zner n N (σ 67)) (hn : n ≤ 24) (ha : a < n) (hb : b < n) (hab : a ≠ b) : zSp E (d + 1) zM_X8_links [.inr (8, 48), .inl (nI a), .inl (nI b)] σ (fun _ σ' => zagw [67] [] σ σ' ∧ zner n (zadd N (some (a, b))) (σ' 67)) := by
  refine zSp.of rfl (Nat.le_of_ble_eq_true rfl) (zg_X8_links_0 fun G C hG hC => ?_)
  conv => whnf
  refine ⟨pk_in a 24 (by omega), ?_⟩
  conv => whnf
  refine ⟨pk_in a 24 (by omega), ?_⟩
  conv => whnf
  refine ⟨pk_in b 24 (by omega), ?_⟩
  conv => whnf
  refine ⟨pk_in b 24 (by omega), ?_⟩
  conv => whnf
  dsimp only
  rw [nI_clamp (by omega : a < 2 ^ 31), nI_clamp (by omega : b < 2 ^ 31)]
  refine ⟨(zagw.rf.up (by simp) (by decide)).up (by simp) (by decide), ?_⟩
  rw [zup_self, zup_self, pk_un (Ne.symm hab)]
  exact hN.tie hn ha hb hab
/-- the first element of a set of bits -/
def zf1 (s : Int32) (v : Nat) : Prop := v < 32 ∧ bt s v = true ∧ ∀ x, x < v → bt s x = false
theorem zf1_of {p : Nat → Bool} {v : Nat} (hv : v < 24) (h1 : p v = true) (h2 : ∀ x, x < v → p x = false) : zf1 (zmk p) v := ⟨by omega, by rw [zmk_bt p hv]; exact h1, fun x hx => by rw [zmk_bt p (by omega)]; exact h2 x hx⟩
theorem fb_ct_take {p : Nat → Bool} {v m : Nat} (hv : v < m) (h : p v = true) : fb_ct (fun x => p x && !decide (x = v)) m + 1 = fb_ct p m := by
  have h1 := fb_ct_del1 hv h
  have : fb_ct (fun x => p x && !decide (x = v)) m = fb_ct (fun x => if x = v then false else p x) m := fb_ct_cong fun x _ => by
    by_cases e : x = v <;> simp [e]
  omega
theorem zthree {p : Nat → Bool} (h : fb_ct p 24 = 3) : ∃ a b c, a < b ∧ b < c ∧ c < 24 ∧ p a = true ∧ p b = true ∧ p c = true ∧ (∀ x, x < 24 → p x = true → x = a ∨ x = b ∨ x = c) ∧ zf1 (zmk p) a ∧ zf1 (zmk p &&& (zmk p - 1)) b ∧ zf1 ((zmk p &&& (zmk p - 1)) &&& ((zmk p &&& (zmk p - 1)) - 1)) c := by
  obtain ⟨a, a1, a2, a3, -, a5⟩ := zlowp (p := p) (fb_ct_pos.mp (by omega))
  have c1 := fb_ct_take a1 a2
  obtain ⟨b, b1, b2, b3, -, b5⟩ := zlowp (p := fun x => p x && !decide (x = a)) (fb_ct_pos.mp (by omega))
  have c2 := fb_ct_take (p := fun x => p x && !decide (x = a)) b1 b2
  obtain ⟨c, d1, d2, d3, -, -⟩ := zlowp (p := fun x => (p x && !decide (x = a)) && !decide (x = b)) (fb_ct_pos.mp (by omega))
  have c3 := fb_ct_take (p := fun x => (p x && !decide (x = a)) && !decide (x = b)) d1 d2
  have c4 := fb_ct_zero.mp (show fb_ct (fun x => ((p x && !decide (x = a)) && !decide (x = b)) && !decide (x = c)) 24 = 0 by omega)
  have e1 : p b = true ∧ ¬ b = a := by simpa using b2
  have e2 : (p c = true ∧ ¬ c = a) ∧ ¬ c = b := by simpa using d2
  have hab : a < b := by
    apply Classical.byContradiction
    intro hc
    have := a3 b (by omega)
    rw [e1.1] at this; cases this
  have hbc : b < c := by
    apply Classical.byContradiction
    intro hc
    have h1 : (p c && !decide (c = a)) = false := b3 c (by omega)
    have h2 : (p c && !decide (c = a)) = true := by simp [e2.1.1, e2.1.2]
    rw [h2] at h1; cases h1
  refine ⟨a, b, c, hab, hbc, d1, a2, e1.1, e2.1.1, fun x hx hp => ?_, zf1_of a1 a2 a3, ?_, ?_⟩
  · have := c4 x hx
    apply Classical.byContradiction
    intro hc
    have h1 : ¬ x = a := fun e => hc (Or.inl e)
    have h2 : ¬ x = b := fun e => hc (Or.inr (Or.inl e))
    have h3 : ¬ x = c := fun e => hc (Or.inr (Or.inr e))
    simp [hp, h1, h2, h3] at this
  · rw [a5]; exact zf1_of b1 b2 b3
  · rw [a5, b5]; exact zf1_of d1 d2 d3
theorem zwf.no {n : Nat} {N : zNT} (h : zwf n N) {u w : Nat} (hq : n ≤ u ∨ n ≤ w) : N u w = false := by
  cases e : N u w
  · rfl
  · have := h u w e
    omega
theorem zlb_n {n : Nat} {N : zNT} (h : zwf n N) (hn : n ≤ 24) : zlu N n n = zlb N := by
  unfold zlb
  rw [zlu_hi (n := n) (fun u w hq => h.no hq) hn 24]
  obtain ⟨r, hr⟩ : ∃ r, 24 = n + r := ⟨24 - n, by omega⟩
  rw [hr, zlu_hi2 (fun u w hq => h.no (Or.inl hq)) r]
section zQ
variable {E : zEN} {d : Nat} {A : zAS} {rf : Nat → Int32} {σ : zST}
abbrev zmj2 : List Nat := [54, 55, 56, 57, 58, 67]
def zmep (A : zAS) (N : zNT) (nb : Nat → Bool) (σ : zST) : zPT := fun r σ' => zagw zmj2 [11, 12, 13] σ σ' ∧ r = zcode (zbf2 nb (zlb N)) ∧ zner (zan A) (zadd N (zbf2 nb (zlb N))) (σ' 67)
set_option maxHeartbeats 4000000 in
theorem sm_mends (hI : zmf A rf σ) {N : zNT} {nb : Nat → Bool} (hN : zner (zan A) N (σ 67)) (hw : zwf (zan A) N) (hnb : ∀ x, nb x = true → x < zan A) (h3 : fb_ct nb 24 = 3) : zSp E (d + 28) zM_X8_mends [.inr (8, 48), .inl (zmk nb)] σ (zmep A N nb σ) := by
  have hn := hI.1.1
  obtain ⟨a, b, c, hab, hbc, hc24, na, nB, nc, hall, f1, f2, f3⟩ := zthree h3
  have body : ∀ (G : Nat → zKT) (C : zCT), (∀ pc L S σ', zWp E (d + 28) zM_X8_mends (zmep A N nb σ) pc L S σ' → G pc L S σ') → (∀ M as σ P, zSp E (d + 27) M as σ P → C M as σ P) → ∀ (x5 : Int32) (u w : Nat) (x7 x8 x9 x10 : Option zAV) (σ' : zST), u < w → nb u = true → nb w = true → zagw zms [11, 12, 13] σ σ' → (∀ p q, p < q → q < 24 → (p < u ∨ p = u ∧ q < w) → nb p = true → nb q = true → ¬ zfr 2 3 (zGl (zlb N)) p q) → (∀ (x6 x7 x8 x9 x10 : Option zAV) (σ2 : zST), zagw zms [11, 12, 13] σ σ2 → ¬ zfr 2 3 (zGl (zlb N)) u w → zWp E (d + 28) zM_X8_mends (zmep A N nb σ) 35 [some (.inr (8, 48)), some (.inl (zmk nb)), some (.inl (nI a)), some (.inl (nI b)), some (.inl (nI c)), some (.inl (x5 + 1)), x6, x7, x8, x9, x10] [] σ2) → zB_X8_mends_65 G C (zmep A N nb σ) [some (.inr (8, 48)), some (.inl (zmk nb)), some (.inl (nI a)), some (.inl (nI b)), some (.inl (nI c)), some (.inl x5), some (.inl (nI u)), x7, x8, x9, x10] [.inl (nI w)] σ' := by
    intro G C hG hC x5 u w x7 x8 x9 x10 σ' huw hu hw2 hag hno next
    have hun := hnb u hu
    have hwn := hnb w hw2
    have h67 : ∀ σ2, zagw zms [11, 12, 13] σ σ2 → zner (zan A) N (σ2 67) := fun σ2 h => by rw [h.1 67 (by simp) (by decide)]; exact hN
    conv => whnf
    refine ⟨pk_in u 24 (by omega), ?_⟩
    conv => whnf
    dsimp only
    rw [nI_clamp (by omega : u < 2 ^ 31), h67 σ' hag u hun, zbitv (by omega), zmk_bt _ (by omega)]
    cases hNuw : N u w
    · rw [if_neg (by decide)]
      refine br_f (by decide) ?_
      conv => whnf
      -- the board of all that is there
      have outer : ∀ r i (x8 x9 : Int32) (x10 : Option zAV) (σ2 : zST), i + r = zan A → x9 = nI i → zagw zms [11, 12, 13] σ σ2 → zmb 2 3 (zlu N (zan A) i).length (zGl (zlu N (zan A) i)) σ2 → zWp E (d + 28) zM_X8_mends (zmep A N nb σ) 98 [some (.inr (8, 48)), some (.inl (zmk nb)), some (.inl (nI a)), some (.inl (nI b)), some (.inl (nI c)), some (.inl x5), some (.inl (nI u)), some (.inl (nI w)), some (.inl x8), some (.inl x9), x10] [] σ2 := by
        intro r
        induction r with
        | zero =>
          intro i x8 x9 x10 σ2 hi hx9 hag2 hM
          have hI2 := hI.agw hag2 (by simp) (by simp)
          have hi : i = zan A := by omega
          subst hi
          rw [zlb_n hw hn] at hM
          refine zg_X8_mends_98 fun G C hG hC => ?_
          conv => whnf
          refine pk_le (zan A) (zan A) (fun _ => ?_) (fun _ => by omega) hI2.2.1 hx9
          conv => whnf
          refine hC _ _ _ _ ((sp_isFree (d := d) hM (by omega : u < 24) (by omega : w < 24) (by omega) (Or.inl rfl)).conseq ?_)
          rintro r σ3 ⟨hag3, hr⟩
          have hag4 : zagw zms [11, 12, 13] σ σ3 := hag2.tr (hag3.sub (by simp) (by simp))
          conv => whnf
          rcases hr with ⟨rfl, hf, -, -⟩ | ⟨rfl, hf, -⟩
          · refine br_f (by decide) ?_
            conv => whnf
            have hbr : zbr nb (zlb N) (u, w) := ⟨huw, by show w < 24; omega, hu, hw2, hf, fun p q q1 q2 q3 q4 q5 => hno p q q1 q2 q3 q4 q5⟩
            refine hC _ _ _ _ ((sm_links (d := d + 26) (h67 σ3 hag4) hn hun hwn (by omega)).conseq ?_)
            rintro r5 σ5 ⟨t1, t2⟩
            conv => whnf
            refine ⟨(hag4.sub (by simp) (by simp)).tr (t1.sub (by simp) (by simp)), ?_, ?_⟩
            · rw [zbf2_some hbr]
              show (100 : Int32) * nI u + nI w = nI (100 * u + w)
              have e : (100 : Int32) * nI u = nI (100 * u) := pk_mul 100 u
              rw [e, nI_add]
            · rw [zbf2_some hbr]; exact t2
          · refine br_t rfl ?_
            conv => whnf
            exact hG _ _ _ _ (next _ _ _ _ _ σ3 hag4 hf)
        | succ r ih =>
          intro i x8 x9 x10 σ2 hi hx9 hag2 hM
          subst hx9
          have hI2 := hI.agw hag2 (by simp) (by simp)
          refine zg_X8_mends_98 fun G C hG hC => ?_
          conv => whnf
          refine pk_le (zan A) i (fun _ => by omega) (fun _ => ?_) hI2.2.1 rfl
          conv => whnf
          have inner : ∀ r2 j (x8 x10 : Int32) (σ2 : zST), j + r2 = zan A → i < j → x10 = nI j → zagw zms [11, 12, 13] σ σ2 → zmb 2 3 (zlw N i (zlu N (zan A) i) j).length (zGl (zlw N i (zlu N (zan A) i) j)) σ2 → zWp E (d + 28) zM_X8_mends (zmep A N nb σ) 113 [some (.inr (8, 48)), some (.inl (zmk nb)), some (.inl (nI a)), some (.inl (nI b)), some (.inl (nI c)), some (.inl x5), some (.inl (nI u)), some (.inl (nI w)), some (.inl x8), some (.inl (nI i)), some (.inl x10)] [] σ2 := by
            intro r2
            induction r2 with
            | zero =>
              intro j x8 x10 σ2 hj hij hx10 hag2 hM
              have hI2 := hI.agw hag2 (by simp) (by simp)
              have hj : j = zan A := by omega
              subst hj
              refine zg_X8_mends_113 fun G C hG hC => ?_
              conv => whnf
              refine pk_le (zan A) (zan A) (fun _ => ?_) (fun _ => by omega) hI2.2.1 hx10
              conv => whnf
              exact hG _ _ _ _ (ih (i + 1) _ _ _ σ2 (by omega) (nI_1 i) hag2 hM)
            | succ r2 ih2 =>
              intro j x8 x10 σ2 hj hij hx10 hag2 hM
              subst hx10
              have hI2 := hI.agw hag2 (by simp) (by simp)
              have hstep : zlw N i (zlu N (zan A) i) (j + 1) = zls N (zlw N i (zlu N (zan A) i) j) i j := by
                show (if i < j then _ else _) = _
                rw [if_pos hij]
              refine zg_X8_mends_113 fun G C hG hC => ?_
              conv => whnf
              refine pk_le (zan A) j (fun _ => by omega) (fun _ => ?_) hI2.2.1 rfl
              conv => whnf
              refine ⟨pk_in i 24 (by omega), ?_⟩
              conv => whnf
              dsimp only
              rw [nI_clamp (by omega : i < 2 ^ 31), h67 σ2 hag2 i (by omega), zbitv (by omega), zmk_bt _ (by omega)]
              cases hNij : N i j
              · rw [if_neg (by decide)]
                refine br_f (by decide) ?_
                conv => whnf
                exact hG _ _ _ _ (ih2 (j + 1) _ _ σ2 (by omega) (by omega) (nI_1 j) hag2 (by rw [hstep, zls_no hNij]; exact hM))
              · rw [if_pos rfl]
                refine br_t rfl ?_
                conv => whnf
                refine hC _ _ _ _ ((sp_isFree (d := d) hM (by omega : i < 24) (by omega : j < 24) (by omega) (Or.inr rfl)).conseq ?_)
                rintro r3 σ3 ⟨hag3, hr⟩
                have hag4 : zagw zms [11, 12, 13] σ σ3 := hag2.tr (hag3.sub (by simp) (by simp))
                conv => whnf
                rcases hr with ⟨rfl, hf, hM3, -⟩ | ⟨rfl, hf, hM3⟩
                · refine br_f (by decide) ?_
                  have hM4 : zmb 2 3 (zlw N i (zlu N (zan A) i) (j + 1)).length (zGl (zlw N i (zlu N (zan A) i) (j + 1))) σ3 := by
                    rw [hstep]
                    unfold zls
                    rw [hNij, Bool.true_and, if_pos (zgrb_t.mpr hf), List.length_append]
                    exact (hM3 rfl).cong (fun V => (zGl_snoc _ i j V).symm)
                  conv => whnf
                  refine ⟨fun _ => ?_, fun _ => ?_⟩
                  · conv => whnf
                    exact hG _ _ _ _ (ih2 (j + 1) _ _ σ3 (by omega) (by omega) (nI_1 j) hag4 hM4)
                  · conv => whnf
                    exact hG _ _ _ _ (ih2 (j + 1) _ _ σ3 (by omega) (by omega) (nI_1 j) hag4 hM4)
                · refine br_t rfl ?_
                  conv => whnf
                  refine hG _ _ _ _ (ih2 (j + 1) _ _ σ3 (by omega) (by omega) (nI_1 j) hag4 ?_)
                  rw [hstep]
                  unfold zls
                  rw [hNij, Bool.true_and, if_neg (by rw [zgrb_f.mpr hf]; decide)]
                  exact hM3
          refine hG _ _ _ _ (inner (zan A - (i + 1)) (i + 1) _ _ σ2 (by omega) (by omega) (nI_1 i) hag2 ?_)
          rw [zlw_low _ _ _ _ (Nat.le_refl _)]; exact hM
      refine hC _ _ _ _ ((sp_begins (d := d + 26) (k := 2) (l := 3) (by decide) (by decide)).conseq ?_)
      rintro r2 σ2 ⟨h1, h2⟩
      conv => whnf
      exact hG _ _ _ _ (outer (zan A) 0 _ _ _ σ2 (by omega) rfl (hag.tr (h1.sub (by simp) (by simp))) (h2.cong (fun V => rfl)))
    · rw [if_pos rfl]
      refine br_t rfl ?_
      conv => whnf
      exact hG _ _ _ _ (next _ _ _ _ _ σ' hag (zlb_no huw (by omega) hNuw))
  have l3 : ∀ (x6 x7 x8 x9 x10 : Option zAV) (σ' : zST), zagw zms [11, 12, 13] σ σ' → ¬ zfr 2 3 (zGl (zlb N)) a b → ¬ zfr 2 3 (zGl (zlb N)) a c → ¬ zfr 2 3 (zGl (zlb N)) b c → zWp E (d + 28) zM_X8_mends (zmep A N nb σ) 35 [some (.inr (8, 48)), some (.inl (zmk nb)), some (.inl (nI a)), some (.inl (nI b)), some (.inl (nI c)), some (.inl (2 + 1)), x6, x7, x8, x9, x10] [] σ' := by
    intro x6 x7 x8 x9 x10 σ' hag g1 g2 g3
    refine zg_X8_mends_35 fun G C hG hC => ?_
    conv => whnf
    refine br_t (by decide) ?_
    conv => whnf
    have e := zbf2_none (nb := nb) (l := zlb N) (fun p q h1 h2 h3 h4 => by
      rcases hall p (by omega) h3 with rfl | rfl | rfl <;> rcases hall q h2 h4 with rfl | rfl | rfl <;> first | omega | assumption)
    refine ⟨hag.sub (by simp) (by simp), ?_, ?_⟩
    · rw [e]; rfl
    · rw [e, hag.1 67 (by simp) (by decide)]; exact hN
  have l2 : ∀ (x6 x7 x8 x9 x10 : Option zAV) (σ' : zST), zagw zms [11, 12, 13] σ σ' → ¬ zfr 2 3 (zGl (zlb N)) a b → ¬ zfr 2 3 (zGl (zlb N)) a c → zWp E (d + 28) zM_X8_mends (zmep A N nb σ) 35 [some (.inr (8, 48)), some (.inl (zmk nb)), some (.inl (nI a)), some (.inl (nI b)), some (.inl (nI c)), some (.inl (1 + 1)), x6, x7, x8, x9, x10] [] σ' := by
    intro x6 x7 x8 x9 x10 σ' hag g1 g2
    refine zg_X8_mends_35 fun G C hG hC => ?_
    conv => whnf
    refine br_f (by decide) ?_
    conv => whnf
    refine br_t (by decide) ?_
    conv => whnf
    refine br_f (by decide) ?_
    refine body G C hG hC 2 b c _ _ _ _ σ' hbc nB nc hag (fun p q h1 h2 hq h3 h4 => ?_) (fun x6 x7 x8 x9 x10 σ2 g3 g4 => l3 x6 x7 x8 x9 x10 σ2 g3 g1 g2 g4)
    rcases hall p (by omega) h3 with rfl | rfl | rfl <;> rcases hall q h2 h4 with rfl | rfl | rfl <;> first | omega | assumption
  have l1 : ∀ (x6 x7 x8 x9 x10 : Option zAV) (σ' : zST), zagw zms [11, 12, 13] σ σ' → ¬ zfr 2 3 (zGl (zlb N)) a b → zWp E (d + 28) zM_X8_mends (zmep A N nb σ) 35 [some (.inr (8, 48)), some (.inl (zmk nb)), some (.inl (nI a)), some (.inl (nI b)), some (.inl (nI c)), some (.inl (0 + 1)), x6, x7, x8, x9, x10] [] σ' := by
    intro x6 x7 x8 x9 x10 σ' hag g1
    refine zg_X8_mends_35 fun G C hG hC => ?_
    conv => whnf
    refine br_f (by decide) ?_
    conv => whnf
    refine br_f (by decide) ?_
    conv => whnf
    refine br_f (by decide) ?_
    refine body G C hG hC 1 a c _ _ _ _ σ' (by omega) na nc hag (fun p q h1 h2 hq h3 h4 => ?_) (fun x6 x7 x8 x9 x10 σ2 g3 g4 => l2 x6 x7 x8 x9 x10 σ2 g3 g1 g4)
    rcases hall p (by omega) h3 with rfl | rfl | rfl <;> rcases hall q h2 h4 with rfl | rfl | rfl <;> first | omega | assumption
  have l0 : ∀ (x6 x7 x8 x9 x10 : Option zAV), zWp E (d + 28) zM_X8_mends (zmep A N nb σ) 35 [some (.inr (8, 48)), some (.inl (zmk nb)), some (.inl (nI a)), some (.inl (nI b)), some (.inl (nI c)), some (.inl 0), x6, x7, x8, x9, x10] [] σ := by
    intro x6 x7 x8 x9 x10
    refine zg_X8_mends_35 fun G C hG hC => ?_
    conv => whnf
    refine br_f (by decide) ?_
    conv => whnf
    refine br_f (by decide) ?_
    conv => whnf
    refine br_t (by decide) ?_
    refine body G C hG hC 0 a b _ _ _ _ σ (by omega) na nB zagw.rf (fun p q h1 h2 hq h3 h4 => ?_) (fun x6 x7 x8 x9 x10 σ2 g3 g4 => l1 x6 x7 x8 x9 x10 σ2 g3 g4)
    rcases hall p (by omega) h3 with rfl | rfl | rfl <;> rcases hall q h2 h4 with rfl | rfl | rfl <;> first | omega | assumption
  refine zSp.of rfl (Nat.le_of_ble_eq_true rfl) (zg_X8_mends_0 fun G C hG hC => ?_)
  conv => whnf
  refine hC _ _ _ _ ((sp_first (d := d + 26) f1.1 f1.2.1 f1.2.2).conseq ?_)
  rintro r1 σ1 ⟨rfl, rfl⟩
  conv => whnf
  refine hC _ _ _ _ ((sp_first (d := d + 26) f2.1 f2.2.1 f2.2.2).conseq ?_)
  rintro r2 σ2 ⟨rfl, rfl⟩
  conv => whnf
  refine hC _ _ _ _ ((sp_first (d := d + 26) f3.1 f3.2.1 f3.2.2).conseq ?_)
  rintro r3 σ3 ⟨rfl, rfl⟩
  conv => whnf
  exact hG _ _ _ _ (l0 _ _ _ _ _)
end zQ
