/-! the lowest bit; the reference: pieces -/
theorem zlowb : ∀ (k n : Nat), 0 < n → n < 2 ^ k → ∃ v, v < k ∧ n.testBit v = true ∧ (∀ i, i < v → n.testBit i = false) ∧ ∀ i, (n - 1).testBit i = if i < v then true else if i = v then false else n.testBit i
  | 0, n, h0, h => by simp at h; omega
  | k + 1, n, h0, h => by
    rcases Nat.mod_two_eq_zero_or_one n with h2 | h2
    · obtain ⟨v, v1, v2, v3, v4⟩ := zlowb k (n / 2) (by omega) (by rw [Nat.pow_succ] at h; omega)
      refine ⟨v + 1, by omega, by rw [Nat.testBit_succ]; exact v2, fun i hi => ?_, fun i => ?_⟩
      · cases i with
        | zero => rw [Nat.testBit_zero]; simp [h2]
        | succ i => rw [Nat.testBit_succ]; exact v3 i (by omega)
      · cases i with
        | zero =>
          have : (n - 1) % 2 = 1 := by omega
          rw [Nat.testBit_zero, if_pos (by omega)]; simp [this]
        | succ i =>
          have e : (n - 1) / 2 = n / 2 - 1 := by omega
          rw [Nat.testBit_succ, Nat.testBit_succ, e, v4 i]
          by_cases q1 : i < v
          · rw [if_pos q1, if_pos (by omega)]
          · by_cases q2 : i = v
            · rw [if_neg q1, if_pos q2, if_neg (by omega), if_pos (by omega)]
            · rw [if_neg q1, if_neg q2, if_neg (by omega), if_neg (by omega)]
    · refine ⟨0, by omega, by rw [Nat.testBit_zero]; simp [h2], fun i hi => absurd hi (Nat.not_lt_zero i), fun i => ?_⟩
      cases i with
      | zero =>
        have : (n - 1) % 2 = 0 := by omega
        rw [Nat.testBit_zero, if_neg (by omega), if_pos rfl]; simp [this]
      | succ i =>
        have e : (n - 1) / 2 = n / 2 := by omega
        rw [Nat.testBit_succ, Nat.testBit_succ, e, if_neg (by omega), if_neg (by omega)]
theorem zneg (s : Int32) : -s = (s - 1) ^^^ (-1) := by
  apply Int32.toBitVec_inj.mp
  rw [Int32.toBitVec_neg, Int32.toBitVec_xor, Int32.toBitVec_sub]
  have e1 : (-1 : Int32).toBitVec = BitVec.allOnes 32 := by decide
  have e2 : (1 : Int32).toBitVec = 1#32 := rfl
  rw [e1, e2, BitVec.xor_allOnes]
  apply BitVec.eq_of_toNat_eq
  have := s.toBitVec.isLt
  simp only [BitVec.toNat_neg, BitVec.toNat_not, BitVec.toNat_sub, BitVec.toNat_ofNat]
  omega
theorem zlowp {p : Nat → Bool} (h : ∃ x, x < 24 ∧ p x = true) : ∃ v, v < 24 ∧ p v = true ∧ (∀ x, x < v → p x = false) ∧ zmk p &&& -(zmk p) = zmk (fun x => decide (x = v)) ∧ zmk p &&& (zmk p - 1) = zmk (fun x => p x && !decide (x = v)) := by
  obtain ⟨n, hn, e⟩ := zof32 (zmk p)
  have hb : ∀ i, i < 32 → n.testBit i = bt (zmk p) i := fun i hi => by rw [e, zbt_nI hi]
  obtain ⟨x, hx, hp⟩ := h
  have h0 : 0 < n := by
    rcases Nat.eq_zero_or_pos n with q | q
    · have := hb x (by omega)
      rw [q, Nat.zero_testBit, zmk_bt p hx, hp] at this; cases this
    · exact q
  obtain ⟨v, v1, v2, v3, v4⟩ := zlowb 32 n h0 hn
  have hv : v < 24 := by
    apply Classical.byContradiction
    intro hc
    rw [hb v v1, zmk_hi p (by omega) v1] at v2; cases v2
  have hs : ∀ i, i < 32 → bt (zmk p - 1) i = if i < v then true else if i = v then false else bt (zmk p) i := fun i hi => by
    have e1 : zmk p - 1 = nI (n - 1) := by rw [e]; exact pk_sub (b := 1) (by omega)
    rw [e1, zbt_nI hi, v4 i, hb i hi]
  have hpv : p v = true := by rw [hb v v1, zmk_bt p hv] at v2; exact v2
  have hlo : ∀ y, y < v → p y = false := fun y hy => by
    have := v3 y hy
    rw [hb y (by omega), zmk_bt p (by omega)] at this; exact this
  refine ⟨v, hv, hpv, hlo, ?_, ?_⟩
  · refine zmk_eq (fun i hi => ?_) (fun i h1 h2 => ?_)
    · rw [b_and, zneg, zbnot (by omega), hs i (by omega), zmk_bt p hi]
      by_cases q1 : i < v
      · have q3 : ¬ i = v := by omega
        rw [if_pos q1]; simp [q3]
      · by_cases q2 : i = v
        · subst q2
          rw [if_neg q1, if_pos rfl]; simp [hpv]
        · rw [if_neg q1, if_neg q2]; simp [q2]
    · rw [b_and, zmk_hi p h1 h2]; rfl
  · refine zmk_eq (fun i hi => ?_) (fun i h1 h2 => ?_)
    · rw [b_and, hs i (by omega), zmk_bt p hi]
      by_cases q1 : i < v
      · rw [if_pos q1, hlo i q1]; rfl
      · by_cases q2 : i = v
        · subst q2
          rw [if_neg q1, if_pos rfl]; simp
        · rw [if_neg q1, if_neg q2]; simp [q2]
    · rw [b_and, zmk_hi p h1 h2]; rfl
theorem zmk_and2 (p q : Nat → Bool) : zmk p &&& zmk q = zmk (fun x => p x && q x) := zmk_eq (fun i hi => by rw [b_and, zmk_bt p hi, zmk_bt q hi]) (fun i h1 h2 => by rw [b_and, zmk_hi p h1 h2]; rfl)
theorem zmk_or2 (p q : Nat → Bool) : zmk p ||| zmk q = zmk (fun x => p x || q x) := zmk_eq (fun i hi => by rw [b_or, zmk_bt p hi, zmk_bt q hi]) (fun i h1 h2 => by rw [b_or, zmk_hi p h1 h2, zmk_hi q h1 h2]; rfl)
theorem zmk_diff (p q : Nat → Bool) : zmk p &&& (zmk q ^^^ (-1)) = zmk (fun x => p x && !q x) := zmk_eq (fun i hi => by rw [b_and, zmk_bt p hi, zbnot (by omega), zmk_bt q hi]) (fun i h1 h2 => by rw [b_and, zmk_hi p h1 h2]; rfl)
theorem zmk_inj {p q : Nat → Bool} (h : zmk p = zmk q) : ∀ i, i < 24 → p i = q i := fun i hi => by rw [← zmk_bt p hi, h, zmk_bt q hi]
theorem zmk_0 {p : Nat → Bool} : zmk p = 0 ↔ ∀ i, i < 24 → p i = false := by
  rw [← zmk_none]
  exact ⟨fun h i hi => zmk_inj h i hi, fun h => zmk_cong fun i hi => h i hi⟩
theorem zmk_2 {u w : Nat} (hu : u < 24) (hw : w < 24) : (1 : Int32) <<< (nI u &&& 31) ||| (1 : Int32) <<< (nI w &&& 31) = zmk (fun x => decide (x = u) || decide (x = w)) := by
  have e1 : (1 : Int32) <<< (nI u &&& 31) = zmk (fun x => decide (x = u)) := zmk_eq (fun i hi => zsh1 u (by omega) i (by omega)) (fun i h1 h2 => by rw [zsh1 u (by omega) i h2]; simp; omega)
  rw [e1, zmk_or1 _ hw]
theorem zcd_less {P Q : Nat → Bool} {u : Nat} (h : ∀ x, P x = true → Q x = true) (hu : u < 24) (h1 : P u = false) (h2 : Q u = true) : zcd P < zcd Q := by
  apply Classical.byContradiction
  intro hc
  have := fb_ct_same (p := P) (q := Q) (n := 24) (fun k _ hk => h k hk) (by unfold zcd at hc; omega) u hu h2
  rw [h1] at this; cases this
theorem zcd_one : ∀ u, u < 24 → zcd (fun x => decide (x = u)) = 1 := by unfold zcd; decide +kernel
theorem zpc_split {a b : Nat → Nat} {m : Nat} {K V Q : Nat → Bool} (hQ : ∀ x, Q x = true → V x = true) (hcl : ∀ x, x < m → K x = true → Q (a x) = Q (b x)) : zib a b m K V = zib a b m K Q + zib a b m K (fun x => V x && !Q x) ∧ zcd V = zcd Q + zcd (fun x => V x && !Q x) := by
  constructor
  · have h1 : zib a b m K Q + zib a b m K (fun x => V x && !Q x) = fb_ct (fun x => (K x && (Q (a x) && Q (b x))) || (K x && ((V (a x) && !Q (a x)) && (V (b x) && !Q (b x))))) m := (fb_ct_or (fun x hx h => by
      simp only [Bool.and_eq_true, Bool.not_eq_true'] at h
      rw [h.1.2.1] at h
      exact absurd h.2.2.1.2 (by decide))).symm
    rw [h1]
    refine fb_ct_cong fun x hx => ?_
    cases hK : K x
    · simp
    · have := hcl x hx hK
      cases hq : Q (a x)
      · rw [hq] at this
        rw [← this]; simp
      · rw [hq] at this
        rw [← this, hQ _ hq, hQ _ this.symm]; simp
  · have h1 : zcd (fun x => Q x || (V x && !Q x)) = zcd Q + zcd (fun x => V x && !Q x) := fb_ct_or (fun x hx h => by
      simp only [Bool.and_eq_true, Bool.not_eq_true'] at h
      rw [h.1] at h
      exact absurd h.2.2 (by decide))
    rw [← h1]
    refine fb_ct_cong fun x _ => ?_
    cases hq : Q x
    · simp
    · simp [hQ x hq]
section zQ
variable {E : zEN} {d : Nat} {A : zAS} {rf : Nat → Int32} {σ : zST}
/-- a set that the bars that are there don't leave -/
def zpcl (A : zAS) (P : Nat → Bool) (k : Nat) : Prop := ∀ x, x < k → zat A x = true → P (zaa A x) = P (zab A x)
def zpgd (A : zAS) (F P : Nat → Bool) : Prop := (∀ x, P x = true → F x = true) ∧ (∃ x, x < 24 ∧ P x = true) ∧ ∃ V : Nat → Bool, zton (zaa A) (zab A) (zam A) (zK A false 1 1) V ∧ ∀ x, P x = true → V x = true
theorem zpgd.bar (hvd : zvd A) {F P : Nat → Bool} (hF : zpcl A F (zam A)) (h : zpgd A F P) {k : Nat} (hk : k < zam A) (ht : zat A k = true) (hor : P (zaa A k) = true ∨ P (zab A k) = true) : zpgd A F (fun x => P x || (decide (x = zaa A k) || decide (x = zab A k))) := by
  obtain ⟨h1, ⟨y, hy, hyP⟩, V, h3, h4⟩ := h
  have hv := hvd.2.2 k hk
  have hn := hvd.1
  have hFe := hF k hk ht
  obtain ⟨W, w1, w2, w3⟩ := zton_bar hvd.eo (K := zK A false 1 1) hk (by
    cases hq : zK A false 1 1 k
    · exact Or.inr (zK_max hk ht hq)
    · exact Or.inl rfl)
  have hsp : zsp (zaa A) (zab A) (zam A) 1 1 (zK A false 1 1) := zK_sp (by decide)
  have hJ : zton (zaa A) (zab A) (zam A) (zK A false 1 1) (zor V W) := by
    rcases hor with q | q
    · exact zton_join hvd.eo hsp h3 w3 (u := zaa A k) (by omega) (h4 _ q) w1
    · exact zton_join hvd.eo hsp h3 w3 (u := zab A k) (by omega) (h4 _ q) w2
  have hFb : F (zaa A k) = true ∧ F (zab A k) = true := by
    rcases hor with q | q
    · have := h1 _ q; rw [this] at hFe; exact ⟨this, hFe.symm⟩
    · have := h1 _ q; rw [this] at hFe; exact ⟨hFe, this⟩
  refine ⟨fun x hx => ?_, ⟨y, hy, by simp [hyP]⟩, _, hJ, fun x hx => ?_⟩
  · simp only [Bool.or_eq_true, decide_eq_true_eq] at hx
    rcases hx with hx | hx | hx
    · exact h1 x hx
    · rw [hx]; exact hFb.1
    · rw [hx]; exact hFb.2
  · simp only [Bool.or_eq_true, decide_eq_true_eq] at hx
    rcases hx with hx | hx | hx
    · simp [zor, h4 x hx]
    · rw [hx]; simp [zor, w1]
    · rw [hx]; simp [zor, w2]
set_option maxHeartbeats 4000000 in
theorem sm_pieces (hI : zmf A rf σ) : zSp E (d + 40) zM_X8_pieces [.inr (8, 48)] σ (zMP A rf (.inr (nI (zan A) - nI (zrk A false 1 1))) σ) := by
  have hvd := hI.1
  have hn := hvd.1
  have hm := hvd.2.1
  have hKt : ∀ x, x < zam A → zK A false 1 1 x = true → zat A x = true := fun x _ h => (zK_t h).2
  have outer : ∀ s (F : Nat → Bool) c (x1 x2 : Int32) (x3 x4 x5 x6 : Option zAV), zcd F ≤ s → x1 = zmk F → x2 = nI c → (∀ x, F x = true → x < zan A) → zpcl A F (zam A) → c + zrk A false 1 1 + zcd F = zan A + zib (zaa A) (zab A) (zam A) (zK A false 1 1) F → zWp E (d + 40) zM_X8_pieces (zMP A rf (.inr (nI (zan A) - nI (zrk A false 1 1))) σ) 11 [some (.inr (8, 48)), some (.inl x1), some (.inl x2), x3, x4, x5, x6] [] σ := by
    intro s
    induction s with
    | zero =>
      intro F c x1 x2 x3 x4 x5 x6 hs hx1 hx2 hF1 hF2 hc
      refine zg_X8_pieces_11 fun G C hG hC => ?_
      conv => whnf
      have h0 : zcd F = 0 := by omega
      refine br_t (by rw [hx1]; exact zmk_0.mpr (fb_ct_zero.mp h0)) ?_
      conv => whnf
      refine ⟨zlo.rf, hI, ?_⟩
      rw [h0, zib_le1 hvd.eo (by omega)] at hc
      show x2 = nI (zan A) - nI (zrk A false 1 1)
      rw [hx2, pk_sub (by omega)]
      congr 1
      omega
    | succ s ih =>
      intro F c x1 x2 x3 x4 x5 x6 hs hx1 hx2 hF1 hF2 hc
      by_cases h0 : zcd F = 0
      · refine zg_X8_pieces_11 fun G C hG hC => ?_
        conv => whnf
        refine br_t (by rw [hx1]; exact zmk_0.mpr (fb_ct_zero.mp h0)) ?_
        conv => whnf
        refine ⟨zlo.rf, hI, ?_⟩
        rw [h0, zib_le1 hvd.eo (by omega)] at hc
        show x2 = nI (zan A) - nI (zrk A false 1 1)
        rw [hx2, pk_sub (by omega)]
        congr 1
        omega
      · have hex : ∃ x, x < 24 ∧ F x = true := fb_ct_pos.mp (show 0 < fb_ct F 24 by unfold zcd at h0; omega)
        obtain ⟨v, v1, v2, v3, v4, -⟩ := zlowp hex
        -- a piece that is closed
        have fin : ∀ (P : Nat → Bool) (x3 x4 : Int32) (x5 x6 : Option zAV), x3 = zmk P → x4 = 0 → zpgd A F P → zpcl A P (zam A) → zWp E (d + 40) zM_X8_pieces (zMP A rf (.inr (nI (zan A) - nI (zrk A false 1 1))) σ) 23 [some (.inr (8, 48)), some (.inl x1), some (.inl x2), some (.inl x3), some (.inl x4), x5, x6] [] σ := by
          intro P x3 x4 x5 x6 hx3 hx4 hP hcl
          obtain ⟨p1, ⟨y, hy, hyP⟩, V, p3, p4⟩ := hP
          have hKc : ∀ x, x < zam A → zK A false 1 1 x = true → P (zaa A x) = P (zab A x) := fun x hx h => hcl x hx (hKt x hx h)
          have t1 := zton_piece hvd.eo (zK_sp (by decide)) p3 p4 hKc ⟨y, hy, hyP⟩
          have t2 := zpc_split p1 hKc
          have t3 : zcd (fun x => F x && !P x) < zcd F := zcd_less (fun x h => by simp only [Bool.and_eq_true] at h; exact h.1) hy (by simp [hyP]) (p1 y hyP)
          refine zg_X8_pieces_23 fun G C hG hC => ?_
          conv => whnf
          refine br_t hx4 ?_
          conv => whnf
          refine hG _ _ _ _ (ih (fun x => F x && !P x) (c + 1) _ _ _ _ _ _ (by omega) (by rw [hx1, hx3]; exact zmk_diff F P) (by rw [hx2, nI_1]) (fun x h => ?_) (fun x hx ht => ?_) (by omega))
          · simp only [Bool.and_eq_true] at h; exact hF1 x h.1
          · show (F (zaa A x) && !P (zaa A x)) = (F (zab A x) && !P (zab A x))
            rw [hF2 x hx ht, hcl x hx ht]
        have mid : ∀ r (P : Nat → Bool) (mv : Bool) (x3 x4 : Int32) (x5 x6 : Option zAV), x3 = zmk P → (x4 = if mv = true then 1 else 0) → zpgd A F P → (mv = true → 24 < zcd P + r) → (mv = false → zpcl A P (zam A)) → zWp E (d + 40) zM_X8_pieces (zMP A rf (.inr (nI (zan A) - nI (zrk A false 1 1))) σ) 23 [some (.inr (8, 48)), some (.inl x1), some (.inl x2), some (.inl x3), some (.inl x4), x5, x6] [] σ := by
          intro r
          induction r with
          | zero =>
            intro P mv x3 x4 x5 x6 hx3 hx4 hP hr hcl
            cases mv
            · exact fin P x3 x4 x5 x6 hx3 hx4 hP (hcl rfl)
            · have := hr rfl
              have := fb_ct_le P 24
              unfold zcd at *
              omega
          | succ r ihr =>
            intro P mv x3 x4 x5 x6 hx3 hx4 hP hr hcl
            cases mv
            · exact fin P x3 x4 x5 x6 hx3 hx4 hP (hcl rfl)
            · have hr := hr rfl
              have inner : ∀ q k (Q : Nat → Bool) (mv : Bool) (x3 x4 x5 : Int32) (x6 : Option zAV), k + q = zam A → x3 = zmk Q → (x4 = if mv = true then 1 else 0) → x5 = nI k → zpgd A F Q → zcd P ≤ zcd Q → (mv = true → zcd P < zcd Q) → (mv = false → zpcl A Q k) → zWp E (d + 40) zM_X8_pieces (zMP A rf (.inr (nI (zan A) - nI (zrk A false 1 1))) σ) 34 [some (.inr (8, 48)), some (.inl x1), some (.inl x2), some (.inl x3), some (.inl x4), some (.inl x5), x6] [] σ := by
                intro q
                induction q with
                | zero =>
                  intro k Q mv x3 x4 x5 x6 hk hx3 hx4 hx5 hQ hle hlt hcl
                  have hk : k = zam A := by omega
                  subst hk
                  refine zg_X8_pieces_34 fun G C hG hC => ?_
                  conv => whnf
                  refine pk_le (zam A) (zam A) (fun _ => ?_) (fun _ => by omega) hI.2.2.1 hx5
                  conv => whnf
                  exact hG _ _ _ _ (ihr Q mv x3 x4 _ _ hx3 hx4 hQ (fun h => by have := hlt h; omega) hcl)
                | succ q ihq =>
                  intro k Q mv x3 x4 x5 x6 hk hx3 hx4 hx5 hQ hle hlt hcl
                  subst hx5
                  subst hx3
                  have hkm : k < zam A := by omega
                  have hx := hI.2.2.2.1 k hkm
                  have hv := hvd.2.2 k hkm
                  have ha : zaa A k < 24 := by omega
                  have hb : zab A k < 24 := by omega
                  have same : ∀ (x6 : Option zAV), (zat A k = true → Q (zaa A k) = Q (zab A k)) → zWp E (d + 40) zM_X8_pieces (zMP A rf (.inr (nI (zan A) - nI (zrk A false 1 1))) σ) 34 [some (.inr (8, 48)), some (.inl x1), some (.inl x2), some (.inl (zmk Q)), some (.inl x4), some (.inl (nI k + 1)), x6] [] σ := fun x6 h => ihq (k + 1) Q mv _ _ _ _ (by omega) rfl hx4 (nI_1 k) hQ hle hlt (fun e x hx ht => by
                    by_cases e2 : x = k
                    · subst e2; exact h ht
                    · exact hcl e x (by omega) ht)
                  refine zg_X8_pieces_34 fun G C hG hC => ?_
                  conv => whnf
                  refine pk_le (zam A) k (fun _ => by omega) (fun _ => ?_) hI.2.2.1 rfl
                  conv => whnf
                  refine ⟨pk_in k 80 (by omega), ?_⟩
                  conv => whnf
                  refine ⟨pk_in k 80 (by omega), ?_⟩
                  conv => whnf
                  refine ⟨pk_in k 80 (by omega), ?_⟩
                  conv => whnf
                  dsimp only
                  rw [nI_clamp (by omega : k < 2 ^ 31), hx.1, hx.2.1, hx.2.2.2, zmk_2 ha hb]
                  cases ht : zat A k
                  · rw [if_neg (by decide)]
                    refine br_t rfl ?_
                    conv => whnf
                    exact hG _ _ _ _ (same _ (fun h => by rw [ht] at h; cases h))
                  · rw [if_pos rfl]
                    refine br_f (by decide) ?_
                    conv => whnf
                    dsimp only
                    rw [zmk_and2]
                    refine ⟨fun e => ?_, fun e => ?_⟩
                    · have e := zmk_0.mp e
                      have e1 : Q (zaa A k) = false := by simpa using e _ ha
                      have e2 : Q (zab A k) = false := by simpa using e _ hb
                      conv => whnf
                      exact hG _ _ _ _ (same _ (fun _ => by rw [e1, e2]))
                    · have e : ¬ zmk (fun x => Q x && (decide (x = zaa A k) || decide (x = zab A k))) = 0 := e
                      conv => whnf
                      dsimp only
                      rw [zmk_and2]
                      refine ⟨fun e2 => ?_, fun e2 => ?_⟩
                      · have e2 := zmk_inj e2
                        have g1 : Q (zaa A k) = true := by simpa using e2 _ ha
                        have g2 : Q (zab A k) = true := by simpa using e2 _ hb
                        conv => whnf
                        exact hG _ _ _ _ (same _ (fun _ => by rw [g1, g2]))
                      · have e2 : ¬ zmk (fun x => Q x && (decide (x = zaa A k) || decide (x = zab A k))) = zmk (fun x => decide (x = zaa A k) || decide (x = zab A k)) := e2
                        have hor : Q (zaa A k) = true ∨ Q (zab A k) = true := by
                          apply Classical.byContradiction
                          intro hc
                          apply e
                          refine zmk_0.mpr fun i _ => ?_
                          by_cases g1 : i = zaa A k
                          · subst g1
                            cases g2 : Q (zaa A k)
                            · rfl
                            · exact absurd (Or.inl g2) hc
                          · by_cases g3 : i = zab A k
                            · subst g3
                              cases g2 : Q (zab A k)
                              · rfl
                              · exact absurd (Or.inr g2) hc
                            · simp [g1, g3]
                        have hno : ∃ u, u < 24 ∧ Q u = false ∧ (u = zaa A k ∨ u = zab A k) := by
                          cases g1 : Q (zaa A k)
                          · exact ⟨_, ha, g1, Or.inl rfl⟩
                          · cases g2 : Q (zab A k)
                            · exact ⟨_, hb, g2, Or.inr rfl⟩
                            · exfalso
                              apply e2
                              refine zmk_cong fun i _ => ?_
                              by_cases g3 : i = zaa A k
                              · subst g3; simp [g1]
                              · by_cases g4 : i = zab A k
                                · subst g4; simp [g2]
                                · simp [g3, g4]
                        obtain ⟨u, hu, hu1, hu2⟩ := hno
                        have hgt : zcd Q < zcd (fun x => Q x || (decide (x = zaa A k) || decide (x = zab A k))) := zcd_less (fun x h => by simp [h]) hu hu1 (by rcases hu2 with h | h <;> simp [h])
                        conv => whnf
                        dsimp only
                        rw [zmk_or2]
                        exact hG _ _ _ _ (ihq (k + 1) _ true _ _ _ _ (by omega) rfl rfl (nI_1 k) (hQ.bar hvd hF2 hkm ht hor) (by omega) (fun _ => by omega) (fun h => by cases h))
              refine zg_X8_pieces_23 fun G C hG hC => ?_
              conv => whnf
              refine br_f (by rw [hx4]; decide) ?_
              conv => whnf
              exact hG _ _ _ _ (inner (zam A) 0 P false _ _ _ _ (by omega) hx3 rfl rfl hP (Nat.le_refl _) (fun h => by cases h) (fun _ x hx => absurd hx (Nat.not_lt_zero x)))
        refine zg_X8_pieces_11 fun G C hG hC => ?_
        conv => whnf
        refine br_f (by
          rw [hx1]
          intro e
          have := zmk_0.mp e v v1
          rw [v2] at this; cases this) ?_
        conv => whnf
        refine hG _ _ _ _ (mid 24 (fun x => decide (x = v)) true _ _ _ _ (by rw [hx1]; exact v4) rfl ⟨fun x hx => ?_, ⟨v, v1, by simp⟩, fun x => decide (x = v), ?_, fun x h => h⟩ (fun _ => ?_) (fun h => by cases h))
        · have : x = v := by simpa using hx
          rw [this]; exact v2
        · have := zcd_one v v1
          unfold zton
          omega
        · have := zcd_one v v1
          omega
  refine zSp.of rfl (Nat.le_of_ble_eq_true rfl) (zg_X8_pieces_0 fun G C hG hC => ?_)
  conv => whnf
  dsimp only
  rw [hI.2.1, zmask_mk hn]
  refine hG _ _ _ _ (outer 24 (fun x => decide (x < zan A)) 0 _ _ _ _ _ _ (fb_ct_le _ 24) rfl rfl (fun x h => by simpa using h) (fun x hx _ => ?_) ?_)
  · have hv := hvd.2.2 x hx
    have h1 : zaa A x < zan A := by omega
    have h2 : zab A x < zan A := by omega
    simp [h1, h2]
  · have e1 : zcd (fun x => decide (x < zan A)) = zan A := zcd_lt hn
    have e2 : zib (zaa A) (zab A) (zam A) (zK A false 1 1) (fun x => decide (x < zan A)) = zrk A false 1 1 := by
      unfold zib zrk
      refine fb_ct_cong fun x hx => ?_
      have hv := hvd.2.2 x hx
      have h1 : zaa A x < zan A := by omega
      have h2 : zab A x < zan A := by omega
      simp [h1, h2]
    rw [e1, e2]
    omega
end zQ
