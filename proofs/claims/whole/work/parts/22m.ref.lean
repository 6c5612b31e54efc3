/-! the reference: adds -/
def zone (A : zAS) (σ : zST) : Prop := ∀ a b, a < zan A → b < zan A → a ≠ b → σ 64 (24 * a + b) = if zbn A a b = true then 1 else 0
noncomputable def zad (A : zAS) (u w c x : Nat) : Bool := (decide (x = u) || decide (x = w)) || (decide (x < c) && zcS A u w x)
theorem zad_end {A : zAS} {u w : Nat} (hu : u < zan A) (hw : w < zan A) (hb : zbn A u w = true) (x : Nat) : zad A u w (zan A) x = zcS A u w x := by
  unfold zad
  by_cases e1 : x = u
  · subst e1
    have : zcS A x w x = true := by unfold zcS; rw [zbn_comm A w x, hb]; simp [hu]
    rw [this]; simp
  · by_cases e2 : x = w
    · subst e2
      have : zcS A u x x = true := by unfold zcS; rw [hb]; simp [hw]
      rw [this]; simp
    · by_cases e3 : x < zan A
      · simp [e1, e2, e3]
      · have : zcS A u w x = false := by unfold zcS; simp [e3]
        rw [this]; simp [e1, e2]
theorem zad_same {A : zAS} {u w c : Nat} (h : c = u ∨ c = w ∨ zcS A u w c = false) : zad A u w (c + 1) = zad A u w c := by
  funext x
  unfold zad
  by_cases e : x = c
  · subst e
    rcases h with h | h | h
    · subst h; simp
    · subst h; simp
    · rw [h]; simp
  · have : decide (x < c + 1) = decide (x < c) := decide_eq_decide.mpr (by omega)
    rw [this]
theorem zad_more {A : zAS} {u w c : Nat} (h : zcS A u w c = true) : zad A u w (c + 1) = fun x => zad A u w c x || decide (x = c) := by
  funext x
  unfold zad
  by_cases e : x = c
  · subst e; rw [h]; simp
  · have : decide (x < c + 1) = decide (x < c) := decide_eq_decide.mpr (by omega)
    rw [this]; simp [e]
theorem z24 (a b : Nat) : (24 : Int32) * nI a + nI b = nI (24 * a + b) := by
  have : (24 : Int32) * nI a = nI (24 * a) := pk_mul 24 a
  rw [this, nI_add]
section zQ
variable {E : zEN} {d : Nat} {A : zAS} {rf : Nat → Int32} {σ : zST}
theorem sm_adds (hI : zmf A rf σ) (hO : zone A σ) {L : List (Nat × Nat)} (hL : zmcl A L σ) (hlen : L.length < 276) {u w : Nat} (huw : u < w) (hw : w < zan A) (hb : zbn A u w = true) : zSp E (d + 1) zM_X8_adds [.inr (8, 48), .inl (nI u), .inl (nI w)] σ (fun _ σ' => zagw [63] [21] σ σ' ∧ zmcl A (L ++ [(u, w)]) σ') := by
  have hn := hI.1.1
  have loop : ∀ r c (x3 x4 : Int32), c + r = zan A → x3 = zmk (zad A u w c) → x4 = nI c → zWp E (d + 1) zM_X8_adds (fun _ σ' => zagw [63] [21] σ σ' ∧ zmcl A (L ++ [(u, w)]) σ') 11 [some (.inr (8, 48)), some (.inl (nI u)), some (.inl (nI w)), some (.inl x3), some (.inl x4)] [] σ := by
    intro r
    induction r with
    | zero =>
      intro c x3 x4 hc hx3 hx4
      have hc : c = zan A := by omega
      subst hc
      refine zg_X8_adds_11 fun G C hG hC => ?_
      conv => whnf
      refine pk_le (zan A) (zan A) (fun _ => ?_) (fun _ => by omega) hI.2.1 hx4
      conv => whnf
      refine ⟨pk_in L.length 576 (by omega) hL.1, ?_⟩
      conv => whnf
      dsimp only
      rw [zup_ne (by decide), hL.1, nI_clamp (by omega : L.length < 2 ^ 31), nI_1]
      refine ⟨(zagw.rf.up (by simp) (by decide)).upf (by simp), ?_, ?_⟩
      · rw [zup_self, pk_us, List.length_append]; rfl
      · rw [zup_ne (by decide), zup_self, hx3]
        have := zcx.snoc hL.2 (u, w)
        have e : zmk (zad A u w (zan A)) = zmk (zcS A u w) := zmk_cong fun i _ => zad_end (by omega) hw hb i
        rw [e]; exact this
    | succ r ih =>
      intro c x3 x4 hc hx3 hx4
      have e4 : x4 + 1 = nI (c + 1) := by rw [hx4, nI_1]
      have same : (c = u ∨ c = w ∨ zcS A u w c = false) → zWp E (d + 1) zM_X8_adds (fun _ σ' => zagw [63] [21] σ σ' ∧ zmcl A (L ++ [(u, w)]) σ') 11 [some (.inr (8, 48)), some (.inl (nI u)), some (.inl (nI w)), some (.inl x3), some (.inl (x4 + 1))] [] σ := fun h => ih (c + 1) _ _ (by omega) (by rw [zad_same h]; exact hx3) e4
      refine zg_X8_adds_11 fun G C hG hC => ?_
      conv => whnf
      refine pk_le (zan A) c (fun _ => by omega) (fun _ => ?_) hI.2.1 hx4
      conv => whnf
      refine pk_eq c u (fun e => ?_) (fun e => ?_) hx4 rfl
      · conv => whnf
        exact hG _ _ _ _ (same (Or.inl e))
      · conv => whnf
        refine pk_eq c w (fun e2 => ?_) (fun e2 => ?_) hx4 rfl
        · conv => whnf
          exact hG _ _ _ _ (same (Or.inr (Or.inl e2)))
        · conv => whnf
          dsimp only
          rw [hx4, z24]
          refine ⟨pk_in (24 * u + c) 576 (by omega), ?_⟩
          conv => whnf
          dsimp only
          rw [nI_clamp (by omega : 24 * u + c < 2 ^ 31), hO u c (by omega) (by omega) (Ne.symm e)]
          cases h1 : zbn A u c
          · rw [if_neg (by decide)]
            refine br_t rfl ?_
            conv => whnf
            have := same (Or.inr (Or.inr (by unfold zcS; rw [h1]; simp [e])))
            rw [hx4] at this
            exact hG _ _ _ _ this
          · rw [if_pos rfl]
            refine br_f (by decide) ?_
            conv => whnf
            dsimp only
            rw [z24]
            refine ⟨pk_in (24 * w + c) 576 (by omega), ?_⟩
            conv => whnf
            dsimp only
            rw [nI_clamp (by omega : 24 * w + c < 2 ^ 31), hO w c (by omega) (by omega) (Ne.symm e2)]
            cases h2 : zbn A w c
            · rw [if_neg (by decide)]
              refine br_t rfl ?_
              conv => whnf
              have := same (Or.inr (Or.inr (by unfold zcS; rw [h2]; simp [e2])))
              rw [hx4] at this
              exact hG _ _ _ _ this
            · rw [if_pos rfl]
              refine br_f (by decide) ?_
              conv => whnf
              have hc1 : zcS A u w c = true := by
                have hcn : c < zan A := by omega
                unfold zcS; rw [h1, h2]; simp [hcn]
              refine hG _ _ _ _ (ih (c + 1) _ _ (by omega) ?_ (nI_1 c))
              rw [zad_more hc1, hx3]
              exact zmk_or1 _ (by omega)
  refine zSp.of rfl (Nat.le_of_ble_eq_true rfl) (zg_X8_adds_0 fun G C hG hC => ?_)
  conv => whnf
  refine hG _ _ _ _ (loop (zan A) 0 _ 0 (by omega) ?_ rfl)
  dsimp only
  have e1 : (1 : Int32) <<< (nI u &&& 31) = zmk (fun x => decide (x = u)) := zmk_eq (fun i hi => zsh1 u (by omega) i (by omega)) (fun i h1 h2 => by rw [zsh1 u (by omega) i h2]; simp; omega)
  rw [e1, zmk_or1 _ (by omega)]
  exact zmk_cong fun i _ => by unfold zad; simp
end zQ
