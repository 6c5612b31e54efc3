/-! the reference: fewest, fewestAt -/
abbrev zfw2 : List Nat := [54, 55, 56, 57, 58, 59, 66]
def zprin (n : Nat) (l : List (Nat × Nat)) : Prop := ∀ p, p ∈ l → p.1 < n ∧ p.2 < n
theorem zfew_stop {A : zAS} (hvd : zvd A) {l : List (Nat × Nat)} (hl : zprin (zan A) l) (h : 2 * zan A ≤ zrk A false 2 3 + l.length + 3) {u w : Nat} (hu : u < zan A) (hw : w < zan A) : ¬ zfr 2 3 (zFl A (zK A false 2 3) l) u w := fun hf => by
  have h1 := hf (fun x => decide (x < zan A)) (by simp [hu]) (by simp [hw])
  rw [zcd_lt hvd.1] at h1
  have e1 : zib (zaa A) (zab A) (zam A) (zK A false 2 3) (fun x => decide (x < zan A)) = zrk A false 2 3 := fb_ct_cong fun y hy => by
    have := hvd.2.2 y hy
    have h1 : zaa A y < zan A := by omega
    simp [h1, this.2.1]
  have e2 : l.countP (fun p => (fun x => decide (x < zan A)) p.1 && (fun x => decide (x < zan A)) p.2) = l.length := List.countP_eq_length.mpr (fun p hp => by have := hl p hp; simp [this.1, this.2])
  unfold zFl at h1
  rw [e1, e2] at h1
  omega
theorem zmst_pin {A : zAS} {l : List (Nat × Nat)} {u w : Nat} (hl : zprin (zan A) l) (hu : u < zan A) (hw : w < zan A) : zprin (zan A) (zmst A l u w) := by
  unfold zmst; split
  · intro p hp
    rw [List.mem_append] at hp
    rcases hp with hp | hp
    · exact hl p hp
    · simp at hp; subst hp; exact ⟨hu, hw⟩
  · exact hl
theorem zmw_pin {A : zAS} {l : List (Nat × Nat)} {u : Nat} (hl : zprin (zan A) l) (hu : u < zan A) : ∀ w, w ≤ zan A → zprin (zan A) (zmw A u l w)
  | 0, _ => hl
  | w + 1, h => by
    have ih := zmw_pin hl hu w (by omega)
    show zprin (zan A) (if u < w then zmst A (zmw A u l w) u w else zmw A u l w)
    split
    · exact zmst_pin ih hu (by omega)
    · exact ih
theorem zmw_stop {A : zAS} (hvd : zvd A) {l : List (Nat × Nat)} {u w : Nat} (hl : zprin (zan A) l) (hu : u < zan A) (h : 2 * zan A ≤ zrk A false 2 3 + (zmw A u l w).length + 3) : ∀ r, w + r ≤ zan A → zmw A u l (w + r) = zmw A u l w
  | 0, _ => rfl
  | r + 1, hr => by
    have ih := zmw_stop hvd hl hu h r (by omega)
    show (if u < w + r then zmst A (zmw A u l (w + r)) u (w + r) else zmw A u l (w + r)) = _
    rw [ih]
    split
    · unfold zmst
      rw [if_neg]
      intro q
      simp only [Bool.and_eq_true] at q
      exact zfew_stop hvd (zmw_pin hl hu w (by omega)) h hu (by omega) (zfrb_t.mp q.2)
    · rfl
section zQ
variable {E : zEN} {d : Nat} {A : zAS} {rf : Nat → Int32} {σ : zST}
def zfwi (A : zAS) (l : List (Nat × Nat)) (σ : zST) : Prop := zmb 2 3 (zrk A false 2 3 + l.length) (zFl A (zK A false 2 3) l) σ ∧ zpx l (σ 66)
theorem sm_findFewest (hI : zmf A rf σ) : zSp E (d + 30) zM_X8_findFewest [.inr (8, 48)] σ (fun r σ' => zagw zfw2 [11, 12, 13] σ σ' ∧ r = nI (zmu A (zan A)).length ∧ zpx (zmu A (zan A)) (σ' 66)) := by
  have hn := hI.1.1
  have hm := hI.1.2.1
  have hr := zrk_le A false 2 3
  generalize hP : (fun r σ' => zagw zfw2 [11, 12, 13] σ σ' ∧ r = nI (zmu A (zan A)).length ∧ zpx (zmu A (zan A)) (σ' 66) : zPT) = P
  have inner : ∀ u, u < zan A → zprin (zan A) (zmu A u) → (∀ (x1 x2 x3 : Int32) (x4 : Option zAV) (σ' : zST), x2 = nI (zmu A (u + 1)).length → x3 = nI (u + 1) → zagw zfw2 [11, 12, 13] σ σ' → zfwi A (zmu A (u + 1)) σ' → zWp E (d + 30) zM_X8_findFewest P 9 [some (.inr (8, 48)), some (.inl x1), some (.inl x2), some (.inl x3), x4] [] σ') → ∀ r w (x1 x2 x3 x4 : Int32) (σ' : zST), w + r = zan A → u < w → x2 = nI (zmw A u (zmu A u) w).length → x3 = nI u → x4 = nI w → zagw zfw2 [11, 12, 13] σ σ' → zfwi A (zmw A u (zmu A u) w) σ' → zWp E (d + 30) zM_X8_findFewest P 22 [some (.inr (8, 48)), some (.inl x1), some (.inl x2), some (.inl x3), some (.inl x4)] [] σ' := by
    intro u hu hpin next r
    induction r with
    | zero =>
      intro w x1 x2 x3 x4 σ' hw huw hx2 hx3 hx4 hag hf
      have hI' := hI.agw hag (by simp) (by simp)
      have hw : w = zan A := by omega
      subst hw
      refine zg_X8_findFewest_22 fun G C hG hC => ?_
      conv => whnf
      refine pk_le (zan A) (zan A) (fun _ => ?_) (fun _ => by omega) hI'.2.1 hx4
      conv => whnf
      exact hG _ _ _ _ (next _ _ _ _ _ hx2 (by rw [hx3, nI_1]) hag hf)
    | succ r ih =>
      intro w x1 x2 x3 x4 σ' hw huw hx2 hx3 hx4 hag hf
      have hI' := hI.agw hag (by simp) (by simp)
      have hlen : (zmw A u (zmu A u) w).length ≤ 45 := zmw_len (zmu_len A u) w
      have hwn : zmw A u (zmu A u) (w + 1) = zmst A (zmw A u (zmu A u) w) u w := by
        show (if u < w then _ else _) = _
        rw [if_pos huw]
      refine zg_X8_findFewest_22 fun G C hG hC => ?_
      conv => whnf
      refine pk_le (zan A) w (fun _ => by omega) (fun _ => ?_) hI'.2.1 hx4
      conv => whnf
      dsimp only
      rw [hf.1.n]
      refine hC _ _ _ _ ((sm_freedomOf (d := d + 28) hI').conseq ?_)
      rintro r2 σ2 ⟨rfl, rfl⟩
      conv => whnf
      have hn72 := hf.1.n72
      have e4 : x4 + 1 = nI (w + 1) := by rw [hx4, nI_1]
      refine ⟨fun h => ?_, fun h => ?_⟩
      · have h := (zfr3 hn (by omega)).mp h
        conv => whnf
        have hst := zmw_stop hI.1 hpin hu (w := w) (by omega) (r + 1) (by omega)
        have e : zmu A (u + 1) = zmw A u (zmu A u) w := by
          show zmw A u (zmu A u) (zan A) = _
          rw [← hw]; exact hst
        exact hG _ _ _ _ (next _ _ _ _ _ (by rw [e]; exact hx2) (by rw [hx3, nI_1]) hag (by rw [e]; exact hf))
      · conv => whnf
        subst hx3 hx4
        refine hC _ _ _ _ ((sm_between (d := d + 28) hI' (by omega : u < 24) (by omega : w < 24)).conseq ?_)
        rintro r3 σ3 ⟨rfl, hb⟩
        rw [Nat.min_eq_left (by omega), Nat.max_eq_right (by omega)] at hb
        conv => whnf
        have no : zmst A (zmw A u (zmu A u) w) u w = zmw A u (zmu A u) w → ∀ σ4, zagw zfw2 [11, 12, 13] σ σ4 → zfwi A (zmw A u (zmu A u) w) σ4 → zWp E (d + 30) zM_X8_findFewest P 22 [some (.inr (8, 48)), some (.inl x1), some (.inl x2), some (.inl (nI u)), some (.inl (nI w + 1))] [] σ4 := fun e σ4 g1 g2 => ih (w + 1) _ _ _ _ σ4 (by omega) (by omega) (by rw [hwn, e]; exact hx2) rfl e4 g1 (by rw [hwn, e]; exact g2)
        rcases hb with ⟨hb, htd⟩ | ⟨hb, htd⟩
        · refine br_f (fun q => ?_) ?_
          · have a1 := Int32.lt_iff_toInt_lt.mp hb
            have a2 := Int32.le_iff_toInt_le.mp q
            omega
          · conv => whnf
            refine hC _ _ _ _ ((sp_isFree (d := d + 2) hf.1 (by omega : u < 24) (by omega : w < 24) (by omega) (Or.inr rfl)).conseq ?_)
            rintro r4 σ4 ⟨hag2, hr4⟩
            have hag3 : zagw zfw2 [11, 12, 13] σ σ4 := hag.tr (hag2.sub (by simp) (by simp))
            have h66 : σ4 66 = σ3 66 := hag2.1 66 (by simp) (by decide)
            conv => whnf
            rcases hr4 with ⟨rfl, hfr, hM2, -⟩ | ⟨rfl, hfr, hM2⟩
            · have hl44 := zfr_len hfr
              have e : zmst A (zmw A u (zmu A u) w) u w = zmw A u (zmu A u) w ++ [(u, w)] := by unfold zmst; rw [htd, zfrb_t.mpr hfr]; rfl
              refine br_f (by decide) ?_
              conv => whnf
              refine ⟨pk_in (zmw A u (zmu A u) w).length 48 (by omega) hx2, ?_⟩
              conv => whnf
              dsimp only
              rw [pk_cl _ hx2]
              have e100 : (100 : Int32) * nI u + nI w = nI (100 * u + w) := by
                have : (100 : Int32) * nI u = nI (100 * u) := pk_mul 100 u
                rw [this, nI_add]
              rw [e100]
              refine hG _ _ _ _ (ih (w + 1) _ _ _ _ _ (by omega) (by omega) ?_ rfl e4 (hag3.up (by simp) (by decide)) ?_)
              · rw [hwn, e, hx2, List.length_append, nI_1]; rfl
              · rw [hwn, e]
                refine ⟨?_, ?_⟩
                · rw [List.length_append]
                  exact ((hM2 rfl).cong (fun V => (zFl_snoc A _ _ u w V).symm)).agw (js := [66]) (fs := []) (zagw.rf.up (by simp) (by decide)) (by simp) (by simp)
                · rw [zup_self, h66]; exact hf.2.snoc u w
            · have e : zmst A (zmw A u (zmu A u) w) u w = zmw A u (zmu A u) w := by
                unfold zmst
                rw [if_neg]
                intro q
                simp only [Bool.and_eq_true] at q
                exact hfr (zfrb_t.mp q.2)
              refine br_t rfl ?_
              conv => whnf
              exact hG _ _ _ _ (no e σ4 hag3 ⟨hM2, by rw [h66]; exact hf.2⟩)
        · have e : zmst A (zmw A u (zmu A u) w) u w = zmw A u (zmu A u) w := by unfold zmst; rw [htd]; rfl
          refine br_t ?_ ?_
          · apply Int32.le_iff_toInt_le.mpr
            have : ¬ r3.toInt < (0 : Int32).toInt := fun q => hb (Int32.lt_iff_toInt_lt.mpr q)
            omega
          · conv => whnf
            exact hG _ _ _ _ (no e σ3 hag hf)
  have outer : ∀ r u (x1 x2 x3 : Int32) (x4 : Option zAV) (σ' : zST), u + r = zan A → zprin (zan A) (zmu A u) → x2 = nI (zmu A u).length → x3 = nI u → zagw zfw2 [11, 12, 13] σ σ' → zfwi A (zmu A u) σ' → zWp E (d + 30) zM_X8_findFewest P 9 [some (.inr (8, 48)), some (.inl x1), some (.inl x2), some (.inl x3), x4] [] σ' := by
    intro r
    induction r with
    | zero =>
      intro u x1 x2 x3 x4 σ' hu hpin hx2 hx3 hag hf
      have hI' := hI.agw hag (by simp) (by simp)
      have hu : u = zan A := by omega
      subst hu
      refine zg_X8_findFewest_9 fun G C hG hC => ?_
      conv => whnf
      refine pk_le (zan A) (zan A) (fun _ => ?_) (fun _ => by omega) hI'.2.1 hx3
      conv => whnf
      rw [← hP]
      exact ⟨hag, hx2, hf.2⟩
    | succ r ih =>
      intro u x1 x2 x3 x4 σ' hu hpin hx2 hx3 hag hf
      have hI' := hI.agw hag (by simp) (by simp)
      refine zg_X8_findFewest_9 fun G C hG hC => ?_
      conv => whnf
      refine pk_le (zan A) u (fun _ => by omega) (fun _ => ?_) hI'.2.1 hx3
      conv => whnf
      have e1 := zmw_low A u (zmu A u) (u + 1) (Nat.le_refl _)
      exact hG _ _ _ _ (inner u (by omega) hpin (fun x1 x2 x3 x4 σ3 g1 g2 g3 g4 => ih (u + 1) x1 x2 x3 x4 σ3 (by omega) (zmw_pin hpin (by omega) (zan A) (Nat.le_refl _)) g1 g2 g3 g4) (zan A - (u + 1)) (u + 1) _ _ _ _ σ' (by omega) (by omega) (by rw [e1]; exact hx2) hx3 (by rw [hx3]; exact nI_1 u) hag (by rw [e1]; exact hf))
  refine zSp.of rfl (Nat.le_of_ble_eq_true rfl) (zg_X8_findFewest_0 fun G C hG hC => ?_)
  conv => whnf
  refine hC _ _ _ _ ((sm_ranks (d := d) hI).conseq ?_)
  rintro r σ2 ⟨h1, h2, rfl⟩
  conv => whnf
  exact hG _ _ _ _ (outer (zan A) 0 _ 0 0 _ σ2 (by omega) (fun p hp => by simp [zmu] at hp) rfl rfl (h1.sub (by simp) (by simp)) ⟨h2.1.cong (fun V => rfl), fun i hi => by simp [zmu] at hi⟩)
theorem sm_fewest (hI : zmf A rf σ) : zSp E (d + 40) zM_X8_fewest [.inr (8, 48)] σ (zMP A rf (.inr (nI (zmu A (zan A)).length)) σ) := by
  refine zSp.of rfl (Nat.le_of_ble_eq_true rfl) (zg_X8_fewest_0 fun G C hG hC => ?_)
  conv => whnf
  refine hC _ _ _ _ ((sm_findFewest (d := d + 9) hI).conseq ?_)
  rintro r σ2 ⟨h1, rfl, -⟩
  conv => whnf
  exact ⟨h1.lo (by simp), hI.agw h1 (by simp) (by simp), rfl⟩
theorem sm_fewestAt (hI : zmf A rf σ) {x : Int32} : zSp E (d + 40) zM_X8_fewestAt [.inr (8, 48), .inl x] σ (zMP A rf (.inr (zo_fewestAt A x)) σ) := by
  have hl := zmu_len A (zan A)
  refine zSp.of rfl (Nat.le_of_ble_eq_true rfl) (zg_X8_fewestAt_0 fun G C hG hC => ?_)
  conv => whnf
  refine hC _ _ _ _ ((sm_findFewest (d := d + 9) hI).conseq ?_)
  rintro r σ2 ⟨h1, rfl, h3⟩
  have hI2 := hI.agw h1 (by simp) (by simp)
  have hz2 := h1.lo (by simp)
  conv => whnf
  refine hC _ _ _ _ ((sm_isIn (d := d + 38) (n := (zmu A (zan A)).length) (by omega) rfl).conseq ?_)
  rintro r σ3 ⟨rfl, rfl⟩
  conv => whnf
  unfold zo_fewestAt
  rcases zix_cases x (n := (zmu A (zan A)).length) (by omega) with ⟨hz, hx⟩ | ⟨i, hi, rfl, hz⟩
  · rw [hz, if_neg (by decide), if_neg (by decide)]
    refine br_t rfl ?_
    conv => whnf
    exact ⟨hz2, hI2, rfl⟩
  · rw [hz, if_pos rfl, if_pos rfl, nI_clamp (by omega)]
    refine br_f (by decide) ?_
    conv => whnf
    refine ⟨pk_in i 48 (by omega), ?_⟩
    conv => whnf
    refine ⟨hz2, hI2, ?_⟩
    dsimp only
    rw [nI_clamp (by omega : i < 2 ^ 31), h3 i hi]
    rfl
end zQ
