/-! Missing: the fewest bars that make all stiff -/
def zFl (A : zAS) (K : Nat → Bool) (l : List (Nat × Nat)) : (Nat → Bool) → Nat := fun V => zib (zaa A) (zab A) (zam A) K V + l.countP (fun p => V p.1 && V p.2)
theorem zFl_snoc (A : zAS) (K : Nat → Bool) (l : List (Nat × Nat)) (u w : Nat) (V : Nat → Bool) : zFl A K (l ++ [(u, w)]) V = zFl A K l V + (if (V u && V w) = true then 1 else 0) := by
  unfold zFl
  rw [List.countP_append, List.countP_singleton, ← Nat.add_assoc]
noncomputable def ztd (A : zAS) (u w : Nat) : Bool := @decide (∃ x, x < zam A ∧ zaa A x = u ∧ zab A x = w) (Classical.propDecidable _)
theorem ztd_t {A : zAS} {u w : Nat} : ztd A u w = true ↔ ∃ x, x < zam A ∧ zaa A x = u ∧ zab A x = w := ⟨fun h => @of_decide_eq_true _ (Classical.propDecidable _) h, fun h => @decide_eq_true _ (Classical.propDecidable _) h⟩
noncomputable def zfrb (A : zAS) (l : List (Nat × Nat)) (u w : Nat) : Bool := @decide (zfr 2 3 (zFl A (zK A false 2 3) l) u w) (Classical.propDecidable _)
theorem zfrb_t {A : zAS} {l : List (Nat × Nat)} {u w : Nat} : zfrb A l u w = true ↔ zfr 2 3 (zFl A (zK A false 2 3) l) u w := ⟨fun h => @of_decide_eq_true _ (Classical.propDecidable _) h, fun h => @decide_eq_true _ (Classical.propDecidable _) h⟩
noncomputable def zmst (A : zAS) (l : List (Nat × Nat)) (u w : Nat) : List (Nat × Nat) := if (!ztd A u w && zfrb A l u w) = true then l ++ [(u, w)] else l
noncomputable def zmw (A : zAS) (u : Nat) (l : List (Nat × Nat)) : Nat → List (Nat × Nat)
  | 0 => l
  | w + 1 => if u < w then zmst A (zmw A u l w) u w else zmw A u l w
noncomputable def zmu (A : zAS) : Nat → List (Nat × Nat)
  | 0 => []
  | u + 1 => zmw A u (zmu A u) (zan A)
theorem zfr_len {A : zAS} {l : List (Nat × Nat)} {u w : Nat} (h : zfr 2 3 (zFl A (zK A false 2 3) l) u w) : l.length ≤ 44 := by
  have h1 := h (fun _ => true) rfl rfl
  have h2 : zcd (fun _ => true) = 24 := by unfold zcd; exact fb_ct_true 24
  unfold zFl at h1
  rw [h2] at h1
  have h3 : l.countP (fun p => true && true) = l.length := by simp
  simp only at h1
  omega
theorem zmst_len {A : zAS} {l : List (Nat × Nat)} {u w : Nat} (h : l.length ≤ 45) : (zmst A l u w).length ≤ 45 := by
  unfold zmst; split
  · rename_i hq
    simp only [Bool.and_eq_true] at hq
    have := zfr_len (zfrb_t.mp hq.2)
    rw [List.length_append]; simp; omega
  · exact h
theorem zmw_len {A : zAS} {u : Nat} {l : List (Nat × Nat)} (h : l.length ≤ 45) : ∀ w, (zmw A u l w).length ≤ 45
  | 0 => h
  | w + 1 => by
    have ih := zmw_len (A := A) (u := u) h w
    show (if u < w then zmst A (zmw A u l w) u w else zmw A u l w).length ≤ 45
    split
    · exact zmst_len ih
    · exact ih
theorem zmu_len (A : zAS) : ∀ u, (zmu A u).length ≤ 45
  | 0 => by simp [zmu]
  | u + 1 => zmw_len (zmu_len A u) _
theorem zmw_low (A : zAS) (u : Nat) (l : List (Nat × Nat)) : ∀ w, w ≤ u + 1 → zmw A u l w = l
  | 0, _ => rfl
  | w + 1, h => by
    show (if u < w then zmst A (zmw A u l w) u w else zmw A u l w) = l
    rw [if_neg (by omega)]
    exact zmw_low A u l w (by omega)
/-- the pairs told stand in the row f -/
def zpx (l : List (Nat × Nat)) (f : Nat → Int32) : Prop := ∀ i, i < l.length → f i = nI (100 * (l.getD i (0, 0)).1 + (l.getD i (0, 0)).2)
theorem zpx.snoc {l : List (Nat × Nat)} {f : Nat → Int32} (h : zpx l f) (u w : Nat) : zpx (l ++ [(u, w)]) (upd f l.length (nI (100 * u + w))) := by
  intro i hi
  rw [List.length_append, List.length_singleton] at hi
  by_cases e : i = l.length
  · subst e
    rw [pk_us, List.getD_eq_getElem?_getD, List.getElem?_append_right (Nat.le_refl _)]
    simp
  · rw [pk_un e, h i (by omega), List.getD_eq_getElem?_getD, List.getD_eq_getElem?_getD, List.getElem?_append_left (by omega)]
theorem ztied_eq {A : zAS} {ch u w : Nat} {σ : zST} (hF : zcf A ch σ) (huw : u < w) (hw : w < 24) : bt (σ 6 u) w = ztd A u w := by
  have h := hF.2.2.2.2.2.2.2 u (by omega) w hw
  have e : (∃ x, x < zam A ∧ ((zaa A x = u ∧ zab A x = w) ∨ (zaa A x = w ∧ zab A x = u))) ↔ ∃ x, x < zam A ∧ zaa A x = u ∧ zab A x = w := by
    constructor
    · rintro ⟨x, hx, h1 | h1⟩
      · exact ⟨x, hx, h1⟩
      · have := (hF.1.2.2 x hx).1; omega
    · rintro ⟨x, hx, h1⟩; exact ⟨x, hx, Or.inl h1⟩
  cases hb : bt (σ 6 u) w
  · cases hz : ztd A u w
    · rfl
    · rw [h.mpr (e.mpr (ztd_t.mp hz))] at hb; cases hb
  · exact (ztd_t.mpr (e.mp (h.mp hb))).symm
set_option maxHeartbeats 4000000 in
theorem sp_tell {E : zEN} {d ch u w : Nat} {A : zAS} {l : List (Nat × Nat)} {σ : zST} (hF : zcf A ch σ) (hB : zbd 36 2 3 (zFl A (zK A false 2 3) l) σ) (huw : u < w) (hw : w < 24) (hlen : l.length ≤ 45) (hs : σ 40 5 = nI l.length) (hx : zpx l (σ 41)) : zSp E (d + 5) zM_X3_tellIfGrows [.inr (3, 40), .inl (nI u), .inl (nI w)] σ (fun _ σ' => zagr [37, 38, 39, 40, 41] σ σ' ∧ (∀ f, f ≠ 5 → σ' 40 f = σ 40 f) ∧ zbd 36 2 3 (zFl A (zK A false 2 3) (zmst A l u w)) σ' ∧ σ' 40 5 = nI (zmst A l u w).length ∧ zpx (zmst A l u w) (σ' 41)) := by
  refine zSp.of rfl (Nat.le_of_ble_eq_true rfl) (zg_X3_tellIfGrows_0 fun G C hG hC => ?_)
  conv => whnf
  refine hC _ _ _ _ ((sp_tied (d := d + 2) (by omega : u < 24) hw).conseq ?_)
  rintro r σ' ⟨rfl, rfl⟩
  conv => whnf
  rw [ztied_eq hF huw hw]
  cases ht : ztd A u w
  · rw [if_neg (by decide)]
    refine br_t rfl ?_
    conv => whnf
    refine pk_le 276 l.length (fun _ => by omega) (fun _ => ?_) rfl hs
    conv => whnf
    refine hC _ _ _ _ ((sp_put (d := d) hB (by omega : u < 24) hw (by omega)).conseq ?_)
    rintro r2 σ2 ⟨w1, hr⟩
    have k40 : σ2 40 = σ' 40 := w1 40 (by simp)
    have k41 : σ2 41 = σ' 41 := w1 41 (by simp)
    conv => whnf
    rcases hr with ⟨rfl, hf, hB2⟩ | ⟨rfl, hf, hB2, -⟩
    · refine br_f (by decide) ?_
      have hst : zmst A l u w = l ++ [(u, w)] := by unfold zmst; rw [ht, zfrb_t.mpr hf]; rfl
      have hl44 := zfr_len hf
      conv => whnf
      have hs2 : σ2 40 5 = nI l.length := by rw [k40]; exact hs
      refine ⟨pk_in l.length 276 (by omega) hs2, ?_⟩
      conv => whnf
      dsimp only
      have e100 : (100 : Int32) * nI u + nI w = nI (100 * u + w) := by
        have : (100 : Int32) * nI u = nI (100 * u) := pk_mul 100 u
        rw [this, nI_add]
      rw [pk_cl _ hs2, e100, hst]
      refine ⟨((w1.sub (by simp)).up (by simp)).up (by simp), fun f hf => ?_, ?_, ?_, ?_⟩
      · rw [zup_self, pk_un hf, zup_ne (by decide), k40]
      · exact (hB2.cong (fun V => (zFl_snoc A _ l u w V).symm)).agr (by rw [zup_ne (by decide), zup_ne (by decide)]) (by rw [zup_ne (by decide), zup_ne (by decide)])
      · rw [zup_self, pk_us, zup_ne (by decide), hs2, nI_1]; congr 1; simp
      · rw [zup_ne (by decide), zup_self, k41]; exact hx.snoc u w
    · refine br_t rfl ?_
      have hst : zmst A l u w = l := by
        unfold zmst
        rw [ht]
        have : zfrb A l u w = false := by
          cases hq : zfrb A l u w
          · rfl
          · exact absurd (zfrb_t.mp hq) hf
        rw [this]; rfl
      conv => whnf
      rw [hst]
      exact ⟨w1.sub (by simp), fun f _ => by rw [k40], hB2, by rw [k40]; exact hs, by rw [k41]; exact hx⟩
  · rw [if_pos rfl]
    refine br_f (by decide) ?_
    have hst : zmst A l u w = l := by unfold zmst; rw [ht]; rfl
    conv => whnf
    rw [hst]
    exact ⟨zagr.rf, fun f _ => rfl, hB, hs, hx⟩
def zmio (A : zAS) (ch : Nat) (σ : zST) : Prop := σ 40 4 = nI ch ∧ σ 40 5 = nI (zmu A (zan A)).length ∧ zpx (zmu A (zan A)) (σ 41)
def zmim (A : zAS) (ch : Nat) (σ : zST) : Prop := (σ 40 4 = -1 ∨ ∃ q, q ≤ ch ∧ σ 40 4 = nI q) ∧ (σ 40 4 = nI ch → zmio A ch σ)
abbrev zmj : List Nat := [7, 8, 9, 10, 11, 12, 13, 14, 36, 37, 38, 39, 40, 41]
set_option maxHeartbeats 4000000 in
theorem sp_mifind {E : zEN} {d ch : Nat} {A : zAS} {σ : zST} (hF : zcf A ch σ) (hR : zri A ch 7 false σ) (hM : zmim A ch σ) : zSp E (d + 6) zM_X3_find [.inr (3, 40)] σ (fun _ σ' => zagr zmj σ σ' ∧ zri A ch 7 false σ' ∧ zmio A ch σ') := by
  have hvd := hF.1
  have hn := hvd.1
  have hm := hvd.2.1
  refine zSp.of rfl (Nat.le_of_ble_eq_true rfl) ?_
  have outer : ∀ r u (x1 : Int32) (x2 : Option zAV) (σ' : zST), u + r = zan A → x1 = nI u → zagr zmj σ σ' → zri A ch 7 false σ' → zbd 36 2 3 (zFl A (zK A false 2 3) (zmu A u)) σ' → σ' 40 4 = nI ch → σ' 40 5 = nI (zmu A u).length → zpx (zmu A u) (σ' 41) → zWp E (d + 6) zM_X3_find (fun _ σ' => zagr zmj σ σ' ∧ zri A ch 7 false σ' ∧ zmio A ch σ') 108 [some (.inr (3, 40)), some (.inl x1), x2] [] σ' := by
    intro r
    induction r with
    | zero =>
      intro u x1 x2 σ' hu hx1 hag hR' hB h4 h5 hx
      refine zg_X3_find_108 fun G C hG hC => ?_
      conv => whnf
      refine pk_le (zan A) u (fun _ => ?_) (fun _ => by omega) (hF.agr hag (by simp)).2.2.1 hx1
      conv => whnf
      have : u = zan A := by omega
      subst this
      exact ⟨hag, hR', h4, h5, hx⟩
    | succ r ih =>
      intro u x1 x2 σ' hu hx1 hag hR' hB h4 h5 hx
      subst hx1
      refine zg_X3_find_108 fun G C hG hC => ?_
      conv => whnf
      refine pk_le (zan A) u (fun _ => by omega) (fun _ => ?_) (hF.agr hag (by simp)).2.2.1 rfl
      conv => whnf
      have inner : ∀ r2 w (x2 : Int32) (σ' : zST), w + r2 = zan A → u < w → x2 = nI w → zagr zmj σ σ' → zri A ch 7 false σ' → zbd 36 2 3 (zFl A (zK A false 2 3) (zmw A u (zmu A u) w)) σ' → σ' 40 4 = nI ch → σ' 40 5 = nI (zmw A u (zmu A u) w).length → zpx (zmw A u (zmu A u) w) (σ' 41) → zWp E (d + 6) zM_X3_find (fun _ σ' => zagr zmj σ σ' ∧ zri A ch 7 false σ' ∧ zmio A ch σ') 123 [some (.inr (3, 40)), some (.inl (nI u)), some (.inl x2)] [] σ' := by
        intro r2
        induction r2 with
        | zero =>
          intro w x2 σ' hw huw hx2 hag hR' hB h4 h5 hx
          refine zg_X3_find_123 fun G C hG hC => ?_
          conv => whnf
          refine pk_le (zan A) w (fun _ => ?_) (fun _ => by omega) (hF.agr hag (by simp)).2.2.1 hx2
          conv => whnf
          have : w = zan A := by omega
          subst this
          exact hG _ _ _ _ (ih (u + 1) _ _ σ' (by omega) (nI_1 u) hag hR' hB h4 h5 hx)
        | succ r2 ih2 =>
          intro w x2 σ' hw huw hx2 hag hR' hB h4 h5 hx
          subst hx2
          have hF' := hF.agr hag (by simp)
          refine zg_X3_find_123 fun G C hG hC => ?_
          conv => whnf
          refine pk_le (zan A) w (fun _ => by omega) (fun _ => ?_) hF'.2.2.1 rfl
          conv => whnf
          refine hC _ _ _ _ ((sp_tell (d := d) hF' hB huw (by omega : w < 24) (zmw_len (zmu_len A u) w) h5 hx).conseq ?_)
          rintro r3 σ2 ⟨b1, b2, b3, b4, b5⟩
          conv => whnf
          have hstep : zmw A u (zmu A u) (w + 1) = zmst A (zmw A u (zmu A u) w) u w := by
            show (if u < w then _ else _) = _
            rw [if_pos huw]
          refine hG _ _ _ _ (ih2 (w + 1) _ σ2 (by omega) (by omega) (nI_1 w) (hag.tr (b1.sub (by simp))) (hR'.agr b1 (by simp)) ?_ ?_ ?_ ?_)
          · rw [hstep]; exact b3
          · rw [b2 4 (by decide)]; exact h4
          · rw [hstep]; exact b4
          · rw [hstep]; exact b5
      have hlow := zmw_low A u (zmu A u) (u + 1) (Nat.le_refl _)
      refine hG _ _ _ _ (inner (zan A - (u + 1)) (u + 1) _ σ' (by omega) (by omega) (nI_1 u) hag hR' ?_ h4 ?_ ?_)
      · rw [hlow]; exact hB
      · rw [hlow]; exact h5
      · rw [hlow]; exact hx
  have first : ∀ r i (x1 : Int32) (x2 : Option zAV) (σ' : zST), i + r = zam A → x1 = nI i → zagr zmj σ σ' → σ' 7 5 = σ 7 5 → zrow A ch 7 false 2 3 σ' → zbd 36 2 3 (zib (zaa A) (zab A) (zam A) (fun x => zK A false 2 3 x && decide (x < i))) σ' → σ' 40 4 = nI ch → zWp E (d + 6) zM_X3_find (fun _ σ' => zagr zmj σ σ' ∧ zri A ch 7 false σ' ∧ zmio A ch σ') 46 [some (.inr (3, 40)), some (.inl x1), x2] [] σ' := by
    intro r
    induction r with
    | zero =>
      intro i x1 x2 σ' hi hx1 hag h75 hR' hB h4
      refine zg_X3_find_46 fun G C hG hC => ?_
      conv => whnf
      refine pk_le (zam A) i (fun _ => ?_) (fun _ => by omega) (hF.agr hag (by simp)).2.2.2.1 hx1
      conv => whnf
      have hag4 : zagr [40] σ' (zup σ' 40 5 0) := zagr.rf.up (by simp)
      refine hG _ _ _ _ (outer (zan A) 0 _ _ _ (by omega) rfl (hag.tr (hag4.sub (by simp))) ((hR'.agr hag4 (by simp)).ri (by rw [zup_ne (by decide), h75]; exact hR.1)) ?_ ?_ ?_ (fun i hi => absurd hi (Nat.not_lt_zero i)))
      · refine (hB.cong (fun V => ?_)).agr (by rw [zup_ne (by decide)]) (by rw [zup_ne (by decide)])
        unfold zFl zib
        show _ = _ + 0
        rw [Nat.add_zero]
        refine fb_ct_cong fun x hx => ?_
        have : x < i := by omega
        simp [this]
      · rw [zup_self, pk_un (by decide)]; exact h4
      · rw [zup_self, pk_us]; rfl
    | succ r ih =>
      intro i x1 x2 σ' hi hx1 hag h75 hR' hB h4
      subst hx1
      have hF' := hF.agr hag (by simp)
      have him : i < zam A := by omega
      obtain ⟨q1, q2, q3, q4⟩ := hF'.2.2.2.2.2.2.1 i him
      obtain ⟨p1, p2, p3⟩ := hvd.2.2 i him
      refine zg_X3_find_46 fun G C hG hC => ?_
      conv => whnf
      refine pk_le (zam A) i (fun _ => by omega) (fun _ => ?_) hF'.2.2.2.1 rfl
      conv => whnf
      refine ⟨pk_in i 80 (by omega), ?_⟩
      conv => whnf
      have h12 : σ' 12 i = if zK A false 2 3 i = true then 1 else 0 := hR'.2.2.2.2.1 i (by omega)
      dsimp only
      rw [nI_clamp (by omega : i < 2 ^ 31), h12]
      cases hK : zK A false 2 3 i
      · rw [if_neg (by decide)]
        refine br_t rfl ?_
        conv => whnf
        refine hG _ _ _ _ (ih (i + 1) _ _ σ' (by omega) (nI_1 i) hag h75 hR' (hB.cong (fun V => ?_)) h4)
        refine fb_ct_cong fun x hx => ?_
        by_cases e : x = i
        · subst e; simp [hK]
        · have : x < i ↔ x < i + 1 := by omega
          simp only [this]
      · rw [if_pos rfl]
        refine br_f (by decide) ?_
        conv => whnf
        refine ⟨pk_in i 80 (by omega), ?_⟩
        conv => whnf
        refine ⟨pk_in i 80 (by omega), ?_⟩
        conv => whnf
        dsimp only
        rw [nI_clamp (by omega : i < 2 ^ 31), q1, q2]
        have hKe : (fun x => if x = i then true else (zK A false 2 3 x && decide (x < i))) = fun x => zK A false 2 3 x && decide (x < i + 1) := by
          funext x
          by_cases e : x = i
          · subst e; simp [hK]
          · have : x < i ↔ x < i + 1 := by omega
            simp only [e, if_false, this]
        have hsp1 : zsp (zaa A) (zab A) (zam A) 2 3 (fun x => if x = i then true else (zK A false 2 3 x && decide (x < i))) := by
          rw [hKe]
          exact zsp_sub (zK_sp (by decide)) (fun x _ h => by simp only [Bool.and_eq_true] at h; exact h.1)
        have hfree := zfb_of_sp (K := fun x => zK A false 2 3 x && decide (x < i)) hvd.eo him (by simp) hsp1
        refine hC _ _ _ _ ((sp_put (d := d + 1) hB (by omega) (by omega) (by omega)).conseq ?_)
        rintro r2 σ2 ⟨w1, hr⟩
        conv => whnf
        rcases hr with ⟨rfl, hf, hB2⟩ | ⟨rfl, hf, -⟩
        · refine hG _ _ _ _ (ih (i + 1) _ _ σ2 (by omega) (nI_1 i) (hag.tr (w1.sub (by simp))) (by rw [w1 7 (by simp)]; exact h75) (hR'.agr w1 (by simp)) (hB2.cong (fun V => ?_)) (by rw [w1 40 (by simp)]; exact h4))
          rw [← hKe, zib_add him (by simp)]
          rfl
        · exact absurd (zfr_bars.mpr hfree) hf
  refine zg_X3_find_0 fun G C hG hC => ?_
  conv => whnf
  refine ⟨fun h => ?_, fun h => ?_⟩
  · conv => whnf
    have h : σ 40 4 = σ 1 8 := h
    exact ⟨zagr.rf, hR, hM.2 (by rw [h]; exact hF.2.2.2.2.2.1)⟩
  · conv => whnf
    have hag1 : zagr [40] σ (zup σ 40 4 (σ 1 8)) := zagr.rf.up (by simp)
    refine hC _ _ _ _ ((sp_play (d := d) (k := 2) (l := 3) (by decide) (hF.agr hag1 (by simp)) (hR.agr hag1 (by simp)) (by decide) (by decide) (by decide)).conseq ?_)
    rintro r2 σ2 ⟨p1, p2, p3⟩
    conv => whnf
    refine hC _ _ _ _ ((sp_start (d := d + 3) (j := 36) (k := 2) (l := 3) (by decide) (by decide)).conseq ?_)
    rintro r3 σ3 ⟨s1, s2⟩
    conv => whnf
    refine hG _ _ _ _ (first (zam A) 0 _ _ σ3 (by omega) rfl (((hag1.sub (by simp)).tr (p1.sub (by simp))).tr (s1.sub (by simp))) ?_ (p3.agr s1 (by simp)) (s2.cong (fun V => ?_)) ?_)
    · rw [s1 7 (by simp), p2, zup_ne (by decide)]
    · exact (fb_ct_zero.mpr fun x _ => by simp).symm
    · rw [s1 40 (by simp), p1 40 (by simp), zup_self, pk_us]; exact hF.2.2.2.2.2.1
