/-! Clusters: addIfFirstPair, find, firstWith, isHinge, countHinges -/
/-- the clusters told so far stand in the rows of numbers f -/
def zcx (A : zAS) (l : List (Nat × Nat)) (f : Nat → Int32) : Prop := ∀ i, i < l.length → f i = zmk (zcS A (l.getD i (0, 0)).1 (l.getD i (0, 0)).2)
theorem zset_eq {A : zAS} {u w : Nat} (hu : u < zan A) (hw : w < zan A) : zmk (zcb A u) &&& zmk (zcb A w) = zmk (zcS A u w) := by
  refine zmk_eq (fun x hx => ?_) (fun x h1 h2 => ?_)
  · rw [b_and, zmk_bt _ hx, zmk_bt _ hx]
    unfold zcb zcS
    by_cases e1 : x = u <;> by_cases e2 : x = w
    · subst e1; subst e2; simp [hu]
    · subst e1; simp [hu, e2]
    · subst e2; simp [hw, e1]
    · simp only [e1, e2, decide_false, Bool.false_or]
      cases decide (x < zan A) <;> simp
  · rw [b_and, zmk_hi _ h1 h2]; rfl
theorem zcx.snoc {A : zAS} {l : List (Nat × Nat)} {f : Nat → Int32} (h : zcx A l f) (p : Nat × Nat) : zcx A (l ++ [p]) (upd f l.length (zmk (zcS A p.1 p.2))) := by
  intro i hi
  rw [List.length_append, List.length_singleton] at hi
  by_cases e : i = l.length
  · subst e
    rw [pk_us, List.getD_eq_getElem?_getD, List.getElem?_append_right (Nat.le_refl _)]
    simp
  · rw [pk_un e, h i (by omega), List.getD_eq_getElem?_getD, List.getD_eq_getElem?_getD, List.getElem?_append_left (by omega)]
theorem zbelow {A : zAS} {u w : Nat} (huw : u < w) (hw24 : w < 24) (hu : u < zan A) (hb : zbn A u w = true) : (zmk (zcS A u w) &&& (((1 : Int32) <<< (nI w &&& 31)) - 1) = (1 : Int32) <<< (nI u &&& 31)) ↔ fb_ct (fun c => zcS A u w c && !decide (c = u)) w = 0 := by
  have hSu : zcS A u w u = true := by
    unfold zcS
    have : ¬ u = w := by omega
    simp [hu, this, zbn_comm A w u, hb]
  have bits : ∀ x, x < 32 → bt (zmk (zcS A u w) &&& (((1 : Int32) <<< (nI w &&& 31)) - 1)) x = (decide (x < w) && zcS A u w x) := fun x hx => by
    rw [b_and, zmask w (by omega) x hx]
    by_cases h : x < 24
    · rw [zmk_bt _ h, Bool.and_comm]
    · have : ¬ x < w := by omega
      simp [this]
  constructor
  · intro h
    refine fb_ct_zero.mpr fun c hc => ?_
    have h1 := bits c (by omega)
    rw [h, zsh1 u (by omega) c (by omega)] at h1
    simp only [hc, decide_true, Bool.true_and] at h1
    rw [← h1]
    cases decide (c = u) <;> rfl
  · intro h
    have h := fb_ct_zero.mp h
    apply b_ext
    intro x hx
    rw [bits x hx, zsh1 u (by omega) x hx]
    by_cases hxw : x < w
    · have h1 := h x hxw
      by_cases e : x = u
      · subst e; simp [hxw, hSu]
      · simp only [e, decide_false, Bool.not_false, Bool.and_true] at h1
        simp [hxw, e, h1]
    · have : ¬ x = u := by omega
      simp [hxw, this]
theorem sp_addIf {E : zEN} {d ch u w : Nat} {A : zAS} {σ : zST} (hF : zcf A ch σ) (hc : ∀ v, v < zan A → σ 32 v = zmk (zcb A v)) (huw : u < w) (hw : w < zan A) (hs : σ 31 5 = nI (zcu A u ++ zcw A u w).length) (hx : zcx A (zcu A u ++ zcw A u w) (σ 33)) : zSp E (d + 2) zM_X1_addIfFirstPair [.inr (1, 31), .inl (nI u), .inl (nI w)] σ (fun _ σ' => zagr [31, 33] σ σ' ∧ (∀ f, f ≠ 5 → σ' 31 f = σ 31 f) ∧ σ' 31 5 = nI (zcu A u ++ zcw A u (w + 1)).length ∧ zcx A (zcu A u ++ zcw A u (w + 1)) (σ' 33)) := by
  have hvd := hF.1
  have hn := hvd.1
  have hlen := zcu_le hvd (u := u) (w := w) (by omega) (by omega)
  have hstep : zcw A u (w + 1) = if (decide (u < w) && zfirst A u w) = true then zcw A u w ++ [(u, w)] else zcw A u w := rfl
  have skip : zfirst A u w = false → zcw A u (w + 1) = zcw A u w := fun h => by rw [hstep, h]; simp
  refine zSp.of rfl (Nat.le_of_ble_eq_true rfl) (zg_X1_addIfFirstPair_0 fun G C hG hC => ?_)
  conv => whnf
  refine ⟨pk_in u 24 (by omega), ?_⟩
  conv => whnf
  refine ⟨pk_in w 24 (by omega), ?_⟩
  conv => whnf
  dsimp only
  rw [nI_clamp (by omega : u < 2 ^ 31), nI_clamp (by omega : w < 2 ^ 31), hc u (by omega), hc w hw, zset_eq (by omega) hw]
  refine hC _ _ _ _ ((sp_has (v := w) (by omega)).conseq ?_)
  rintro r σ' ⟨rfl, rfl⟩
  conv => whnf
  have hSw : bt (zmk (zcS A u w)) w = zbn A u w := by
    rw [zmk_bt _ (by omega)]
    unfold zcS
    have : ¬ w = u := by omega
    simp [hw, this]
  rw [hSw]
  cases hb : zbn A u w
  · rw [if_neg (by decide)]
    refine br_t rfl ?_
    conv => whnf
    have := skip (by unfold zfirst; rw [hb]; rfl)
    rw [this]
    exact ⟨zagr.rf, fun _ _ => rfl, hs, hx⟩
  · rw [if_pos rfl]
    refine br_f (by decide) ?_
    conv => whnf
    have hbel := zbelow huw (by omega) (by omega) hb
    refine ⟨fun h => ?_, fun h => ?_⟩
    · have hf : zfirst A u w = true := by
        unfold zfirst
        rw [hb]
        simp only [Bool.true_and, decide_eq_true_eq]
        exact hbel.mp h
      have hlt := zcu_lt hvd huw hw hf
      conv => whnf
      refine pk_le 276 (zcu A u ++ zcw A u w).length (fun _ => by omega) (fun _ => ?_) rfl hs
      conv => whnf
      refine ⟨pk_in (zcu A u ++ zcw A u w).length 276 (by omega) hs, ?_⟩
      conv => whnf
      have e1 : zcu A u ++ zcw A u (w + 1) = (zcu A u ++ zcw A u w) ++ [(u, w)] := by
        rw [hstep, if_pos (by simp [huw, hf]), List.append_assoc]
      dsimp only
      rw [pk_cl _ hs]
      refine ⟨(zagr.rf.up (by simp)).up (by simp), fun f hf => ?_, ?_, ?_⟩
      · rw [zup_self, pk_un hf, zup_ne (by decide)]
      · rw [zup_self, pk_us, zup_ne (by decide), hs, nI_1, e1]; congr 1; simp; omega
      · rw [zup_ne (by decide), zup_self, e1]
        exact hx.snoc (u, w)
    · conv => whnf
      have := skip (by
        unfold zfirst
        rw [hb]
        simp only [Bool.true_and, decide_eq_false_iff_not]
        exact fun q => h (hbel.mpr q))
      rw [this]
      exact ⟨zagr.rf, fun _ _ => rfl, hs, hx⟩
/-- the clusters stand -/
def zclo (A : zAS) (ch : Nat) (σ : zST) : Prop := σ 31 4 = nI ch ∧ σ 31 5 = nI (zcu A (zan A)).length ∧ zcx A (zcu A (zan A)) (σ 33)
def zclm (A : zAS) (ch : Nat) (σ : zST) : Prop := (σ 31 4 = -1 ∨ ∃ q, q ≤ ch ∧ σ 31 4 = nI q) ∧ (σ 31 4 = nI ch → zclo A ch σ)
abbrev zcj : List Nat := [7, 8, 9, 10, 11, 12, 13, 14, 31, 32, 33]
theorem zrow.ri {A : zAS} {ch j k l : Nat} {bc : Bool} {σ : zST} (h : zrow A ch j bc k l σ) (hb : σ j 5 = if bc = true then 1 else 0) : zri A ch j bc σ := ⟨hb, Or.inr ⟨ch, Nat.le_refl _, h.1⟩, fun _ => ⟨k, l, h.2.2.2.2.2.1.1, h.2.2.2.2.2.1.2.1, h⟩⟩
set_option maxHeartbeats 4000000 in
theorem sp_clfind {E : zEN} {d ch : Nat} {A : zAS} {σ : zST} (hF : zcf A ch σ) (hR : zri A ch 7 false σ) (hM : zclm A ch σ) : zSp E (d + 6) zM_X1_find [.inr (1, 31)] σ (fun _ σ' => zagr zcj σ σ' ∧ zri A ch 7 false σ' ∧ zclo A ch σ') := by
  have hvd := hF.1
  have hn := hvd.1
  refine zSp.of rfl (Nat.le_of_ble_eq_true rfl) ?_
  have outer : ∀ r u (x1 : Int32) (x2 : Option zAV) (σ' : zST), u + r = zan A → x1 = nI u → zagr zcj σ σ' → zri A ch 7 false σ' → (∀ v, v < zan A → σ' 32 v = zmk (zcb A v)) → σ' 31 4 = nI ch → σ' 31 5 = nI (zcu A u).length → zcx A (zcu A u) (σ' 33) → zWp E (d + 6) zM_X1_find (fun _ σ' => zagr zcj σ σ' ∧ zri A ch 7 false σ' ∧ zclo A ch σ') 46 [some (.inr (1, 31)), some (.inl x1), x2] [] σ' := by
    intro r
    induction r with
    | zero =>
      intro u x1 x2 σ' hu hx1 hag hR' hc h4 h5 hx
      have f := (hF.agr hag (by simp)).2.2.1
      refine zg_X1_find_46 fun G C hG hC => ?_
      conv => whnf
      refine pk_le (zan A) u (fun _ => ?_) (fun _ => by omega) f hx1
      conv => whnf
      have : u = zan A := by omega
      subst this
      exact ⟨hag, hR', h4, h5, hx⟩
    | succ r ih =>
      intro u x1 x2 σ' hu hx1 hag hR' hc h4 h5 hx
      subst hx1
      have f := (hF.agr hag (by simp)).2.2.1
      refine zg_X1_find_46 fun G C hG hC => ?_
      conv => whnf
      refine pk_le (zan A) u (fun _ => by omega) (fun _ => ?_) f rfl
      conv => whnf
      have inner : ∀ r2 w (x2 : Int32) (σ' : zST), w + r2 = zan A → u < w → x2 = nI w → zagr zcj σ σ' → zri A ch 7 false σ' → (∀ v, v < zan A → σ' 32 v = zmk (zcb A v)) → σ' 31 4 = nI ch → σ' 31 5 = nI (zcu A u ++ zcw A u w).length → zcx A (zcu A u ++ zcw A u w) (σ' 33) → zWp E (d + 6) zM_X1_find (fun _ σ' => zagr zcj σ σ' ∧ zri A ch 7 false σ' ∧ zclo A ch σ') 61 [some (.inr (1, 31)), some (.inl (nI u)), some (.inl x2)] [] σ' := by
        intro r2
        induction r2 with
        | zero =>
          intro w x2 σ' hw huw hx2 hag hR' hc h4 h5 hx
          have f := (hF.agr hag (by simp)).2.2.1
          refine zg_X1_find_61 fun G C hG hC => ?_
          conv => whnf
          refine pk_le (zan A) w (fun _ => ?_) (fun _ => by omega) f hx2
          conv => whnf
          have : w = zan A := by omega
          subst this
          exact hG _ _ _ _ (ih (u + 1) _ _ σ' (by omega) (nI_1 u) hag hR' hc h4 h5 hx)
        | succ r2 ih2 =>
          intro w x2 σ' hw huw hx2 hag hR' hc h4 h5 hx
          have hF' := hF.agr hag (by simp)
          refine zg_X1_find_61 fun G C hG hC => ?_
          conv => whnf
          refine pk_le (zan A) w (fun _ => by omega) (fun _ => ?_) hF'.2.2.1 hx2
          conv => whnf
          subst hx2
          refine hC _ _ _ _ ((sp_addIf (d := d + 3) hF' hc huw (by omega) h5 hx).conseq ?_)
          rintro r3 σ2 ⟨b1, b2, b3, b4⟩
          conv => whnf
          refine hG _ _ _ _ (ih2 (w + 1) _ σ2 (by omega) (by omega) (nI_1 w) (hag.tr (b1.sub (by simp))) ?_ ?_ ?_ b3 b4)
          · obtain ⟨q1, q2, q3⟩ := hR'
            refine ⟨by rw [b1 7 (by simp)]; exact q1, by rw [b1 7 (by simp)]; exact q2, fun h => ?_⟩
            rw [b1 7 (by simp)] at h
            obtain ⟨k, l, g1, g2, g3⟩ := q3 h
            exact ⟨k, l, g1, g2, g3.agr b1 (by simp)⟩
          · intro v hv; rw [b1 32 (by simp)]; exact hc v hv
          · rw [b2 4 (by decide)]; exact h4
      have hw0 : zcw A u (u + 1) = [] := by
        have : (zcw A u (u + 1)).length ≤ 0 := by have := zcw_len A u (u + 1); omega
        exact List.length_eq_zero_iff.mp (by omega)
      refine hG _ _ _ _ (inner (zan A - (u + 1)) (u + 1) _ σ' (by omega) (by omega) (nI_1 u) hag hR' hc h4 ?_ ?_)
      · rw [hw0, List.append_nil]; exact h5
      · rw [hw0, List.append_nil]; exact hx
  refine zg_X1_find_0 fun G C hG hC => ?_
  conv => whnf
  refine ⟨fun h => ?_, fun h => ?_⟩
  · conv => whnf
    have h : σ 31 4 = σ 1 8 := h
    exact ⟨zagr.rf, hR, hM.2 (by rw [h]; exact hF.2.2.2.2.2.1)⟩
  · conv => whnf
    have hag1 : zagr [31] σ (zup σ 31 4 (σ 1 8)) := zagr.rf.up (by simp)
    have hR1 : zri A ch 7 false (zup σ 31 4 (σ 1 8)) := by
      obtain ⟨q1, q2, q3⟩ := hR
      refine ⟨by rw [zup_ne (by decide)]; exact q1, by rw [zup_ne (by decide)]; exact q2, fun h => ?_⟩
      rw [zup_ne (by decide)] at h
      obtain ⟨k, l, g1, g2, g3⟩ := q3 h
      exact ⟨k, l, g1, g2, g3.agr hag1 (by simp)⟩
    refine hC _ _ _ _ ((sp_play (d := d) (k := 2) (l := 3) (by decide) (hF.agr hag1 (by simp)) hR1 (by decide) (by decide) (by decide)).conseq ?_)
    rintro r2 σ2 ⟨p1, p2, p3⟩
    have hag2 : zagr zcj σ σ2 := (hag1.sub (by simp)).tr (p1.sub (by simp))
    conv => whnf
    refine hC _ _ _ _ ((sp_findClose (d := d + 1) (hF.agr hag2 (by simp)) p3).conseq ?_)
    rintro r3 σ3 ⟨c1, c2, c3⟩
    conv => whnf
    have hag3 : zagr zcj σ σ3 := hag2.tr (c1.sub (by simp))
    have hag4 : zagr [31] σ3 (zup σ3 31 5 0) := zagr.rf.up (by simp)
    have hrow4 := c2.agr hag4 (by simp)
    refine hG _ _ _ _ (outer (zan A) 0 _ _ _ (by omega) rfl (hag3.tr (hag4.sub (by simp))) (hrow4.ri ?_) ?_ ?_ ?_ ?_)
    · rw [zup_ne (by decide), c1 7 (by simp), p2, zup_ne (by decide)]; exact hR.1
    · intro v hv; rw [zup_ne (by decide)]; exact c3 v hv
    · rw [zup_self, pk_un (by decide), c1 31 (by simp), p1 31 (by simp), zup_self, pk_us]; exact hF.2.2.2.2.2.1
    · rw [zup_self, pk_us]; rfl
    · intro i hi; exact absurd hi (Nat.not_lt_zero i)
/-- the i-th cluster's joints -/
noncomputable def zcSi (A : zAS) (i x : Nat) : Bool := zcS A ((zcu A (zan A)).getD i (0, 0)).1 ((zcu A (zan A)).getD i (0, 0)).2 x
/-- the first that has p, or none -/
def zfst (p : Nat → Bool) (n : Nat) (r : Int32) : Prop := (∃ i, i < n ∧ p i = true ∧ (∀ j, j < i → p j = false) ∧ r = nI i) ∨ ((∀ i, i < n → p i = false) ∧ r = -9)
theorem zfst_one {p : Nat → Bool} {n : Nat} {r r' : Int32} (h : zfst p n r) (h' : zfst p n r') : r = r' := by
  rcases h with ⟨x, x1, x2, x3, x4⟩ | ⟨x1, x2⟩ <;> rcases h' with ⟨y, y1, y2, y3, y4⟩ | ⟨y1, y2⟩
  · have : x = y := by
      rcases Nat.lt_trichotomy x y with h | h | h
      · rw [y3 x h] at x2; cases x2
      · exact h
      · rw [x3 y h] at y2; cases y2
    rw [x4, y4, this]
  · rw [y1 x x1] at x2; cases x2
  · rw [x1 y y1] at y2; cases y2
  · rw [x2, y2]
theorem sp_firstWith {E : zEN} {d ch u w : Nat} {A : zAS} {σ : zST} (hvd : zvd A) (hC0 : zclo A ch σ) (hu : u < 24) (hw : w < 24) : zSp E (d + 2) zM_X1_firstWith [.inr (1, 31), .inl (nI u), .inl (nI w)] σ (fun r σ' => σ' = σ ∧ zfst (fun i => zcSi A i u && zcSi A i w) (zcu A (zan A)).length r) := by
  have hlen := zcu_le2 hvd
  obtain ⟨h4, h5, hx⟩ := hC0
  refine zSp.of rfl (Nat.le_of_ble_eq_true rfl) ?_
  have loop : ∀ r i (x3 : Int32), i + r = (zcu A (zan A)).length → x3 = nI i → (∀ q, q < i → (zcSi A q u && zcSi A q w) = false) → zWp E (d + 2) zM_X1_firstWith (fun r σ' => σ' = σ ∧ zfst (fun i => zcSi A i u && zcSi A i w) (zcu A (zan A)).length r) 2 [some (.inr (1, 31)), some (.inl (nI u)), some (.inl (nI w)), some (.inl x3)] [] σ := by
    intro r
    induction r with
    | zero =>
      intro i x3 hi hx3 hno
      refine zg_X1_firstWith_2 fun G C hG hC => ?_
      conv => whnf
      refine pk_le _ i (fun _ => ?_) (fun _ => by omega) h5 hx3
      conv => whnf
      exact ⟨rfl, Or.inr ⟨fun q hq => hno q (by omega), rfl⟩⟩
    | succ r ih =>
      intro i x3 hi hx3 hno
      have he : σ 33 i = zmk (zcSi A i) := hx i (by omega)
      refine zg_X1_firstWith_2 fun G C hG hC => ?_
      conv => whnf
      refine pk_le _ i (fun _ => by omega) (fun _ => ?_) h5 hx3
      conv => whnf
      refine ⟨pk_in i 276 (by omega) hx3, ?_⟩
      conv => whnf
      dsimp only
      rw [pk_cl i hx3, he]
      refine hC _ _ _ _ ((sp_has (v := u) (by omega)).conseq ?_)
      rintro r2 σ' ⟨rfl, rfl⟩
      conv => whnf
      rw [zmk_bt _ hu]
      have hnext : x3 + 1 = nI (i + 1) := by rw [hx3, nI_1]
      cases h1 : zcSi A i u
      · rw [if_neg (by decide)]
        refine br_t rfl ?_
        conv => whnf
        refine hG _ _ _ _ (ih (i + 1) _ (by omega) hnext (fun q hq => ?_))
        by_cases e : q = i
        · subst e; rw [h1]; rfl
        · exact hno q (by omega)
      · rw [if_pos rfl]
        refine br_f (by decide) ?_
        conv => whnf
        refine ⟨pk_in i 276 (by omega) hx3, ?_⟩
        conv => whnf
        dsimp only
        rw [pk_cl i hx3, he]
        refine hC _ _ _ _ ((sp_has (v := w) (by omega)).conseq ?_)
        rintro r2 σ' ⟨rfl, rfl⟩
        conv => whnf
        rw [zmk_bt _ hw]
        cases h2 : zcSi A i w
        · rw [if_neg (by decide)]
          refine br_t rfl ?_
          conv => whnf
          refine hG _ _ _ _ (ih (i + 1) _ (by omega) hnext (fun q hq => ?_))
          by_cases e : q = i
          · subst e; rw [h1, h2]; rfl
          · exact hno q (by omega)
        · rw [if_pos rfl]
          refine br_f (by decide) ?_
          conv => whnf
          exact ⟨rfl, Or.inl ⟨i, by omega, by simp [h1, h2], hno, hx3⟩⟩
  refine zg_X1_firstWith_0 fun G C hG hC => ?_
  conv => whnf
  exact hG _ _ _ _ (loop (zcu A (zan A)).length 0 _ (by omega) rfl (fun q hq => absurd hq (Nat.not_lt_zero q)))
noncomputable def zhg (A : zAS) (v : Nat) : Bool := decide (2 ≤ fb_ct (fun i => zcSi A i v) (zcu A (zan A)).length)
theorem sp_clHinge {E : zEN} {d ch v : Nat} {A : zAS} {σ : zST} (hvd : zvd A) (hC0 : zclo A ch σ) (hv : v < 24) : zSp E (d + 2) zM_X1_isHinge [.inr (1, 31), .inl (nI v)] σ (fun r σ' => σ' = σ ∧ r = if zhg A v = true then 1 else 0) := by
  have hlen := zcu_le2 hvd
  obtain ⟨h4, h5, hx⟩ := hC0
  refine zSp.of rfl (Nat.le_of_ble_eq_true rfl) ?_
  have loop : ∀ r i (x2 x3 : Int32), i + r = (zcu A (zan A)).length → x2 = nI (fb_ct (fun i => zcSi A i v) i) → x3 = nI i → zWp E (d + 2) zM_X1_isHinge (fun r σ' => σ' = σ ∧ r = if zhg A v = true then 1 else 0) 4 [some (.inr (1, 31)), some (.inl (nI v)), some (.inl x2), some (.inl x3)] [] σ := by
    intro r
    induction r with
    | zero =>
      intro i x2 x3 hi hx2 hx3
      have hle := fb_ct_le (fun i => zcSi A i v) i
      refine zg_X1_isHinge_4 fun G C hG hC => ?_
      conv => whnf
      refine pk_le _ i (fun _ => ?_) (fun _ => by omega) h5 hx3
      conv => whnf
      have hie : i = (zcu A (zan A)).length := by omega
      refine pk_lt _ 2 (fun h => ?_) (fun h => ?_) hx2 rfl
      · conv => whnf
        refine ⟨Or.inl rfl, rfl, ?_⟩
        unfold zhg
        rw [← hie]
        have : ¬ 2 ≤ fb_ct (fun i => zcSi A i v) i := by omega
        simp [this]
      · conv => whnf
        refine ⟨Or.inr rfl, rfl, ?_⟩
        unfold zhg
        rw [← hie]
        simp [h]
    | succ r ih =>
      intro i x2 x3 hi hx2 hx3
      have he : σ 33 i = zmk (zcSi A i) := hx i (by omega)
      refine zg_X1_isHinge_4 fun G C hG hC => ?_
      conv => whnf
      refine pk_le _ i (fun _ => by omega) (fun _ => ?_) h5 hx3
      conv => whnf
      refine ⟨pk_in i 276 (by omega) hx3, ?_⟩
      conv => whnf
      dsimp only
      rw [pk_cl i hx3, he]
      refine hC _ _ _ _ ((sp_has (v := v) (by omega)).conseq ?_)
      rintro r2 σ' ⟨rfl, rfl⟩
      conv => whnf
      rw [zmk_bt _ hv]
      have hnext : x3 + 1 = nI (i + 1) := by rw [hx3, nI_1]
      cases h1 : zcSi A i v
      · rw [if_neg (by decide)]
        refine br_t rfl ?_
        conv => whnf
        exact hG _ _ _ _ (ih (i + 1) _ _ (by omega) (by rw [hx2, fb_ct_succ, h1]; rfl) hnext)
      · rw [if_pos rfl]
        refine br_f (by decide) ?_
        conv => whnf
        exact hG _ _ _ _ (ih (i + 1) _ _ (by omega) (by rw [hx2, fb_ct_succ, h1, nI_1]; rfl) hnext)
  refine zg_X1_isHinge_0 fun G C hG hC => ?_
  conv => whnf
  exact hG _ _ _ _ (loop (zcu A (zan A)).length 0 _ _ (by omega) rfl rfl)
theorem sp_countHinges {E : zEN} {d ch : Nat} {A : zAS} {σ : zST} (hF : zcf A ch σ) (hC0 : zclo A ch σ) : zSp E (d + 3) zM_X1_countHinges [.inr (1, 31)] σ (fun r σ' => σ' = σ ∧ r = nI (fb_ct (zhg A) (zan A))) := by
  have hvd := hF.1
  have hn := hvd.1
  refine zSp.of rfl (Nat.le_of_ble_eq_true rfl) ?_
  have loop : ∀ r i (x1 x2 : Int32), i + r = zan A → x1 = nI (fb_ct (zhg A) i) → x2 = nI i → zWp E (d + 3) zM_X1_countHinges (fun r σ' => σ' = σ ∧ r = nI (fb_ct (zhg A) (zan A))) 4 [some (.inr (1, 31)), some (.inl x1), some (.inl x2)] [] σ := by
    intro r
    induction r with
    | zero =>
      intro i x1 x2 hi hx1 hx2
      refine zg_X1_countHinges_4 fun G C hG hC => ?_
      conv => whnf
      refine pk_le _ i (fun _ => ?_) (fun _ => by omega) hF.2.2.1 hx2
      conv => whnf
      have : i = zan A := by omega
      subst this
      exact ⟨rfl, hx1⟩
    | succ r ih =>
      intro i x1 x2 hi hx1 hx2
      refine zg_X1_countHinges_4 fun G C hG hC => ?_
      conv => whnf
      refine pk_le _ i (fun _ => by omega) (fun _ => ?_) hF.2.2.1 hx2
      conv => whnf
      subst hx2
      refine hC _ _ _ _ ((sp_clHinge hvd hC0 (by omega : i < 24)).conseq ?_)
      rintro r2 σ' ⟨rfl, rfl⟩
      conv => whnf
      cases h1 : zhg A i
      · rw [if_neg (by decide)]
        refine br_t rfl ?_
        conv => whnf
        exact hG _ _ _ _ (ih (i + 1) _ _ (by omega) (by rw [hx1, fb_ct_succ, h1]; rfl) (nI_1 _))
      · rw [if_pos rfl]
        refine br_f (by decide) ?_
        conv => whnf
        exact hG _ _ _ _ (ih (i + 1) _ _ (by omega) (by rw [hx1, fb_ct_succ, h1, nI_1]; rfl) (nI_1 _))
  refine zg_X1_countHinges_0 fun G C hG hC => ?_
  conv => whnf
  exact hG _ _ _ _ (loop (zan A) 0 _ _ (by omega) rfl rfl)
