/-! Clusters -/
theorem zleast {a b : Nat → Nat} {m j u w : Nat} {K : Nat → Bool} {σ : zST} {r : Int32} (hsp : zsp a b m 2 3 K) (hB : zbd j 2 3 (zib a b m K) σ) (hu : u < 24) (hw : w < 24) (huw : u ≠ w) (hst : zstk 2 3 (σ (j + 1)) u w) (hr : zrch 2 (σ (j + 1)) u w r) : zti a b m K (bt r) ∧ ∀ V : Nat → Bool, V u = true → V w = true → zti a b m K V → ∀ x, x < 24 → bt r x = true → V x = true := by
  obtain ⟨R, r1, r2, r3, r4, r5⟩ := hst
  obtain ⟨-, -, -, -, hva, hF⟩ := hB
  obtain ⟨-, c2, c3, c4, c5⟩ := hr
  have hno : ∀ y, y < 24 → bt r y = true → y ≠ u → y ≠ w → zlos (σ (j + 1)) 2 y = 0 := fun y hy h h1 h2 => r4 y hy (c5 R r3 r1 r2 y hy h) h1 h2
  have hti : zti a b m K (bt r) := zlost (by decide) hF hu hw huw c4 c2 c3 hno r5
  refine ⟨hti, fun V v1 v2 v3 x hx hxb => ?_⟩
  have hs := hsp (bt r) (zcd_two hu hw huw c2 c3)
  have e := zsum3 (by decide : 2 ≤ 3) (σ (j + 1)) (bt r)
  have e2 := (fb_sm_two (h := fun v => if bt r v = true then zlos (σ (j + 1)) 2 v else 0) hu hw huw).2 (fun v hv h3 h4 => by
    split
    · rename_i hR; exact hno v hv hR h3 h4
    · rfl)
  simp only [c2, c3, if_true] at e2
  rw [zcl_out c4 72 (Nat.le_refl _), hF] at e
  exact c5 V (ztcl (by decide) hva hF hu hw huw (l := 3) (by omega) v1 v2 v3) v1 v2 x hx hxb
theorem zrow.board {A : zAS} {ch j k l : Nat} {bc : Bool} {σ σ' : zST} (h : zrow A ch j bc k l σ) (hag : zagr (zjs (j + 1)) σ σ') (hB : zbd (j + 1) k l (zib (zaa A) (zab A) (zam A) (zK A bc k l)) σ') : zrow A ch j bc k l σ' := by
  obtain ⟨h1, h2, h3, h4, h5, h6, h7⟩ := h
  have e0 : σ' j = σ j := hag j (by simp <;> omega)
  have e5 : σ' (j + 5) = σ (j + 5) := hag (j + 5) (by simp <;> omega)
  have e6 : σ' (j + 6) = σ (j + 6) := hag (j + 6) (by simp <;> omega)
  unfold zrow
  rw [e0, e5, e6]
  exact ⟨h1, h2, h3, h4, h5, hB, h7⟩
theorem zrow.agr {A : zAS} {ch j k l : Nat} {bc : Bool} {σ σ' : zST} {js : List Nat} (h : zrow A ch j bc k l σ) (hag : zagr js σ σ') (hd : ∀ q, q ∈ js → q < j ∨ j + 7 < q) : zrow A ch j bc k l σ' := by
  obtain ⟨h1, h2, h3, h4, h5, h6, h7⟩ := h
  have e : ∀ q, j ≤ q → q ≤ j + 7 → σ' q = σ q := fun q a b => hag q (fun hm => by have := hd q hm; omega)
  have e0 := e j (by omega) (by omega)
  have e1 := e (j + 1) (by omega) (by omega)
  have e2 := e (j + 1 + 1) (by omega) (by omega)
  have e5 := e (j + 5) (by omega) (by omega)
  have e6 := e (j + 6) (by omega) (by omega)
  unfold zrow
  rw [e0, e5, e6]
  exact ⟨h1, h2, h3, h4, h5, h6.agr e1 e2, h7⟩
theorem sp_bind {E : zEN} {d ch : Nat} {A : zAS} {s : Int32} {σ : zST} (hF : zcf A ch σ) : zSp E (d + 2) zM_X1_bind [.inr (1, 31), .inl s] σ (fun _ σ' => zagr [32] σ σ' ∧ ∀ v, v < 24 → σ' 32 v = if v < zan A ∧ bt s v = true then σ 32 v ||| s else σ 32 v) := by
  have hn := hF.1.1
  refine zSp.of rfl (Nat.le_of_ble_eq_true rfl) ?_
  have loop : ∀ r i (x2 : Int32) (σ' : zST), i + r = zan A → x2 = nI i → zagr [32] σ σ' → (∀ v, v < 24 → σ' 32 v = if v < i ∧ bt s v = true then σ 32 v ||| s else σ 32 v) → zWp E (d + 2) zM_X1_bind (fun _ σ' => zagr [32] σ σ' ∧ ∀ v, v < 24 → σ' 32 v = if v < zan A ∧ bt s v = true then σ 32 v ||| s else σ 32 v) 2 [some (.inr (1, 31)), some (.inl s), some (.inl x2)] [] σ' := by
    intro r
    induction r with
    | zero =>
      intro i x2 σ' hi hx2 hag hq
      have f := (hF.agr hag (by simp)).2.2.1
      refine zg_X1_bind_2 fun G C hG hC => ?_
      conv => whnf
      refine pk_le (zan A) i (fun _ => ?_) (fun _ => by omega) f hx2
      conv => whnf
      have : i = zan A := by omega
      subst this
      exact ⟨hag, hq⟩
    | succ r ih =>
      intro i x2 σ' hi hx2 hag hq
      have f := (hF.agr hag (by simp)).2.2.1
      refine zg_X1_bind_2 fun G C hG hC => ?_
      conv => whnf
      refine pk_le (zan A) i (fun _ => by omega) (fun _ => ?_) f hx2
      conv => whnf
      subst hx2
      refine hC _ _ _ _ ((sp_has (v := i) (by omega)).conseq ?_)
      rintro r2 σ' ⟨rfl, rfl⟩
      conv => whnf
      cases h : bt s i
      · rw [if_neg (by decide)]
        refine br_t rfl ?_
        conv => whnf
        refine hG _ _ _ _ (ih (i + 1) _ _ (by omega) (nI_1 _) hag (fun v hv => ?_))
        rw [hq v hv]
        by_cases e : v = i
        · subst e; simp [h]
        · have : v < i ↔ v < i + 1 := by omega
          simp only [this]
      · rw [if_pos rfl]
        refine br_f (by decide) ?_
        conv => whnf
        refine ⟨pk_in i 24 (by omega), ?_⟩
        conv => whnf
        refine ⟨pk_in i 24 (by omega), ?_⟩
        conv => whnf
        dsimp only
        rw [nI_clamp (by omega : i < 2 ^ 31)]
        refine hG _ _ _ _ (ih (i + 1) _ _ (by omega) (nI_1 _) (hag.up (by simp)) (fun v hv => ?_))
        rw [zup_self]
        by_cases e : v = i
        · subst e; rw [pk_us, hq v hv]; simp [h]
        · rw [pk_un e, hq v hv]
          have : v < i ↔ v < i + 1 := by omega
          simp only [this]
  refine zg_X1_bind_0 fun G C hG hC => ?_
  conv => whnf
  exact hG _ _ _ _ (loop (zan A) 0 _ _ (by omega) rfl zagr.rf (fun v hv => by simp))
noncomputable def zcb (A : zAS) (v x : Nat) : Bool := decide (x = v) || (decide (x < zan A) && zbn A v x)
/-- what the rows of close have, with the pairs done so far -/
def zcc (A : zAS) (f : Nat → Int32) (dn : Nat → Nat → Prop) : Prop := (∀ v x, v < 24 → x < 32 → bt (f v) x = true → x = v ∨ (v < zan A ∧ x < zan A ∧ zbn A v x = true)) ∧ (∀ v, v < 24 → bt (f v) v = true) ∧ (∀ v x, v < 24 → x < 24 → bt (f v) x = true → bt (f x) v = true) ∧ ∀ u w, dn u w → zbn A u w = true → bt (f u) w = true
theorem zcc.all {A : zAS} (hvd : zvd A) {f : Nat → Int32} {dn : Nat → Nat → Prop} (h : zcc A f dn) (hd : ∀ u w, u < w → w < zan A → dn u w) : ∀ v, v < zan A → f v = zmk (zcb A v) := by
  obtain ⟨h1, h2, h3, h4⟩ := h
  have hn := hvd.1
  intro v hv
  refine zmk_eq (fun x hx => ?_) (fun x hx1 hx2 => ?_)
  · unfold zcb
    by_cases e : x = v
    · subst e; simp [h2 x hx]
    · cases hb : bt (f v) x
      · by_cases hxn : x < zan A
        · cases hz : zbn A v x
          · simp [e]
          · exfalso
            rcases Nat.lt_or_ge v x with hlt | hge
            · rw [h4 v x (hd v x hlt hxn) hz] at hb; cases hb
            · have := h4 x v (hd x v (by omega) hv) (by rw [zbn_comm]; exact hz)
              rw [h3 x v hx (by omega) this] at hb; cases hb
        · simp [e, hxn]
      · rcases h1 v x (by omega) (by omega) hb with h | ⟨-, h5, h6⟩
        · exact absurd h e
        · simp [e, h5, h6]
  · cases hb : bt (f v) x
    · rfl
    · rcases h1 v x (by omega) hx2 hb with h | ⟨-, h5, h6⟩ <;> omega
theorem zcc.bind {A : zAS} (hvd : zvd A) {f f' : Nat → Int32} {dn : Nat → Nat → Prop} (h : zcc A f dn) {s : Int32} (hs1 : ∀ x, x < 32 → bt s x = true → x < zan A) (hs2 : ∀ x y, bt s x = true → bt s y = true → x ≠ y → x < 24 → y < 24 → zbn A x y = true) (hf : ∀ v, v < 24 → f' v = if v < zan A ∧ bt s v = true then f v ||| s else f v) {dn' : Nat → Nat → Prop} (hd : ∀ u w, dn' u w → (u < 24 ∧ dn u w) ∨ (bt s u = true ∧ bt s w = true ∧ u < 24 ∧ w < 24)) : zcc A f' dn' := by
  obtain ⟨h1, h2, h3, h4⟩ := h
  have hn := hvd.1
  have up : ∀ v x, v < 24 → bt (f v) x = true → bt (f' v) x = true := fun v x hv hb => by
    rw [hf v hv]; split
    · rw [b_or, hb]; rfl
    · exact hb
  refine ⟨fun v x hv hx hb => ?_, fun v hv => up v v hv (h2 v hv), fun v x hv hx hb => ?_, fun u w hdn hz => ?_⟩
  · rw [hf v hv] at hb
    split at hb
    · rename_i hc
      rw [b_or, Bool.or_eq_true] at hb
      rcases hb with hb | hb
      · exact h1 v x hv hx hb
      · by_cases e : x = v
        · exact Or.inl e
        · have hx2 := hs1 x hx hb
          exact Or.inr ⟨hc.1, hx2, hs2 v x hc.2 hb (fun q => e q.symm) hv (by omega)⟩
    · exact h1 v x hv hx hb
  · rw [hf v hv] at hb
    split at hb
    · rename_i hc
      rw [b_or, Bool.or_eq_true] at hb
      rcases hb with hb | hb
      · exact up x v hx (h3 v x hv hx hb)
      · have hx2 := hs1 x (by omega) hb
        rw [hf x hx, if_pos ⟨hx2, hb⟩, b_or, hc.2, Bool.or_true]
    · exact up x v hx (h3 v x hv hx hb)
  · rcases hd u w hdn with ⟨hu, h⟩ | ⟨q1, q2, q3, q4⟩
    · exact up u w hu (h4 u w h hz)
    · have := hs1 u (by omega) q1
      rw [hf u q3, if_pos ⟨this, q1⟩, b_or, q2, Bool.or_true]
set_option maxHeartbeats 4000000 in
theorem sp_findClose {E : zEN} {d ch : Nat} {A : zAS} {σ : zST} (hF : zcf A ch σ) (hR : zrow A ch 7 false 2 3 σ) : zSp E (d + 4) zM_X1_findClose [.inr (1, 31)] σ (fun _ σ' => zagr [9, 10, 11, 32] σ σ' ∧ zrow A ch 7 false 2 3 σ' ∧ ∀ v, v < zan A → σ' 32 v = zmk (zcb A v)) := by
  have hvd := hF.1
  have hn := hvd.1
  have hsp : zsp (zaa A) (zab A) (zam A) 2 3 (zK A false 2 3) := zK_sp (by decide)
  refine zSp.of rfl (Nat.le_of_ble_eq_true rfl) ?_
  have outer : ∀ r u (x1 : Int32) (x2 : Option zAV) (σ' : zST), u + r = zan A → x1 = nI u → zagr [9, 10, 11, 32] σ σ' → zrow A ch 7 false 2 3 σ' → zcc A (σ' 32) (fun a b => a < u ∧ a < b ∧ b < zan A) → zWp E (d + 4) zM_X1_findClose (fun _ σ' => zagr [9, 10, 11, 32] σ σ' ∧ zrow A ch 7 false 2 3 σ' ∧ ∀ v, v < zan A → σ' 32 v = zmk (zcb A v)) 25 [some (.inr (1, 31)), some (.inl x1), x2] [] σ' := by
    intro r
    induction r with
    | zero =>
      intro u x1 x2 σ' hu hx1 hag hR' hc
      have f := (hF.agr hag (by simp)).2.2.1
      refine zg_X1_findClose_25 fun G C hG hC => ?_
      conv => whnf
      refine pk_le (zan A) u (fun _ => ?_) (fun _ => by omega) f hx1
      conv => whnf
      exact ⟨hag, hR', hc.all hvd (fun a b h1 h2 => ⟨by omega, h1, h2⟩)⟩
    | succ r ih =>
      intro u x1 x2 σ' hu hx1 hag hR' hc
      subst hx1
      have f := (hF.agr hag (by simp)).2.2.1
      refine zg_X1_findClose_25 fun G C hG hC => ?_
      conv => whnf
      refine pk_le (zan A) u (fun _ => by omega) (fun _ => ?_) f rfl
      conv => whnf
      have inner : ∀ r2 w (x2 : Int32) (σ' : zST), w + r2 = zan A → u < w → x2 = nI w → zagr [9, 10, 11, 32] σ σ' → zrow A ch 7 false 2 3 σ' → zcc A (σ' 32) (fun a b => a < b ∧ b < zan A ∧ (a < u ∨ a = u ∧ b < w)) → zWp E (d + 4) zM_X1_findClose (fun _ σ' => zagr [9, 10, 11, 32] σ σ' ∧ zrow A ch 7 false 2 3 σ' ∧ ∀ v, v < zan A → σ' 32 v = zmk (zcb A v)) 40 [some (.inr (1, 31)), some (.inl (nI u)), some (.inl x2)] [] σ' := by
        intro r2
        induction r2 with
        | zero =>
          intro w x2 σ' hw huw hx2 hag hR' hc
          have f := (hF.agr hag (by simp)).2.2.1
          refine zg_X1_findClose_40 fun G C hG hC => ?_
          conv => whnf
          refine pk_le (zan A) w (fun _ => ?_) (fun _ => by omega) f hx2
          conv => whnf
          refine hG _ _ _ _ (ih (u + 1) _ _ σ' (by omega) (nI_1 u) hag hR' ⟨hc.1, hc.2.1, hc.2.2.1, fun a b h => hc.2.2.2 a b ⟨h.2.1, h.2.2, ?_⟩⟩)
          omega
        | succ r2 ih2 =>
          intro w x2 σ' hw huw hx2 hag hR' hc
          have f := (hF.agr hag (by simp)).2.2.1
          refine zg_X1_findClose_40 fun G C hG hC => ?_
          conv => whnf
          refine pk_le (zan A) w (fun _ => by omega) (fun _ => ?_) f hx2
          conv => whnf
          refine ⟨pk_in u 24 (by omega), ?_⟩
          conv => whnf
          dsimp only
          rw [nI_clamp (by omega : u < 2 ^ 31), hx2]
          have hnext : nI w + 1 = nI (w + 1) := nI_1 w
          refine hC _ _ _ _ ((sp_has (v := w) (by omega)).conseq ?_)
          rintro r3 σ' ⟨rfl, rfl⟩
          conv => whnf
          cases hb : bt (σ' 32 u) w
          · rw [if_neg (by decide)]
            refine br_t rfl ?_
            conv => whnf
            refine hC _ _ _ _ ((sp_allows (d := d) hR'.2.2.2.2.2.1 (by omega : u < 24) (by omega : w < 24) (by omega)).conseq ?_)
            rintro r4 σ2 ⟨w1, w2, hr⟩
            have hR2 : zrow A ch 7 false 2 3 σ2 := hR'.board w1 w2
            have hag2 : zagr [9, 10, 11, 32] σ σ2 := hag.tr (w1.sub (by simp))
            have k32 : σ2 32 = σ' 32 := w1 32 (by simp)
            conv => whnf
            rcases hr with ⟨rfl, hf, -⟩ | ⟨rfl, hf, hst⟩
            · refine br_f (by decide) ?_
              conv => whnf
              refine hG _ _ _ _ (ih2 (w + 1) _ σ2 (by omega) (by omega) hnext hag2 hR2 ?_)
              rw [k32]
              refine ⟨hc.1, hc.2.1, hc.2.2.1, fun a b h hz => ?_⟩
              by_cases e : a = u ∧ b = w
              · obtain ⟨rfl, rfl⟩ := e
                exact absurd (zfr_bars.mp hf) (zbn_t.mp hz)
              · exact hc.2.2.2 a b ⟨h.1, h.2.1, by omega⟩ hz
            · refine br_t rfl ?_
              conv => whnf
              refine hC _ _ _ _ ((sp_reach (d := d + 1) (j := 8) (by decide : 2 ≤ 3) w2.2.2.1 w2.2.2.2.2.1 (by omega : u < 24) (by omega : w < 24) (by omega)).conseq ?_)
              rintro s σ2 ⟨rfl, hs⟩
              conv => whnf
              obtain ⟨t1, t2⟩ := zleast hsp w2 (by omega) (by omega) (by omega) hst hs
              have hbs := hs
              obtain ⟨q1, q2, q3, q4, q5⟩ := hs
              have hs1 : ∀ x, x < 32 → bt s x = true → x < zan A := by
                intro x hx hbx
                have hx24 : x < 24 := by
                  rcases Nat.lt_or_ge x 24 with h | h
                  · exact h
                  · rw [q1 x h hx] at hbx; cases hbx
                have ht : zti (zaa A) (zab A) (zam A) (zK A false 2 3) (fun y => bt s y && decide (y < zan A)) := by
                  have g1 : zib (zaa A) (zab A) (zam A) (zK A false 2 3) (bt s) ≤ zib (zaa A) (zab A) (zam A) (zK A false 2 3) (fun y => bt s y && decide (y < zan A)) := fb_ct_sub fun y hy h => by
                    simp only [Bool.and_eq_true] at h ⊢
                    have := hvd.2.2 y hy
                    exact ⟨h.1, ⟨h.2.1, by simp; omega⟩, ⟨h.2.2, by simp; omega⟩⟩
                  have g2 : zcd (fun y => bt s y && decide (y < zan A)) ≤ zcd (bt s) := zcd_sub fun y h => by simp only [Bool.and_eq_true] at h; exact h.1
                  unfold zti at *
                  omega
                have := t2 _ (by simp [q2]; omega) (by simp [q3]; omega) ht x hx24 hbx
                simp only [Bool.and_eq_true, decide_eq_true_eq] at this
                exact this.2
              refine hC _ _ _ _ ((sp_bind (d := d + 1) (hF.agr hag2 (by simp))).conseq ?_)
              rintro r5 σ3 ⟨b1, b2⟩
              conv => whnf
              refine hG _ _ _ _ (ih2 (w + 1) _ σ3 (by omega) (by omega) hnext (hag2.tr (b1.sub (by simp))) (hR2.agr b1 (by simp)) ?_)
              rw [← k32] at hc
              refine hc.bind hvd hs1 (fun x y hx hy hxy hx24 hy24 => zbn_t.mpr (zfb_no hx hy t1)) b2 (fun a b h => ?_)
              by_cases e : a = u ∧ b = w
              · obtain ⟨rfl, rfl⟩ := e
                exact Or.inr ⟨q2, q3, by omega, by omega⟩
              · exact Or.inl ⟨by omega, h.1, h.2.1, by omega⟩
          · rw [if_pos rfl]
            refine br_f (by decide) ?_
            conv => whnf
            refine hG _ _ _ _ (ih2 (w + 1) _ σ' (by omega) (by omega) hnext hag hR' ⟨hc.1, hc.2.1, hc.2.2.1, fun a b h hz => ?_⟩)
            by_cases e : a = u ∧ b = w
            · obtain ⟨rfl, rfl⟩ := e
              exact hb
            · exact hc.2.2.2 a b ⟨h.1, h.2.1, by omega⟩ hz
      refine hG _ _ _ _ (inner (zan A - (u + 1)) (u + 1) _ σ' (by omega) (by omega) (nI_1 u) hag hR' ⟨hc.1, hc.2.1, hc.2.2.1, fun a b h => hc.2.2.2 a b ⟨by omega, h.1, h.2.1⟩⟩)
  have first : ∀ r i (x1 : Int32) (x2 : Option zAV) (σ' : zST), i + r = 24 → x1 = nI i → zagr [9, 10, 11, 32] σ σ' → zrow A ch 7 false 2 3 σ' → (∀ v, v < i → σ' 32 v = (1 : Int32) <<< (nI v &&& 31)) → zWp E (d + 4) zM_X1_findClose (fun _ σ' => zagr [9, 10, 11, 32] σ σ' ∧ zrow A ch 7 false 2 3 σ' ∧ ∀ v, v < zan A → σ' 32 v = zmk (zcb A v)) 2 [some (.inr (1, 31)), some (.inl x1), x2] [] σ' := by
    intro r
    induction r with
    | zero =>
      intro i x1 x2 σ' hi hx1 hag hR' hz
      refine zg_X1_findClose_2 fun G C hG hC => ?_
      conv => whnf
      refine pk_le 24 i (fun _ => ?_) (fun _ => by omega) rfl hx1
      conv => whnf
      have hbt : ∀ v x, v < 24 → x < 32 → bt (σ' 32 v) x = decide (x = v) := fun v x hv hx => by rw [hz v (by omega), zsh1 v (by omega) x hx]
      refine hG _ _ _ _ (outer (zan A) 0 _ _ σ' (by omega) rfl hag hR' ⟨fun v x hv hx h => ?_, fun v hv => ?_, fun v x hv hx h => ?_, fun a b h => absurd h.1 (Nat.not_lt_zero a)⟩)
      · rw [hbt v x hv hx, decide_eq_true_eq] at h; exact Or.inl h
      · rw [hbt v v hv (by omega)]; simp
      · rw [hbt v x hv (by omega), decide_eq_true_eq] at h
        rw [hbt x v hx (by omega), h]; simp
    | succ r ih =>
      intro i x1 x2 σ' hi hx1 hag hR' hz
      refine zg_X1_findClose_2 fun G C hG hC => ?_
      conv => whnf
      refine pk_le 24 i (fun _ => by omega) (fun _ => ?_) rfl hx1
      conv => whnf
      refine ⟨pk_in i 24 (by omega) hx1, ?_⟩
      conv => whnf
      dsimp only
      rw [pk_cl i hx1]
      refine hG _ _ _ _ (ih (i + 1) _ _ _ (by omega) (by rw [hx1, nI_1]) (hag.up (by simp)) (hR'.agr (js := [32]) (zagr.rf.up (by simp)) (by simp)) (fun v hv => ?_))
      rw [zup_self]
      by_cases e : v = i
      · subst e; rw [pk_us, hx1]
      · rw [pk_un e]; exact hz v (by omega)
  refine zg_X1_findClose_0 fun G C hG hC => ?_
  conv => whnf
  exact hG _ _ _ _ (first 24 0 _ _ σ (by omega) rfl zagr.rf hR (fun v hv => absurd hv (Nat.not_lt_zero v)))
