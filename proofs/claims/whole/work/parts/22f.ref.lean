/-! the reference: findBase, findCircuit, circuit, circuitBar -/
abbrev zbj2 : List Nat := [54, 55, 56, 57, 58, 59, 62]
abbrev zcj2 : List Nat := [54, 55, 56, 57, 58, 61]
def zbase (A : zAS) (σ : zST) : Prop := ∀ x, x < zam A → σ 62 x = if zK A false 2 3 x = true then 1 else 0
def zKx (K : Nat → Bool) (f i : Nat) : Nat → Bool := fun y => decide (y < i) && (if y = f then false else K y)
theorem zKx_skip {K : Nat → Bool} {f i : Nat} (h : K i = false ∨ i = f) : zKx K f (i + 1) = zKx K f i := by
  funext y
  unfold zKx
  by_cases e : y = i
  · subst e
    have : (if y = f then false else K y) = false := by
      rcases h with h | h
      · by_cases e : y = f
        · rw [if_pos e]
        · rw [if_neg e, h]
      · rw [if_pos h]
    rw [this, Bool.and_false, Bool.and_false]
  · have : decide (y < i + 1) = decide (y < i) := decide_eq_decide.mpr (by omega)
    rw [this]
theorem zKx_add {K : Nat → Bool} {f i : Nat} (h : K i = true) (hf : i ≠ f) : zKx K f (i + 1) = fun y => if y = i then true else zKx K f i y := by
  funext y
  unfold zKx
  by_cases e : y = i
  · subst e; simp [h, hf]
  · have : decide (y < i + 1) = decide (y < i) := decide_eq_decide.mpr (by omega)
    rw [this, if_neg e]
section zQ
variable {E : zEN} {d : Nat} {A : zAS} {rf : Nat → Int32} {σ : zST}
theorem sm_findBase (hI : zmf A rf σ) : zSp E (d + 30) zM_X8_findBase [.inr (8, 48)] σ (fun _ σ' => zagw zbj2 [11, 12, 13] σ σ' ∧ zkeep A 2 3 σ' ∧ zbase A σ') := by
  have hm := hI.1.2.1
  have loop : ∀ r i (x1 x2 : Int32) (σ' : zST), i + r = zam A → x2 = nI i → zagw zbj2 [11, 12, 13] σ σ' → zkeep A 2 3 σ' → (∀ x, x < i → σ' 62 x = if zK A false 2 3 x = true then 1 else 0) → zWp E (d + 30) zM_X8_findBase (fun _ σ' => zagw zbj2 [11, 12, 13] σ σ' ∧ zkeep A 2 3 σ' ∧ zbase A σ') 7 [some (.inr (8, 48)), some (.inl x1), some (.inl x2)] [] σ' := by
    intro r
    induction r with
    | zero =>
      intro i x1 x2 σ' hi hx hag hK hB
      have hI' := hI.agw hag (by simp) (by simp)
      have hi : i = zam A := by omega
      subst hi
      refine zg_X8_findBase_7 fun G C hG hC => ?_
      conv => whnf
      refine pk_le (zam A) (zam A) (fun _ => ?_) (fun _ => by omega) hI'.2.2.1 hx
      conv => whnf
      exact ⟨hag, hK, hB⟩
    | succ r ih =>
      intro i x1 x2 σ' hi hx hag hK hB
      have hI' := hI.agw hag (by simp) (by simp)
      refine zg_X8_findBase_7 fun G C hG hC => ?_
      conv => whnf
      refine pk_le (zam A) i (fun _ => by omega) (fun _ => ?_) hI'.2.2.1 hx
      conv => whnf
      refine ⟨pk_in i 80 (by omega) hx, ?_⟩
      conv => whnf
      have hv := hK.2 i (by omega)
      refine ⟨pk_in i 80 (by omega) hx, ?_, ?_⟩
      · dsimp only
        rw [pk_cl i hx, hv]
        split
        · exact Or.inr rfl
        · exact Or.inl rfl
      · conv => whnf
        dsimp only
        rw [pk_cl i hx, hv]
        have hag2 : zagw [62] [] σ' (zup σ' 62 i (if zK A false 2 3 i = true then 1 else 0)) := zagw.rf.up (by simp) (by decide)
        refine hG _ _ _ _ (ih (i + 1) _ _ _ (by omega) (by rw [hx, nI_1]) (hag.up (by simp) (by decide)) ⟨hK.1.agw hag2 (by simp) (by simp), by rw [zup_ne (by decide)]; exact hK.2⟩ (fun y hy => ?_))
        rw [zup_self]
        by_cases e : y = i
        · subst e; rw [pk_us]
        · rw [pk_un e]; exact hB y (by omega)
  refine zSp.of rfl (Nat.le_of_ble_eq_true rfl) (zg_X8_findBase_0 fun G C hG hC => ?_)
  conv => whnf
  refine hC _ _ _ _ ((sm_ranks (d := d) hI).conseq ?_)
  rintro r σ2 ⟨h1, h2, rfl⟩
  conv => whnf
  exact hG _ _ _ _ (loop (zam A) 0 _ 0 σ2 (by omega) rfl (h1.sub (by simp) (by simp)) h2 (fun y hy => absurd hy (Nat.not_lt_zero y)))
set_option maxHeartbeats 4000000 in
theorem sm_findCircuit (hI : zmf A rf σ) (hB : zbase A σ) {k : Nat} (hk : k < zam A) : zSp E (d + 28) zM_X8_findCircuit [.inr (8, 48), .inl (nI k)] σ (fun r σ' => zagw zcj2 [11, 12, 13] σ σ' ∧ r = nI (fb_ct (zci A k) (zam A)) ∧ ∀ x, x < zam A → σ' 61 x = if zci A k x = true then 1 else 0) := by
  have hn := hI.1.1
  have hm := hI.1.2.1
  have hvk := hI.1.2.2 k hk
  generalize hP : (fun r σ' => zagw zcj2 [11, 12, 13] σ σ' ∧ r = nI (fb_ct (zci A k) (zam A)) ∧ ∀ x, x < zam A → σ' 61 x = if zci A k x = true then 1 else 0 : zPT) = P
  -- inner
  have inner : ∀ f, f < zam A → zK A false 2 3 f = true → (∀ (x2 x3 x4 : Int32) (σ' : zST) , x2 = nI (fb_ct (zci A k) (f + 1)) → x3 = nI (f + 1) → zagw zcj2 [11, 12, 13] σ σ' → (∀ x, x < f + 1 → σ' 61 x = if zci A k x = true then 1 else 0) → zWp E (d + 28) zM_X8_findCircuit P 4 [some (.inr (8, 48)), some (.inl (nI k)), some (.inl x2), some (.inl x3), some (.inl x4)] [] σ') → ∀ r i (x2 x3 x4 : Int32) (σ' : zST), i + r = zam A → x2 = nI (fb_ct (zci A k) f) → x3 = nI f → x4 = nI i → zagw zcj2 [11, 12, 13] σ σ' → (∀ x, x < f → σ' 61 x = if zci A k x = true then 1 else 0) → zmb 2 3 (fb_ct (zKx (zK A false 2 3) f i) (zam A)) (zib (zaa A) (zab A) (zam A) (zKx (zK A false 2 3) f i)) σ' → zWp E (d + 28) zM_X8_findCircuit P 40 [some (.inr (8, 48)), some (.inl (nI k)), some (.inl x2), some (.inl x3), some (.inl x4)] [] σ' := by
    intro f hf hKf next r
    induction r with
    | zero =>
      intro i x2 x3 x4 σ' hi hx2 hx3 hx4 hag h61 hM
      have hI' := hI.agw hag (by simp) (by simp)
      have hi : i = zam A := by omega
      subst hi
      have hxk := hI'.2.2.2.1 k hk
      refine zg_X8_findCircuit_40 fun G C hG hC => ?_
      conv => whnf
      refine pk_le (zam A) (zam A) (fun _ => ?_) (fun _ => by omega) hI'.2.2.1 hx4
      conv => whnf
      refine ⟨pk_in k 80 (by omega), ?_⟩
      conv => whnf
      refine ⟨pk_in k 80 (by omega), ?_⟩
      conv => whnf
      dsimp only
      rw [nI_clamp (by omega : k < 2 ^ 31), hxk.1, hxk.2.1]
      refine hC _ _ _ _ ((sp_isFree (d := d) hM (by omega) (by omega) (by omega) (Or.inl rfl)).conseq ?_)
      rintro r σ2 ⟨hag2, hr⟩
      have hag3 : zagw zcj2 [11, 12, 13] σ σ2 := hag.tr (hag2.sub (by simp) (by simp))
      have h61' : σ2 61 = σ' 61 := hag2.1 61 (by simp) (by decide)
      have hfe : zfr 2 3 (zib (zaa A) (zab A) (zam A) (zKx (zK A false 2 3) f (zam A))) (zaa A k) (zab A k) ↔ zfb (zaa A) (zab A) (zam A) 2 3 (fun x => if x = f then false else zK A false 2 3 x) (zaa A k) (zab A k) := by
        have : zib (zaa A) (zab A) (zam A) (zKx (zK A false 2 3) f (zam A)) = zib (zaa A) (zab A) (zam A) (fun x => if x = f then false else zK A false 2 3 x) := funext fun V => fb_ct_cong fun y hy => by unfold zKx; simp [hy]
        rw [this]
        exact zfr_bars
      have hr' : r = if zci A k f = true then 1 else 0 := by
        unfold zci
        rw [hKf, Bool.true_and]
        rcases hr with ⟨rfl, h, -⟩ | ⟨rfl, h, -⟩
        · rw [@decide_eq_true _ (Classical.propDecidable _) (hfe.mp h)]; rfl
        · rw [@decide_eq_false _ (Classical.propDecidable _) (fun q => h (hfe.mpr q))]; rfl
      conv => whnf
      have key : ∀ σ3, σ3 = zup σ2 61 f r → ∀ x, x < f + 1 → σ3 61 x = if zci A k x = true then 1 else 0 := by
        rintro σ3 rfl x hx
        rw [zup_self]
        by_cases e : x = f
        · subst e; rw [pk_us, hr']
        · rw [pk_un e, h61']; exact h61 x (by omega)
      refine ⟨pk_in f 80 (by omega) hx3, by rw [hr']; split; exact Or.inr rfl; exact Or.inl rfl, ?_⟩
      conv => whnf
      refine ⟨pk_in f 80 (by omega) hx3, ?_⟩
      conv => whnf
      dsimp only
      rw [pk_cl f hx3, zup_self, pk_us]
      have e3 : x3 + 1 = nI (f + 1) := by rw [hx3, nI_1]
      cases hc : zci A k f
      · rw [hc] at hr'
        refine br_t hr' ?_
        conv => whnf
        refine hG _ _ _ _ (next _ _ _ _ ?_ e3 (hag3.up (by simp) (by decide)) (key _ rfl))
        rw [hx2, fb_ct_succ, hc]; exact nI_add _ 0
      · rw [hc] at hr'
        refine br_f (by rw [hr']; decide) ?_
        conv => whnf
        refine hG _ _ _ _ (next _ _ _ _ ?_ e3 (hag3.up (by simp) (by decide)) (key _ rfl))
        rw [hx2, fb_ct_succ, hc]; exact nI_add _ 1
    | succ r ih =>
      intro i x2 x3 x4 σ' hi hx2 hx3 hx4 hag h61 hM
      have hI' := hI.agw hag (by simp) (by simp)
      have hxi := hI'.2.2.2.1 i (by omega)
      have hvi := hI.1.2.2 i (by omega)
      have hBi : σ' 62 i = if zK A false 2 3 i = true then 1 else 0 := by rw [hag.1 62 (by simp) (by decide)]; exact hB i (by omega)
      refine zg_X8_findCircuit_40 fun G C hG hC => ?_
      conv => whnf
      refine pk_le (zam A) i (fun _ => by omega) (fun _ => ?_) hI'.2.2.1 hx4
      conv => whnf
      refine ⟨pk_in i 80 (by omega) hx4, ?_⟩
      conv => whnf
      dsimp only
      rw [pk_cl i hx4, hBi]
      have e4 : x4 + 1 = nI (i + 1) := by rw [hx4, nI_1]
      cases hKi : zK A false 2 3 i
      · rw [if_neg (by decide)]
        refine br_t rfl ?_
        conv => whnf
        exact hG _ _ _ _ (ih (i + 1) _ _ _ _ (by omega) hx2 hx3 e4 hag h61 (by rw [zKx_skip (Or.inl hKi)]; exact hM))
      · rw [if_pos rfl]
        refine br_f (by decide) ?_
        conv => whnf
        refine pk_eq i f (fun e => ?_) (fun e => ?_) hx4 hx3
        · conv => whnf
          exact hG _ _ _ _ (ih (i + 1) _ _ _ _ (by omega) hx2 hx3 e4 hag h61 (by rw [zKx_skip (Or.inr e)]; exact hM))
        · conv => whnf
          refine ⟨pk_in i 80 (by omega) hx4, ?_⟩
          conv => whnf
          refine ⟨pk_in i 80 (by omega) hx4, ?_⟩
          conv => whnf
          dsimp only
          rw [pk_cl i hx4, hxi.1, hxi.2.1]
          have hKxi : zKx (zK A false 2 3) f i i = false := by unfold zKx; simp
          have hfree : zfb (zaa A) (zab A) (zam A) 2 3 (zKx (zK A false 2 3) f i) (zaa A i) (zab A i) := zfb_of_sp hI.1.eo (by omega) hKxi (zsp_sub (zK_sp (A := A) (bc := false) (by decide)) (fun y hy h => by
            by_cases e : y = i
            · rw [e, hKi]
            · simp only [e, if_false] at h
              unfold zKx at h
              simp only [Bool.and_eq_true] at h
              by_cases e2 : y = f
              · rw [if_pos e2] at h; exact absurd h.2 (by decide)
              · rw [if_neg e2] at h; exact h.2))
          refine hC _ _ _ _ ((sp_isFree (d := d) hM (by omega) (by omega) (by omega) (Or.inr rfl)).conseq ?_)
          rintro r σ2 ⟨hag2, hr⟩
          have hag3 : zagw zcj2 [11, 12, 13] σ σ2 := hag.tr (hag2.sub (by simp) (by simp))
          have h61' : σ2 61 = σ' 61 := hag2.1 61 (by simp) (by decide)
          rcases hr with ⟨rfl, h, hM2, -⟩ | ⟨rfl, h, -⟩
          · conv => whnf
            refine br_f (by decide) ?_
            conv => whnf
            refine hG _ _ _ _ (ih (i + 1) _ _ _ _ (by omega) hx2 hx3 e4 hag3 (by rw [h61']; exact h61) ?_)
            rw [zKx_add hKi e, fb_ct_add1 (by omega) hKxi]
            exact (hM2 rfl).cong (fun V => by rw [zib_add (by omega) hKxi]; rfl)
          · exact absurd hfree h
  have loop : ∀ r f (x2 x3 : Int32) (x4 : Option zAV) (σ' : zST), f + r = zam A → x2 = nI (fb_ct (zci A k) f) → x3 = nI f → zagw zcj2 [11, 12, 13] σ σ' → (∀ x, x < f → σ' 61 x = if zci A k x = true then 1 else 0) → zWp E (d + 28) zM_X8_findCircuit P 4 [some (.inr (8, 48)), some (.inl (nI k)), some (.inl x2), some (.inl x3), x4] [] σ' := by
    intro r
    induction r with
    | zero =>
      intro f x2 x3 x4 σ' hf hx2 hx3 hag h61
      have hI' := hI.agw hag (by simp) (by simp)
      have hf : f = zam A := by omega
      subst hf
      refine zg_X8_findCircuit_4 fun G C hG hC => ?_
      conv => whnf
      refine pk_le (zam A) (zam A) (fun _ => ?_) (fun _ => by omega) hI'.2.2.1 hx3
      conv => whnf
      rw [← hP]
      exact ⟨hag, hx2, h61⟩
    | succ r ih =>
      intro f x2 x3 x4 σ' hf hx2 hx3 hag h61
      have hI' := hI.agw hag (by simp) (by simp)
      have hBf : σ' 62 f = if zK A false 2 3 f = true then 1 else 0 := by rw [hag.1 62 (by simp) (by decide)]; exact hB f (by omega)
      refine zg_X8_findCircuit_4 fun G C hG hC => ?_
      conv => whnf
      refine pk_le (zam A) f (fun _ => by omega) (fun _ => ?_) hI'.2.2.1 hx3
      conv => whnf
      refine ⟨pk_in f 80 (by omega) hx3, Or.inl rfl, ?_⟩
      conv => whnf
      refine ⟨pk_in f 80 (by omega) hx3, ?_⟩
      conv => whnf
      dsimp only
      rw [pk_cl f hx3, zup_ne (by decide), hBf]
      have hag2 : zagw zcj2 [11, 12, 13] σ (zup σ' 61 f 0) := hag.up (by simp) (by decide)
      cases hKf : zK A false 2 3 f
      · rw [if_neg (by decide)]
        refine br_t rfl ?_
        conv => whnf
        have hc : zci A k f = false := by unfold zci; rw [hKf]; rfl
        refine hG _ _ _ _ (ih (f + 1) _ _ _ _ (by omega) (by rw [hx2, fb_ct_succ, hc]; rfl) (by rw [hx3, nI_1]) hag2 (fun x hx => ?_))
        rw [zup_self]
        by_cases e : x = f
        · subst e; rw [pk_us, hc]; rfl
        · rw [pk_un e]; exact h61 x (by omega)
      · rw [if_pos rfl]
        refine br_f (by decide) ?_
        conv => whnf
        refine hC _ _ _ _ ((sp_begins (d := d + 26) (k := 2) (l := 3) (by decide) (by decide)).conseq ?_)
        rintro r2 σ2 ⟨h1, h2⟩
        have hag3 : zagw zcj2 [11, 12, 13] σ σ2 := hag2.tr (h1.sub (by simp) (by simp))
        conv => whnf
        refine hG _ _ _ _ (inner f (by omega) hKf (fun x2 x3 x4 σ3 g1 g2 g3 g4 => ih (f + 1) x2 x3 _ σ3 (by omega) g1 g2 g3 g4) (zam A) 0 _ _ 0 σ2 (by omega) hx2 hx3 rfl hag3 (fun x hx => ?_) ?_)
        · rw [h1.1 61 (by simp) (by decide), zup_self, pk_un (by omega)]; exact h61 x hx
        · have e0 : fb_ct (zKx (zK A false 2 3) f 0) (zam A) = 0 := fb_ct_zero.mpr (fun y _ => by unfold zKx; simp)
          rw [e0]
          exact h2.cong (fun V => (fb_ct_zero.mpr (fun y _ => by unfold zKx; simp)).symm)
  refine zSp.of rfl (Nat.le_of_ble_eq_true rfl) (zg_X8_findCircuit_0 fun G C hG hC => ?_)
  conv => whnf
  exact hG _ _ _ _ (loop (zam A) 0 0 0 _ σ (by omega) rfl rfl zagw.rf (fun y hy => absurd hy (Nat.not_lt_zero y)))
end zQ
