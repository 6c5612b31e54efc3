/-! the reference: begins, leansOn, drops, isFree -/
/-- the same outside some cells, and in the object outside some fields -/
def zagw (js fs : List Nat) (σ σ' : zST) : Prop := (∀ j, j ∉ js → j ≠ 48 → σ' j = σ j) ∧ ∀ f, f ∉ fs → σ' 48 f = σ 48 f
theorem zagw.rf {js fs : List Nat} {σ : zST} : zagw js fs σ σ := ⟨fun _ _ _ => rfl, fun _ _ => rfl⟩
theorem zagw.tr {js fs : List Nat} {σ σ' σ'' : zST} (h : zagw js fs σ σ') (h' : zagw js fs σ' σ'') : zagw js fs σ σ'' := ⟨fun j h1 h2 => (h'.1 j h1 h2).trans (h.1 j h1 h2), fun f hf => (h'.2 f hf).trans (h.2 f hf)⟩
theorem zagw.up {js fs : List Nat} {σ σ' : zST} {j k : Nat} {x : Int32} (h : zagw js fs σ σ') (hj : j ∈ js) (h48 : j ≠ 48) : zagw js fs σ (zup σ' j k x) := ⟨fun q hq hq8 => (zup_ne (fun e => hq (by rw [e]; exact hj))).trans (h.1 q hq hq8), fun f hf => by rw [zup_ne (Ne.symm h48)]; exact h.2 f hf⟩
theorem zagw.upf {js fs : List Nat} {σ σ' : zST} {k : Nat} {x : Int32} (h : zagw js fs σ σ') (hk : k ∈ fs) : zagw js fs σ (zup σ' 48 k x) := ⟨fun q hq hq8 => (zup_ne hq8).trans (h.1 q hq hq8), fun f hf => by rw [zup_self, pk_un (fun e => hf (by rw [e]; exact hk))]; exact h.2 f hf⟩
theorem zagw.sub {js fs js' fs' : List Nat} {σ σ' : zST} (h : zagw js fs σ σ') (hs : ∀ j, j ∈ js → j ∈ js') (hf : ∀ f, f ∈ fs → f ∈ fs') : zagw js' fs' σ σ' := ⟨fun q hq hq8 => h.1 q (fun e => hq (hs q e)) hq8, fun f hf1 => h.2 f (fun e => hf1 (hf f e))⟩
theorem zagr.w {js : List Nat} {fs : List Nat} {σ σ' : zST} (h : zagr js σ σ') (h48 : 48 ∉ js) : zagw js fs σ σ' := ⟨fun j hj _ => h j hj, fun f _ => by rw [h 48 h48]⟩
theorem zagr.ws {js js' fs : List Nat} {σ σ' : zST} (h : zagr js σ σ') (hs : ∀ j, j ∈ js → j ∈ js') (h48 : 48 ∉ js) : zagw js' fs σ σ' := ⟨fun j hj _ => h j (fun e => hj (hs j e)), fun f _ => by rw [h 48 h48]⟩
abbrev zms : List Nat := [54, 55, 56, 57, 58]
/-- the reference's edges by k, l -/
def zmb (k l n : Nat) (F : (Nat → Bool) → Nat) (σ : zST) : Prop := σ 48 13 = nI l ∧ l < 6 ∧ ∃ ea eb le : Nat → Nat, zmo k n ea eb le σ ∧ ∀ V, zmF ea eb n V = F V
theorem zmb.n72 {k l n : Nat} {F : (Nat → Bool) → Nat} {σ : zST} (h : zmb k l n F σ) : n ≤ 72 := by
  obtain ⟨-, -, ea, eb, le, ⟨h1, -, -, -, h5, h6⟩, -⟩ := h
  have := zmF_n h5 (fun v hv => (h6 v hv).2)
  omega
theorem sp_begins {E : zEN} {d k l : Nat} {σ : zST} (hk : k ≤ 3) (hl : l < 6) : zSp E (d + 1) zM_X8_begins [.inr (8, 48), .inl (nI k), .inl (nI l)] σ (fun _ σ' => zagw zms [11, 12, 13] σ σ' ∧ zmb k l 0 (fun _ => 0) σ') := by
  refine zSp.of rfl (Nat.le_of_ble_eq_true rfl) ?_
  have loop : ∀ r i (x3 : Int32) (σ' : zST), i + r = 24 → x3 = nI i → zagw zms [11, 12, 13] σ σ' → σ' 48 12 = nI k → σ' 48 13 = nI l → σ' 48 11 = nI 0 → (∀ v, v < i → σ' 57 v = nI 0) → zWp E (d + 1) zM_X8_begins (fun _ σ' => zagw zms [11, 12, 13] σ σ' ∧ zmb k l 0 (fun _ => 0) σ') 17 [some (.inr (8, 48)), some (.inl (nI k)), some (.inl (nI l)), some (.inl x3)] [] σ' := by
    intro r
    induction r with
    | zero =>
      intro i x3 σ' hi hx3 hag h1 h2 h3 h4
      refine zg_X8_begins_17 fun G C hG hC => ?_
      conv => whnf
      refine pk_le 24 i (fun _ => ?_) (fun _ => by omega) rfl hx3
      conv => whnf
      exact ⟨hag, h2, hl, fun _ => 0, fun _ => 0, fun _ => 0, ⟨hk, h1, h3, fun x hx => absurd hx (Nat.not_lt_zero x), fun x hx => absurd hx (Nat.not_lt_zero x), fun v hv => ⟨h4 v (by omega), Nat.zero_le _⟩⟩, fun V => rfl⟩
    | succ r ih =>
      intro i x3 σ' hi hx3 hag h1 h2 h3 h4
      refine zg_X8_begins_17 fun G C hG hC => ?_
      conv => whnf
      refine pk_le 24 i (fun _ => by omega) (fun _ => ?_) rfl hx3
      conv => whnf
      refine ⟨pk_in i 24 (by omega) hx3, ?_⟩
      conv => whnf
      dsimp only
      rw [pk_cl i hx3]
      refine hG _ _ _ _ (ih (i + 1) _ _ (by omega) (by rw [hx3, nI_1]) (hag.up (by simp) (by decide)) (by rw [zup_ne (by decide)]; exact h1) (by rw [zup_ne (by decide)]; exact h2) (by rw [zup_ne (by decide)]; exact h3) (fun v hv => ?_))
      rw [zup_self]
      by_cases e : v = i
      · subst e; exact pk_us
      · rw [pk_un e]; exact h4 v (by omega)
  refine zg_X8_begins_0 fun G C hG hC => ?_
  conv => whnf
  refine hG _ _ _ _ (loop 24 0 _ _ (by omega) rfl (((zagw.rf.upf (by simp)).upf (by simp)).upf (by simp)) ?_ ?_ ?_ (fun v hv => absurd hv (Nat.not_lt_zero v)))
  · rw [zup_self, pk_un (by decide), zup_self, pk_un (by decide), zup_self, pk_us]
  · rw [zup_self, pk_un (by decide), zup_self, pk_us]
  · rw [zup_self, pk_us]; rfl
def zlpost (k n : Nat) (ea eb le : Nat → Nat) (a b : Nat) (σ : zST) : zPT := fun r σ' => zagw zms [11] σ σ' ∧ ((r = 1 ∧ ∃ le' : Nat → Nat, zmo k (n + 1) (fun x => if x = n then a else ea x) (fun x => if x = n then b else eb x) le' σ') ∨ (r = 0 ∧ zmo k n ea eb le σ' ∧ ∃ S : Nat → Bool, S a = true ∧ S b = true ∧ ∀ v, v < 24 → S v = true → zld le n v = k ∧ ∀ x, x < n → le x = v → S (ea x) = true ∧ S (eb x) = true))
theorem zgrow {k n : Nat} {ea eb le : Nat → Nat} {σ : zST} (h : zmo k n ea eb le σ) {a b at_ : Nat} (ha : a < 24) (hb : b < 24) (hab : a ≠ b) (hat : at_ = a ∨ at_ = b) (hr : zld le n at_ < k) : zmo k (n + 1) (fun x => if x = n then a else ea x) (fun x => if x = n then b else eb x) (fun x => if x = n then at_ else le x) (zup (zup (zup (zup (zup σ 54 n (nI a)) 55 n (nI b)) 56 n (nI at_)) 57 at_ (σ 57 at_ + 1)) 48 11 (nI n + 1)) := by
  obtain ⟨h1, h2, h3, h4, h5, h6⟩ := h
  have hat24 : at_ < 24 := by rcases hat with e | e <;> omega
  have hl : ∀ v, zld (fun x => if x = n then at_ else le x) (n + 1) v = zld le n v + (if at_ = v then 1 else 0) := by
    intro v
    unfold zld
    rw [fb_ct_succ]
    have : fb_ct (fun x => decide ((if x = n then at_ else le x) = v)) n = fb_ct (fun x => decide (le x = v)) n := fb_ct_cong fun x hx => by
      have : ¬ x = n := by omega
      simp [this]
    rw [this]
    simp
  refine ⟨h1, ?_, ?_, ?_, ?_, ?_⟩
  · rw [zup_self, pk_un (by decide), zup_ne (by decide), zup_ne (by decide), zup_ne (by decide), zup_ne (by decide)]; exact h2
  · rw [zup_self, pk_us, nI_1]
  · intro x hx
    have e54 : zup (zup (zup (zup (zup σ 54 n (nI a)) 55 n (nI b)) 56 n (nI at_)) 57 at_ (σ 57 at_ + 1)) 48 11 (nI n + 1) 54 = upd (σ 54) n (nI a) := by
      rw [zup_ne (by decide), zup_ne (by decide), zup_ne (by decide), zup_ne (by decide), zup_self]
    have e55 : zup (zup (zup (zup (zup σ 54 n (nI a)) 55 n (nI b)) 56 n (nI at_)) 57 at_ (σ 57 at_ + 1)) 48 11 (nI n + 1) 55 = upd (σ 55) n (nI b) := by
      rw [zup_ne (by decide), zup_ne (by decide), zup_ne (by decide), zup_self, zup_ne (by decide)]
    have e56 : zup (zup (zup (zup (zup σ 54 n (nI a)) 55 n (nI b)) 56 n (nI at_)) 57 at_ (σ 57 at_ + 1)) 48 11 (nI n + 1) 56 = upd (σ 56) n (nI at_) := by
      rw [zup_ne (by decide), zup_ne (by decide), zup_self, zup_ne (by decide), zup_ne (by decide)]
    rw [e54, e55, e56]
    by_cases e : x = n
    · subst e; simp [upd]
    · simp only [e, if_false]
      rw [pk_un e, pk_un e, pk_un e]
      exact h4 x (by omega)
  · intro x hx
    by_cases e : x = n
    · simp only [e, if_true]; exact ⟨ha, hb, hab, hat⟩
    · simp only [e, if_false]; exact h5 x (by omega)
  · intro v hv
    rw [hl v, zup_ne (by decide), zup_self, zup_ne (by decide), zup_ne (by decide), zup_ne (by decide)]
    have := h6 v hv
    by_cases e : v = at_
    · subst e
      rw [pk_us, this.1, nI_1]
      simp; omega
    · rw [pk_un e, this.1]
      simp [Ne.symm e]; omega
theorem sp_leansOn {E : zEN} {d k n a b : Nat} {ea eb le : Nat → Nat} {σ : zST} (hM : zmo k n ea eb le σ) (ha : a < 24) (hb : b < 24) (hab : a ≠ b) : zSp E (d + 26) zM_X8_leansOn [.inr (8, 48), .inl (nI a), .inl (nI b)] σ (zlpost k n ea eb le a b σ) := by
  refine zSp.of rfl (Nat.le_of_ble_eq_true rfl) ?_
  have hn72 : n ≤ 72 := by
    obtain ⟨h1, -, -, -, h5, h6⟩ := hM
    have := zmF_n h5 (fun v hv => (h6 v hv).2)
    omega
  -- the end with success
  have good : ∀ (G : Nat → zKT) (C : zCT) (at_ : Nat) (le' : Nat → Nat) (σ' : zST) (x3 : Option zAV), (at_ = a ∨ at_ = b) → zmo k n ea eb le' σ' → zld le' n at_ < k → zagw zms [11] σ σ' → zB_X8_leansOn_55 G C (zlpost k n ea eb le a b σ) [some (.inr (8, 48)), some (.inl (nI a)), some (.inl (nI b)), x3] [.inl (nI at_)] σ' := by
    intro G C at_ le' σ' x3 hat hM' hr hag
    have hat24 : at_ < 24 := by rcases hat with e | e <;> omega
    have hn' : σ' 48 11 = nI n := hM'.2.2.1
    have hg := zgrow hM' ha hb hab hat hr
    conv => whnf
    refine br_t (nI_pos' (by omega)) ?_
    conv => whnf
    refine ⟨pk_in n 88 (by omega) hn', ?_⟩
    conv => whnf
    refine ⟨pk_in n 88 (by omega) (by rw [zup_ne (by decide)]; exact hn'), ?_⟩
    conv => whnf
    refine ⟨pk_in n 88 (by omega) (by rw [zup_ne (by decide), zup_ne (by decide)]; exact hn'), ?_⟩
    conv => whnf
    refine ⟨pk_in at_ 24 hat24, ?_⟩
    conv => whnf
    refine ⟨pk_in at_ 24 hat24, ?_⟩
    conv => whnf
    refine ⟨Or.inr rfl, ?_⟩
    dsimp only
    simp only [zup_ne (by decide : (48 : Nat) ≠ 54), zup_ne (by decide : (48 : Nat) ≠ 55), zup_ne (by decide : (48 : Nat) ≠ 56), zup_ne (by decide : (48 : Nat) ≠ 57), hn', nI_clamp (by omega : n < 2 ^ 31), nI_clamp (by omega : at_ < 2 ^ 31), zup_ne (by decide : (57 : Nat) ≠ 54), zup_ne (by decide : (57 : Nat) ≠ 55), zup_ne (by decide : (57 : Nat) ≠ 56)]
    refine ⟨?_, Or.inl ⟨rfl, _, hg⟩⟩
    exact ((((hag.up (by simp) (by decide)).up (by simp) (by decide)).up (by simp) (by decide)).up (by simp) (by decide)).upf (by simp)
  have loop : ∀ r i (x3 : Int32) (σ' : zST), i + r = 24 → x3 = nI i → zagr [58] σ σ' → (∀ v, v < i → σ' 58 v = 0) → zWp E (d + 26) zM_X8_leansOn (zlpost k n ea eb le a b σ) 2 [some (.inr (8, 48)), some (.inl (nI a)), some (.inl (nI b)), some (.inl x3)] [] σ' := by
    intro r
    induction r with
    | zero =>
      intro i x3 σ' hi hx3 hag hz
      have hM' := hM.seen hag
      refine zg_X8_leansOn_2 fun G C hG hC => ?_
      conv => whnf
      refine pk_le 24 i (fun _ => ?_) (fun _ => by omega) rfl hx3
      conv => whnf
      refine hC _ _ _ _ ((sp_makesRoom (d := d) 24 le (fun _ => false) a σ' hM' (fun v hv => by rw [hz v (by omega)]; rfl) ha rfl (fb_ct_le _ 24)).conseq ?_)
      rintro r2 σ2 ⟨b1, sn2, b2, b3, (⟨rfl, le2, b4, b5, b6⟩ | ⟨rfl, b4, b5, b6⟩)⟩
      · conv => whnf
        refine br_f (by decide) ?_
        exact good G C a le2 σ2 _ (Or.inl rfl) b4 b5 (((hag.sub (by simp)).tr b1).ws (by simp) (by decide))
      · conv => whnf
        refine br_t rfl ?_
        conv => whnf
        refine ⟨pk_in b 24 hb, ?_⟩
        conv => whnf
        dsimp only
        rw [nI_clamp (by omega : b < 2 ^ 31), b2 b hb]
        have hM2 := hM.seen (hag.tr b4)
        cases hsb : sn2 b
        · rw [if_neg (by decide)]
          refine br_t rfl ?_
          conv => whnf
          refine hC _ _ _ _ ((sp_makesRoom (d := d) 24 le sn2 b σ2 hM2 b2 hb hsb (fb_ct_le _ 24)).conseq ?_)
          rintro r3 σ3 ⟨c1, sn3, c2, c3, (⟨rfl, le3, c4, c5, c6⟩ | ⟨rfl, c4, c5, c6⟩)⟩
          · conv => whnf
            refine br_f (by decide) ?_
            exact good G C b le3 σ3 _ (Or.inr rfl) c4 c5 ((((hag.tr b4).sub (by simp)).tr c1).ws (by simp) (by decide))
          · conv => whnf
            refine br_t rfl ?_
            conv => whnf
            refine br_f (by decide) ?_
            conv => whnf
            refine ⟨Or.inl rfl, ((hag.tr b4).tr c4).ws (by simp) (by decide), Or.inr ⟨rfl, hM2.seen c4, sn3, c3 a b5, c5, fun v hv hq => ?_⟩⟩
            rcases c6 v hv hq with h | h
            · rcases b6 v hv h with h | ⟨h1, h2⟩
              · cases h
              · exact ⟨h1, fun x hx e => ⟨c3 _ (h2 x hx e).1, c3 _ (h2 x hx e).2⟩⟩
            · exact h
        · rw [if_pos rfl]
          refine br_f (by decide) ?_
          conv => whnf
          refine br_f (by decide) ?_
          conv => whnf
          refine ⟨Or.inl rfl, (hag.tr b4).ws (by simp) (by decide), Or.inr ⟨rfl, hM2, sn2, b5, hsb, fun v hv hq => ?_⟩⟩
          rcases b6 v hv hq with h | h
          · cases h
          · exact h
    | succ r ih =>
      intro i x3 σ' hi hx3 hag hz
      refine zg_X8_leansOn_2 fun G C hG hC => ?_
      conv => whnf
      refine pk_le 24 i (fun _ => by omega) (fun _ => ?_) rfl hx3
      conv => whnf
      refine ⟨pk_in i 24 (by omega) hx3, Or.inl rfl, ?_⟩
      conv => whnf
      dsimp only
      rw [pk_cl i hx3]
      refine hG _ _ _ _ (ih (i + 1) _ _ (by omega) (by rw [hx3, nI_1]) (hag.up (by simp)) (fun v hv => ?_))
      rw [zup_self]
      by_cases e : v = i
      · subst e; exact pk_us
      · rw [pk_un e]; exact hz v (by omega)
  refine zg_X8_leansOn_0 fun G C hG hC => ?_
  conv => whnf
  exact hG _ _ _ _ (loop 24 0 _ _ (by omega) rfl zagr.rf (fun v hv => absurd hv (Nat.not_lt_zero v)))
theorem zshrink {k n : Nat} {ea eb le : Nat → Nat} {σ : zST} (h : zmo k (n + 1) ea eb le σ) : zmo k n ea eb le (zup (zup σ 48 11 (nI (n + 1) - 1)) 57 (le n) (σ 57 (le n) - 1)) := by
  obtain ⟨h1, h2, h3, h4, h5, h6⟩ := h
  have hle := h5.lt n (by omega)
  have hl : ∀ v, zld le (n + 1) v = zld le n v + (if le n = v then 1 else 0) := by
    intro v; unfold zld; rw [fb_ct_succ]; simp
  refine ⟨h1, ?_, ?_, ?_, fun x hx => h5 x (by omega), ?_⟩
  · rw [zup_ne (by decide), zup_self, pk_un (by decide)]; exact h2
  · rw [zup_ne (by decide), zup_self, pk_us, nI_pred]
  · intro x hx
    rw [zup_ne (by decide), zup_ne (by decide), zup_ne (by decide), zup_ne (by decide), zup_ne (by decide), zup_ne (by decide)]
    exact h4 x (by omega)
  · intro v hv
    rw [zup_self, zup_ne (by decide)]
    have := h6 v hv
    have hv2 := hl v
    by_cases e : v = le n
    · subst e
      rw [pk_us, this.1, hv2]
      simp only [if_true]
      rw [nI_pred]
      simp only [if_true] at hv2
      exact ⟨rfl, by omega⟩
    · rw [pk_un e, this.1]
      simp only [Ne.symm e, if_false] at hv2
      rw [hv2]
      exact ⟨rfl, by omega⟩
theorem sp_drops {E : zEN} {d k from_ : Nat} {ea eb le : Nat → Nat} {σ : zST} (x1 : Int32) (hx1 : x1 = nI from_) : ∀ (r n : Nat), from_ + r = n → zmo k n ea eb le σ → zSp E (d + 1) zM_X8_drops [.inr (8, 48), .inl x1] σ (fun _ σ' => zagw zms [11] σ σ' ∧ zmo k from_ ea eb le σ') := by
  intro r n hr hM
  refine zSp.of rfl (Nat.le_of_ble_eq_true rfl) ?_
  have loop : ∀ r n (σ' : zST), from_ + r = n → zagw zms [11] σ σ' → zmo k n ea eb le σ' → zWp E (d + 1) zM_X8_drops (fun _ σ' => zagw zms [11] σ σ' ∧ zmo k from_ ea eb le σ') 0 [some (.inr (8, 48)), some (.inl x1)] [] σ' := by
    intro r
    induction r with
    | zero =>
      intro n σ' hr hag hM
      have hn72 : n ≤ 72 := by have := zmF_n hM.2.2.2.2.1 (fun v hv => (hM.2.2.2.2.2 v hv).2); have := hM.1; omega
      refine zg_X8_drops_0 fun G C hG hC => ?_
      conv => whnf
      refine pk_le n from_ (fun _ => ?_) (fun _ => by omega) hM.2.2.1 hx1
      conv => whnf
      have : n = from_ := by omega
      subst this
      exact ⟨hag, hM⟩
    | succ r ih =>
      intro n σ' hr hag hM
      have hn72 : n ≤ 72 := by have := zmF_n hM.2.2.2.2.1 (fun v hv => (hM.2.2.2.2.2 v hv).2); have := hM.1; omega
      obtain ⟨n', rfl⟩ : ∃ n', n = n' + 1 := ⟨from_ + r, by omega⟩
      have hs := zshrink hM
      have hn := hM.2.2.1
      have hle := hM.2.2.2.2.1.lt n' (by omega)
      have ha := (hM.2.2.2.1 n' (by omega)).2.2
      refine zg_X8_drops_0 fun G C hG hC => ?_
      conv => whnf
      refine pk_le (n' + 1) from_ (fun _ => by omega) (fun _ => ?_) hn hx1
      conv => whnf
      have e11 : zup σ' 48 11 (σ' 48 11 - 1) 48 11 = nI n' := by rw [zup_self, pk_us, hn, nI_pred]
      refine ⟨pk_in n' 88 (by omega) e11, ?_⟩
      conv => whnf
      have e56 : zup σ' 48 11 (σ' 48 11 - 1) 56 (zup σ' 48 11 (σ' 48 11 - 1) 48 11).toNatClampNeg = nI (le n') := by rw [e11, nI_clamp (by omega), zup_ne (by decide), ha]
      refine ⟨pk_in (le n') 24 hle e56, ?_⟩
      conv => whnf
      refine ⟨pk_in (le n') 24 hle e56, ?_⟩
      conv => whnf
      dsimp only
      rw [e56, nI_clamp (by omega : le n' < 2 ^ 31), zup_ne (by decide : (57 : Nat) ≠ 48), hn]
      exact hG _ _ _ _ (ih n' _ (by omega) ((hag.upf (by simp)).up (by simp) (by decide)) hs)
  exact loop r n σ hr zagw.rf hM
def zipost (k l n a b : Nat) (kp : Int32) (F : (Nat → Bool) → Nat) (σ : zST) : zPT := fun r σ' => zagw zms [11] σ σ' ∧ ((r = 1 ∧ zfr k l F a b ∧ (kp = 1 → zmb k l (n + 1) (fun V => F V + (if (V a && V b) = true then 1 else 0)) σ') ∧ (kp = 0 → zmb k l n F σ')) ∨ (r = 0 ∧ ¬ zfr k l F a b ∧ zmb k l n F σ'))
theorem zmF_pre {ea eb ea' eb' : Nat → Nat} {n : Nat} (h : ∀ x, x < n → ea' x = ea x ∧ eb' x = eb x) (V : Nat → Bool) : zmF ea' eb' n V = zmF ea eb n V := fb_ct_cong fun x hx => by rw [(h x hx).1, (h x hx).2]
theorem zmF_more {ea eb ea' eb' : Nat → Nat} {n a b : Nat} (h : ∀ x, x < n → ea' x = ea x ∧ eb' x = eb x) (V : Nat → Bool) : ∀ c, (∀ x, n ≤ x → x < n + c → ea' x = a ∧ eb' x = b) → zmF ea' eb' (n + c) V = zmF ea eb n V + c * (if (V a && V b) = true then 1 else 0)
  | 0, _ => by rw [Nat.zero_mul]; exact zmF_pre h V
  | c + 1, hc => by
    have ih := zmF_more h V c (fun x h1 h2 => hc x h1 (by omega))
    have e : zmF ea' eb' (n + (c + 1)) V = zmF ea' eb' (n + c) V + (if (V (ea' (n + c)) && V (eb' (n + c))) = true then 1 else 0) := rfl
    obtain ⟨e1, e2⟩ := hc (n + c) (by omega) (by omega)
    rw [e, ih, e1, e2, Nat.add_mul]
    omega
theorem sp_isFree {E : zEN} {d k l n a b : Nat} {kp : Int32} {F : (Nat → Bool) → Nat} {σ : zST} (hM : zmb k l n F σ) (ha : a < 24) (hb : b < 24) (hab : a ≠ b) (hkp : kp = 0 ∨ kp = 1) : zSp E (d + 27) zM_X8_isFree [.inr (8, 48), .inl (nI a), .inl (nI b), .inl kp] σ (zipost k l n a b kp F σ) := by
  have hn72 := hM.n72
  obtain ⟨hl, hl6, ea, eb, le, hM, hF⟩ := hM
  refine zSp.of rfl (Nat.le_of_ble_eq_true rfl) ?_
  -- the end
  have fin : ∀ (G : Nat → zKT) (C : zCT) (x5 x6 : Int32) (c : Nat) (ea' eb' le' : Nat → Nat) (σ' : zST), (∀ M as σ P, zSp E (d + 26) M as σ P → C M as σ P) → zagw zms [11] σ σ' → zmo k (n + c) ea' eb' le' σ' → (∀ x, x < n → ea' x = ea x ∧ eb' x = eb x) → (∀ x, n ≤ x → x < n + c → ea' x = a ∧ eb' x = b) → (x5 = 1 ∧ zfr k l F a b ∧ 1 ≤ c ∨ x5 = 0 ∧ ¬ zfr k l F a b) → zB_X8_isFree_40 G C (zipost k l n a b kp F σ) [some (.inr (8, 48)), some (.inl (nI a)), some (.inl (nI b)), some (.inl kp), some (.inl (nI n)), some (.inl x5), some (.inl x6)] [] σ' := by
    intro G C x5 x6 c ea' eb' le' σ' hC hag hM' hpre hnew hx5
    have hl' : ∀ σ2, zagw zms [11] σ' σ2 → σ2 48 13 = nI l := fun σ2 h => by rw [h.2 13 (by decide), hag.2 13 (by decide)]; exact hl
    rcases hx5 with ⟨rfl, hf, hc⟩ | ⟨rfl, hf⟩
    · conv => whnf
      refine br_f (by decide) ?_
      conv => whnf
      rcases hkp with rfl | rfl
      · refine br_t rfl ?_
        conv => whnf
        refine hC _ _ _ _ ((sp_drops (d := d + 25) (nI n) rfl c (n + c) rfl hM').conseq ?_)
        rintro r σ2 ⟨h1, h2⟩
        conv => whnf
        exact ⟨Or.inr rfl, hag.tr h1, Or.inl ⟨rfl, hf, fun h => absurd h (by decide), fun _ => ⟨hl' σ2 h1, hl6, ea', eb', le', h2, fun V => by rw [zmF_pre hpre, hF]⟩⟩⟩
      · refine br_f (by decide) ?_
        conv => whnf
        refine hC _ _ _ _ ((sp_drops (d := d + 25) (from_ := n + 1) (nI n + 1) (nI_1 n) (c - 1) (n + c) (by omega) hM').conseq ?_)
        rintro r σ2 ⟨h1, h2⟩
        conv => whnf
        exact ⟨Or.inr rfl, hag.tr h1, Or.inl ⟨rfl, hf, fun _ => ⟨hl' σ2 h1, hl6, ea', eb', le', h2, fun V => by rw [zmF_more (a := a) (b := b) hpre V 1 (fun x h1 h2 => hnew x h1 (by omega)), hF, Nat.one_mul]⟩, fun h => absurd h (by decide)⟩⟩
    · conv => whnf
      refine br_t rfl ?_
      conv => whnf
      refine hC _ _ _ _ ((sp_drops (d := d + 25) (nI n) rfl c (n + c) rfl hM').conseq ?_)
      rintro r σ2 ⟨h1, h2⟩
      conv => whnf
      exact ⟨Or.inl rfl, hag.tr h1, Or.inr ⟨rfl, hf, hl' σ2 h1, hl6, ea', eb', le', h2, fun V => by rw [zmF_pre hpre, hF]⟩⟩
  have loop : ∀ r c (x6 : Int32) (ea' eb' le' : Nat → Nat) (σ' : zST), c + r = l + 1 → x6 = nI c → zagw zms [11] σ σ' → zmo k (n + c) ea' eb' le' σ' → (∀ x, x < n → ea' x = ea x ∧ eb' x = eb x) → (∀ x, n ≤ x → x < n + c → ea' x = a ∧ eb' x = b) → zWp E (d + 27) zM_X8_isFree (zipost k l n a b kp F σ) 12 [some (.inr (8, 48)), some (.inl (nI a)), some (.inl (nI b)), some (.inl kp), some (.inl (nI n)), some (.inl 1), some (.inl x6)] [] σ' := by
    intro r
    induction r with
    | zero =>
      intro c x6 ea' eb' le' σ' hc hx6 hag hM' hpre hnew
      have hl' : σ' 48 13 = nI l := by rw [hag.2 13 (by decide)]; exact hl
      refine zg_X8_isFree_12 fun G C hG hC => ?_
      conv => whnf
      refine pk_lt l c (fun _ => ?_) (fun _ => by omega) hl' hx6
      refine fin G C _ _ c ea' eb' le' σ' hC hag hM' hpre hnew (Or.inl ⟨rfl, ?_, by omega⟩)
      intro V h1 h2
      have e := zmF_le hM'.2.2.2.2.1 (fun v hv => (hM'.2.2.2.2.2 v hv).2) V
      rw [zmF_more (a := a) (b := b) hpre V c hnew, hF, h1, h2] at e
      simp at e
      omega
    | succ r ih =>
      intro c x6 ea' eb' le' σ' hc hx6 hag hM' hpre hnew
      have hl' : σ' 48 13 = nI l := by rw [hag.2 13 (by decide)]; exact hl
      refine zg_X8_isFree_12 fun G C hG hC => ?_
      conv => whnf
      refine pk_lt l c (fun _ => by omega) (fun _ => ?_) hl' hx6
      conv => whnf
      refine br_f (by decide) ?_
      conv => whnf
      refine hC _ _ _ _ ((sp_leansOn (d := d) hM' ha hb hab).conseq ?_)
      rintro r2 σ2 ⟨h1, (⟨rfl, le2, h2⟩ | ⟨rfl, h2, S, s1, s2, s3⟩)⟩
      · conv => whnf
        refine hG _ _ _ _ (ih (c + 1) _ _ _ le2 σ2 (by omega) (by rw [hx6, nI_1]) (hag.tr h1) h2 (fun x hx => ?_) (fun x hx hx2 => ?_))
        · have : ¬ x = n + c := by omega
          simp only [this, if_false]; exact hpre x hx
        · by_cases e : x = n + c
          · simp [e]
          · simp only [e, if_false]; exact hnew x hx (by omega)
      · conv => whnf
        refine hG _ _ _ _ (zg_X8_isFree_12 fun G C hG hC => ?_)
        have hl2 : σ2 48 13 = nI l := by rw [h1.2 13 (by decide)]; exact hl'
        have hnf : ¬ zfr k l F a b := by
          intro hf
          have q1 := hf S s1 s2
          have q2 := zmF_ge hM'.2.2.2.2.1 s3
          rw [zmF_more (a := a) (b := b) hpre S c hnew, hF, s1, s2] at q2
          simp at q2
          omega
        conv => whnf
        refine pk_lt l (c + 1) (fun _ => ?_) (fun _ => ?_) hl2 (by rw [hx6, nI_1])
        · exact fin G C _ _ c ea' eb' le' σ2 hC (hag.tr h1) h2 hpre hnew (Or.inr ⟨rfl, hnf⟩)
        · conv => whnf
          refine br_t rfl ?_
          exact fin G C _ _ c ea' eb' le' σ2 hC (hag.tr h1) h2 hpre hnew (Or.inr ⟨rfl, hnf⟩)
  refine zg_X8_isFree_0 fun G C hG hC => ?_
  conv => whnf
  dsimp only
  rw [hM.2.2.1]
  exact hG _ _ _ _ (loop (l + 1) 0 _ ea eb le σ (by omega) rfl zagw.rf hM (fun _ _ => ⟨rfl, rfl⟩) (fun x h1 h2 => by omega))
