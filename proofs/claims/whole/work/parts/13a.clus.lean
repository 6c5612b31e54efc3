/-! clusters, as a list of their two least joints -/
def zmk0 (p : Nat → Bool) : Nat → Int32
  | 0 => 0
  | n + 1 => if p n = true then zmk0 p n ||| ((1 : Int32) <<< (nI n &&& 31)) else zmk0 p n
/-- the set of joints as a number -/
def zmk (p : Nat → Bool) : Int32 := zmk0 p 24
theorem zmk0_bt (p : Nat → Bool) : ∀ n, n ≤ 24 → ∀ i, i < 32 → bt (zmk0 p n) i = (decide (i < n) && p i)
  | 0, _, i, hi => by show bt 0 i = _; rw [b_0]; simp
  | n + 1, hn, i, hi => by
    have ih := zmk0_bt p n (by omega) i hi
    unfold zmk0
    split
    · rename_i h
      rw [b_or, ih, zsh1 n (by omega) i hi]
      by_cases e : i = n
      · subst e; simp [h]
      · by_cases e2 : i < n
        · simp [e, e2, Nat.lt_succ_of_lt e2]
        · have : ¬ i < n + 1 := by omega
          simp [e, e2, this]
    · rename_i h
      rw [ih]
      by_cases e : i = n
      · subst e; simp [h]
      · by_cases e2 : i < n
        · simp [e2, Nat.lt_succ_of_lt e2]
        · have : ¬ i < n + 1 := by omega
          simp [e2, this]
theorem zmk_bt (p : Nat → Bool) {i : Nat} (hi : i < 24) : bt (zmk p) i = p i := by
  unfold zmk; rw [zmk0_bt p 24 (Nat.le_refl _) i (by omega)]; simp [hi]
theorem zmk_hi (p : Nat → Bool) {i : Nat} (h1 : 24 ≤ i) (h2 : i < 32) : bt (zmk p) i = false := by
  unfold zmk; rw [zmk0_bt p 24 (Nat.le_refl _) i h2]
  have : ¬ i < 24 := by omega
  simp [this]
theorem zmk_eq {s : Int32} {p : Nat → Bool} (h1 : ∀ i, i < 24 → bt s i = p i) (h2 : ∀ i, 24 ≤ i → i < 32 → bt s i = false) : s = zmk p := zext24 (fun x hx => by rw [h1 x hx, zmk_bt p hx]) h2 (fun x a b => zmk_hi p a b)
theorem zmk_cong {p q : Nat → Bool} (h : ∀ i, i < 24 → p i = q i) : zmk p = zmk q := zmk_eq (fun i hi => by rw [zmk_bt p hi, h i hi]) (fun i a b => zmk_hi p a b)
/-- two joints move as one -/
noncomputable def zbn (A : zAS) (u w : Nat) : Bool := @decide (¬ zfb (zaa A) (zab A) (zam A) 2 3 (zK A false 2 3) u w) (Classical.propDecidable _)
theorem zbn_t {A : zAS} {u w : Nat} : zbn A u w = true ↔ ¬ zfb (zaa A) (zab A) (zam A) 2 3 (zK A false 2 3) u w := ⟨fun h => @of_decide_eq_true _ (Classical.propDecidable _) h, fun h => @decide_eq_true _ (Classical.propDecidable _) h⟩
theorem zbn_f {A : zAS} {u w : Nat} : zbn A u w = false ↔ zfb (zaa A) (zab A) (zam A) 2 3 (zK A false 2 3) u w := by
  constructor
  · intro h
    apply Classical.byContradiction
    intro hn
    rw [zbn_t.mpr hn] at h; cases h
  · intro h
    cases hq : zbn A u w
    · rfl
    · exact absurd h (zbn_t.mp hq)
theorem zfb_comm {a b : Nat → Nat} {m k l : Nat} {K : Nat → Bool} {u w : Nat} (h : zfb a b m k l K u w) : zfb a b m k l K w u := fun V h1 h2 => h V h2 h1
theorem zbn_comm (A : zAS) (u w : Nat) : zbn A u w = zbn A w u := by
  cases h : zbn A w u
  · exact zbn_f.mpr (zfb_comm (zbn_f.mp h))
  · exact zbn_t.mpr (fun q => zbn_t.mp h (zfb_comm q))
noncomputable def zcS (A : zAS) (u w x : Nat) : Bool := decide (x < zan A) && ((decide (x = u) || zbn A u x) && (decide (x = w) || zbn A w x))
noncomputable def zfirst (A : zAS) (u w : Nat) : Bool := zbn A u w && decide (fb_ct (fun c => zcS A u w c && !decide (c = u)) w = 0)
noncomputable def zcw (A : zAS) (u : Nat) : Nat → List (Nat × Nat)
  | 0 => []
  | w + 1 => if (decide (u < w) && zfirst A u w) = true then zcw A u w ++ [(u, w)] else zcw A u w
noncomputable def zcu (A : zAS) : Nat → List (Nat × Nat)
  | 0 => []
  | u + 1 => zcu A u ++ zcw A u (zan A)
theorem zcw_mem (A : zAS) (u : Nat) (p : Nat × Nat) : ∀ w, p ∈ zcw A u w ↔ p.1 = u ∧ u < p.2 ∧ p.2 < w ∧ zfirst A u p.2 = true
  | 0 => ⟨fun h => absurd h List.not_mem_nil, fun h => absurd h.2.2.1 (Nat.not_lt_zero _)⟩
  | w + 1 => by
    have ih := zcw_mem A u p w
    unfold zcw
    split
    · rename_i h
      simp only [Bool.and_eq_true, decide_eq_true_eq] at h
      rw [List.mem_append, ih, List.mem_singleton]
      constructor
      · rintro (⟨h1, h2, h3, h4⟩ | h1)
        · exact ⟨h1, h2, by omega, h4⟩
        · subst h1; exact ⟨rfl, h.1, Nat.lt_succ_self _, h.2⟩
      · rintro ⟨h1, h2, h3, h4⟩
        by_cases e : p.2 = w
        · exact Or.inr (Prod.ext h1 e)
        · exact Or.inl ⟨h1, h2, by omega, h4⟩
    · rename_i h
      rw [ih]
      constructor
      · rintro ⟨h1, h2, h3, h4⟩; exact ⟨h1, h2, by omega, h4⟩
      · rintro ⟨h1, h2, h3, h4⟩
        refine ⟨h1, h2, ?_, h4⟩
        by_cases e : p.2 = w
        · subst e; exact absurd (by simp [h2, h4]) h
        · omega
theorem zcu_mem (A : zAS) (p : Nat × Nat) : ∀ u, p ∈ zcu A u ↔ p.1 < u ∧ p.1 < p.2 ∧ p.2 < zan A ∧ zfirst A p.1 p.2 = true
  | 0 => ⟨fun h => absurd h List.not_mem_nil, fun h => absurd h.1 (Nat.not_lt_zero _)⟩
  | u + 1 => by
    have ih := zcu_mem A p u
    unfold zcu
    rw [List.mem_append, ih, zcw_mem]
    constructor
    · rintro (⟨h1, h2, h3, h4⟩ | ⟨h1, h2, h3, h4⟩)
      · exact ⟨by omega, h2, h3, h4⟩
      · subst h1; exact ⟨Nat.lt_succ_self _, h2, h3, h4⟩
    · rintro ⟨h1, h2, h3, h4⟩
      by_cases e : p.1 = u
      · subst e; exact Or.inr ⟨rfl, h2, h3, h4⟩
      · exact Or.inl ⟨by omega, h2, h3, h4⟩
theorem zcS_as {A : zAS} (hvd : zvd A) {u w x : Nat} (hu : u < zan A) (hw : w < zan A) (huw : u ≠ w) (hb : zbn A u w = true) : zcS A u w x = true ↔ x < zan A ∧ zas (zaa A) (zab A) (zam A) (zK A false 2 3) u w x := by
  have hn := hvd.1
  unfold zcS
  simp only [Bool.and_eq_true, Bool.or_eq_true, decide_eq_true_eq]
  refine and_congr_right fun hx => ?_
  rw [zas_iff hvd.eo (zK_sp (by decide)) (by omega) (by omega) (by omega) huw (zbn_t.mp hb), zbn_t, zbn_t]
/-- a pair tells a new cluster just if no cluster so far has both -/
theorem zfirst_iff {A : zAS} (hvd : zvd A) {u w : Nat} (huw : u < w) (hw : w < zan A) : zfirst A u w = true ↔ zbn A u w = true ∧ ∀ p, p ∈ zcu A u ++ zcw A u w → ¬ (zcS A p.1 p.2 u = true ∧ zcS A p.1 p.2 w = true) := by
  have hn := hvd.1
  have hsp : zsp (zaa A) (zab A) (zam A) 2 3 (zK A false 2 3) := zK_sp (by decide)
  have hmem : ∀ p, p ∈ zcu A u ++ zcw A u w ↔ (p.1 < u ∧ p.1 < p.2 ∧ p.2 < zan A ∧ zfirst A p.1 p.2 = true) ∨ (p.1 = u ∧ u < p.2 ∧ p.2 < w ∧ zfirst A u p.2 = true) := fun p => by rw [List.mem_append, zcu_mem, zcw_mem]
  constructor
  · intro hf
    have hf0 := hf
    unfold zfirst at hf
    simp only [Bool.and_eq_true, decide_eq_true_eq] at hf
    obtain ⟨hb, hz⟩ := hf
    refine ⟨hb, fun p hp ⟨hpu, hpw⟩ => ?_⟩
    have hz := fb_ct_zero.mp hz
    have hp' := (hmem p).mp hp
    have hp1 : p.1 < p.2 ∧ p.2 < zan A ∧ zbn A p.1 p.2 = true := by
      rcases hp' with ⟨h1, h2, h3, h4⟩ | ⟨h1, h2, h3, h4⟩
      · unfold zfirst at h4
        simp only [Bool.and_eq_true] at h4
        exact ⟨h2, h3, h4.1⟩
      · unfold zfirst at h4
        simp only [Bool.and_eq_true] at h4
        rw [h1]; exact ⟨h2, by omega, h4.1⟩
    have hpu' := ((zcS_as hvd (by omega) hp1.2.1 (by omega) hp1.2.2).mp hpu).2
    have hpw' := ((zcS_as hvd (by omega) hp1.2.1 (by omega) hp1.2.2).mp hpw).2
    have hl := zas_left (zbn_t.mp hp1.2.2)
    have g1 := (zas_same hsp (by omega) (by omega) (by omega) (by omega) (by omega) (by omega) hpu' hpw').mp hl.1
    have g2 := (zas_same hsp (by omega) (by omega) (by omega) (by omega) (by omega) (by omega) hpu' hpw').mp hl.2
    rcases hp' with ⟨h1, h2, h3, h4⟩ | ⟨h1, h2, h3, h4⟩
    · have := hz p.1 (by omega)
      have hc : zcS A u w p.1 = true := (zcS_as hvd (by omega) hw (by omega) hb).mpr ⟨by omega, g1⟩
      rw [hc] at this
      have hne : ¬ p.1 = u := by omega
      simp [hne] at this
    · have := hz p.2 (by omega)
      have hc : zcS A u w p.2 = true := (zcS_as hvd (by omega) hw (by omega) hb).mpr ⟨by omega, g2⟩
      rw [hc] at this
      have hne : ¬ p.2 = u := by omega
      simp [hne] at this
  · rintro ⟨hb, hno⟩
    unfold zfirst
    simp only [Bool.and_eq_true, decide_eq_true_eq]
    refine ⟨hb, fb_ct_zero.mpr fun c hc => ?_⟩
    cases hq : (zcS A u w c && !decide (c = u))
    · rfl
    · exfalso
      simp only [Bool.and_eq_true, Bool.not_eq_true', decide_eq_false_iff_not] at hq
      obtain ⟨hcS, hcu⟩ := hq
      have hl := zas_left (zbn_t.mp hb)
      have hSu : zcS A u w u = true := (zcS_as hvd (by omega) hw (by omega) hb).mpr ⟨by omega, hl.1⟩
      have hSw : zcS A u w w = true := (zcS_as hvd (by omega) hw (by omega) hb).mpr ⟨hw, hl.2⟩
      -- the two least of S
      have h2 : 2 ≤ fb_ct (zcS A u w) (zan A) := fb_ct_two (by omega) hw (by omega) hSu hSw
      obtain ⟨u', hu', su', cu'⟩ := fb_ct_kth (p := zcS A u w) (k := 0) (n := zan A) (by omega)
      obtain ⟨w', hw', sw', cw'⟩ := fb_ct_kth (p := zcS A u w) (k := 1) (n := zan A) (by omega)
      have huw' : u' < w' := by
        rcases Nat.lt_trichotomy u' w' with h | h | h
        · exact h
        · subst h; omega
        · have := fb_ct_mono (zcS A u w) (Nat.le_of_lt h); omega
      have least : ∀ x, zcS A u w x = true → u' ≤ x := fun x hx => by
        apply Classical.byContradiction
        intro hlt
        have := fb_ct_mono (zcS A u w) (m := x + 1) (n := u') (by omega)
        rw [fb_ct_succ, hx] at this
        simp at this
        omega
      have second : ∀ x, zcS A u w x = true → x ≠ u' → w' ≤ x := fun x hx hne => by
        apply Classical.byContradiction
        intro hlt
        have := fb_ct_two (p := zcS A u w) (n := w') (a := u') (b := x) huw' (by omega) (fun e => hne e.symm) su' hx
        omega
      have su := ((zcS_as hvd (by omega) hw (by omega) hb).mp su').2
      have sw := ((zcS_as hvd (by omega) hw (by omega) hb).mp sw').2
      have hsame : ∀ z, zas (zaa A) (zab A) (zam A) (zK A false 2 3) u w z ↔ zas (zaa A) (zab A) (zam A) (zK A false 2 3) u' w' z := fun z => zas_same hsp (by omega) (by omega) (by omega) (by omega) (by omega) (by omega) su sw
      have hb' : zbn A u' w' = true := zbn_t.mpr (zas_close ((hsame u).mp hl.1)).1
      have hS' : ∀ z, zcS A u' w' z = true ↔ zcS A u w z = true := fun z => by
        rw [zcS_as hvd (by omega) hw' (by omega) hb', zcS_as hvd (by omega) hw (by omega) hb, hsame z]
      have hf' : zfirst A u' w' = true := by
        unfold zfirst
        simp only [Bool.and_eq_true, decide_eq_true_eq]
        refine ⟨hb', fb_ct_zero.mpr fun z hz => ?_⟩
        cases hq : (zcS A u' w' z && !decide (z = u'))
        · rfl
        · simp only [Bool.and_eq_true, Bool.not_eq_true', decide_eq_false_iff_not] at hq
          have := second z ((hS' z).mp hq.1) hq.2
          omega
      have h1 := least u hSu
      have hin : (u', w') ∈ zcu A u ++ zcw A u w := by
        rw [hmem]
        by_cases e : u' = u
        · refine Or.inr ⟨e, by omega, ?_, by rw [← e]; exact hf'⟩
          have := second c hcS (by omega)
          omega
        · exact Or.inl ⟨by omega, huw', hw', hf'⟩
      exact hno _ hin ⟨(hS' u).mpr hSu, (hS' w).mpr hSw⟩
theorem zcw_len (A : zAS) (u : Nat) : ∀ w, (zcw A u w).length ≤ w - (u + 1)
  | 0 => by simp [zcw]
  | w + 1 => by
    have ih := zcw_len A u w
    unfold zcw
    split
    · rename_i h
      simp only [Bool.and_eq_true, decide_eq_true_eq] at h
      rw [List.length_append]; simp; omega
    · omega
theorem zcu_len (A : zAS) : ∀ u, u ≤ zan A → 2 * (zcu A u).length + u * u ≤ 2 * u * zan A - u
  | 0, _ => by simp [zcu]
  | u + 1, h => by
    have ih := zcu_len A u (by omega)
    have h1 := zcw_len A u (zan A)
    unfold zcu
    rw [List.length_append]
    have h2 : (u + 1) * (u + 1) = u * u + 2 * u + 1 := by rw [Nat.add_mul, Nat.mul_add]; omega
    have h3 : 2 * (u + 1) * zan A = 2 * u * zan A + 2 * zan A := by rw [Nat.mul_add, Nat.add_mul]
    have h4 : u * u + u ≤ 2 * u * zan A := by
      have : u * (u + 1) ≤ u * zan A := Nat.mul_le_mul_left _ (by omega)
      have e : u * (u + 1) = u * u + u := by rw [Nat.mul_add]; omega
      have e2 : 2 * u * zan A = u * zan A + u * zan A := by rw [Nat.mul_assoc, Nat.two_mul]
      omega
    omega
theorem zcw_mono (A : zAS) (u : Nat) : ∀ r w, (zcw A u w).length ≤ (zcw A u (w + r)).length
  | 0, w => Nat.le_refl _
  | r + 1, w => by
    have ih := zcw_mono A u r w
    have e : zcw A u (w + (r + 1)) = if (decide (u < w + r) && zfirst A u (w + r)) = true then zcw A u (w + r) ++ [(u, w + r)] else zcw A u (w + r) := rfl
    rw [e]
    split
    · rw [List.length_append]; omega
    · exact ih
theorem zcu_lim {A : zAS} (hvd : zvd A) {u : Nat} (hu : u ≤ zan A) : (zcu A u).length ≤ 276 := by
  have hn := hvd.1
  have h1 := zcu_len A u hu
  have h3 : 2 * u * zan A ≤ 2 * u * 24 := Nat.mul_le_mul_left _ hn
  have h4 : ∀ v, v < 25 → 2 * v * 24 - v ≤ 552 + v * v := by decide +kernel
  have := h4 u (by omega)
  omega
theorem zcu_le {A : zAS} (hvd : zvd A) {u w : Nat} (hu : u < zan A) (hw : w ≤ zan A) : (zcu A u ++ zcw A u w).length ≤ 276 := by
  have h1 := zcu_lim hvd (u := u + 1) (by omega)
  have h2 := zcw_mono A u (zan A - w) w
  rw [show w + (zan A - w) = zan A by omega] at h2
  have e : zcu A (u + 1) = zcu A u ++ zcw A u (zan A) := rfl
  rw [e, List.length_append] at h1
  rw [List.length_append]
  omega
theorem zcu_le2 {A : zAS} (hvd : zvd A) : (zcu A (zan A)).length ≤ 276 := zcu_lim hvd (Nat.le_refl _)
/-- within: strictly fewer while a new one comes -/
theorem zcu_lt {A : zAS} (hvd : zvd A) {u w : Nat} (hu : u < w) (hw : w < zan A) (hf : zfirst A u w = true) : (zcu A u ++ zcw A u w).length < 276 := by
  have h1 := zcu_le hvd (u := u) (w := w + 1) (by omega) (by omega)
  have e : zcw A u (w + 1) = if (decide (u < w) && zfirst A u w) = true then zcw A u w ++ [(u, w)] else zcw A u w := rfl
  rw [if_pos (by simp [hu, hf])] at e
  rw [e, List.length_append, List.length_append] at h1
  rw [List.length_append]
  simp at h1
  omega
