/-! counting: sets of joints, sets of bars (by their numbers), lists of pairs -/
def zcd (V : Nat → Bool) : Nat := fb_ct V 24
abbrev zor (V W : Nat → Bool) : Nat → Bool := fun x => V x || W x
abbrev zand (V W : Nat → Bool) : Nat → Bool := fun x => V x && W x
theorem fb_ct_mod (V W : Nat → Bool) : ∀ n, fb_ct (zor V W) n + fb_ct (zand V W) n = fb_ct V n + fb_ct W n
  | 0 => rfl
  | n + 1 => by
    have ih := fb_ct_mod V W n
    have e1 : zor V W n = (V n || W n) := rfl
    have e2 : zand V W n = (V n && W n) := rfl
    simp only [fb_ct_succ, e1, e2]
    cases V n <;> cases W n <;> simp <;> omega
theorem zcd_mod (V W : Nat → Bool) : zcd (zor V W) + zcd (zand V W) = zcd V + zcd W := fb_ct_mod V W 24
theorem zcd_sub {V W : Nat → Bool} (h : ∀ x, V x = true → W x = true) : zcd V ≤ zcd W := fb_ct_sub fun k _ => h k
theorem fb_ct_add1 {K : Nat → Bool} {m e : Nat} (he : e < m) (hK : K e = false) : fb_ct (fun x => if x = e then true else K x) m = fb_ct K m + 1 := by
  have h := fb_ct_upd K true he
  rw [hK, if_neg (by decide), if_pos rfl] at h
  exact h
theorem fb_ct_del1 {K : Nat → Bool} {m e : Nat} (he : e < m) (hK : K e = true) : fb_ct (fun x => if x = e then false else K x) m + 1 = fb_ct K m := by
  have h := fb_ct_upd K false he
  rw [hK, if_pos rfl, if_neg (by decide)] at h
  exact h
theorem fb_ct_two {p : Nat → Bool} {a b n : Nat} (ha : a < n) (hb : b < n) (hab : a ≠ b) (pa : p a = true) (pb : p b = true) : 2 ≤ fb_ct p n := by
  have h1 := fb_ct_del1 ha pa
  have h2 : 0 < fb_ct (fun k => if k = a then false else p k) n := fb_ct_pos.mpr ⟨b, hb, by simp [Ne.symm hab, pb]⟩
  omega
theorem zcd_two {V : Nat → Bool} {a b : Nat} (ha : a < 24) (hb : b < 24) (hab : a ≠ b) (pa : V a = true) (pb : V b = true) : 2 ≤ zcd V := fb_ct_two ha hb hab pa pb
theorem fb_ct_exists {p : Nat → Bool} {n : Nat} (h : 2 ≤ fb_ct p n) : ∃ a b, a < b ∧ b < n ∧ p a = true ∧ p b = true := by
  obtain ⟨i, hi, pi, ci⟩ := fb_ct_kth (p := p) (k := 0) (n := n) (by omega)
  obtain ⟨j, hj, pj, cj⟩ := fb_ct_kth (p := p) (k := 1) (n := n) (by omega)
  rcases Nat.lt_trichotomy i j with h1 | h1 | h1
  · exact ⟨i, j, h1, hj, pi, pj⟩
  · subst h1; omega
  · have := fb_ct_mono p (Nat.le_of_lt h1); omega
/-- equal counts of a part: no more -/
theorem fb_ct_same {p q : Nat → Bool} {n : Nat} (h : ∀ k, k < n → p k = true → q k = true) (e : fb_ct q n ≤ fb_ct p n) : ∀ k, k < n → q k = true → p k = true := by
  intro k hk hq
  cases hp : p k
  · have h1 : fb_ct (fun x => if x = k then true else p x) n ≤ fb_ct q n := fb_ct_sub fun x hx hx1 => by
      by_cases e : x = k
      · subst e; exact hq
      · simp [e] at hx1; exact h x hx hx1
    have h2 := fb_ct_add1 hk hp
    omega
  · rfl
/-! bars: ends a b, a set of them K, m of them; how many of K within V -/
def zib (a b : Nat → Nat) (m : Nat) (K : Nat → Bool) (V : Nat → Bool) : Nat := fb_ct (fun x => K x && (V (a x) && V (b x))) m
theorem zb5 : ∀ x0 x1 x2 x3 x4 : Bool, (if (x0 && (x1 && x2)) = true then 1 else 0) + (if (x0 && (x3 && x4)) = true then 1 else 0) ≤ (if (x0 && ((x1 || x3) && (x2 || x4))) = true then 1 else 0) + (if (x0 && ((x1 && x3) && (x2 && x4))) = true then 1 else 0) := by decide
theorem zib_submod (a b : Nat → Nat) (m : Nat) (K V W : Nat → Bool) : zib a b m K V + zib a b m K W ≤ zib a b m K (zor V W) + zib a b m K (zand V W) := by
  unfold zib
  induction m with
  | zero => simp [fb_ct]
  | succ n ih =>
    simp only [fb_ct_succ]
    have : (if (K n && (V (a n) && V (b n))) = true then 1 else 0) + (if (K n && (W (a n) && W (b n))) = true then 1 else 0) ≤ (if (K n && (zor V W (a n) && zor V W (b n))) = true then 1 else 0) + (if (K n && (zand V W (a n) && zand V W (b n))) = true then 1 else 0) := by
      exact zb5 (K n) (V (a n)) (V (b n)) (W (a n)) (W (b n))
    omega
theorem zib_sub {a b : Nat → Nat} {m : Nat} {K K' V W : Nat → Bool} (h : ∀ x, x < m → K x = true → K' x = true) (hV : ∀ x, V x = true → W x = true) : zib a b m K V ≤ zib a b m K' W := by
  refine fb_ct_sub fun x hx h1 => ?_
  simp only [Bool.and_eq_true] at h1 ⊢
  exact ⟨h x hx h1.1, hV _ h1.2.1, hV _ h1.2.2⟩
def zinb (a b : Nat → Nat) (V : Nat → Bool) (x : Nat) : Bool := V (a x) && V (b x)
theorem zib_add {a b : Nat → Nat} {m : Nat} {K V : Nat → Bool} {e : Nat} (he : e < m) (hK : K e = false) : zib a b m (fun x => if x = e then true else K x) V = zib a b m K V + (if zinb a b V e = true then 1 else 0) := by
  unfold zib
  have h := fb_ct_upd (fun x => K x && (V (a x) && V (b x))) (zinb a b V e) he
  have e1 : fb_ct (fun x => (if x = e then true else K x) && (V (a x) && V (b x))) m = fb_ct (fun k => if k = e then zinb a b V e else (K k && (V (a k) && V (b k)))) m := fb_ct_cong fun k _ => by
    by_cases hk : k = e
    · subst hk; simp [zinb]
    · simp [hk]
  rw [e1]
  have h0 : (K e && (V (a e) && V (b e))) = false := by rw [hK]; rfl
  rw [h0, if_neg (by decide)] at h
  exact h
theorem zib_del {a b : Nat → Nat} {m : Nat} {K V : Nat → Bool} {e : Nat} (he : e < m) (hK : K e = true) : zib a b m (fun x => if x = e then false else K x) V + (if zinb a b V e = true then 1 else 0) = zib a b m K V := by
  have h := zib_add (a := a) (b := b) (V := V) (K := fun x => if x = e then false else K x) he (by simp)
  rw [← h]
  congr 1
  funext x
  by_cases hx : x = e
  · subst hx; simp [hK]
  · simp [hx]
/-- sparse by k, l -/
def zsp (a b : Nat → Nat) (m k l : Nat) (K : Nat → Bool) : Prop := ∀ V : Nat → Bool, 2 ≤ zcd V → zib a b m K V + l ≤ k * zcd V
/-- a pair u, w is free over K -/
def zfb (a b : Nat → Nat) (m k l : Nat) (K : Nat → Bool) (u w : Nat) : Prop := ∀ V : Nat → Bool, V u = true → V w = true → zib a b m K V + l + 1 ≤ k * zcd V
/-- bars' ends are joints, and two -/
def zeo (a b : Nat → Nat) (m : Nat) : Prop := ∀ x, x < m → a x < 24 ∧ b x < 24 ∧ a x ≠ b x
theorem zsp_sub {a b : Nat → Nat} {m k l : Nat} {K K' : Nat → Bool} (h : zsp a b m k l K) (hs : ∀ x, x < m → K' x = true → K x = true) : zsp a b m k l K' := fun V hV => Nat.le_trans (Nat.add_le_add_right (zib_sub hs fun _ h => h) _) (h V hV)
theorem zfb_sub {a b : Nat → Nat} {m k l : Nat} {K K' : Nat → Bool} {u w : Nat} (h : zfb a b m k l K u w) (hs : ∀ x, x < m → K' x = true → K x = true) : zfb a b m k l K' u w := fun V h1 h2 => by
  have := h V h1 h2
  have := zib_sub (a := a) (b := b) (V := V) hs fun _ h => h
  omega
theorem zsp_add {a b : Nat → Nat} {m k l : Nat} {K : Nat → Bool} {e : Nat} (he : e < m) (hK : K e = false) (h : zsp a b m k l K) (hf : zfb a b m k l K (a e) (b e)) : zsp a b m k l (fun x => if x = e then true else K x) := by
  intro V hV
  rw [zib_add he hK]
  split
  · rename_i hin
    simp only [zinb, Bool.and_eq_true] at hin
    have := hf V hin.1 hin.2
    omega
  · have := h V hV
    omega
theorem zfb_of_sp {a b : Nat → Nat} {m k l : Nat} {K : Nat → Bool} {e : Nat} (ho : zeo a b m) (he : e < m) (hK : K e = false) (h : zsp a b m k l (fun x => if x = e then true else K x)) : zfb a b m k l K (a e) (b e) := by
  intro V h1 h2
  obtain ⟨o1, o2, o3⟩ := ho e he
  have := h V (zcd_two o1 o2 o3 h1 h2)
  rw [zib_add he hK] at this
  simp [zinb, h1, h2] at this
  omega
theorem zsp_none {a b : Nat → Nat} {m k l : Nat} {K : Nat → Bool} (hl : l ≤ 2 * k) (h : ∀ x, x < m → K x = false) : zsp a b m k l K := by
  intro V hV
  have h0 : zib a b m K V = 0 := fb_ct_zero.mpr fun x hx => by simp [h x hx]
  have : 2 * k ≤ k * zcd V := by rw [Nat.mul_comm]; exact Nat.mul_le_mul_left _ hV
  omega
/-! the plane: 2, 3 -/
def zti (a b : Nat → Nat) (m : Nat) (K V : Nat → Bool) : Prop := 2 * zcd V ≤ zib a b m K V + 3
theorem zfb_not {a b : Nat → Nat} {m : Nat} {K : Nat → Bool} {u w : Nat} (h : ¬ zfb a b m 2 3 K u w) : ∃ V : Nat → Bool, V u = true ∧ V w = true ∧ zti a b m K V := by
  apply Classical.byContradiction
  intro hn
  apply h
  intro V h1 h2
  apply Classical.byContradiction
  intro h3
  exact hn ⟨V, h1, h2, by unfold zti; omega⟩
theorem zfb_no {a b : Nat → Nat} {m : Nat} {K V : Nat → Bool} {u w : Nat} (h1 : V u = true) (h2 : V w = true) (h : zti a b m K V) : ¬ zfb a b m 2 3 K u w := fun hf => by
  have := hf V h1 h2
  unfold zti at h
  omega
theorem zti_meet {a b : Nat → Nat} {m : Nat} {K V W : Nat → Bool} (hs : zsp a b m 2 3 K) (hV : zti a b m K V) (hW : zti a b m K W) (h2 : 2 ≤ zcd (zand V W)) : zti a b m K (zor V W) ∧ zti a b m K (zand V W) := by
  have e1 := zib_submod a b m K V W
  have e2 := zcd_mod V W
  have e3 := hs _ h2
  have e4 : zcd (zand V W) ≤ zcd (zor V W) := zcd_sub fun x h => by simp only [zand, Bool.and_eq_true] at h; simp [zor, h.1]
  have e5 := hs (zor V W) (by omega)
  unfold zti at *
  omega
/-- the least tight set with two joints -/
theorem zti_least {a b : Nat → Nat} {m : Nat} {K : Nat → Bool} {u w : Nat} (hu : u < 24) (hw : w < 24) (huw : u ≠ w) (hs : zsp a b m 2 3 K) (h : ¬ zfb a b m 2 3 K u w) : ∃ T : Nat → Bool, T u = true ∧ T w = true ∧ zti a b m K T ∧ ∀ V : Nat → Bool, V u = true → V w = true → zti a b m K V → ∀ x, x < 24 → T x = true → V x = true := by
  have hex : ∃ c, ∃ V : Nat → Bool, V u = true ∧ V w = true ∧ zti a b m K V ∧ zcd V = c := by
    obtain ⟨V, h1, h2, h3⟩ := zfb_not h
    exact ⟨_, V, h1, h2, h3, rfl⟩
  obtain ⟨c, ⟨T, h1, h2, h3, h4⟩, hmin⟩ := pk_least (fun c => ∃ V : Nat → Bool, V u = true ∧ V w = true ∧ zti a b m K V ∧ zcd V = c) hex
  refine ⟨T, h1, h2, h3, fun V g1 g2 g3 => ?_⟩
  have hu2 : zand T V u = true := by simp [zand, h1, g1]
  have hw2 : zand T V w = true := by simp [zand, h2, g2]
  have ht := (zti_meet hs h3 g3 (zcd_two hu hw huw hu2 hw2)).2
  have hge : c ≤ zcd (zand T V) := by
    apply Classical.byContradiction
    intro hlt
    exact hmin (zcd (zand T V)) (by omega) ⟨zand T V, hu2, hw2, ht, rfl⟩
  have := fb_ct_same (p := zand T V) (q := T) (n := 24) (fun k _ hk => by simp only [zand, Bool.and_eq_true] at hk; exact hk.1) (by show zcd T ≤ zcd (zand T V); omega)
  intro x hx hxT
  have h5 := this x hx hxT
  simp only [zand, Bool.and_eq_true] at h5
  exact h5.2
