/-! three tight sets; pieces -/
theorem zclu {a b : Nat → Nat} {m : Nat} (ho : zeo a b m) {K : Nat → Bool} (hs : zsp a b m 2 3 K) {u w c : Nat} (hu : u < 24) (hw : w < 24) (hc : c < 24) (huw : u ≠ w) (huc : u ≠ c) (hwc : w ≠ c) (h1 : ¬ zfb a b m 2 3 K u w) (h2 : ¬ zfb a b m 2 3 K u c) (h3 : ¬ zfb a b m 2 3 K w c) : ∃ V : Nat → Bool, V u = true ∧ V w = true ∧ V c = true ∧ zti a b m K V := by
  obtain ⟨V1, a1, a2, a3⟩ := zfb_not h1
  obtain ⟨V2, b1, b2, b3⟩ := zfb_not h2
  obtain ⟨V3, c1, c2, c3⟩ := zfb_not h3
  by_cases k12 : 2 ≤ zcd (zand V1 V2)
  · exact ⟨zor V1 V2, by simp [zor, a1], by simp [zor, a2], by simp [zor, b2], (zti_meet hs a3 b3 k12).1⟩
  by_cases k13 : 2 ≤ zcd (zand V1 V3)
  · exact ⟨zor V1 V3, by simp [zor, a1], by simp [zor, a2], by simp [zor, c2], (zti_meet hs a3 c3 k13).1⟩
  by_cases k23 : 2 ≤ zcd (zand V2 V3)
  · exact ⟨zor V2 V3, by simp [zor, b1], by simp [zor, c1], by simp [zor, b2], (zti_meet hs b3 c3 k23).1⟩
  refine ⟨zor (zor V1 V2) V3, by simp [zor, a1], by simp [zor, a2], by simp [zor, b2], ?_⟩
  have m1 := zcd_mod V1 V2
  have m2 := zcd_mod (zor V1 V2) V3
  have g1 : 1 ≤ zcd (zand V1 V2) := fb_ct_pos.mpr ⟨u, hu, by simp [zand, a1, b1]⟩
  have g2 : 2 ≤ zcd (zand (zor V1 V2) V3) := zcd_two hw hc hwc (by simp [zand, zor, a2, c1]) (by simp [zand, zor, b2, c2])
  have excl : ∀ (X Y : Nat → Bool), ¬ 2 ≤ zcd (zand X Y) → ∀ x, x < m → ¬ ((K x && (X (a x) && X (b x))) = true ∧ (K x && (Y (a x) && Y (b x))) = true) := by
    intro X Y hXY x hx ⟨q1, q2⟩
    simp only [Bool.and_eq_true] at q1 q2
    obtain ⟨o1, o2, o3⟩ := ho x hx
    exact hXY (zcd_two o1 o2 o3 (by simp [zand, q1.2.1, q2.2.1]) (by simp [zand, q1.2.2, q2.2.2]))
  have s1 : zib a b m K V1 + zib a b m K V2 = fb_ct (fun x => (K x && (V1 (a x) && V1 (b x))) || (K x && (V2 (a x) && V2 (b x)))) m := (fb_ct_or (excl V1 V2 k12)).symm
  have s2 : fb_ct (fun x => ((K x && (V1 (a x) && V1 (b x))) || (K x && (V2 (a x) && V2 (b x)))) || (K x && (V3 (a x) && V3 (b x)))) m = fb_ct (fun x => (K x && (V1 (a x) && V1 (b x))) || (K x && (V2 (a x) && V2 (b x)))) m + zib a b m K V3 := by
    refine fb_ct_or (fun x hx h => ?_)
    rcases Bool.or_eq_true _ _ ▸ h.1 with q | q
    · exact excl V1 V3 k13 x hx ⟨q, h.2⟩
    · exact excl V2 V3 k23 x hx ⟨q, h.2⟩
  have s3 : fb_ct (fun x => ((K x && (V1 (a x) && V1 (b x))) || (K x && (V2 (a x) && V2 (b x)))) || (K x && (V3 (a x) && V3 (b x)))) m ≤ zib a b m K (zor (zor V1 V2) V3) := by
    refine fb_ct_sub fun x hx h => ?_
    simp only [Bool.or_eq_true, Bool.and_eq_true, zor] at h ⊢
    rcases h with (h | h) | h
    · exact ⟨h.1, Or.inl (Or.inl h.2.1), Or.inl (Or.inl h.2.2)⟩
    · exact ⟨h.1, Or.inl (Or.inr h.2.1), Or.inl (Or.inr h.2.2)⟩
    · exact ⟨h.1, Or.inr h.2.1, Or.inr h.2.2⟩
  unfold zti at *
  omega
/-- the joints that move with u and w as one -/
def zas (a b : Nat → Nat) (m : Nat) (K : Nat → Bool) (u w c : Nat) : Prop := ∃ V : Nat → Bool, V u = true ∧ V w = true ∧ V c = true ∧ zti a b m K V
theorem zas_iff {a b : Nat → Nat} {m : Nat} (ho : zeo a b m) {K : Nat → Bool} (hs : zsp a b m 2 3 K) {u w c : Nat} (hu : u < 24) (hw : w < 24) (hc : c < 24) (huw : u ≠ w) (h1 : ¬ zfb a b m 2 3 K u w) : zas a b m K u w c ↔ (c = u ∨ ¬ zfb a b m 2 3 K u c) ∧ (c = w ∨ ¬ zfb a b m 2 3 K w c) := by
  constructor
  · rintro ⟨V, v1, v2, v3, v4⟩
    exact ⟨Or.inr (zfb_no v1 v3 v4), Or.inr (zfb_no v2 v3 v4)⟩
  · rintro ⟨q1, q2⟩
    by_cases e1 : c = u
    · subst e1
      obtain ⟨V, v1, v2, v3⟩ := zfb_not h1
      exact ⟨V, v1, v2, v1, v3⟩
    by_cases e2 : c = w
    · subst e2
      obtain ⟨V, v1, v2, v3⟩ := zfb_not h1
      exact ⟨V, v1, v2, v2, v3⟩
    exact zclu ho hs hu hw hc huw (fun e => e1 e.symm) (fun e => e2 e.symm) h1 (q1.resolve_left e1) (q2.resolve_left e2)
theorem zas_swap {a b : Nat → Nat} {m : Nat} {K : Nat → Bool} (hs : zsp a b m 2 3 K) {u w x y z : Nat} (hu : u < 24) (hw : w < 24) (huw : u ≠ w) (hx : zas a b m K u w x) (hy : zas a b m K u w y) (hz : zas a b m K u w z) : zas a b m K x y z := by
  obtain ⟨V1, a1, a2, a3, a4⟩ := hx
  obtain ⟨V2, b1, b2, b3, b4⟩ := hy
  obtain ⟨V3, c1, c2, c3, c4⟩ := hz
  have t12 := (zti_meet hs a4 b4 (zcd_two hu hw huw (by simp [zand, a1, b1]) (by simp [zand, a2, b2]))).1
  have t123 := (zti_meet hs t12 c4 (zcd_two hu hw huw (by simp [zand, zor, a1, c1]) (by simp [zand, zor, a2, c2]))).1
  exact ⟨_, by simp [zor, a3], by simp [zor, b3], by simp [zor, c3], t123⟩
theorem zas_left {a b : Nat → Nat} {m : Nat} {K : Nat → Bool} {u w : Nat} (h1 : ¬ zfb a b m 2 3 K u w) : zas a b m K u w u ∧ zas a b m K u w w := by
  obtain ⟨V, v1, v2, v3⟩ := zfb_not h1
  exact ⟨⟨V, v1, v2, v1, v3⟩, ⟨V, v1, v2, v2, v3⟩⟩
theorem zas_close {a b : Nat → Nat} {m : Nat} {K : Nat → Bool} {u w c : Nat} (h : zas a b m K u w c) : ¬ zfb a b m 2 3 K u w ∧ ¬ zfb a b m 2 3 K u c ∧ ¬ zfb a b m 2 3 K w c := by
  obtain ⟨V, v1, v2, v3, v4⟩ := h
  exact ⟨zfb_no v1 v2 v4, zfb_no v1 v3 v4, zfb_no v2 v3 v4⟩
/-- two clusters with two joints in common are one -/
theorem zas_same {a b : Nat → Nat} {m : Nat} {K : Nat → Bool} (hs : zsp a b m 2 3 K) {u w x y z : Nat} (hu : u < 24) (hw : w < 24) (huw : u ≠ w) (hx4 : x < 24) (hy4 : y < 24) (hxy : x ≠ y) (hx : zas a b m K u w x) (hy : zas a b m K u w y) : zas a b m K u w z ↔ zas a b m K x y z := by
  have h0 := (zas_close hx).1
  have hl := zas_left h0
  constructor
  · exact fun hz => zas_swap hs hu hw huw hx hy hz
  · intro hz
    exact zas_swap hs hx4 hy4 hxy (zas_swap hs hu hw huw hx hy hl.1) (zas_swap hs hu hw huw hx hy hl.2) hz
/-! pieces: by 1, 1 -/
def zton (a b : Nat → Nat) (m : Nat) (K V : Nat → Bool) : Prop := zcd V ≤ zib a b m K V + 1
theorem zib_le1 {a b : Nat → Nat} {m : Nat} (ho : zeo a b m) {K V : Nat → Bool} (h : zcd V ≤ 1) : zib a b m K V = 0 := by
  refine fb_ct_zero.mpr fun x hx => ?_
  cases hq : (K x && (V (a x) && V (b x)))
  · rfl
  · simp only [Bool.and_eq_true] at hq
    obtain ⟨o1, o2, o3⟩ := ho x hx
    have := zcd_two o1 o2 o3 hq.2.1 hq.2.2
    omega
theorem zton_not {a b : Nat → Nat} {m : Nat} {K : Nat → Bool} {u w : Nat} (h : ¬ zfb a b m 1 1 K u w) : ∃ V : Nat → Bool, V u = true ∧ V w = true ∧ zton a b m K V := by
  apply Classical.byContradiction
  intro hn
  apply h
  intro V h1 h2
  apply Classical.byContradiction
  intro h3
  exact hn ⟨V, h1, h2, by unfold zton; omega⟩
theorem zton_join {a b : Nat → Nat} {m : Nat} (ho : zeo a b m) {K V W : Nat → Bool} (hs : zsp a b m 1 1 K) (hV : zton a b m K V) (hW : zton a b m K W) {u : Nat} (hu : u < 24) (h1 : V u = true) (h2 : W u = true) : zton a b m K (zor V W) := by
  have e1 := zib_submod a b m K V W
  have e2 := zcd_mod V W
  have e0 : 1 ≤ zcd (zand V W) := fb_ct_pos.mpr ⟨u, hu, by simp [zand, h1, h2]⟩
  have e3 : zib a b m K (zand V W) + 1 ≤ zcd (zand V W) := by
    by_cases h : 2 ≤ zcd (zand V W)
    · have := hs _ h; omega
    · rw [zib_le1 ho (by omega)]; omega
  unfold zton at *
  omega
theorem zton_piece {a b : Nat → Nat} {m : Nat} (ho : zeo a b m) {K V Q : Nat → Bool} (hs : zsp a b m 1 1 K) (hV : zton a b m K V) (hQ : ∀ x, Q x = true → V x = true) (hcl : ∀ x, x < m → K x = true → Q (a x) = Q (b x)) (hne : ∃ x, x < 24 ∧ Q x = true) : zib a b m K Q + 1 = zcd Q := by
  let R : Nat → Bool := fun x => V x && !Q x
  have e1 : zib a b m K V ≤ zib a b m K Q + zib a b m K R := by
    have h1 : zib a b m K Q + zib a b m K R = fb_ct (fun x => (K x && (Q (a x) && Q (b x))) || (K x && (R (a x) && R (b x)))) m := (fb_ct_or (fun x hx h => by
      simp only [Bool.and_eq_true, R, Bool.not_eq_true'] at h
      rw [h.1.2.1] at h
      exact absurd h.2.2.1.2 (by decide))).symm
    rw [h1]
    refine fb_ct_sub fun x hx h => ?_
    simp only [Bool.and_eq_true, Bool.or_eq_true, R, Bool.not_eq_true'] at h ⊢
    have := hcl x hx h.1
    cases hq : Q (a x)
    · right
      rw [hq] at this
      exact ⟨h.1, ⟨h.2.1, rfl⟩, h.2.2, this.symm⟩
    · left
      rw [hq] at this
      exact ⟨h.1, rfl, this.symm⟩
  have e2 : zcd V = zcd Q + zcd R := by
    have h1 : zcd (fun x => Q x || R x) = zcd Q + zcd R := fb_ct_or (fun x hx h => by
      simp only [R, Bool.and_eq_true, Bool.not_eq_true'] at h
      rw [h.1] at h
      exact absurd h.2.2 (by decide))
    rw [← h1]
    refine fb_ct_cong fun x _ => ?_
    simp only [R]
    cases hq : Q x
    · simp
    · simp [hQ x hq]
  have e3 : zib a b m K R ≤ zcd R := by
    by_cases h : 2 ≤ zcd R
    · have := hs _ h; omega
    · rw [zib_le1 ho (by omega)]; omega
  have e4 : zib a b m K Q + 1 ≤ zcd Q := by
    by_cases h : 2 ≤ zcd Q
    · have := hs _ h; omega
    · have : 1 ≤ zcd Q := fb_ct_pos.mpr hne
      rw [zib_le1 ho (by omega)]; omega
  unfold zton at hV
  omega
theorem zton_bar {a b : Nat → Nat} {m : Nat} (ho : zeo a b m) {K : Nat → Bool} {e : Nat} (he : e < m) (h : K e = true ∨ ¬ zfb a b m 1 1 K (a e) (b e)) : ∃ V : Nat → Bool, V (a e) = true ∧ V (b e) = true ∧ zton a b m K V := by
  rcases h with h | h
  · refine ⟨fun x => decide (x = a e) || decide (x = b e), by simp, by simp, ?_⟩
    have h1 : 1 ≤ zib a b m K (fun x => decide (x = a e) || decide (x = b e)) := fb_ct_pos.mpr ⟨e, he, by simp [h]⟩
    have h2 : zcd (fun x => decide (x = a e) || decide (x = b e)) ≤ 2 := by
      obtain ⟨o1, o2, o3⟩ := ho e he
      have g : ∀ u, u < 24 → ∀ w, w < 24 → fb_ct (fun x => decide (x = u) || decide (x = w)) 24 ≤ 2 := by decide +kernel
      exact g _ o1 _ o2
    unfold zton
    omega
  · exact zton_not h
