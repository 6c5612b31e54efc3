/-! edges that lean on one of their ends -/
def zld (le : Nat → Nat) (n v : Nat) : Nat := fb_ct (fun x => decide (le x = v)) n
theorem fb_sm_one {u N c : Nat} (hu : u < N) : fb_sm (fun v => if v = u then c else 0) N = c := by
  have h := fb_sm_upd (fun _ => 0) c hu
  rw [fb_sm_const] at h
  simpa using h
theorem zld_sum {le : Nat → Nat} (V : Nat → Bool) : ∀ n, (∀ x, x < n → le x < 24) → fb_ct (fun x => V (le x)) n = fb_sm (fun v => if V v = true then zld le n v else 0) 24
  | 0, _ => by
    have : fb_sm (fun v => if V v = true then zld le 0 v else 0) 24 = fb_sm (fun _ => 0) 24 := fb_sm_cong fun v _ => by simp [zld, fb_ct]
    rw [this, fb_sm_const]; rfl
  | n + 1, h => by
    have ih := zld_sum V n (fun x hx => h x (by omega))
    have e : fb_sm (fun v => if V v = true then zld le (n + 1) v else 0) 24 = fb_sm (fun v => (if V v = true then zld le n v else 0) + (if v = le n then (if V (le n) = true then 1 else 0) else 0)) 24 := fb_sm_cong fun v _ => by
      unfold zld
      rw [fb_ct_succ]
      by_cases e : v = le n
      · subst e; cases V (le n) <;> simp
      · have : ¬ le n = v := fun q => e q.symm
        cases V v <;> simp [e, this]
    rw [e, fb_sm_add, ← ih, fb_sm_one (h n (by omega)), fb_ct_succ]
theorem zld_up {le : Nat → Nat} {n x to : Nat} (v : Nat) (hx : x < n) : zld (fun y => if y = x then to else le y) n v + (if le x = v then 1 else 0) = zld le n v + (if to = v then 1 else 0) := by
  have h := fb_ct_upd (fun y => decide (le y = v)) (decide (to = v)) hx
  have e : fb_ct (fun k => if k = x then decide (to = v) else decide (le k = v)) n = zld (fun y => if y = x then to else le y) n v := fb_ct_cong fun y _ => by
    by_cases hy : y = x <;> simp [hy]
  rw [e] at h
  simp only [decide_eq_true_eq] at h
  exact h
def zmF (ea eb : Nat → Nat) (n : Nat) (V : Nat → Bool) : Nat := fb_ct (fun x => V (ea x) && V (eb x)) n
/-- ends and leans -/
def zen (n : Nat) (ea eb le : Nat → Nat) : Prop := ∀ x, x < n → ea x < 24 ∧ eb x < 24 ∧ ea x ≠ eb x ∧ (le x = ea x ∨ le x = eb x)
theorem zen.lt {n : Nat} {ea eb le : Nat → Nat} (h : zen n ea eb le) : ∀ x, x < n → le x < 24 := fun x hx => by
  obtain ⟨h1, h2, -, h3⟩ := h x hx
  rcases h3 with e | e <;> omega
theorem zmF_le {n k : Nat} {ea eb le : Nat → Nat} (h : zen n ea eb le) (hk : ∀ v, v < 24 → zld le n v ≤ k) (V : Nat → Bool) : zmF ea eb n V ≤ k * zcd V := by
  have h1 : zmF ea eb n V ≤ fb_ct (fun x => V (le x)) n := fb_ct_sub fun x hx hq => by
    simp only [Bool.and_eq_true] at hq
    rcases (h x hx).2.2.2 with e | e <;> rw [e]
    · exact hq.1
    · exact hq.2
  rw [zld_sum V n h.lt] at h1
  have h2 : fb_sm (fun v => if V v = true then zld le n v else 0) 24 ≤ fb_sm (fun v => if V v = true then k else 0) 24 := fb_sm_le fun v hv => by
    split
    · exact hk v hv
    · exact Nat.le_refl _
  have h3 := fb_sm_if V k 24
  unfold zcd
  omega
theorem zmF_ge {n k : Nat} {ea eb le : Nat → Nat} (h : zen n ea eb le) {S : Nat → Bool} (hS : ∀ v, v < 24 → S v = true → zld le n v = k ∧ ∀ x, x < n → le x = v → S (ea x) = true ∧ S (eb x) = true) : k * zcd S ≤ zmF ea eb n S := by
  have h1 : fb_ct (fun x => S (le x)) n ≤ zmF ea eb n S := fb_ct_sub fun x hx hq => by
    have := (hS (le x) (h.lt x hx) hq).2 x hx rfl
    simp [this.1, this.2]
  rw [zld_sum S n h.lt] at h1
  have h2 : fb_sm (fun v => if S v = true then zld le n v else 0) 24 = fb_sm (fun v => if S v = true then k else 0) 24 := fb_sm_cong fun v hv => by
    split
    · rename_i hq; exact (hS v hv hq).1
    · rfl
  have h3 := fb_sm_if S k 24
  unfold zcd
  omega
theorem zmF_n {n k : Nat} {ea eb le : Nat → Nat} (h : zen n ea eb le) (hk : ∀ v, v < 24 → zld le n v ≤ k) : n ≤ 24 * k := by
  have h1 := zld_sum (fun _ => true) n h.lt
  rw [fb_ct_true] at h1
  have h2 : fb_sm (fun v => if true = true then zld le n v else 0) 24 ≤ 24 * k := fb_sm_bound fun v hv => by simpa using hk v hv
  omega
