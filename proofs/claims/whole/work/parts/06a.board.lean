/-! a board of pebbles: f p = -1 loose, else the joint to which it leads -/
def zlos (f : Nat → Int32) (k v : Nat) : Nat := fb_ct (fun i => decide (f (3 * v + i) = -1)) k
def zpin (V : Nat → Bool) (p : Nat) (x : Int32) : Bool := V (p / 3) && (!decide (x = -1) && V x.toNatClampNeg)
def ziL (k : Nat) (f : Nat → Int32) (V : Nat → Bool) : Nat := fb_ct (fun p => decide (p % 3 < k) && zpin V p (f p)) 72
def zva (k : Nat) (f : Nat → Int32) : Prop := ∀ v i, v < 24 → i < k → f (3 * v + i) = -1 ∨ ∃ w, w < 24 ∧ f (3 * v + i) = nI w
/-- all pebbles of V's joints that have g -/
theorem zblk {k : Nat} (hk : k ≤ 3) (V : Nat → Bool) (g : Nat → Bool) : ∀ n, fb_ct (fun p => decide (p % 3 < k) && (V (p / 3) && g p)) (3 * n) = fb_sm (fun v => if V v = true then fb_ct (fun i => g (3 * v + i)) k else 0) n
  | 0 => rfl
  | n + 1 => by
    have ih := zblk hk V g n
    have e : 3 * (n + 1) = 3 * n + 3 := by omega
    rw [e, fb_ct_split, ih, fb_sm_succ]
    congr 1
    have c : ∀ i, i < 3 → (decide ((3 * n + i) % 3 < k) && (V ((3 * n + i) / 3) && g (3 * n + i))) = (decide (i < k) && (V n && g (3 * n + i))) := by
      intro i hi
      have e1 : (3 * n + i) % 3 = i := by omega
      have e2 : (3 * n + i) / 3 = n := by omega
      rw [e1, e2]
    rw [fb_ct_cong (q := fun i => decide (i < k) && (V n && g (3 * n + i))) c]
    cases hV : V n
    · simp only [Bool.false_and, Bool.and_false]
      exact fb_ct_zero.mpr fun _ _ => rfl
    · simp only [Bool.true_and, if_true]
      rcases (by omega : k = 0 ∨ k = 1 ∨ k = 2 ∨ k = 3) with h | h | h | h <;> subst h <;> simp [fb_ct]
theorem fb_sm_if (V : Nat → Bool) (k : Nat) : ∀ n, fb_sm (fun v => if V v = true then k else 0) n = k * fb_ct V n
  | 0 => by simp [fb_sm, fb_ct]
  | n + 1 => by
    rw [fb_sm_succ, fb_ct_succ, fb_sm_if V k n, Nat.mul_add]
    cases V n <;> simp
theorem fb_ct_true (k : Nat) : fb_ct (fun _ => true) k = k := fb_ct_all.mpr fun _ _ => rfl
/-- within V, loose, leading out: together k for each joint -/
theorem zsum3 {k : Nat} (hk : k ≤ 3) (f : Nat → Int32) (V : Nat → Bool) : ziL k f V + fb_sm (fun v => if V v = true then zlos f k v else 0) 24 + fb_ct (fun p => decide (p % 3 < k) && (V (p / 3) && (!decide (f p = -1) && !V (f p).toNatClampNeg))) 72 = k * zcd V := by
  have h1 := zblk hk V (fun p => decide (f p = -1)) 24
  have h2 := zblk hk V (fun _ => true) 24
  have h3 : fb_sm (fun v => if V v = true then fb_ct (fun i => true) k else 0) 24 = k * zcd V := by
    simp only [fb_ct_true]
    exact fb_sm_if V k 24
  rw [← h3, ← h2]
  have h4 : fb_sm (fun v => if V v = true then zlos f k v else 0) 24 = fb_ct (fun p => decide (p % 3 < k) && (V (p / 3) && decide (f p = -1))) 72 := h1.symm
  rw [h4]
  unfold ziL zpin
  show _ = fb_ct _ 72
  generalize 72 = n
  induction n with
  | zero => rfl
  | succ n ih =>
    simp only [fb_ct_succ]
    have : ∀ x0 x1 x2 x3 : Bool, (if (x0 && (x1 && (!x2 && x3))) = true then 1 else 0) + (if (x0 && (x1 && x2)) = true then 1 else 0) + (if (x0 && (x1 && (!x2 && !x3))) = true then 1 else 0) = if (x0 && (x1 && true)) = true then 1 else 0 := by decide
    have := this (decide (n % 3 < k)) (V (n / 3)) (decide (f n = -1)) (V (f n).toNatClampNeg)
    omega
theorem fb_sm_two {h : Nat → Nat} {n a b : Nat} (ha : a < n) (hb : b < n) (hab : a ≠ b) : h a + h b ≤ fb_sm h n ∧ ((∀ v, v < n → v ≠ a → v ≠ b → h v = 0) → fb_sm h n = h a + h b) := by
  have e1 := fb_sm_upd h 0 ha
  have e2 := fb_sm_upd (fun k => if k = a then 0 else h k) 0 hb
  simp only [Ne.symm hab, if_false] at e2
  refine ⟨by omega, fun hz => ?_⟩
  have e3 : fb_sm (fun k => if k = b then 0 else if k = a then 0 else h k) n = 0 := by
    have e4 : fb_sm (fun k => if k = b then 0 else if k = a then 0 else h k) n = fb_sm (fun _ => 0) n := fb_sm_cong fun k hk => by
      by_cases h1 : k = b
      · simp [h1]
      · by_cases h2 : k = a
        · simp [h2]
        · simp [h1, h2, hz k hk h2 h1]
    rw [e4, fb_sm_const]; simp
  omega
/-- the counts of edges: free by k, l -/
def zfr (k l : Nat) (F : (Nat → Bool) → Nat) (u w : Nat) : Prop := ∀ V : Nat → Bool, V u = true → V w = true → F V + l + 1 ≤ k * zcd V
theorem zfr_bars {a b : Nat → Nat} {m k l : Nat} {K : Nat → Bool} {u w : Nat} : zfr k l (zib a b m K) u w ↔ zfb a b m k l K u w := Iff.rfl
/-- closed: no pebble leads out of it -/
def zcl (k : Nat) (f : Nat → Int32) (V : Nat → Bool) : Prop := ∀ v i, v < 24 → V v = true → i < k → f (3 * v + i) = -1 ∨ ∃ w, w < 24 ∧ f (3 * v + i) = nI w ∧ V w = true
theorem zgot {k l : Nat} (hk : k ≤ 3) {f : Nat → Int32} {F : (Nat → Bool) → Nat} (hF : ∀ V, ziL k f V = F V) {a b : Nat} (ha : a < 24) (hb : b < 24) (hab : a ≠ b) (h : l < zlos f k a + zlos f k b) : zfr k l F a b := by
  intro V h1 h2
  have e := zsum3 hk f V
  have e2 := (fb_sm_two (h := fun v => if V v = true then zlos f k v else 0) ha hb hab).1
  simp only [h1, h2, if_true] at e2
  rw [← hF V]
  omega
theorem zcl_out {k : Nat} {f : Nat → Int32} {V : Nat → Bool} (h : zcl k f V) (n : Nat) (hn : n ≤ 72) : fb_ct (fun p => decide (p % 3 < k) && (V (p / 3) && (!decide (f p = -1) && !V (f p).toNatClampNeg))) n = 0 := by
  refine fb_ct_zero.mpr fun p hp => ?_
  cases hq : (decide (p % 3 < k) && (V (p / 3) && (!decide (f p = -1) && !V (f p).toNatClampNeg)))
  · rfl
  · simp only [Bool.and_eq_true, decide_eq_true_eq, Bool.not_eq_true', decide_eq_false_iff_not] at hq
    obtain ⟨q1, q2, q3, q4⟩ := hq
    have e : 3 * (p / 3) + p % 3 = p := by omega
    rcases h (p / 3) (p % 3) (by omega) q2 q1 with h1 | ⟨w, hw, h1, h2⟩
    · rw [e] at h1; exact absurd h1 q3
    · rw [e] at h1
      rw [h1, nI_clamp (by omega), h2] at q4
      cases q4
theorem zlost {k l : Nat} (hk : k ≤ 3) {f : Nat → Int32} {F : (Nat → Bool) → Nat} (hF : ∀ V, ziL k f V = F V) {a b : Nat} (ha : a < 24) (hb : b < 24) (hab : a ≠ b) {R : Nat → Bool} (hc : zcl k f R) (h1 : R a = true) (h2 : R b = true) (hno : ∀ x, x < 24 → R x = true → x ≠ a → x ≠ b → zlos f k x = 0) (h : zlos f k a + zlos f k b ≤ l) : k * zcd R ≤ F R + l := by
  have e := zsum3 hk f R
  have e2 := (fb_sm_two (h := fun v => if R v = true then zlos f k v else 0) ha hb hab).2 (fun v hv h3 h4 => by
    split
    · rename_i hR; exact hno v hv hR h3 h4
    · rfl)
  simp only [h1, h2, if_true] at e2
  rw [zcl_out hc 72 (Nat.le_refl _)] at e
  rw [← hF R]
  omega
/-- a tight set with both is closed, where the loose ones at both are l -/
theorem ztcl {k l : Nat} (hk : k ≤ 3) {f : Nat → Int32} (hv : zva k f) {F : (Nat → Bool) → Nat} (hF : ∀ V, ziL k f V = F V) {a b : Nat} (ha : a < 24) (hb : b < 24) (hab : a ≠ b) (hl : l ≤ zlos f k a + zlos f k b) {V : Nat → Bool} (h1 : V a = true) (h2 : V b = true) (ht : k * zcd V ≤ F V + l) : zcl k f V := by
  intro v i hv24 hVv hi
  rcases hv v i hv24 hi with h | ⟨w, hw, h⟩
  · exact Or.inl h
  · refine Or.inr ⟨w, hw, h, ?_⟩
    cases hVw : V w
    · have e := zsum3 hk f V
      have e2 := (fb_sm_two (h := fun v => if V v = true then zlos f k v else 0) ha hb hab).1
      simp only [h1, h2, if_true] at e2
      have e3 : 0 < fb_ct (fun p => decide (p % 3 < k) && (V (p / 3) && (!decide (f p = -1) && !V (f p).toNatClampNeg))) 72 := by
        refine fb_ct_pos.mpr ⟨3 * v + i, by omega, ?_⟩
        have q1 : (3 * v + i) % 3 = i := by omega
        have q2 : (3 * v + i) / 3 = v := by omega
        rw [q1, q2, h, nI_clamp (by omega), hVw, hVv]
        have q3 : ¬ nI w = -1 := fun e => by
          have := congrArg Int32.toInt e
          rw [nI_toInt (by omega)] at this
          have h9 : (-1 : Int32).toInt = -1 := rfl
          omega
        simp [hi, q3]
      rw [hF V] at e
      omega
    · rfl
/-! one pebble changes -/
theorem ziL_upd {k : Nat} {f : Nat → Int32} {p : Nat} {x : Int32} (V : Nat → Bool) (hp : p < 72) (hk : p % 3 < k) : ziL k (upd f p x) V + (if zpin V p (f p) = true then 1 else 0) = ziL k f V + (if zpin V p x = true then 1 else 0) := by
  have h := fb_ct_upd (fun q => decide (q % 3 < k) && zpin V q (f q)) (zpin V p x) hp
  have e : fb_ct (fun q => if q = p then zpin V p x else (decide (q % 3 < k) && zpin V q (f q))) 72 = ziL k (upd f p x) V := fb_ct_cong fun q _ => by
    by_cases hq : q = p
    · subst hq; simp [upd, hk]
    · simp [upd, hq]
  rw [e] at h
  simp only [hk, decide_true, Bool.true_and] at h
  exact h
theorem zlos_upd {k : Nat} {f : Nat → Int32} {p : Nat} {x : Int32} (v : Nat) (hk : p % 3 < k) (hk3 : k ≤ 3) : zlos (upd f p x) k v + (if v = p / 3 ∧ f p = -1 then 1 else 0) = zlos f k v + (if v = p / 3 ∧ x = -1 then 1 else 0) := by
  unfold zlos
  by_cases hv : v = p / 3
  · subst hv
    have h := fb_ct_upd (fun i => decide (f (3 * (p / 3) + i) = -1)) (decide (x = -1)) hk
    have e0 : 3 * (p / 3) + p % 3 = p := by omega
    have e : fb_ct (fun i => if i = p % 3 then decide (x = -1) else decide (f (3 * (p / 3) + i) = -1)) k = fb_ct (fun i => decide (upd f p x (3 * (p / 3) + i) = -1)) k := fb_ct_cong fun i hi => by
      by_cases hq : i = p % 3
      · subst hq; simp [upd, e0]
      · have : ¬ 3 * (p / 3) + i = p := by omega
        simp [upd, hq, this]
    rw [e, e0] at h
    simpa using h
  · have e : fb_ct (fun i => decide (upd f p x (3 * v + i) = -1)) k = fb_ct (fun i => decide (f (3 * v + i) = -1)) k := fb_ct_cong fun i hi => by
      have : ¬ 3 * v + i = p := by omega
      simp [upd, this]
    simp [hv, e]
theorem zva_upd {k : Nat} {f : Nat → Int32} {p : Nat} {x : Int32} (h : zva k f) (hx : x = -1 ∨ ∃ w, w < 24 ∧ x = nI w) : zva k (upd f p x) := by
  intro v i hv hi
  unfold upd
  split
  · exact hx
  · exact h v i hv hi
