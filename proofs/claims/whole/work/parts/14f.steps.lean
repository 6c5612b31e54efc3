/-! the steps back, pure -/
abbrev zNT : Type := Nat → Nat → Bool
def zGl (l : List (Nat × Nat)) : (Nat → Bool) → Nat := fun V => l.countP (fun p => V p.1 && V p.2)
theorem zGl_snoc (l : List (Nat × Nat)) (u w : Nat) (V : Nat → Bool) : zGl (l ++ [(u, w)]) V = zGl l V + (if (V u && V w) = true then 1 else 0) := by
  unfold zGl
  rw [List.countP_append, List.countP_singleton]
noncomputable def zgrb (l : List (Nat × Nat)) (u w : Nat) : Bool := @decide (zfr 2 3 (zGl l) u w) (Classical.propDecidable _)
theorem zgrb_t {l : List (Nat × Nat)} {u w : Nat} : zgrb l u w = true ↔ zfr 2 3 (zGl l) u w := ⟨fun h => @of_decide_eq_true _ (Classical.propDecidable _) h, fun h => @decide_eq_true _ (Classical.propDecidable _) h⟩
theorem zgrb_f {l : List (Nat × Nat)} {u w : Nat} : zgrb l u w = false ↔ ¬ zfr 2 3 (zGl l) u w := by
  rw [← zgrb_t]; cases zgrb l u w <;> simp
noncomputable def zls (N : zNT) (l : List (Nat × Nat)) (u w : Nat) : List (Nat × Nat) := if (N u w && zgrb l u w) = true then l ++ [(u, w)] else l
noncomputable def zlw (N : zNT) (u : Nat) (l : List (Nat × Nat)) : Nat → List (Nat × Nat)
  | 0 => l
  | w + 1 => if u < w then zls N (zlw N u l w) u w else zlw N u l w
noncomputable def zlu (N : zNT) (n : Nat) : Nat → List (Nat × Nat)
  | 0 => []
  | u + 1 => zlw N u (zlu N n u) n
theorem zlw_low (N : zNT) (u : Nat) (l : List (Nat × Nat)) : ∀ w, w ≤ u + 1 → zlw N u l w = l
  | 0, _ => rfl
  | w + 1, h => by
    show (if u < w then zls N (zlw N u l w) u w else zlw N u l w) = l
    rw [if_neg (by omega)]
    exact zlw_low N u l w (by omega)
/-- pairs that N hasn't don't matter -/
theorem zls_no {N : zNT} {l : List (Nat × Nat)} {u w : Nat} (h : N u w = false) : zls N l u w = l := by unfold zls; rw [h]; rfl
theorem zlw_hi {N : zNT} {u : Nat} {l : List (Nat × Nat)} {n : Nat} (hN : ∀ w, n ≤ w → N u w = false) : ∀ r, zlw N u l (n + r) = zlw N u l n
  | 0 => rfl
  | r + 1 => by
    have ih := zlw_hi (l := l) hN r
    show (if u < n + r then zls N (zlw N u l (n + r)) u (n + r) else zlw N u l (n + r)) = _
    split
    · rw [zls_no (hN _ (by omega)), ih]
    · exact ih
theorem zlu_hi {N : zNT} {n : Nat} (hN : ∀ u w, (n ≤ u ∨ n ≤ w) → N u w = false) {m : Nat} (hm : n ≤ m) : ∀ u, zlu N m u = zlu N n u
  | 0 => rfl
  | u + 1 => by
    have ih := zlu_hi hN hm u
    show zlw N u (zlu N m u) m = zlw N u (zlu N n u) n
    rw [ih]
    obtain ⟨r, rfl⟩ : ∃ r, m = n + r := ⟨m - n, by omega⟩
    exact zlw_hi (fun w hw => hN u w (Or.inr hw)) r
theorem zlw_none {N : zNT} {u : Nat} {l : List (Nat × Nat)} (hN : ∀ w, N u w = false) : ∀ w, zlw N u l w = l
  | 0 => rfl
  | w + 1 => by
    have ih := zlw_none (l := l) hN w
    show (if u < w then zls N (zlw N u l w) u w else zlw N u l w) = l
    rw [ih, zls_no (hN w)]; simp
theorem zlu_hi2 {N : zNT} {n k : Nat} (hN : ∀ u w, n ≤ u → N u w = false) : ∀ r, zlu N k (n + r) = zlu N k n
  | 0 => rfl
  | r + 1 => by
    have ih := zlu_hi2 (k := k) hN r
    show zlw N (n + r) (zlu N k (n + r)) k = _
    rw [zlw_none (fun w => hN _ w (by omega)), ih]
noncomputable def zlb (N : zNT) : List (Nat × Nat) := zlu N 24 24
/-- more edges, less is free -/
theorem zgl_mono {l l' : List (Nat × Nat)} {u w : Nat} (h : ∀ V, zGl l V ≤ zGl l' V) (hf : zfr 2 3 (zGl l') u w) : zfr 2 3 (zGl l) u w := fun V h1 h2 => by have := hf V h1 h2; have := h V; omega
theorem zls_mono (N : zNT) (l : List (Nat × Nat)) (u w : Nat) (V : Nat → Bool) : zGl l V ≤ zGl (zls N l u w) V := by
  unfold zls; split
  · rw [zGl_snoc]; omega
  · exact Nat.le_refl _
theorem zls_done {N : zNT} {l : List (Nat × Nat)} {u w : Nat} (hu : u < 24) (hw : w < 24) (huw : u ≠ w) (hN : N u w = true) : ¬ zfr 2 3 (zGl (zls N l u w)) u w := by
  unfold zls
  rw [hN, Bool.true_and]
  split
  · intro hf
    have h := hf (fun x => decide (x = u) || decide (x = w)) (by simp) (by simp)
    rw [zGl_snoc] at h
    have g : ∀ u, u < 24 → ∀ w, w < 24 → u ≠ w → fb_ct (fun x => decide (x = u) || decide (x = w)) 24 = 2 := by decide +kernel
    have h2 : zcd (fun x => decide (x = u) || decide (x = w)) = 2 := g u hu w hw huw
    rw [h2] at h
    simp at h
  · rename_i h
    exact zgrb_f.mp (by simpa using h)
theorem zlw_mono (N : zNT) (u : Nat) (l : List (Nat × Nat)) (V : Nat → Bool) : ∀ w r, zGl (zlw N u l w) V ≤ zGl (zlw N u l (w + r)) V
  | w, 0 => Nat.le_refl _
  | w, r + 1 => by
    have ih := zlw_mono N u l V w r
    show _ ≤ zGl (if u < w + r then zls N (zlw N u l (w + r)) u (w + r) else zlw N u l (w + r)) V
    split
    · exact Nat.le_trans ih (zls_mono N _ _ _ V)
    · exact ih
theorem zlu_mono (N : zNT) (n : Nat) (V : Nat → Bool) : ∀ u r, zGl (zlu N n u) V ≤ zGl (zlu N n (u + r)) V
  | u, 0 => Nat.le_refl _
  | u, r + 1 => by
    have ih := zlu_mono N n V u r
    have h2 := zlw_mono N (u + r) (zlu N n (u + r)) V 0 n
    rw [Nat.zero_add] at h2
    exact Nat.le_trans ih h2
/-- a pair that has a bar isn't free over all that was laid -/
theorem zlb_no {N : zNT} {u w : Nat} (huw : u < w) (hw : w < 24) (hN : N u w = true) : ¬ zfr 2 3 (zGl (zlb N)) u w := by
  intro hf
  have h1 : zfr 2 3 (zGl (zlw N u (zlu N 24 u) (w + 1))) u w := by
    refine zgl_mono (fun V => ?_) hf
    have a1 := zlw_mono N u (zlu N 24 u) V (w + 1) (24 - (w + 1))
    rw [show w + 1 + (24 - (w + 1)) = 24 by omega] at a1
    have a2 := zlu_mono N 24 V (u + 1) (24 - (u + 1))
    rw [show u + 1 + (24 - (u + 1)) = 24 by omega] at a2
    exact Nat.le_trans a1 a2
  have e : zlw N u (zlu N 24 u) (w + 1) = zls N (zlw N u (zlu N 24 u) w) u w := by
    show (if u < w then _ else _) = _
    rw [if_pos huw]
  rw [e] at h1
  exact zls_done (by omega) hw (by omega) hN h1
/-- the first pair of the neighbours that is free -/
def zbr (nb : Nat → Bool) (l : List (Nat × Nat)) (p : Nat × Nat) : Prop := p.1 < p.2 ∧ p.2 < 24 ∧ nb p.1 = true ∧ nb p.2 = true ∧ zfr 2 3 (zGl l) p.1 p.2 ∧ ∀ u w, u < w → w < 24 → (u < p.1 ∨ u = p.1 ∧ w < p.2) → nb u = true → nb w = true → ¬ zfr 2 3 (zGl l) u w
theorem zbr_one {nb : Nat → Bool} {l : List (Nat × Nat)} {p q : Nat × Nat} (hp : zbr nb l p) (hq : zbr nb l q) : p = q := by
  obtain ⟨p1, p2, p3, p4, p5, p6⟩ := hp
  obtain ⟨q1, q2, q3, q4, q5, q6⟩ := hq
  have a1 : ¬ (q.1 < p.1 ∨ q.1 = p.1 ∧ q.2 < p.2) := fun h => p6 q.1 q.2 q1 q2 h q3 q4 q5
  have a2 : ¬ (p.1 < q.1 ∨ p.1 = q.1 ∧ p.2 < q.2) := fun h => q6 p.1 p.2 p1 p2 h p3 p4 p5
  exact Prod.ext (by omega) (by omega)
noncomputable def zbf2 (nb : Nat → Bool) (l : List (Nat × Nat)) : Option (Nat × Nat) := @dite _ (∃ p, zbr nb l p) (Classical.propDecidable _) (fun h => some h.choose) (fun _ => none)
theorem zbf2_some {nb : Nat → Bool} {l : List (Nat × Nat)} {p : Nat × Nat} (h : zbr nb l p) : zbf2 nb l = some p := by
  unfold zbf2
  have he : ∃ p, zbr nb l p := ⟨p, h⟩
  rw [dif_pos he, zbr_one he.choose_spec h]
theorem zbf2_none {nb : Nat → Bool} {l : List (Nat × Nat)} (h : ∀ u w, u < w → w < 24 → nb u = true → nb w = true → ¬ zfr 2 3 (zGl l) u w) : zbf2 nb l = none := by
  unfold zbf2
  rw [dif_neg]
  rintro ⟨p, p1, p2, p3, p4, p5, p6⟩
  exact h p.1 p.2 p1 p2 p3 p4 p5
def zcode : Option (Nat × Nat) → Int32
  | none => -9
  | some p => nI (100 * p.1 + p.2)
def zadd (N : zNT) (o : Option (Nat × Nat)) : zNT := match o with
  | none => N
  | some p => fun u w => N u w || ((decide (u = p.1) && decide (w = p.2)) || (decide (u = p.2) && decide (w = p.1)))
def zaw (N : zNT) (v : Nat) : zNT := fun u w => N u w && (!decide (u = v) && !decide (w = v))
def zdeg (N : zNT) (v : Nat) : Nat := fb_ct (N v) 24
/-- the first of the fewest -/
def zbst (N : zNT) (S : Nat → Bool) : Nat → Option Nat
  | 0 => none
  | k + 1 => if S k = true then (match zbst N S k with
    | none => some k
    | some b => if zdeg N k < zdeg N b then some k else some b) else zbst N S k
noncomputable def zN0 (A : zAS) : Nat → zNT
  | 0 => fun _ _ => false
  | x + 1 => if zK A false 2 3 x = true then zadd (zN0 A x) (some (zaa A x, zab A x)) else zN0 A x
abbrev zWS : Type := zNT × (Nat → Bool)
noncomputable def zwn (n : Nat) (W : zWS) : zWS :=
  let v := (zbst W.1 W.2 n).getD 0
  (if zdeg W.1 v = 3 then zadd (zaw W.1 v) (zbf2 (W.1 v) (zlb (zaw W.1 v))) else zaw W.1 v, fun x => W.2 x && !decide (x = v))
noncomputable def zwk (A : zAS) : Nat → zWS
  | 0 => (zN0 A (zam A), fun x => decide (x < zan A))
  | i + 1 => zwn (zan A) (zwk A i)
noncomputable def zgo1 (A : zAS) (i : Nat) : Nat := (zbst (zwk A i).1 (zwk A i).2 (zan A)).getD 0
noncomputable def zkd1 (A : zAS) (i : Nat) : Nat := zdeg (zwk A i).1 (zgo1 A i)
noncomputable def zco1 (A : zAS) (i : Nat) : Int32 := if zkd1 A i = 3 then zcode (zbf2 ((zwk A i).1 (zgo1 A i)) (zlb (zaw (zwk A i).1 (zgo1 A i)))) else -9
/-- bars within n joints, between two -/
def zwf (n : Nat) (N : zNT) : Prop := ∀ u w, N u w = true → u < n ∧ w < n ∧ u ≠ w
theorem zwf.aw {n : Nat} {N : zNT} (h : zwf n N) (v : Nat) : zwf n (zaw N v) := fun u w hq => h u w (by unfold zaw at hq; simp only [Bool.and_eq_true] at hq; exact hq.1)
theorem zwf.add {n : Nat} {N : zNT} (h : zwf n N) {o : Option (Nat × Nat)} (ho : ∀ p, o = some p → p.1 < n ∧ p.2 < n ∧ p.1 ≠ p.2) : zwf n (zadd N o) := by
  cases o with
  | none => exact h
  | some p =>
    obtain ⟨h1, h2, h3⟩ := ho p rfl
    intro u w hq
    unfold zadd at hq
    simp only [Bool.or_eq_true, Bool.and_eq_true, decide_eq_true_eq] at hq
    rcases hq with hq | ⟨e1, e2⟩ | ⟨e1, e2⟩
    · exact h u w hq
    · rw [e1, e2]; exact ⟨h1, h2, h3⟩
    · rw [e1, e2]; exact ⟨h2, h1, Ne.symm h3⟩
theorem zN0_wf {A : zAS} (hvd : zvd A) : ∀ x, x ≤ zam A → zwf (zan A) (zN0 A x)
  | 0, _ => fun _ _ h => by cases h
  | x + 1, hx => by
    have ih := zN0_wf hvd x (by omega)
    show zwf (zan A) (if zK A false 2 3 x = true then zadd (zN0 A x) (some (zaa A x, zab A x)) else zN0 A x)
    split
    · refine ih.add fun p hp => ?_
      cases hp
      have := hvd.2.2 x (by omega)
      exact ⟨by omega, by omega, by omega⟩
    · exact ih
theorem zbf2_spec {nb : Nat → Bool} {l : List (Nat × Nat)} {p : Nat × Nat} (h : zbf2 nb l = some p) : zbr nb l p := by
  unfold zbf2 at h
  by_cases he : ∃ p, zbr nb l p
  · rw [dif_pos he] at h
    cases h
    exact he.choose_spec
  · rw [dif_neg he] at h; cases h
theorem zwk_wf {A : zAS} (hvd : zvd A) : ∀ i, zwf (zan A) (zwk A i).1
  | 0 => zN0_wf hvd _ (Nat.le_refl _)
  | i + 1 => by
    have ih := zwk_wf hvd i
    show zwf (zan A) (zwn (zan A) (zwk A i)).1
    unfold zwn
    dsimp only
    split
    · refine (ih.aw _).add fun p hp => ?_
      obtain ⟨h1, h2, h3, h4, -⟩ := zbf2_spec hp
      exact ⟨(ih _ _ h3).2.1, (ih _ _ h4).2.1, by omega⟩
    · exact ih.aw _
theorem zdeg_lt {n : Nat} {N : zNT} (h : zwf n N) (v : Nat) (hv : v < 24) : zdeg N v < 24 := by
  have : N v v = false := by
    cases hq : N v v
    · rfl
    · exact absurd rfl (h v v hq).2.2
  have h1 := fb_ct_add1 hv this
  have h2 := fb_ct_le (fun x => if x = v then true else N v x) 24
  unfold zdeg
  omega
theorem zbst_some {N : zNT} {S : Nat → Bool} : ∀ n, (∃ x, x < n ∧ S x = true) → ∃ b, zbst N S n = some b ∧ b < n ∧ S b = true
  | 0, h => by obtain ⟨x, hx, -⟩ := h; exact absurd hx (Nat.not_lt_zero x)
  | n + 1, h => by
    unfold zbst
    split
    · rename_i hS
      cases hq : zbst N S n with
      | none => exact ⟨n, rfl, by omega, hS⟩
      | some b =>
        have hb : b < n ∧ S b = true := by
          have hex : ∃ x, x < n ∧ S x = true := by
            apply Classical.byContradiction
            intro hno
            have hz : ∀ k, k ≤ n → zbst N S k = none := by
              intro k
              induction k with
              | zero => intro _; rfl
              | succ k ihk =>
                intro hk
                show (if S k = true then _ else _) = _
                rw [if_neg (fun hs => hno ⟨k, by omega, hs⟩)]
                exact ihk (by omega)
            rw [hz n (Nat.le_refl _)] at hq; cases hq
          obtain ⟨b', h1, h2, h3⟩ := zbst_some (N := N) n hex
          rw [hq] at h1; cases h1
          exact ⟨h2, h3⟩
        dsimp only
        split
        · exact ⟨n, rfl, by omega, hS⟩
        · exact ⟨b, rfl, by omega, hb.2⟩
    · rename_i hS
      obtain ⟨x, hx, hxS⟩ := h
      obtain ⟨b, h1, h2, h3⟩ := zbst_some (N := N) n ⟨x, by
        have : x ≠ n := fun e => by subst e; exact hS hxS
        omega, hxS⟩
      exact ⟨b, h1, by omega, h3⟩
theorem zwk_S {A : zAS} : ∀ i, i ≤ zan A → fb_ct (zwk A i).2 (zan A) + i = zan A ∧ ∀ x, (zwk A i).2 x = true → x < zan A
  | 0, _ => by
    refine ⟨?_, fun x h => by simpa [zwk] using h⟩
    have : fb_ct (zwk A 0).2 (zan A) = fb_ct (fun _ => true) (zan A) := fb_ct_cong fun x hx => by simp [zwk, hx]
    rw [this, fb_ct_true]; rfl
  | i + 1, hi => by
    obtain ⟨h1, h2⟩ := zwk_S (A := A) i (by omega)
    obtain ⟨x, hx, hxS⟩ := fb_ct_pos.mp (show 0 < fb_ct (zwk A i).2 (zan A) by omega)
    obtain ⟨b, b1, b2, b3⟩ := zbst_some (N := (zwk A i).1) (zan A) ⟨x, hx, hxS⟩
    have e : (zwk A (i + 1)).2 = fun x => (zwk A i).2 x && !decide (x = b) := by
      show (zwn (zan A) (zwk A i)).2 = _
      unfold zwn
      dsimp only
      rw [b1]; rfl
    rw [e]
    refine ⟨?_, fun x h => by simp only [Bool.and_eq_true] at h; exact h2 x h.1⟩
    have h3 := fb_ct_del1 b2 b3
    have : fb_ct (fun x => (zwk A i).2 x && !decide (x = b)) (zan A) = fb_ct (fun x => if x = b then false else (zwk A i).2 x) (zan A) := fb_ct_cong fun x _ => by
      by_cases e : x = b <;> simp [e]
    omega
theorem zgo1_lt {A : zAS} {i : Nat} (hi : i < zan A) : ∃ b, zbst (zwk A i).1 (zwk A i).2 (zan A) = some b ∧ b = zgo1 A i ∧ b < zan A ∧ (zwk A i).2 b = true := by
  obtain ⟨h1, h2⟩ := zwk_S (A := A) i (by omega)
  obtain ⟨x, hx, hxS⟩ := fb_ct_pos.mp (show 0 < fb_ct (zwk A i).2 (zan A) by omega)
  obtain ⟨b, b1, b2, b3⟩ := zbst_some (N := (zwk A i).1) (zan A) ⟨x, hx, hxS⟩
  exact ⟨b, b1, by unfold zgo1; rw [b1]; rfl, b2, b3⟩
