/-! exchange, circuits -/
theorem zti_mono {a b : Nat → Nat} {m : Nat} {K K' V : Nat → Bool} (h : zti a b m K V) (hc : zib a b m K V ≤ zib a b m K' V) : zti a b m K' V := by unfold zti at *; omega
theorem zexch {a b : Nat → Nat} {m : Nat} (ho : zeo a b m) {S J : Nat → Bool} (hJ : zsp a b m 2 3 J) (hJS : ∀ x, x < m → J x = true → S x = true) : ∀ (n : Nat) (I : Nat → Bool), zsp a b m 2 3 I → (∀ e, e < m → S e = true → I e = false → ¬ zfb a b m 2 3 I (a e) (b e)) → fb_ct (fun x => J x && !I x) m = n → fb_ct J m ≤ fb_ct I m := by
  intro n
  induction n with
  | zero =>
    intro I _ _ h0
    have h1 := fb_ct_zero.mp h0
    refine fb_ct_sub fun x hx hJx => ?_
    have h2 := h1 x hx
    simp only [hJx, Bool.true_and, Bool.not_eq_false'] at h2
    exact h2
  | succ n ih =>
    intro I hI hmax hn
    obtain ⟨e, he, hpe⟩ := fb_ct_pos.mp (show 0 < fb_ct (fun x => J x && !I x) m by omega)
    simp only [Bool.and_eq_true, Bool.not_eq_true'] at hpe
    obtain ⟨hJe, hIe⟩ := hpe
    obtain ⟨o1, o2, o3⟩ := ho e he
    obtain ⟨T, t1, t2, t3, tmin⟩ := zti_least o1 o2 o3 hI (hmax e he (hJS e he hJe) hIe)
    have hTe : zinb a b T e = true := by simp [zinb, t1, t2]
    have hT2 := zcd_two o1 o2 o3 t1 t2
    -- a bar of I within T that J hasn't
    have hex : ∃ f, f < m ∧ I f = true ∧ zinb a b T f = true ∧ J f = false := by
      apply Classical.byContradiction
      intro hno
      have h1 : zib a b m (fun x => if x = e then true else I x) T ≤ zib a b m J T := by
        refine fb_ct_sub fun x hx hx1 => ?_
        simp only [Bool.and_eq_true] at hx1 ⊢
        refine ⟨?_, hx1.2⟩
        by_cases hxe : x = e
        · subst hxe; exact hJe
        · simp only [hxe, if_false] at hx1
          cases hJx : J x
          · exact absurd ⟨x, hx, hx1.1, by simp [zinb, hx1.2.1, hx1.2.2], hJx⟩ hno
          · rfl
      rw [zib_add he hIe, if_pos hTe] at h1
      have h2 := hJ T hT2
      unfold zti at t3
      omega
    obtain ⟨f, hf, hIf, hTf, hJf⟩ := hex
    have hfe : f ≠ e := fun h => by rw [h, hIe] at hIf; cases hIf
    have hTf' : T (a f) = true ∧ T (b f) = true := by simpa [zinb] using hTf
    -- I' = I less f with e
    let I1 : Nat → Bool := fun x => if x = f then false else I x
    have hI1e : I1 e = false := by simp only [I1, hIe]; split <;> rfl
    let I2 : Nat → Bool := fun x => if x = e then true else I1 x
    have hcnt : ∀ V, zib a b m I2 V + (if zinb a b V f = true then 1 else 0) = zib a b m I V + (if zinb a b V e = true then 1 else 0) := by
      intro V
      have e1 : zib a b m I2 V = _ := zib_add he hI1e
      have e2 : zib a b m I1 V + _ = _ := zib_del hf hIf
      omega
    have hsp2 : zsp a b m 2 3 I2 := by
      intro V hV
      have hc := hcnt V
      have hs := hI V hV
      by_cases hVf : zinb a b V f = true
      · rw [if_pos hVf] at hc
        split at hc <;> omega
      · rw [if_neg hVf] at hc
        by_cases hVe : zinb a b V e = true
        · rw [if_pos hVe] at hc
          have hVe' : V (a e) = true ∧ V (b e) = true := by simpa [zinb] using hVe
          apply Classical.byContradiction
          intro hbad
          have ht : zti a b m I V := by unfold zti; omega
          have hsub := tmin V hVe'.1 hVe'.2 ht
          obtain ⟨p1, p2, -⟩ := ho f hf
          exact hVf (by simp [zinb, hsub _ p1 hTf'.1, hsub _ p2 hTf'.2])
        · rw [if_neg hVe] at hc
          omega
    have hT2' : zti a b m I2 T := by
      have hc := hcnt T
      rw [if_pos hTf, if_pos hTe] at hc
      exact zti_mono t3 (by omega)
    have hmax2 : ∀ g, g < m → S g = true → I2 g = false → ¬ zfb a b m 2 3 I2 (a g) (b g) := by
      intro g hg hSg hI2g
      have hge : g ≠ e := fun h => by subst h; simp [I2] at hI2g
      by_cases hgf : g = f
      · subst hgf
        exact zfb_no hTf'.1 hTf'.2 hT2'
      · have hIg : I g = false := by simpa [I2, I1, hge, hgf] using hI2g
        obtain ⟨V, v1, v2, v3⟩ := zfb_not (hmax g hg hSg hIg)
        have hc := hcnt V
        by_cases hVf : zinb a b V f = true
        · have hVf' : V (a f) = true ∧ V (b f) = true := by simpa [zinb] using hVf
          obtain ⟨p1, p2, p3⟩ := ho f hf
          have hu := (zti_meet hI v3 t3 (zcd_two p1 p2 p3 (by simp [zand, hVf'.1, hTf'.1]) (by simp [zand, hVf'.2, hTf'.2]))).1
          have hcu := hcnt (zor V T)
          rw [if_pos (by simp [zinb, zor, hVf'.1, hVf'.2]), if_pos (by simp [zinb, zor, t1, t2])] at hcu
          exact zfb_no (V := zor V T) (by simp [zor, v1]) (by simp [zor, v2]) (zti_mono hu (by omega))
        · rw [if_neg hVf] at hc
          refine zfb_no v1 v2 (zti_mono v3 ?_)
          split at hc <;> omega
    have hcard : fb_ct I2 m = fb_ct I m := by
      have e1 : fb_ct I2 m = _ := fb_ct_add1 he hI1e
      have e2 : fb_ct I1 m + 1 = _ := fb_ct_del1 hf hIf
      omega
    have hd : fb_ct (fun x => J x && !I2 x) m = n := by
      have e1 : fb_ct (fun x => J x && !I2 x) m = fb_ct (fun x => if x = e then false else (J x && !I x)) m := fb_ct_cong fun x _ => by
        by_cases hxe : x = e
        · subst hxe; simp [I2]
        · by_cases hxf : x = f
          · subst hxf; simp [I2, I1, hxe, hJf]
          · simp [I2, I1, hxe, hxf]
      have e2 := fb_ct_del1 (K := fun x => J x && !I x) he (by simp [hJe, hIe])
      omega
    have := ih I2 hsp2 hmax2 hd
    omega
/-- a tight set stays the least one when bars come that keep all free -/
theorem zcirc {a b : Nat → Nat} {m : Nat} (ho : zeo a b m) {K B T : Nat → Bool} {u w f : Nat} (hu : u < 24) (hw : w < 24) (huw : u ≠ w) (hB : zsp a b m 2 3 B) (hKB : ∀ x, x < m → K x = true → B x = true) (t1 : T u = true) (t2 : T w = true) (t3 : zti a b m K T) (tmin : ∀ V : Nat → Bool, V u = true → V w = true → zti a b m K V → ∀ x, x < 24 → T x = true → V x = true) (hf : f < m) (hBf : B f = true) : zfb a b m 2 3 (fun x => if x = f then false else B x) u w ↔ zinb a b T f = true := by
  have hT2 := zcd_two hu hw huw t1 t2
  have hBT := zib_sub (a := a) (b := b) (m := m) (V := T) (W := T) hKB (fun _ h => h)
  have hBs := hB T hT2
  constructor
  · intro hfree
    apply Classical.byContradiction
    intro hn
    have hd := zib_del (a := a) (b := b) (V := T) hf hBf
    rw [if_neg hn] at hd
    exact zfb_no t1 t2 (zti_mono t3 (by omega)) hfree
  · intro hin
    apply Classical.byContradiction
    intro hn
    obtain ⟨V, v1, v2, v3⟩ := zfb_not hn
    have hd := zib_del (a := a) (b := b) (V := V) hf hBf
    have hin' : T (a f) = true ∧ T (b f) = true := by simpa [zinb] using hin
    have hV2 := zcd_two hu hw huw v1 v2
    have hVs := hB V hV2
    have hVf : ¬ zinb a b V f = true := by
      intro hVf
      rw [if_pos hVf] at hd
      unfold zti at v3
      omega
    rw [if_neg hVf] at hd
    have vB : zti a b m B V := zti_mono v3 (by omega)
    have tB : zti a b m B T := zti_mono t3 hBT
    have h1 : zand V T u = true := by simp [zand, v1, t1]
    have h2 : zand V T w = true := by simp [zand, v2, t2]
    have hm := (zti_meet hB vB tB (zcd_two hu hw huw h1 h2)).2
    -- within T all of B is of K
    have hall := fb_ct_same (p := fun x => K x && (T (a x) && T (b x))) (q := fun x => B x && (T (a x) && T (b x))) (n := m) (fun x hx h => by simp only [Bool.and_eq_true] at h ⊢; exact ⟨hKB x hx h.1, h.2⟩) (by
      show zib a b m B T ≤ zib a b m K T
      unfold zti at t3
      omega)
    have hle : zib a b m B (zand V T) ≤ zib a b m K (zand V T) := by
      refine fb_ct_sub fun x hx h => ?_
      simp only [zand, Bool.and_eq_true] at h ⊢
      have := hall x hx (by simp only [Bool.and_eq_true]; exact ⟨h.1, h.2.1.2, h.2.2.2⟩)
      simp only [Bool.and_eq_true] at this
      exact ⟨this.1, h.2⟩
    have hsub := tmin (zand V T) h1 h2 (zti_mono hm hle)
    obtain ⟨p1, p2, -⟩ := ho f hf
    have q1 := hsub _ p1 hin'.1
    have q2 := hsub _ p2 hin'.2
    simp only [zand, Bool.and_eq_true] at q1 q2
    exact hVf (by simp [zinb, q1.1, q2.1])
