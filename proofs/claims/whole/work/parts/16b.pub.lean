/-! the class's public methods: joint, bar, cut, cost -/
/-- what a public method's call gives -/
def zPP (A : zAS) (ch : Nat) (rf : Nat → Int32) (o : zO) (σ : zST) : zPT := fun r σ' => zhi σ σ' ∧ zCI A ch (zrfo rf o) σ' ∧ r = zres o
theorem zri.new {A A' : zAS} {ch j : Nat} {bc : Bool} {σ σ' : zST} (hch : ch < 2 ^ 30) (h : zri A ch j bc σ) (e : σ' j = σ j) : zri A' (ch + 1) j bc σ' := by
  obtain ⟨h1, h2, h3⟩ := h
  refine ⟨by rw [e]; exact h1, ?_, fun hq => ?_⟩
  · rw [e]; exact h2.imp id fun ⟨q, q1, q2⟩ => ⟨q, by omega, q2⟩
  · rw [e] at hq
    rcases h2 with h2 | ⟨q, q1, q2⟩
    · rw [h2] at hq; exact absurd hq.symm (zm1 (by omega))
    · rw [q2] at hq
      have := znI_inj (by omega) (by omega) hq
      omega
theorem zmemo {x : Int32} {ch : Nat} (hch : ch < 2 ^ 30) (h : x = -1 ∨ ∃ q, q ≤ ch ∧ x = nI q) : (x = -1 ∨ ∃ q, q ≤ ch + 1 ∧ x = nI q) ∧ ¬ x = nI (ch + 1) := by
  refine ⟨h.imp id fun ⟨q, q1, q2⟩ => ⟨q, by omega, q2⟩, fun hq => ?_⟩
  rcases h with h | ⟨q, q1, q2⟩
  · rw [h] at hq; exact absurd hq.symm (zm1 (by omega))
  · rw [q2] at hq
    have := znI_inj (by omega) (by omega) hq
    omega
/-- the frame has changed: all that was found is old -/
theorem zCI.new {A A' : zAS} {ch : Nat} {rf : Nat → Int32} {σ σ' : zST} (h : zCI A ch rf σ) (hF : zcf A' (ch + 1) σ') (hag : ∀ q, 7 ≤ q → σ' q = σ q) : zCI A' (ch + 1) rf σ' := by
  obtain ⟨h1, h2, h3, h4, h5, h6, h7, h8, h9⟩ := h
  have hch := h1.2.1
  refine ⟨hF, h2.new hch (hag _ (by omega)), h3.new hch (hag _ (by omega)), h4.new hch (hag _ (by omega)), ?_, ?_, ?_, ?_, fun i hi => by rw [hag 47 (by omega)]; exact h9 i hi⟩
  · have := zmemo hch h5.1
    unfold zclm; rw [hag 31 (by omega)]; exact ⟨this.1, fun q => absurd q this.2⟩
  · have := zmemo hch h6.1
    unfold zbum; rw [hag 34 (by omega)]; exact ⟨this.1, fun q => absurd q this.2⟩
  · have := zmemo hch h7.1
    unfold zmim; rw [hag 40 (by omega)]; exact ⟨this.1, fun q => absurd q this.2⟩
  · have := zmemo hch h8.1
    unfold zstm; rw [hag 42 (by omega)]; exact ⟨this.1, fun q => absurd q this.2⟩
/-! joint -/
def zo_joint (A : zAS) : zO := if zan A = 24 then .inl 5 else .inr (nI (zan A))
def zt_joint (A : zAS) : zAS := if zan A = 24 then A else (zan A + 1, A.2)
theorem sp_joint {E : zEN} {d ch : Nat} {A : zAS} {rf : Nat → Int32} {σ : zST} (hI : zCI A ch rf σ) (hch : ch + 1 < 2 ^ 30) : zSp E (d + 8) zM_X7_joint [.inr (7, 0)] σ (fun r σ' => ∃ ch', ch' ≤ ch + 1 ∧ zPP (zt_joint A) ch' rf (zo_joint A) σ r σ') := by
  have hF := hI.1
  have hn := hF.1.1
  refine zSp.of rfl (Nat.le_of_ble_eq_true rfl) (zg_X7_joint_0 fun G C hG hC => ?_)
  conv => whnf
  refine pk_lt (zan A) 24 (fun h => ?_) (fun h => ?_) hF.2.2.1 rfl
  · conv => whnf
    have hne : ¬ zan A = 24 := by omega
    refine hC _ _ _ _ (zSp.conseq (P := fun r σ' => r = nI (zan A) ∧ σ' = zup (zup σ 1 8 (nI (ch + 1))) 1 5 (nI (zan A + 1))) ?_ ?_)
    · refine zSp.of rfl (Nat.le_of_ble_eq_true rfl) (zg_X2_addJoint_0 fun G C hG hC => ?_)
      conv => whnf
      dsimp only
      rw [zup_self, pk_un (by decide), hF.2.2.1, hF.2.2.2.2.2.1, nI_1, nI_1]
      exact ⟨rfl, rfl⟩
    · rintro r σ' ⟨rfl, rfl⟩
      conv => whnf
      refine ⟨ch + 1, Nat.le_refl _, ?_⟩
      unfold zPP zo_joint zt_joint
      rw [if_neg hne, if_neg hne]
      have hag : zagr [1] σ (zup (zup σ 1 8 (nI (ch + 1))) 1 5 (nI (zan A + 1))) := (zagr.rf.up (by simp)).up (by simp)
      refine ⟨zhi.of hag (by simp), hI.new ?_ (fun q hq => hag q (by simp; omega)), rfl⟩
      obtain ⟨⟨v1, v2, v3⟩, f0, f1, f2, f3, f4, f5, f6⟩ := hF
      refine ⟨⟨by show zan A + 1 ≤ 24; omega, v2, fun x hx => ?_⟩, by omega, ?_, ?_, ?_, ?_, ?_, ?_⟩
      · have := v3 x hx
        exact ⟨this.1, by show zab A x < zan A + 1; omega, this.2.2⟩
      · rw [zup_self, pk_us]
      · rw [zup_self, pk_un (by decide), zup_self, pk_un (by decide)]; exact f2
      · rw [zup_self, pk_un (by decide), zup_self, pk_un (by decide)]; exact f3
      · rw [zup_self, pk_un (by decide), zup_self, pk_us]
      · intro x hx
        rw [hag 2 (by simp), hag 3 (by simp), hag 4 (by simp), hag 5 (by simp)]; exact f5 x hx
      · intro u hu w hw
        rw [hag 6 (by simp)]; exact f6 u hu w hw
  · conv => whnf
    have he : zan A = 24 := by omega
    refine hC _ _ _ _ ((sp_refuse (d := d + 6) (k := 5) (by decide) hI).conseq ?_)
    rintro r σ' ⟨g1, g2, g3⟩
    conv => whnf
    refine ⟨ch, by omega, ?_⟩
    unfold zPP zo_joint zt_joint
    rw [if_pos he, if_pos he]
    exact ⟨g1, g2, g3⟩
/-! bar -/
noncomputable def zo_bar (A : zAS) (x y c : Int32) : zO := if zpr A x y = true then (if ztd A (min x.toNatClampNeg y.toNatClampNeg) (max x.toNatClampNeg y.toNatClampNeg) = true then .inl 2 else if c < 0 then .inl 3 else if 999 < c ∨ zam A = 80 then .inl 5 else .inr (nI (zam A))) else .inl 0
def zput (f : Nat → Nat) (m v : Nat) : Nat → Nat := fun x => if x = m then v else f x
noncomputable def zt_bar (A : zAS) (x y c : Int32) : zAS := match zo_bar A x y c with
  | .inl _ => A
  | .inr _ => (zan A, zam A + 1, zput (zaa A) (zam A) (min x.toNatClampNeg y.toNatClampNeg), zput (zab A) (zam A) (max x.toNatClampNeg y.toNatClampNeg), zput (zac A) (zam A) c.toNatClampNeg, fun q => if q = zam A then true else zat A q)
set_option maxHeartbeats 4000000 in
theorem sp_addBar {E : zEN} {d ch u w c : Nat} {A : zAS} {σ : zST} (hF : zcf A ch σ) (huw : u < w) (hw : w < zan A) (hc : c < 1000) (hm : zam A < 80) (hch : ch + 1 < 2 ^ 30) : zSp E (d + 1) zM_X2_addBar [.inr (2, 1), .inl (nI u), .inl (nI w), .inl (nI c)] σ (fun r σ' => r = nI (zam A) ∧ zagr [1, 2, 3, 4, 5, 6] σ σ' ∧ zcf (zan A, zam A + 1, zput (zaa A) (zam A) u, zput (zab A) (zam A) w, zput (zac A) (zam A) c, fun q => if q = zam A then true else zat A q) (ch + 1) σ') := by
  obtain ⟨⟨v1, v2, v3⟩, f0, f1, f2, f3, f4, f5, f6⟩ := hF
  have hmi : σ 1 6 = nI (zam A) := f2
  refine zSp.of rfl (Nat.le_of_ble_eq_true rfl) (zg_X2_addBar_0 fun G C hG hC => ?_)
  conv => whnf
  refine ⟨pk_in (zam A) 80 hm hmi, ?_⟩
  conv => whnf
  refine ⟨pk_in (zam A) 80 hm hmi, ?_⟩
  conv => whnf
  refine ⟨pk_in (zam A) 80 hm hmi, ?_⟩
  conv => whnf
  refine ⟨pk_in (zam A) 80 hm hmi, Or.inr rfl, ?_⟩
  conv => whnf
  refine ⟨pk_in u 24 (by omega), ?_⟩
  conv => whnf
  refine ⟨pk_in u 24 (by omega), ?_⟩
  conv => whnf
  refine ⟨pk_in w 24 (by omega), ?_⟩
  conv => whnf
  refine ⟨pk_in w 24 (by omega), ?_⟩
  conv => whnf
  dsimp only
  rw [hmi, nI_clamp (by omega : zam A < 2 ^ 31), nI_clamp (by omega : u < 2 ^ 31), nI_clamp (by omega : w < 2 ^ 31)]
  refine ⟨rfl, ?_, ?_⟩
  · repeat (first | exact zagr.rf | refine zagr.up ?_ (by simp))
  · have hne : u ≠ w := by omega
    refine ⟨⟨v1, by show zam A + 1 ≤ 80; omega, fun x hx => ?_⟩, hch, ?_, ?_, ?_, ?_, ?_, ?_⟩
    · have hx : x < zam A + 1 := hx
      show zput (zaa A) (zam A) u x < zput (zab A) (zam A) w x ∧ zput (zab A) (zam A) w x < zan A ∧ zput (zac A) (zam A) c x < 1000
      by_cases e : x = zam A
      · subst e; simp only [zput, if_true]; exact ⟨huw, hw, hc⟩
      · simp only [zput, e, if_false]
        exact v3 x (by omega)
    · simp [zup, upd]; exact f1
    · simp [zup, upd, f2]; exact nI_1 _
    · have hct : fb_ct (fun q => if q = zam A then true else zat A q) (zam A + 1) = fb_ct (zat A) (zam A) + 1 := by
        rw [fb_ct_succ]
        have : fb_ct (fun q => if q = zam A then true else zat A q) (zam A) = fb_ct (zat A) (zam A) := fb_ct_cong fun k hk => by
          have : ¬ k = zam A := by omega
          simp [this]
        rw [this]; simp
      show _ = nI (fb_ct (fun q => if q = zam A then true else zat A q) (zam A + 1))
      rw [hct, ← nI_1, ← f3]
      simp [zup, upd]
    · simp [zup, upd, f4]; exact nI_1 _
    · intro x hx
      have hx : x < zam A + 1 := hx
      show _ = nI (zput (zaa A) (zam A) u x) ∧ _ = nI (zput (zab A) (zam A) w x) ∧ _ = nI (zput (zac A) (zam A) c x) ∧ _ = if (if x = zam A then true else zat A x) = true then 1 else 0
      by_cases e : x = zam A
      · subst e; simp [zup, upd, zput]
      · have := f5 x (by omega)
        simp [zup, upd, zput, e]
        exact this
    · intro a ha b hb
      have key : bt (upd (upd (σ 6) u (σ 6 u ||| ((1 : Int32) <<< (nI w &&& 31)))) w (σ 6 w ||| ((1 : Int32) <<< (nI u &&& 31))) a) b = true ↔ (bt (σ 6 a) b = true ∨ (a = u ∧ b = w) ∨ (a = w ∧ b = u)) := by
        unfold upd
        by_cases e1 : a = w
        · subst e1
          rw [if_pos rfl, b_or, zsh1 u (by omega) b (by omega), Bool.or_eq_true, decide_eq_true_eq]
          constructor
          · rintro (h | h)
            · exact Or.inl h
            · exact Or.inr (Or.inr ⟨rfl, h⟩)
          · rintro (h | ⟨h1, h2⟩ | ⟨h1, h2⟩)
            · exact Or.inl h
            · exact absurd h1.symm hne
            · exact Or.inr h2
        · rw [if_neg e1]
          by_cases e2 : a = u
          · subst e2
            rw [if_pos rfl, b_or, zsh1 w (by omega) b (by omega), Bool.or_eq_true, decide_eq_true_eq]
            constructor
            · rintro (h | h)
              · exact Or.inl h
              · exact Or.inr (Or.inl ⟨rfl, h⟩)
            · rintro (h | ⟨h1, h2⟩ | ⟨h1, h2⟩)
              · exact Or.inl h
              · exact Or.inr h2
              · exact absurd h1 hne
          · rw [if_neg e2]
            constructor
            · exact Or.inl
            · rintro (h | ⟨h1, h2⟩ | ⟨h1, h2⟩)
              · exact h
              · exact absurd h1 e2
              · exact absurd h1 e1
      have goal6 : ∀ (τ : zST), τ 6 = upd (upd (σ 6) u (σ 6 u ||| ((1 : Int32) <<< (nI w &&& 31)))) w (σ 6 w ||| ((1 : Int32) <<< (nI u &&& 31))) → (bt (τ 6 a) b = true ↔ ∃ x, x < zam A + 1 ∧ ((zput (zaa A) (zam A) u x = a ∧ zput (zab A) (zam A) w x = b) ∨ (zput (zaa A) (zam A) u x = b ∧ zput (zab A) (zam A) w x = a))) := by
        intro τ hτ
        rw [hτ, key, f6 a ha b hb]
        constructor
        · rintro (⟨x, hx, hq⟩ | ⟨rfl, rfl⟩ | ⟨rfl, rfl⟩)
          · refine ⟨x, by omega, ?_⟩
            have : ¬ x = zam A := by omega
            simp only [zput, this, if_false]; exact hq
          · exact ⟨zam A, by omega, Or.inl (by simp [zput])⟩
          · exact ⟨zam A, by omega, Or.inr (by simp [zput])⟩
        · rintro ⟨x, hx, hq⟩
          by_cases e : x = zam A
          · subst e
            simp only [zput, if_true] at hq
            rcases hq with ⟨h1, h2⟩ | ⟨h1, h2⟩
            · exact Or.inr (Or.inl ⟨h1.symm, h2.symm⟩)
            · exact Or.inr (Or.inr ⟨h2.symm, h1.symm⟩)
          · simp only [zput, e, if_false] at hq
            exact Or.inl ⟨x, by omega, hq⟩
      refine goal6 _ ?_
      simp [zup, upd, Ne.symm hne]
