/-! the reference: begins, makesRoom -/
def zmo (k n : Nat) (ea eb le : Nat → Nat) (σ : zST) : Prop := k ≤ 3 ∧ σ 48 12 = nI k ∧ σ 48 11 = nI n ∧ (∀ x, x < n → σ 54 x = nI (ea x) ∧ σ 55 x = nI (eb x) ∧ σ 56 x = nI (le x)) ∧ zen n ea eb le ∧ ∀ v, v < 24 → σ 57 v = nI (zld le n v) ∧ zld le n v ≤ k
def zsee (sn : Nat → Bool) (σ : zST) : Prop := ∀ v, v < 24 → σ 58 v = if sn v = true then 1 else 0
def zmpost (k n : Nat) (ea eb le : Nat → Nat) (sn : Nat → Bool) (j : Nat) (σ : zST) : zPT := fun r σ' => zagr [56, 57, 58] σ σ' ∧ ∃ sn' : Nat → Bool, zsee sn' σ' ∧ (∀ v, sn v = true → sn' v = true) ∧ ((r = 1 ∧ ∃ le' : Nat → Nat, zmo k n ea eb le' σ' ∧ zld le' n j < k ∧ ∀ x, x < n → sn (le x) = true → le' x = le x) ∨ (r = 0 ∧ zagr [58] σ σ' ∧ sn' j = true ∧ ∀ v, v < 24 → sn' v = true → sn v = true ∨ (zld le n v = k ∧ ∀ x, x < n → le x = v → sn' (ea x) = true ∧ sn' (eb x) = true)))
theorem zmo.seen {k n : Nat} {ea eb le : Nat → Nat} {σ σ' : zST} (h : zmo k n ea eb le σ) (hag : zagr [58] σ σ') : zmo k n ea eb le σ' := by
  obtain ⟨h1, h2, h3, h4, h5, h6⟩ := h
  unfold zmo
  rw [hag 48 (by simp), hag 54 (by simp), hag 55 (by simp), hag 56 (by simp), hag 57 (by simp)]
  exact ⟨h1, h2, h3, h4, h5, h6⟩
theorem zmove {k n : Nat} {ea eb le : Nat → Nat} {σ : zST} (h : zmo k n ea eb le σ) {x j to : Nat} (hx : x < n) (hj : le x = j) (hto : (to = eb x ∧ j = ea x) ∨ (to = ea x ∧ j = eb x)) (hr : zld le n to < k) : zmo k n ea eb (fun y => if y = x then to else le y) (zup (zup (zup σ 56 x (nI to)) 57 to (σ 57 to + 1)) 57 j (upd (σ 57) to (σ 57 to + 1) j - 1)) ∧ zld (fun y => if y = x then to else le y) n j < k := by
  obtain ⟨h1, h2, h3, h4, h5, h6⟩ := h
  obtain ⟨e1, e2, e3, e4⟩ := h5 x hx
  have hjt : j ≠ to := by rcases hto with ⟨a, b⟩ | ⟨a, b⟩ <;> omega
  have hj24 : j < 24 := by rcases hto with ⟨a, b⟩ | ⟨a, b⟩ <;> omega
  have hto24 : to < 24 := by rcases hto with ⟨a, b⟩ | ⟨a, b⟩ <;> omega
  have u := fun v => zld_up (le := le) (to := to) v hx
  have hjpos : 0 < zld le n j := fb_ct_pos.mpr ⟨x, hx, by simp [hj]⟩
  have uj := u j
  have ut := u to
  have hjk := (h6 j hj24).2
  simp only [hj, hjt, Ne.symm hjt, if_true, if_false] at uj ut
  refine ⟨⟨h1, ?_, ?_, ?_, ?_, ?_⟩, by omega⟩
  · rw [zup_ne (by decide), zup_ne (by decide), zup_ne (by decide)]; exact h2
  · rw [zup_ne (by decide), zup_ne (by decide), zup_ne (by decide)]; exact h3
  · intro y hy
    rw [zup_ne (by decide), zup_ne (by decide), zup_ne (by decide), zup_ne (by decide), zup_ne (by decide), zup_ne (by decide), zup_ne (by decide), zup_ne (by decide), zup_self]
    refine ⟨(h4 y hy).1, (h4 y hy).2.1, ?_⟩
    by_cases e : y = x
    · subst e; simp [upd]
    · simp only [e, if_false]; rw [pk_un e]; exact (h4 y hy).2.2
  · intro y hy
    obtain ⟨q1, q2, q3, q4⟩ := h5 y hy
    refine ⟨q1, q2, q3, ?_⟩
    by_cases e : y = x
    · subst e; simp only [if_true]
      rcases hto with ⟨a, b⟩ | ⟨a, b⟩
      · exact Or.inr a
      · exact Or.inl a
    · simp only [e, if_false]; exact q4
  · intro v hv
    have uv := u v
    rw [zup_self, zup_self, zup_ne (by decide)]
    by_cases ev : v = j
    · subst ev
      rw [pk_us, pk_un hjt, (h6 v hv).1]
      refine ⟨?_, by omega⟩
      obtain ⟨q, hq⟩ : ∃ q, zld le n v = q + 1 := ⟨zld le n v - 1, by omega⟩
      rw [hq, nI_pred]
      congr 1
      omega
    · rw [pk_un ev]
      by_cases et : v = to
      · subst et
        rw [pk_us, (h6 v hv).1, nI_1]
        exact ⟨by congr 1; omega, by omega⟩
      · rw [pk_un et, (h6 v hv).1]
        have := (h6 v hv).2
        simp only [hj, Ne.symm ev, Ne.symm et, if_false] at uv
        exact ⟨by congr 1; omega, by omega⟩
set_option maxHeartbeats 4000000 in
theorem sp_makesRoom {E : zEN} {d k n : Nat} {ea eb : Nat → Nat} : ∀ (m : Nat) (le : Nat → Nat) (sn : Nat → Bool) (j : Nat) (σ : zST), zmo k n ea eb le σ → zsee sn σ → j < 24 → sn j = false → fb_ct (fun v => !sn v) 24 ≤ m → zSp E (d + m + 1) zM_X8_makesRoom [.inr (8, 48), .inl (nI j)] σ (zmpost k n ea eb le sn j σ) := by
  intro m
  induction m with
  | zero =>
    intro le sn j σ hM hs hj hsj hm
    have : 0 < fb_ct (fun v => !sn v) 24 := fb_ct_pos.mpr ⟨j, hj, by simp [hsj]⟩
    omega
  | succ m ih =>
    intro le sn j σ hM hs hj hsj hm
    obtain ⟨hk3, hk, hn, hA, hE, hL⟩ := hM
    have hn72 : n ≤ 72 := by have := zmF_n hE (fun v hv => (hL v hv).2); omega
    refine zSp.of rfl (Nat.le_of_ble_eq_true rfl) (zg_X8_makesRoom_0 fun G C hG hC => ?_)
    conv => whnf
    refine ⟨pk_in j 24 hj, ?_⟩
    conv => whnf
    dsimp only
    rw [nI_clamp (by omega : j < 2 ^ 31), (hL j hj).1, hk]
    refine pk_le k (zld le n j) (fun hfull => ?_) (fun hfree => ?_) rfl rfl (by omega) (by have := (hL j hj).2; omega)
    · conv => whnf
      refine ⟨pk_in j 24 hj, ?_⟩
      conv => whnf
      refine ⟨Or.inr rfl, ?_⟩
      conv => whnf
      dsimp only
      rw [nI_clamp (by omega : j < 2 ^ 31)]
      have hfull : zld le n j = k := by have := (hL j hj).2; omega
      have loop : ∀ r x (x2 : Int32) (x3 : Option zAV) (sn' : Nat → Bool) (σ' : zST), x + r = n → x2 = nI x → zagr [58] σ σ' → zsee sn' σ' → (∀ v, sn v = true → sn' v = true) → sn' j = true → (∀ v, v < 24 → sn' v = true → sn v = true ∨ v = j ∨ (zld le n v = k ∧ ∀ x, x < n → le x = v → sn' (ea x) = true ∧ sn' (eb x) = true)) → (∀ y, y < x → le y = j → sn' (ea y) = true ∧ sn' (eb y) = true) → zWp E (d + m + 1 + 1) zM_X8_makesRoom (zmpost k n ea eb le sn j σ) 24 [some (.inr (8, 48)), some (.inl (nI j)), some (.inl x2), x3] [] σ' := by
        intro r
        induction r with
        | zero =>
          intro x x2 x3 sn' σ' hx hx2 hag hs' hsub hsj' hcl hdone
          have hn' : σ' 48 11 = nI n := by rw [hag 48 (by simp)]; exact hn
          refine zg_X8_makesRoom_24 fun G C hG hC => ?_
          conv => whnf
          refine pk_le n x (fun _ => ?_) (fun _ => by omega) hn' hx2
          conv => whnf
          refine ⟨Or.inl rfl, hag.sub (by simp), sn', hs', hsub, Or.inr ⟨rfl, hag, hsj', fun v hv hq => ?_⟩⟩
          rcases hcl v hv hq with h | h | h
          · exact Or.inl h
          · subst h; exact Or.inr ⟨hfull, fun y hy e => hdone y (by omega) e⟩
          · exact Or.inr h
        | succ r ihr =>
          intro x x2 x3 sn' σ' hx hx2 hag hs' hsub hsj' hcl hdone
          have hn' : σ' 48 11 = nI n := by rw [hag 48 (by simp)]; exact hn
          have hxn : x < n := by omega
          obtain ⟨a1, a2, a3⟩ := hA x hxn
          obtain ⟨o1, o2, o3, o4⟩ := hE x hxn
          have hle24 := hE.lt x hxn
          refine zg_X8_makesRoom_24 fun G C hG hC => ?_
          conv => whnf
          refine pk_le n x (fun _ => by omega) (fun _ => ?_) hn' hx2
          conv => whnf
          refine ⟨pk_in x 88 (by omega) hx2, ?_⟩
          conv => whnf
          dsimp only
          rw [pk_cl x hx2, hag 56 (by simp), a3]
          have hnext : x2 + 1 = nI (x + 1) := by rw [hx2, nI_1]
          refine pk_eq (le x) j (fun hlj => ?_) (fun hlj => ?_)
          · -- it leans on j
            conv => whnf
            refine ⟨pk_in x 88 (by omega) hx2, ?_⟩
            conv => whnf
            dsimp only
            rw [pk_cl x hx2, hag 54 (by simp), a1]
            -- what follows for the other end
            have tail : ∀ to, ((to = eb x ∧ j = ea x) ∨ (to = ea x ∧ j = eb x)) → zB_X8_makesRoom_70 G C (zmpost k n ea eb le sn j σ) [some (.inr (8, 48)), some (.inl (nI j)), some (.inl x2), x3] [.inl (nI to)] σ' := by
              intro to hto
              have hto24 : to < 24 := by rcases hto with ⟨h, -⟩ | ⟨h, -⟩ <;> omega
              have hends : sn' to = true → sn' (ea x) = true ∧ sn' (eb x) = true := by
                intro h
                rcases hto with ⟨e1, e2⟩ | ⟨e1, e2⟩
                · rw [← e1, ← e2]; exact ⟨hsj', h⟩
                · rw [← e1, ← e2]; exact ⟨h, hsj'⟩
              conv => whnf
              refine ⟨pk_in to 24 hto24, ?_⟩
              conv => whnf
              dsimp only
              rw [nI_clamp (by omega : to < 2 ^ 31), hs' to hto24]
              cases hst : sn' to
              · rw [if_neg (by decide)]
                refine br_t rfl ?_
                conv => whnf
                refine hC _ _ _ _ ((ih le sn' to σ' (zmo.seen ⟨hk3, hk, hn, hA, hE, hL⟩ hag) hs' hto24 hst ?_).conseq ?_)
                · have h1 : fb_ct (fun v => !sn' v) 24 < fb_ct (fun v => !sn v) 24 := by
                    have g1 : fb_ct (fun v => !sn' v) 24 ≤ fb_ct (fun v => if v = j then false else !sn v) 24 := fb_ct_sub fun v _ h => by
                      simp only [Bool.not_eq_true'] at h
                      by_cases e : v = j
                      · subst e; rw [hsj'] at h; cases h
                      · simp only [e, if_false, Bool.not_eq_true']
                        cases hq : sn v
                        · rfl
                        · rw [hsub v hq] at h; cases h
                    have g2 := fb_ct_del1 (K := fun v => !sn v) hj (by simp [hsj])
                    omega
                  omega
                · rintro r2 σ2 ⟨b1, sn2, b2, b3, (⟨rfl, le2, b4, b5, b6⟩ | ⟨rfl, b4, b5, b6⟩)⟩
                  · conv => whnf
                    refine br_f (by decide) ?_
                    conv => whnf
                    have hle2 : le2 x = j := by rw [b6 x hxn (by rw [hlj]; exact hsj'), hlj]
                    obtain ⟨c1, c2⟩ := zmove b4 hxn hle2 hto b5
                    refine ⟨pk_in x 88 (by omega) hx2, ?_⟩
                    conv => whnf
                    refine ⟨pk_in to 24 hto24, ?_⟩
                    conv => whnf
                    refine ⟨pk_in to 24 hto24, ?_⟩
                    conv => whnf
                    refine ⟨pk_in j 24 hj, ?_⟩
                    conv => whnf
                    refine ⟨pk_in j 24 hj, ?_⟩
                    conv => whnf
                    refine ⟨Or.inr rfl, ?_⟩
                    dsimp only
                    rw [pk_cl x hx2, nI_clamp (by omega : to < 2 ^ 31), nI_clamp (by omega : j < 2 ^ 31), zup_self (j := 57), zup_ne (by decide : (57 : Nat) ≠ 56)]
                    refine ⟨?_, sn2, ?_, fun v h => b3 v (hsub v h), Or.inl ⟨rfl, _, c1, c2, ?_⟩⟩
                    · exact ((((hag.sub (by simp)).tr b1).up (by simp)).up (by simp)).up (by simp)
                    · intro v hv
                      rw [zup_ne (by decide), zup_ne (by decide), zup_ne (by decide)]
                      exact b2 v hv
                    · intro y hy hsy
                      have : ¬ y = x := fun e => by subst e; rw [hlj, hsj] at hsy; cases hsy
                      simp only [this, if_false]
                      exact b6 y hy (hsub _ hsy)
                  · conv => whnf
                    refine br_t rfl ?_
                    conv => whnf
                    refine hG _ _ _ _ (ihr (x + 1) _ _ sn2 σ2 (by omega) hnext (hag.tr b4) b2 (fun v h => b3 v (hsub v h)) (b3 j hsj') (fun v hv hq => ?_) (fun y hy e => ?_))
                    · rcases b6 v hv hq with h | h
                      · rcases hcl v hv h with h | h | ⟨h1, h2⟩
                        · exact Or.inl h
                        · exact Or.inr (Or.inl h)
                        · exact Or.inr (Or.inr ⟨h1, fun y hy e => ⟨b3 _ (h2 y hy e).1, b3 _ (h2 y hy e).2⟩⟩)
                      · exact Or.inr (Or.inr h)
                    · by_cases ey : y = x
                      · subst ey
                        rcases hto with ⟨e1, e2⟩ | ⟨e1, e2⟩
                        · rw [← e1, ← e2]; exact ⟨b3 j hsj', b5⟩
                        · rw [← e1, ← e2]; exact ⟨b5, b3 j hsj'⟩
                      · have := hdone y (by omega) e
                        exact ⟨b3 _ this.1, b3 _ this.2⟩
              · rw [if_pos rfl]
                refine br_f (by decide) ?_
                conv => whnf
                refine hG _ _ _ _ (ihr (x + 1) _ _ sn' σ' (by omega) hnext hag hs' hsub hsj' hcl (fun y hy e => ?_))
                by_cases ey : y = x
                · subst ey; exact hends hst
                · exact hdone y (by omega) e
            refine pk_eq (ea x) j (fun h => ?_) (fun h => ?_)
            · conv => whnf
              refine ⟨pk_in x 88 (by omega) hx2, ?_⟩
              have := tail (eb x) (Or.inl ⟨rfl, h.symm⟩)
              dsimp only
              rw [pk_cl x hx2, hag 55 (by simp), a2]
              exact this
            · conv => whnf
              refine ⟨pk_in x 88 (by omega) hx2, ?_⟩
              have := tail (ea x) (Or.inr ⟨rfl, by rcases o4 with e | e <;> omega⟩)
              dsimp only
              rw [pk_cl x hx2, hag 54 (by simp), a1]
              exact this
          · conv => whnf
            refine hG _ _ _ _ (ihr (x + 1) _ _ sn' σ' (by omega) hnext hag hs' hsub hsj' hcl (fun y hy e => ?_))
            by_cases ey : y = x
            · subst ey; exact absurd e hlj
            · exact hdone y (by omega) e
      refine hG _ _ _ _ (loop n 0 _ _ (fun v => if v = j then true else sn v) _ (by omega) rfl (zagr.rf.up (by simp)) ?_ ?_ ?_ ?_ (fun y hy => absurd hy (Nat.not_lt_zero y)))
      · intro v hv
        rw [zup_self]
        by_cases e : v = j
        · subst e; rw [pk_us]; simp
        · rw [pk_un e, hs v hv]; simp [e]
      · intro v h
        by_cases e : v = j <;> simp [e, h]
      · simp
      · intro v hv h
        by_cases e : v = j
        · exact Or.inr (Or.inl e)
        · simp only [e, if_false] at h; exact Or.inl h
    · conv => whnf
      exact ⟨Or.inr rfl, zagr.rf, sn, hs, fun _ h => h, Or.inl ⟨rfl, le, ⟨hk3, hk, hn, hA, hE, hL⟩, hfree, fun _ _ _ => rfl⟩⟩
