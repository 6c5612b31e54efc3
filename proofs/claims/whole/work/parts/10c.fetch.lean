/-! fetch -/
theorem zm3 (v : Nat) : nI v * 3 = nI (3 * v) := (pk_mul v 3).trans (by rw [Nat.mul_comm])
def zfi (k : Nat) (f cb qa : Nat → Int32) (a b : Nat) (s : Int32) (t : Nat) (q : Nat → Nat) : Prop :=
  (∀ i, i < t → qa i = nI (q i)) ∧ zqi q t ∧ q 0 = a ∧ 1 ≤ t ∧ bt s b = true ∧ (∀ i, i < t → bt s (q i) = true ∧ q i ≠ b) ∧ (∀ x, x < 24 → bt s x = true → x = b ∨ ∃ i, i < t ∧ x = q i) ∧ fb_ct (bt s) 24 = t + 1 ∧ zbf k f cb q t ∧ ∀ i, 1 ≤ i → i < t → zlos f k (q i) = 0
theorem zfi_add {k : Nat} {f cb qa : Nat → Int32} {a b : Nat} {s : Int32} {t : Nat} {q : Nat → Nat} (h : zfi k f cb qa a b s t q) {w p i0 : Nat} (hw : w < 24) (hs : bt s w = false) (hp1 : p < 72) (hp2 : p % 3 < k) (hp3 : f p = nI w) (hi0 : i0 < t) (hp4 : p / 3 = q i0) :
    t < 23 ∧ w ≠ b ∧ zqi (fun i => if i = t then w else q i) (t + 1) ∧ zbf k f (upd cb w (nI p)) (fun i => if i = t then w else q i) (t + 1) ∧ (zlos f k w = 0 → zfi k f (upd cb w (nI p)) (upd qa t (nI w)) a b (s ||| ((1 : Int32) <<< (nI w &&& 31))) (t + 1) (fun i => if i = t then w else q i)) := by
  obtain ⟨h1, h2, h3, h4, h5, h6, h7, h8, h9, h10⟩ := h
  have hqw : ∀ i, i < t → q i ≠ w := fun i hi e => by have := (h6 i hi).1; rw [e, hs] at this; cases this
  have hwb : w ≠ b := fun e => by rw [e, h5] at hs; cases hs
  have hcnt : fb_ct (fun x => if x = w then true else bt s x) 24 = t + 2 := by rw [fb_ct_add1 hw hs, h8]
  have ht : t < 23 := by have := fb_ct_le (fun x => if x = w then true else bt s x) 24; omega
  have hqi : zqi (fun i => if i = t then w else q i) (t + 1) := by
    refine ⟨fun i hi => ?_, fun i i' hi hi' e => ?_⟩
    · by_cases e : i = t
      · simp [e, hw]
      · simp only [e, if_false]; exact h2.1 i (by omega)
    · by_cases e1 : i = t <;> by_cases e2 : i' = t
      · omega
      · simp only [e1, e2, if_true, if_false] at e; exact absurd e.symm (hqw i' (by omega))
      · simp only [e1, e2, if_true, if_false] at e; exact absurd e (hqw i (by omega))
      · simp only [e1, e2, if_false] at e; exact h2.2 i i' (by omega) (by omega) e
  have hbf : zbf k f (upd cb w (nI p)) (fun i => if i = t then w else q i) (t + 1) := by
    intro i hi1 hi2
    by_cases e : i = t
    · subst e
      exact ⟨p, i0, by simp [upd], hp1, hp2, by simp [hp3], hi0, by simp [hp4, Nat.ne_of_lt hi0]⟩
    · obtain ⟨p', i', c1, c2, c3, c4, c5, c6⟩ := h9 i hi1 (by omega)
      refine ⟨p', i', ?_, c2, c3, ?_, c5, ?_⟩
      · simp only [e, if_false]; rw [pk_un (hqw i (by omega)), c1]
      · simp only [e, if_false]; exact c4
      · have : ¬ i' = t := by omega
        simp only [this, if_false]; exact c6
  refine ⟨ht, hwb, hqi, hbf, fun hl => ⟨?_, hqi, ?_, by omega, ?_, ?_, ?_, ?_, hbf, ?_⟩⟩
  · intro i hi
    by_cases e : i = t
    · subst e; simp [upd]
    · simp only [e, if_false]; rw [pk_un e]; exact h1 i (by omega)
  · have : ¬ 0 = t := by omega
    simp only [this, if_false]; exact h3
  · rw [b_or, h5]; rfl
  · intro i hi
    by_cases e : i = t
    · subst e
      simp only [if_true]
      refine ⟨?_, hwb⟩
      rw [b_or, zsh1 w (by omega) w (by omega)]; simp
    · simp only [e, if_false]
      have := h6 i (by omega)
      exact ⟨by rw [b_or, this.1]; rfl, this.2⟩
  · intro x hx hb
    rw [b_or, zsh1 w (by omega) x (by omega), Bool.or_eq_true, decide_eq_true_eq] at hb
    rcases hb with hb | hb
    · rcases h7 x hx hb with h | ⟨i, hi, e⟩
      · exact Or.inl h
      · refine Or.inr ⟨i, by omega, ?_⟩
        have : ¬ i = t := by omega
        simp only [this, if_false]; exact e
    · exact Or.inr ⟨t, by omega, by simp [hb]⟩
  · rw [← hcnt]
    refine fb_ct_cong fun x hx => ?_
    rw [b_or, zsh1 w (by omega) x (by omega)]
    by_cases e : x = w <;> simp [e]
  · intro i hi1 hi2
    by_cases e : i = t
    · simp only [e, if_true]; exact hl
    · simp only [e, if_false]; exact h10 i hi1 (by omega)
/-- of a joint's pebbles the first c lead to what is seen -/
def zsn (f : Nat → Int32) (s : Int32) (v c : Nat) : Prop := ∀ i, i < c → f (3 * v + i) = -1 ∨ ∃ w, w < 24 ∧ f (3 * v + i) = nI w ∧ bt s w = true
theorem zsn.or {f : Nat → Int32} {s s' : Int32} {v c : Nat} (h : zsn f s v c) : zsn f (s ||| s') v c := fun i hi => (h i hi).imp id fun ⟨w, h1, h2, h3⟩ => ⟨w, h1, h2, by rw [b_or, h3]; rfl⟩
def zfpost (k j a b : Nat) (σ : zST) : zPT := fun r σ' =>
  (r = 1 ∧ zagr [j + 1, j + 2, j + 3] σ σ' ∧ zva k (σ' (j + 1)) ∧ (∀ V, ziL k (σ' (j + 1)) V = ziL k (σ (j + 1)) V) ∧ zlos (σ' (j + 1)) k a = zlos (σ (j + 1)) k a + 1 ∧ zlos (σ' (j + 1)) k b = zlos (σ (j + 1)) k b) ∨
  (r = 0 ∧ zagr [j + 2, j + 3] σ σ' ∧ ∃ R : Nat → Bool, R a = true ∧ R b = true ∧ (∀ v c, v < 24 → R v = true → v ≠ b → c < k → σ (j + 1) (3 * v + c) = -1 ∨ ∃ w, w < 24 ∧ σ (j + 1) (3 * v + c) = nI w ∧ R w = true) ∧ ∀ x, x < 24 → R x = true → x ≠ a → x ≠ b → zlos (σ (j + 1)) k x = 0)
theorem sp_fetch {E : zEN} {d j k a b : Nat} {σ : zST} (hk : k ≤ 3) (hσ : σ j 3 = nI k) (hva : zva k (σ (j + 1))) (ha : a < 24) (hb : b < 24) (hab : a ≠ b) : zSp E (d + 2) zM_X4_fetch [.inr (4, j), .inl (nI a), .inl (nI b)] σ (zfpost k j a b σ) := by
  refine zSp.of rfl (Nat.le_of_ble_eq_true rfl) ?_
  -- the end without success
  have done : ∀ (s : Int32) (t : Nat) (q : Nat → Nat) (σ' : zST), zagr [j + 2, j + 3] σ σ' → zfi k (σ (j + 1)) (σ' (j + 2)) (σ' (j + 3)) a b s t q → (∀ i, i < t → zsn (σ (j + 1)) s (q i) k) → zfpost k j a b σ 0 σ' := by
    intro s t q σ' hag hfi hcl
    obtain ⟨h1, h2, h3, h4, h5, h6, h7, h8, h9, h10⟩ := hfi
    refine Or.inr ⟨rfl, hag, bt s, ?_, h5, ?_, ?_⟩
    · rw [← h3]; exact (h6 0 (by omega)).1
    · intro v c hv hR hvb hc
      rcases h7 v hv hR with h | ⟨i, hi, e⟩
      · exact absurd h hvb
      · subst e; exact hcl i hi c hc
    · intro x hx hR hxa hxb
      rcases h7 x hx hR with h | ⟨i, hi, e⟩
      · exact absurd h hxb
      · subst e
        refine h10 i ?_ hi
        rcases Nat.eq_zero_or_pos i with e | e
        · subst e; exact absurd h3 hxa
        · exact e
  -- the two loops, by what is left of the queue and of the pebbles
  have loop : ∀ n, ∀ (s x4 x5 : Int32) (x6 x7 x8 x9 : Option zAV) (t h : Nat) (q : Nat → Nat) (σ' : zST), 24 - h ≤ n → x4 = nI t → x5 = nI h → h ≤ t → zagr [j + 2, j + 3] σ σ' → zfi k (σ (j + 1)) (σ' (j + 2)) (σ' (j + 3)) a b s t q → (∀ i, i < h → zsn (σ (j + 1)) s (q i) k) → zWp E (d + 2) zM_X4_fetch (zfpost k j a b σ) 21 [some (.inr (4, j)), some (.inl (nI a)), some (.inl (nI b)), some (.inl s), some (.inl x4), some (.inl x5), x6, x7, x8, x9] [] σ' := by
    intro n
    induction n with
    | zero =>
      intro s x4 x5 x6 x7 x8 x9 t h q σ' hn hx4 hx5 hht hag hfi hcl
      have h24 : 24 ≤ h := by omega
      have := hfi.2.2.2.2.2.2.2.1
      have := fb_ct_le (bt s) 24
      omega
    | succ n ih =>
      intro s x4 x5 x6 x7 x8 x9 t h q σ' hn hx4 hx5 hht hag hfi hcl
      have ht24 : t < 24 := by
        have := hfi.2.2.2.2.2.2.2.1
        have := fb_ct_le (bt s) 24
        omega
      refine zg_X4_fetch_21 fun G C hG hC => ?_
      conv => whnf
      refine pk_le t h (fun hh => ?_) (fun hh => ?_) hx4 hx5
      · conv => whnf
        refine ⟨Or.inl rfl, done s t q σ' hag hfi (fun i hi => hcl i (by omega))⟩
      · conv => whnf
        refine pk_le 24 h (fun hh => by omega) (fun _ => ?_) rfl hx5
        conv => whnf
        refine ⟨pk_in h 24 (by omega) hx5, ?_⟩
        conv => whnf
        have hqv : σ' (j + 3) (x5.toNatClampNeg) = nI (q h) := by rw [pk_cl h hx5]; exact hfi.1 h hh
        have hv24 : q h < 24 := hfi.2.1.1 h hh
        dsimp only
        rw [hqv]
        have e1 : nI (q h) * 3 = nI (3 * q h) := zm3 _
        -- the inner loop
        have inner : ∀ m, ∀ (s y4 y6 y7 : Int32) (y8 y9 : Option zAV) (c t : Nat) (q : Nat → Nat) (σ' : zST), c + m = k → y4 = nI t → y6 = nI (q h) → y7 = nI (3 * q h + c) → h < t → zagr [j + 2, j + 3] σ σ' → zfi k (σ (j + 1)) (σ' (j + 2)) (σ' (j + 3)) a b s t q → (∀ i, i < h → zsn (σ (j + 1)) s (q i) k) → zsn (σ (j + 1)) s (q h) c → zWp E (d + 2) zM_X4_fetch (zfpost k j a b σ) 50 [some (.inr (4, j)), some (.inl (nI a)), some (.inl (nI b)), some (.inl s), some (.inl y4), some (.inl x5), some (.inl y6), some (.inl y7), y8, y9] [] σ' := by
          intro m
          induction m with
          | zero =>
            intro s y4 y6 y7 y8 y9 c t q σ' hcm hy4 hy6 hy7 hht hag hfi hcl hcv
            have hv24 : q h < 24 := hfi.2.1.1 h hht
            have hσ' : σ' j 3 = nI k := by rw [hag j (by simp)]; exact hσ
            have e1 : y6 * 3 + σ' j 3 = nI (3 * q h + k) := by rw [hy6, zm3, hσ', nI_add]
            refine zg_X4_fetch_50 fun G C hG hC => ?_
            conv => whnf
            refine pk_le (3 * q h + k) (3 * q h + c) (fun _ => ?_) (fun hh => by omega) e1 hy7
            conv => whnf
            refine hG _ _ _ _ (ih _ _ _ _ _ _ _ t (h + 1) q σ' (by omega) hy4 (by rw [hx5, nI_1]) (by omega) hag hfi (fun i hi => ?_))
            by_cases e : i = h
            · subst e
              have : c = k := by omega
              subst this; exact hcv
            · exact hcl i (by omega)
          | succ m ihm =>
            intro s y4 y6 y7 y8 y9 c t q σ' hcm hy4 hy6 hy7 hht hag hfi hcl hcv
            have hv24 : q h < 24 := hfi.2.1.1 h hht
            have hσ' : σ' j 3 = nI k := by rw [hag j (by simp)]; exact hσ
            have hf' : σ' (j + 1) = σ (j + 1) := hag (j + 1) (by simp)
            have e1 : y6 * 3 + σ' j 3 = nI (3 * q h + k) := by rw [hy6, zm3, hσ', nI_add]
            refine zg_X4_fetch_50 fun G C hG hC => ?_
            conv => whnf
            refine pk_le (3 * q h + k) (3 * q h + c) (fun hh => by omega) (fun _ => ?_) e1 hy7
            conv => whnf
            refine ⟨pk_in (3 * q h + c) 72 (by omega) hy7, ?_⟩
            conv => whnf
            dsimp only
            rw [pk_cl (3 * q h + c) hy7, hf']
            have hnext : y7 + 1 = nI (3 * q h + (c + 1)) := by rw [hy7, nI_1]; rfl
            rcases hva (q h) c hv24 (by omega) with hw | ⟨w, hw24, hw⟩
            · rw [hw]
              refine br_t rfl ?_
              conv => whnf
              refine hG _ _ _ _ (ihm _ _ _ _ _ _ (c + 1) t q σ' (by omega) hy4 hy6 hnext hht hag hfi hcl (fun i hi => ?_))
              by_cases e : i = c
              · subst e; exact Or.inl hw
              · exact hcv i (by omega)
            · rw [hw]
              refine br_f (zm1 (by omega)) ?_
              conv => whnf
              refine hC _ _ _ _ ((sp_has (v := w) (by omega)).conseq ?_)
              rintro r σ' ⟨rfl, rfl⟩
              conv => whnf
              cases hsw : bt s w
              · -- a joint not seen yet
                rw [if_neg (by decide)]
                refine br_t rfl ?_
                conv => whnf
                refine ⟨pk_in w 24 hw24, ?_⟩
                obtain ⟨ht23, hwb, hqi', hbf', hfi'⟩ := zfi_add hfi hw24 hsw (p := 3 * q h + c) (i0 := h) (by omega) (by omega) hw hht (by omega)
                have qt : (fun i => if i = t then w else q i) t = w := by simp
                have qo : ∀ i, i ≠ t → (fun i => if i = t then w else q i) i = q i := fun i h => by simp [h]
                generalize (fun i => if i = t then w else q i) = q' at hqi' hbf' hfi' qt qo
                conv => whnf
                dsimp only
                rw [nI_clamp (by omega : w < 2 ^ 31), hy7]
                have hag2 : zagr [j + 2, j + 3] σ (zup σ' (j + 2) w (nI (3 * q h + c))) := hag.up (by simp)
                have k1 : zup σ' (j + 2) w (nI (3 * q h + c)) (j + 2) = upd (σ' (j + 2)) w (nI (3 * q h + c)) := zup_self
                have k2 : zup σ' (j + 2) w (nI (3 * q h + c)) (j + 3) = σ' (j + 3) := zup_ne (by omega)
                have k3 : zup σ' (j + 2) w (nI (3 * q h + c)) (j + 1) = σ (j + 1) := hag2 (j + 1) (by simp)
                generalize zup σ' (j + 2) w (nI (3 * q h + c)) = σ3 at hag2 k1 k2 k3 ⊢
                refine hC _ _ _ _ ((sp_loosePebble (k := k) hw24 hk (by rw [hag2 j (by simp)]; exact hσ)).conseq ?_)
                rintro r σ4 ⟨rfl, hr⟩
                conv => whnf
                rw [k3] at hr
                rcases hr with ⟨i, hi, rfl, hlo⟩ | ⟨rfl, hlo⟩
                · refine br_f (nI_pos (by omega)) ?_
                  conv => whnf
                  have hq0 : q' 0 = a := by rw [qo 0 (by have := hfi.2.2.2.1; omega)]; exact hfi.2.2.1
                  have hsp := sp_turnBack (E := E) (d := d) (j := j) (σ := σ4) (q := q') (n := t) (p0 := 3 * w + i) hk (by rw [k3]; exact hva) (by omega) hqi' (by rw [k3, k1]; exact hbf') (by omega) (by omega) (by rw [qt]; omega) (by rw [k3]; exact hlo)
                  rw [hq0, qt] at hsp
                  refine hC _ _ _ _ (hsp.conseq ?_)
                  rintro r σ5 ⟨g1, g2, g3, g4⟩
                  conv => whnf
                  refine ⟨Or.inr rfl, Or.inl ⟨rfl, ?_, g2, fun V => by rw [g3, k3], ?_, ?_⟩⟩
                  · exact (hag2.sub (by simp)).tr (g1.sub (by simp))
                  · have := g4 a
                    have haw : ¬ a = w := by
                      intro e
                      have := (hfi.2.2.2.2.2.1 0 (by omega)).1
                      rw [hfi.2.2.1, e, hsw] at this
                      cases this
                    rw [k3] at this
                    simp only [haw, if_false, if_true] at this
                    omega
                  · have := g4 b
                    rw [k3] at this
                    simp only [Ne.symm hwb, Ne.symm hab, if_false] at this
                    omega
                · refine br_t (by decide) ?_
                  conv => whnf
                  refine pk_le 24 t (fun hh => by omega) (fun _ => ?_) rfl hy4
                  conv => whnf
                  refine ⟨pk_in t 24 (by omega) hy4, ?_⟩
                  conv => whnf
                  dsimp only
                  rw [pk_cl t hy4]
                  have qh : q' h = q h := qo h (by omega)
                  refine hG _ _ _ _ (ihm _ _ _ _ _ _ (c + 1) (t + 1) q' _ (by omega) (by rw [hy4, nI_1]) (by rw [qh]; exact hy6) (by rw [qh, nI_1]; rfl) (by omega) (hag2.up (by simp)) ?_ ?_ ?_)
                  · rw [zup_self, zup_ne (by omega), k1, k2]
                    exact hfi' hlo
                  · intro i hi
                    rw [qo i (by omega)]
                    exact (hcl i hi).or
                  · intro i hi
                    rw [qh]
                    by_cases e : i = c
                    · subst e
                      refine Or.inr ⟨w, hw24, hw, ?_⟩
                      rw [b_or, zsh1 w (by omega) w (by omega)]; simp
                    · exact hcv.or i (by omega)
              · rw [if_pos rfl]
                refine br_f (by decide) ?_
                conv => whnf
                refine hG _ _ _ _ (ihm _ _ _ _ _ _ (c + 1) t q σ' (by omega) hy4 hy6 hnext hht hag hfi hcl (fun i hi => ?_))
                by_cases e : i = c
                · subst e; exact Or.inr ⟨w, hw24, hw, hsw⟩
                · exact hcv i (by omega)
        exact hG _ _ _ _ (inner k s _ _ _ _ _ 0 t q σ' (by omega) hx4 rfl e1 hh hag hfi hcl (fun i hi => absurd hi (Nat.not_lt_zero i)))
  refine zg_X4_fetch_0 fun G C hG hC => ?_
  conv => whnf
  refine ⟨pk_in 0 24 (by omega), ?_⟩
  conv => whnf
  have hs : ∀ x, x < 24 → bt ((1 : Int32) <<< (nI a &&& 31) ||| (1 : Int32) <<< (nI b &&& 31)) x = (decide (x = a) || decide (x = b)) := fun x hx => by rw [b_or, zsh1 a (by omega) x (by omega), zsh1 b (by omega) x (by omega)]
  refine hG _ _ _ _ (loop 24 _ _ _ _ _ _ _ 1 0 (fun _ => a) _ (by omega) rfl rfl (by omega) (zagr.rf.up (by simp)) ⟨?_, ⟨fun _ _ => ha, fun i j hi hj _ => by omega⟩, rfl, Nat.le_refl _, ?_, ?_, ?_, ?_, fun i h1 h2 => by omega, fun i h1 h2 => by omega⟩ (fun i hi => absurd hi (Nat.not_lt_zero i)))
  · intro i hi
    have : i = 0 := by omega
    subst this
    rw [zup_self]; exact pk_us
  · rw [hs b hb]; simp
  · intro i hi
    exact ⟨by rw [hs a ha]; simp, hab⟩
  · intro x hx h
    rw [hs x hx, Bool.or_eq_true, decide_eq_true_eq, decide_eq_true_eq] at h
    exact h.elim (fun h => Or.inr ⟨0, by omega, h⟩) Or.inl
  · rw [fb_ct_cong hs]
    have g : ∀ u, u < 24 → ∀ w, w < 24 → u ≠ w → fb_ct (fun x => decide (x = u) || decide (x = w)) 24 = 2 := by decide +kernel
    exact g a ha b hb hab
