/-! play -/
def zplay (A : zAS) (ch j : Nat) (bc : Bool) (k l : Nat) (σ : zST) : zPT := fun _ σ' => zagr (zrj j) σ σ' ∧ σ' j 5 = σ j 5 ∧ zrow A ch j bc k l σ'
theorem zbd.agr {j k l : Nat} {F : (Nat → Bool) → Nat} {σ σ' : zST} (h : zbd j k l F σ) (h1 : σ' j = σ j) (h2 : σ' (j + 1) = σ (j + 1)) : zbd j k l F σ' := by
  unfold zbd at *
  rw [h1, h2]; exact h
theorem zbd.cong {j k l : Nat} {F F' : (Nat → Bool) → Nat} {σ : zST} (h : zbd j k l F σ) (hF : ∀ V, F V = F' V) : zbd j k l F' σ := ⟨h.1, h.2.1, h.2.2.1, h.2.2.2.1, h.2.2.2.2.1, fun V => (h.2.2.2.2.2 V).trans (hF V)⟩
set_option maxHeartbeats 4000000 in
theorem sp_play {E : zEN} {d j ch k l : Nat} {A : zAS} {bc : Bool} {σ : zST} (hj : 7 ≤ j) (hF : zcf A ch σ) (hR : zri A ch j bc σ) (hk : k ≤ 3) (hl : l < 6) (hlk : l ≤ 2 * k) : zSp E (d + 5) zM_X5_play [.inr (5, j), .inl (nI k), .inl (nI l)] σ (zplay A ch j bc k l σ) := by
  have hF0 := hF
  obtain ⟨hvd, hch, f1, f2, f3, f4, f5, f6⟩ := hF
  obtain ⟨hbc, hlc, hmemo⟩ := hR
  have heo := hvd.eo
  have hvd0 := hvd
  obtain ⟨hn24, hm80, hv⟩ := hvd
  refine zSp.of rfl (Nat.le_of_ble_eq_true rfl) ?_
  have hlen : (zL A bc).length = fb_ct (zat A) (zam A) := zord_len bc (zac A) (zat A) (zam A)
  have hlen2 := fb_ct_le (zat A) (zam A)
  -- the third loop
  have loop3 : ∀ r i (x3 x4 : Int32) (x5 : Option zAV) (σ' : zST), i + r = (zL A bc).length → x3 = nI (zL A bc).length → x4 = nI i → zagr (zrj j) σ σ' → σ' j 5 = σ j 5 → σ' j 8 = nI ch → σ' j 6 = nI k → σ' j 7 = nI l → σ' j 9 = nI (fb_ct (zkp (zaa A) (zab A) (zam A) k l ((zL A bc).take i)) (zam A)) → (∀ x, x < 80 → σ' (j + 5) x = if zkp (zaa A) (zab A) (zam A) k l ((zL A bc).take i) x = true then 1 else 0) → zbd (j + 1) k l (zib (zaa A) (zab A) (zam A) (zkp (zaa A) (zab A) (zam A) k l ((zL A bc).take i))) σ' → (k = 2 → l = 3 → ∀ x, x ∈ (zL A bc).take i → zkp (zaa A) (zab A) (zam A) k l ((zL A bc).take i) x = false → zring (zaa A) (zab A) (zam A) (zkp (zaa A) (zab A) (zam A) k l ((zL A bc).take i)) x (σ' (j + 6) x)) → (∀ i, i < (zL A bc).length → σ' (j + 7) i = nI ((zL A bc).getD i 0)) → zWp E (d + 5) zM_X5_play (zplay A ch j bc k l σ) 95 [some (.inr (5, j)), some (.inl (nI k)), some (.inl (nI l)), some (.inl x3), some (.inl x4), x5] [] σ' := by
    intro r
    induction r with
    | zero =>
      intro i x3 x4 x5 σ' hi hx3 hx4 hag h5 h8 h6 h7 h9 hkept hB hring hord
      refine zg_X5_play_95 fun G C hG hC => ?_
      conv => whnf
      refine pk_le (zL A bc).length i (fun _ => ?_) (fun _ => by omega) hx3 hx4
      conv => whnf
      have ht : (zL A bc).take i = zL A bc := List.take_of_length_le (by omega)
      rw [ht] at h9 hkept hB hring
      exact ⟨hag, h5, h8, h6, h7, h9, hkept, hB, fun e1 e2 x hx htx hKx => hring e1 e2 x ((zord_mem _ _ _ _ _).mpr ⟨hx, htx⟩) hKx⟩
    | succ r ih =>
      intro i x3 x4 x5 σ' hi hx3 hx4 hag h5 h8 h6 h7 h9 hkept hB hring hord
      have hF' := hF0.agr hag (zrj_ge hj)
      obtain ⟨-, -, g1, g2, g3, g4, g5, g6⟩ := hF'
      have hil : i < (zL A bc).length := by omega
      have hmem := zgetD_mem hil
      have hmb := zL_lt hmem
      have htk := ztake hil
      generalize hxe : (zL A bc).getD i 0 = x at hmem hmb htk
      have hox : σ' (j + 7) i = nI x := by rw [hord i hil, hxe]
      obtain ⟨p1, p2, p3⟩ := hv x hmb.1
      obtain ⟨q1, q2, q3, q4⟩ := g5 x hmb.1
      have hnd := zord_nodup bc (zac A) (zat A) (zam A)
      have hxnot : x ∉ (zL A bc).take i := by
        intro h
        have hnd2 : ((zL A bc).take (i + 1)).Nodup := hnd.sublist (List.take_sublist _ _)
        rw [htk, List.nodup_append] at hnd2
        exact hnd2.2.2 x h x List.mem_cons_self rfl
      have hKx : zkp (zaa A) (zab A) (zam A) k l ((zL A bc).take i) x = false := by
        cases hq : zkp (zaa A) (zab A) (zam A) k l ((zL A bc).take i) x
        · rfl
        · exact absurd (zkp_in _ _ hq) hxnot
      have hsnoc : zkp (zaa A) (zab A) (zam A) k l ((zL A bc).take (i + 1)) = zst1 (zaa A) (zab A) (zam A) k l (zkp (zaa A) (zab A) (zam A) k l ((zL A bc).take i)) x := by rw [htk, zkp_snoc]
      have hspt : zsp (zaa A) (zab A) (zam A) k l (zkp (zaa A) (zab A) (zam A) k l ((zL A bc).take i)) := zkp_sp hlk _ (hnd.sublist (List.take_sublist _ _)) (fun y hy => (zL_lt (List.mem_of_mem_take hy)).1)
      generalize hKe : zkp (zaa A) (zab A) (zam A) k l ((zL A bc).take i) = K at *
      refine zg_X5_play_95 fun G C hG hC => ?_
      conv => whnf
      refine pk_le (zL A bc).length i (fun _ => by omega) (fun _ => ?_) hx3 hx4
      conv => whnf
      refine ⟨pk_in i 80 (by omega) hx4, ?_⟩
      conv => whnf
      have e7 : σ' (j + 7) x4.toNatClampNeg = nI x := by rw [pk_cl i hx4]; exact hox
      dsimp only
      rw [e7]
      have hx80 : x < 80 := by omega
      refine ⟨pk_in x 80 hx80, ?_⟩
      conv => whnf
      refine ⟨pk_in x 80 hx80, ?_⟩
      conv => whnf
      dsimp only
      rw [nI_clamp (by omega : x < 2 ^ 31), q1, q2]
      refine hC _ _ _ _ ((sp_put hB (by omega) (by omega) (by omega)).conseq ?_)
      rintro r2 σ2 ⟨w1, hr2⟩
      have hag2 : zagr (zrj j) σ σ2 := hag.tr (w1.sub (by simp <;> omega))
      have k0 : σ2 j = σ' j := w1 j (by simp <;> omega)
      have k5 : σ2 (j + 5) = σ' (j + 5) := w1 (j + 5) (by simp <;> omega)
      have k6 : σ2 (j + 6) = σ' (j + 6) := w1 (j + 6) (by simp <;> omega)
      have k7 : σ2 (j + 7) = σ' (j + 7) := w1 (j + 7) (by simp <;> omega)
      conv => whnf
      refine ⟨pk_in x 80 hx80, ?_⟩
      have hnext : x4 + 1 = nI (i + 1) := by rw [hx4, nI_1]
      rcases hr2 with ⟨rfl, hf, hB2⟩ | ⟨rfl, hf, hB2, hst⟩
      · -- kept
        refine ⟨Or.inr rfl, ?_⟩
        have hst1 := zst1_t (zfr_bars.mp hf)
        rw [hst1] at hsnoc
        conv => whnf
        refine ⟨pk_in x 80 hx80, ?_⟩
        conv => whnf
        dsimp only
        rw [nI_clamp (by omega : x < 2 ^ 31), zup_self, pk_us]
        refine br_f (by decide) ?_
        conv => whnf
        refine hG _ _ _ _ (ih (i + 1) _ _ _ _ (by omega) hx3 hnext ((hag2.up (by simp)).up (by simp)) ?_ ?_ ?_ ?_ ?_ ?_ ?_ ?_ ?_)
        · rw [zup_self, pk_un (by decide), zup_ne (by omega), k0]; exact h5
        · rw [zup_self, pk_un (by decide), zup_ne (by omega), k0]; exact h8
        · rw [zup_self, pk_un (by decide), zup_ne (by omega), k0]; exact h6
        · rw [zup_self, pk_un (by decide), zup_ne (by omega), k0]; exact h7
        · rw [zup_self, pk_us, zup_ne (by omega), k0, h9]
          dsimp only
          rw [nI_1, hsnoc, fb_ct_add1 hmb.1 hKx]
        · intro y hy
          rw [zup_ne (by omega), zup_self, hsnoc]
          by_cases e : y = x
          · subst e; rw [pk_us]; simp
          · rw [pk_un e, k5, hkept y hy]; simp [e]
        · refine (hB2.cong (fun V => ?_)).agr (by rw [zup_ne (by omega), zup_ne (by omega)]) (by rw [zup_ne (by omega), zup_ne (by omega)])
          rw [hsnoc, zib_add hmb.1 hKx]; rfl
        · intro e1 e2 y hy hKy
          rw [hsnoc] at hKy ⊢
          have hne : ¬ y = x := fun e => by simp [e] at hKy
          simp only [hne, if_false] at hKy
          rw [htk, List.mem_append, List.mem_singleton] at hy
          have := hring e1 e2 y (hy.resolve_right hne) hKy
          rw [zup_ne (by omega), zup_ne (by omega), k6]
          exact zring_mono this (fun z _ h => by simp [h])
        · intro q hq
          rw [zup_ne (by omega), zup_ne (by omega), k7]; exact hord q hq
      · -- left
        refine ⟨Or.inl rfl, ?_⟩
        have hst1 := zst1_f (fun h => hf (zfr_bars.mpr h))
        rw [hst1] at hsnoc
        conv => whnf
        refine ⟨pk_in x 80 hx80, ?_⟩
        conv => whnf
        dsimp only
        rw [nI_clamp (by omega : x < 2 ^ 31), zup_self, pk_us]
        refine br_t rfl ?_
        conv => whnf
        refine ⟨pk_in x 80 hx80, ?_⟩
        conv => whnf
        refine ⟨pk_in x 80 hx80, ?_⟩
        conv => whnf
        dsimp only
        have m2 : zup σ2 (j + 5) x 0 2 x = nI (zaa A x) := by rw [zup_ne (by omega), w1 2 (by simp <;> omega)]; exact q1
        have m3 : zup σ2 (j + 5) x 0 3 x = nI (zab A x) := by rw [zup_ne (by omega), w1 3 (by simp <;> omega)]; exact q2
        rw [nI_clamp (by omega : x < 2 ^ 31), m2, m3]
        have n1 : zup σ2 (j + 5) x 0 (j + 1) = σ2 (j + 1) := zup_ne (by omega)
        have n2 : zup σ2 (j + 5) x 0 (j + 1 + 1) = σ2 (j + 1 + 1) := zup_ne (by omega)
        refine hC _ _ _ _ ((sp_reach hk (by rw [n1]; exact hB2.2.2.1) (by rw [n2]; exact hB2.2.2.2.2.1) (by omega) (by omega) (by omega)).conseq ?_)
        rintro r3 σ3 ⟨rfl, hr3⟩
        rw [n2] at hr3
        conv => whnf
        refine ⟨pk_in x 80 hx80, ?_⟩
        conv => whnf
        dsimp only
        rw [nI_clamp (by omega : x < 2 ^ 31)]
        refine hG _ _ _ _ (ih (i + 1) _ _ _ _ (by omega) hx3 hnext ((hag2.up (by simp)).up (by simp)) ?_ ?_ ?_ ?_ ?_ ?_ ?_ ?_ ?_)
        · rw [zup_ne (by omega), zup_ne (by omega), k0]; exact h5
        · rw [zup_ne (by omega), zup_ne (by omega), k0]; exact h8
        · rw [zup_ne (by omega), zup_ne (by omega), k0]; exact h6
        · rw [zup_ne (by omega), zup_ne (by omega), k0]; exact h7
        · rw [zup_ne (by omega), zup_ne (by omega), k0, h9, hsnoc]
        · intro y hy
          rw [zup_ne (by omega), zup_self, hsnoc]
          by_cases e : y = x
          · subst e; rw [pk_us, hKx]; rfl
          · rw [pk_un e, k5, hkept y hy]
        · rw [hsnoc]
          exact hB2.agr (by rw [zup_ne (by omega), zup_ne (by omega)]) (by rw [zup_ne (by omega), zup_ne (by omega)])
        · intro e1 e2 y hy hKy
          rw [hsnoc] at hKy ⊢
          rw [htk, List.mem_append, List.mem_singleton] at hy
          rw [zup_self]
          by_cases e : y = x
          · subst e
            rw [pk_us]
            subst e1; subst e2
            exact zring_of hspt hB2 (by omega) (by omega) (by omega) hst hr3
          · rw [pk_un e, zup_ne (by omega), k6]
            exact hring e1 e2 y (hy.resolve_right e) hKy
        · intro q hq
          rw [zup_ne (by omega), zup_ne (by omega), k7]; exact hord q hq
  -- the second loop and what follows it
  have loop2 : ∀ r i (x3 : Int32) (x4 x5 : Option zAV) (σ' : zST), i + r = 80 → x3 = nI i → zagr (zrj j) σ σ' → σ' j 5 = σ j 5 → σ' j 8 = nI ch → σ' j 6 = nI k → σ' j 7 = nI l → (∀ x, x < i → σ' (j + 5) x = 0) → zbd (j + 1) k l (fun _ => 0) σ' → zWp E (d + 5) zM_X5_play (zplay A ch j bc k l σ) 63 [some (.inr (5, j)), some (.inl (nI k)), some (.inl (nI l)), some (.inl x3), x4, x5] [] σ' := by
    intro r
    induction r with
    | zero =>
      intro i x3 x4 x5 σ' hi hx3 hag h5 h8 h6 h7 hz hB
      refine zg_X5_play_63 fun G C hG hC => ?_
      conv => whnf
      refine pk_le 80 i (fun _ => ?_) (fun _ => by omega) rfl hx3
      conv => whnf
      have hag2 : zagr (zrj j) σ (zup σ' j 9 0) := hag.up (by simp)
      refine hC _ _ _ _ ((sp_lineUp (d := d + 3) hj (hF0.agr hag2 (zrj_ge hj)) (bc := bc) (by rw [zup_self, pk_un (by decide), h5]; exact hbc)).conseq ?_)
      rintro r2 σ2 ⟨b1, rfl, b3⟩
      conv => whnf
      have k0 : ∀ f, σ2 j f = upd (σ' j) 9 0 f := fun f => by rw [b1 j (by simp), zup_self]
      refine hG _ _ _ _ (loop3 (zL A bc).length 0 _ _ _ σ2 (by omega) rfl rfl (hag2.tr (b1.sub (by simp))) ?_ ?_ ?_ ?_ ?_ ?_ ?_ ?_ b3)
      · rw [k0, pk_un (by decide)]; exact h5
      · rw [k0, pk_un (by decide)]; exact h8
      · rw [k0, pk_un (by decide)]; exact h6
      · rw [k0, pk_un (by decide)]; exact h7
      · rw [k0, pk_us]
        have : fb_ct (zkp (zaa A) (zab A) (zam A) k l ((zL A bc).take 0)) (zam A) = 0 := fb_ct_zero.mpr fun x _ => rfl
        rw [this]; rfl
      · intro x hx
        rw [b1 (j + 5) (by simp), zup_ne (by omega), hz x (by omega)]; rfl
      · refine (hB.cong (fun V => ?_)).agr (by rw [b1 (j + 1) (by simp), zup_ne (by omega)]) (by rw [b1 (j + 1 + 1) (by simp <;> omega), zup_ne (by omega)])
        exact (fb_ct_zero.mpr fun x _ => rfl).symm
      · intro _ _ x hx; simp at hx
    | succ r ih =>
      intro i x3 x4 x5 σ' hi hx3 hag h5 h8 h6 h7 hz hB
      refine zg_X5_play_63 fun G C hG hC => ?_
      conv => whnf
      refine pk_le 80 i (fun _ => by omega) (fun _ => ?_) rfl hx3
      conv => whnf
      refine ⟨pk_in i 80 (by omega) hx3, Or.inl rfl, ?_⟩
      conv => whnf
      dsimp only
      rw [pk_cl i hx3]
      refine hG _ _ _ _ (ih (i + 1) _ _ _ _ (by omega) (by rw [hx3, nI_1]) (hag.up (by simp)) ?_ ?_ ?_ ?_ ?_ ?_)
      · rw [zup_ne (by omega)]; exact h5
      · rw [zup_ne (by omega)]; exact h8
      · rw [zup_ne (by omega)]; exact h6
      · rw [zup_ne (by omega)]; exact h7
      · intro x hx
        rw [zup_self]
        by_cases e : x = i
        · subst e; exact pk_us
        · rw [pk_un e]; exact hz x (by omega)
      · exact hB.agr (by rw [zup_ne (by omega)]) (by rw [zup_ne (by omega)])
  -- anew
  have anew : ∀ (G : Nat → zKT) (C : zCT) (x3 x4 x5 : Option zAV), (∀ pc L S σ1, zWp E (d + 5) zM_X5_play (zplay A ch j bc k l σ) pc L S σ1 → G pc L S σ1) → (∀ M as σ P, zSp E (d + 4) M as σ P → C M as σ P) → zB_X5_play_31 G C (zplay A ch j bc k l σ) [some (.inr (5, j)), some (.inl (nI k)), some (.inl (nI l)), x3, x4, x5] [] σ := by
    intro G C x3 x4 x5 hG hC
    conv => whnf
    refine hC _ _ _ _ ((sp_start (d := d + 2) hk hl).conseq ?_)
    rintro r2 σ2 ⟨b1, b2⟩
    conv => whnf
    have k0 : ∀ f, σ2 j f = upd (upd (upd (σ j) 8 (σ 1 8)) 6 (nI k)) 7 (nI l) f := fun f => by
      rw [b1 j (by simp <;> omega), zup_self, zup_self, zup_self]
    refine hG _ _ _ _ (loop2 80 0 _ _ _ σ2 (by omega) rfl ?_ ?_ ?_ ?_ ?_ (fun x hx => absurd hx (Nat.not_lt_zero x)) b2)
    · exact (((zagr.rf.up (by simp)).up (by simp)).up (by simp)).tr (b1.sub (by simp <;> omega))
    · rw [k0, pk_un (by decide), pk_un (by decide), pk_un (by decide)]
    · rw [k0, pk_un (by decide), pk_un (by decide), pk_us]; exact f4
    · rw [k0, pk_un (by decide), pk_us]
    · rw [k0, pk_us]
  refine zg_X5_play_0 fun G C hG hC => ?_
  conv => whnf
  refine ⟨fun h1 => ?_, fun _ => anew G C _ _ _ hG hC⟩
  conv => whnf
  refine ⟨fun h2 => ?_, fun _ => anew G C _ _ _ hG hC⟩
  conv => whnf
  refine ⟨fun h3 => ?_, fun _ => anew G C _ _ _ hG hC⟩
  conv => whnf
  have h1 : σ j 8 = σ 1 8 := h1
  have h2 : σ j 6 = nI k := h2
  have h3 : σ j 7 = nI l := h3
  obtain ⟨k', l', hk', hl', hrow⟩ := hmemo (by rw [h1]; exact f4)
  have ek : k' = k := znI_inj (by omega) (by omega) (hrow.2.1.symm.trans h2)
  have el : l' = l := znI_inj (by omega) (by omega) (hrow.2.2.1.symm.trans h3)
  subst ek; subst el
  exact ⟨zagr.rf, rfl, hrow⟩
