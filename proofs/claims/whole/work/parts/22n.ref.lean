/-! the reference: findClusters -/
abbrev zfc2 : List Nat := [54, 55, 56, 57, 58, 59, 63, 64]
def zonp (A : zAS) (a b : Nat) (σ : zST) : Prop := ∀ p q, p < zan A → q < zan A → p ≠ q → (min p q < a ∨ (min p q = a ∧ max p q < b)) → σ 64 (24 * p + q) = if zbn A p q = true then 1 else 0
theorem zgetP {L : List (Nat × Nat)} {i : Nat} (hi : i < L.length) : L.getD i (0, 0) = L[i] := by simp [List.getD, List.getElem?_eq_getElem hi]
section zQ
variable {E : zEN} {d : Nat} {A : zAS} {rf : Nat → Int32} {σ : zST}
def zfcp (A : zAS) (σ : zST) : zPT := fun _ σ' => zagw zfc2 [11, 12, 13, 21] σ σ' ∧ zmcl A (zcu A (zan A)) σ'
set_option maxHeartbeats 4000000 in
theorem sm_findClusters (hI : zmf A rf σ) : zSp E (d + 30) zM_X8_findClusters [.inr (8, 48)] σ (zfcp A σ) := by
  have hn := hI.1.1
  have hm := hI.1.2.1
  -- phase 2
  have in2 : ∀ a, a < zan A → (∀ (x1 x2 : Int32) (x3 : Option zAV) (σ' : zST), x2 = nI (a + 1) → zagw zfc2 [11, 12, 13, 21] σ σ' → zone A σ' → zmcl A (zcu A (a + 1)) σ' → zWp E (d + 30) zM_X8_findClusters (zfcp A σ) 94 [some (.inr (8, 48)), some (.inl x1), some (.inl x2), x3] [] σ') → ∀ r b (x1 x2 x3 : Int32) (σ' : zST), b + r = zan A → a < b → x2 = nI a → x3 = nI b → zagw zfc2 [11, 12, 13, 21] σ σ' → zone A σ' → zmcl A (zcu A a ++ zcw A a b) σ' → zWp E (d + 30) zM_X8_findClusters (zfcp A σ) 106 [some (.inr (8, 48)), some (.inl x1), some (.inl x2), some (.inl x3)] [] σ' := by
    intro a ha next r
    induction r with
    | zero =>
      intro b x1 x2 x3 σ' hb hab hx2 hx3 hag hO hL
      have hI' := hI.agw hag (by simp) (by simp)
      have hb : b = zan A := by omega
      subst hb
      refine zg_X8_findClusters_106 fun G C hG hC => ?_
      conv => whnf
      refine pk_le (zan A) (zan A) (fun _ => ?_) (fun _ => by omega) hI'.2.1 hx3
      conv => whnf
      exact hG _ _ _ _ (next _ _ _ _ (by rw [hx2, nI_1]) hag hO hL)
    | succ r ih =>
      intro b x1 x2 x3 σ' hb hab hx2 hx3 hag hO hL
      have hI' := hI.agw hag (by simp) (by simp)
      have hlen := zcu_le hI.1 ha (by omega : b ≤ zan A)
      have hfi := zfirst_iff hI.1 hab (by omega : b < zan A)
      have e3 : x3 + 1 = nI (b + 1) := by rw [hx3, nI_1]
      have hcw : zcw A a (b + 1) = if (decide (a < b) && zfirst A a b) = true then zcw A a b ++ [(a, b)] else zcw A a b := rfl
      have no : zfirst A a b = false → zWp E (d + 30) zM_X8_findClusters (zfcp A σ) 106 [some (.inr (8, 48)), some (.inl x1), some (.inl x2), some (.inl (x3 + 1))] [] σ' := fun h => ih (b + 1) _ _ _ _ (by omega) (by omega) hx2 e3 hag hO (by rw [hcw, h, Bool.and_false, if_neg (by decide)]; exact hL)
      refine zg_X8_findClusters_106 fun G C hG hC => ?_
      conv => whnf
      refine pk_le (zan A) b (fun _ => by omega) (fun _ => ?_) hI'.2.1 hx3
      conv => whnf
      subst hx2 hx3
      dsimp only
      rw [z24]
      refine ⟨pk_in (24 * a + b) 576 (by omega), ?_⟩
      conv => whnf
      dsimp only
      rw [nI_clamp (by omega : 24 * a + b < 2 ^ 31), hO a b ha (by omega) (by omega)]
      cases hbn : zbn A a b
      · rw [if_neg (by decide)]
        refine br_t rfl ?_
        conv => whnf
        exact hG _ _ _ _ (no (by unfold zfirst; rw [hbn]; rfl))
      · rw [if_pos rfl]
        refine br_f (by decide) ?_
        conv => whnf
        refine hC _ _ _ _ ((sm_clusterOf (d := d + 28) hL hlen (by omega : a < 24) (by omega : b < 24)).conseq ?_)
        rintro r2 σ2 ⟨rfl, hr⟩
        conv => whnf
        rcases hr with ⟨i, hi, h1, -, rfl⟩ | ⟨h1, rfl⟩
        · refine br_t (nI_pos' (by omega)) ?_
          conv => whnf
          refine hG _ _ _ _ (no ?_)
          cases hf : zfirst A a b
          · rfl
          · have := (hfi.mp hf).2 ((zcu A a ++ zcw A a b).getD i (0, 0)) (by rw [zgetP hi]; exact List.getElem_mem hi)
            simp only [Bool.and_eq_true] at h1
            exact absurd h1 this
        · refine br_f (by decide) ?_
          conv => whnf
          have hf : zfirst A a b = true := hfi.mpr ⟨hbn, fun p hp q => by
            obtain ⟨i, hi, rfl⟩ := List.getElem_of_mem hp
            have := h1 i hi
            simp only [zcL] at this
            rw [zgetP hi, q.1, q.2] at this
            cases this⟩
          have hlt := zcu_lt hI.1 hab (by omega : b < zan A) hf
          refine hC _ _ _ _ ((sm_adds (d := d + 28) hI' hO hL hlt hab (by omega) hbn).conseq ?_)
          rintro r3 σ3 ⟨h2, h3⟩
          conv => whnf
          refine hG _ _ _ _ (ih (b + 1) _ _ _ _ (by omega) (by omega) rfl e3 (hag.tr (h2.sub (by simp) (by simp))) (fun p q g1 g2 g3 => by rw [h2.1 64 (by simp) (by decide)]; exact hO p q g1 g2 g3) ?_)
          have : decide (a < b) = true := by simp [hab]
          rw [hcw, hf, this, Bool.and_self, if_pos rfl, ← List.append_assoc]
          exact h3
  have out2 : ∀ r a (x1 x2 : Int32) (x3 : Option zAV) (σ' : zST), a + r = zan A → x2 = nI a → zagw zfc2 [11, 12, 13, 21] σ σ' → zone A σ' → zmcl A (zcu A a) σ' → zWp E (d + 30) zM_X8_findClusters (zfcp A σ) 94 [some (.inr (8, 48)), some (.inl x1), some (.inl x2), x3] [] σ' := by
    intro r
    induction r with
    | zero =>
      intro a x1 x2 x3 σ' ha hx2 hag hO hL
      have hI' := hI.agw hag (by simp) (by simp)
      have ha : a = zan A := by omega
      subst ha
      refine zg_X8_findClusters_94 fun G C hG hC => ?_
      conv => whnf
      refine pk_le (zan A) (zan A) (fun _ => ?_) (fun _ => by omega) hI'.2.1 hx2
      conv => whnf
      exact ⟨hag, hL⟩
    | succ r ih =>
      intro a x1 x2 x3 σ' ha hx2 hag hO hL
      have hI' := hI.agw hag (by simp) (by simp)
      refine zg_X8_findClusters_94 fun G C hG hC => ?_
      conv => whnf
      refine pk_le (zan A) a (fun _ => by omega) (fun _ => ?_) hI'.2.1 hx2
      conv => whnf
      have e1 : ∀ w, w ≤ a + 1 → zcw A a w = [] := by
        intro w
        induction w with
        | zero => intro _; rfl
        | succ w ih => intro h; rw [zcw, if_neg (by have : ¬ a < w := by omega
                                                    simp [this])]; exact ih (by omega)
      exact hG _ _ _ _ (in2 a (by omega) (fun x1 x2 x3 σ3 g1 g2 g3 g4 => ih (a + 1) x1 x2 x3 σ3 (by omega) g1 g2 g3 g4) (zan A - (a + 1)) (a + 1) _ _ _ σ' (by omega) (by omega) hx2 (by rw [hx2]; exact nI_1 a) hag hO (by rw [e1 _ (Nat.le_refl _), List.append_nil]; exact hL))
  -- phase 1
  have in1 : ∀ a, a < zan A → (∀ (x1 x2 : Int32) (x3 : Option zAV) (σ' : zST), x2 = nI (a + 1) → zagw zfc2 [11, 12, 13, 21] σ σ' → zmb 2 3 (zrk A false 2 3) (zib (zaa A) (zab A) (zam A) (zK A false 2 3)) σ' → zonp A (a + 1) 0 σ' → zWp E (d + 30) zM_X8_findClusters (zfcp A σ) 7 [some (.inr (8, 48)), some (.inl x1), some (.inl x2), x3] [] σ') → ∀ r b (x1 x2 x3 : Int32) (σ' : zST), b + r = zan A → a < b → x2 = nI a → x3 = nI b → zagw zfc2 [11, 12, 13, 21] σ σ' → zmb 2 3 (zrk A false 2 3) (zib (zaa A) (zab A) (zam A) (zK A false 2 3)) σ' → zonp A a b σ' → zWp E (d + 30) zM_X8_findClusters (zfcp A σ) 19 [some (.inr (8, 48)), some (.inl x1), some (.inl x2), some (.inl x3)] [] σ' := by
    intro a ha next r
    induction r with
    | zero =>
      intro b x1 x2 x3 σ' hb hab hx2 hx3 hag hM hO
      have hI' := hI.agw hag (by simp) (by simp)
      have hb : b = zan A := by omega
      subst hb
      refine zg_X8_findClusters_19 fun G C hG hC => ?_
      conv => whnf
      refine pk_le (zan A) (zan A) (fun _ => ?_) (fun _ => by omega) hI'.2.1 hx3
      conv => whnf
      exact hG _ _ _ _ (next _ _ _ _ (by rw [hx2, nI_1]) hag hM (fun p q h1 h2 h3 h4 => hO p q h1 h2 h3 (by omega)))
    | succ r ih =>
      intro b x1 x2 x3 σ' hb hab hx2 hx3 hag hM hO
      have hI' := hI.agw hag (by simp) (by simp)
      have e3 : x3 + 1 = nI (b + 1) := by rw [hx3, nI_1]
      refine zg_X8_findClusters_19 fun G C hG hC => ?_
      conv => whnf
      refine pk_le (zan A) b (fun _ => by omega) (fun _ => ?_) hI'.2.1 hx3
      conv => whnf
      subst hx2 hx3
      refine hC _ _ _ _ ((sp_isFree (d := d + 2) hM (by omega : a < 24) (by omega : b < 24) (by omega) (Or.inl rfl)).conseq ?_)
      rintro r2 σ2 ⟨hag2, hr⟩
      have eself : ∀ v : Int32, zup σ2 64 (24 * a + b) v 64 (24 * a + b) = v := fun v => by rw [zup_self, pk_us]
      have h64 : σ2 64 = σ' 64 := hag2.1 64 (by simp) (by decide)
      have hag3 : zagw zfc2 [11, 12, 13, 21] σ σ2 := hag.tr (hag2.sub (by simp) (by simp))
      have fin : ∀ v : Int32, v = (if zbn A a b = true then 1 else 0) → zmb 2 3 (zrk A false 2 3) (zib (zaa A) (zab A) (zam A) (zK A false 2 3)) σ2 → zWp E (d + 30) zM_X8_findClusters (zfcp A σ) 19 [some (.inr (8, 48)), some (.inl x1), some (.inl (nI a)), some (.inl (nI b + 1))] [] (zup (zup σ2 64 (24 * a + b) v) 64 (24 * b + a) v) := by
        intro v hv hM2
        refine ih (b + 1) _ _ _ _ (by omega) (by omega) rfl e3 ((hag3.up (by simp) (by decide)).up (by simp) (by decide)) (hM2.agw (js := [64]) (fs := []) ((zagw.rf.up (by simp) (by decide)).up (by simp) (by decide)) (by simp) (by simp)) (fun p q h1 h2 h3 h4 => ?_)
        rw [zup_self, zup_self]
        by_cases c1 : 24 * p + q = 24 * b + a
        · have : p = b ∧ q = a := by omega
          rw [c1, pk_us, hv, this.1, this.2, zbn_comm A b a]
        · rw [pk_un c1]
          by_cases c2 : 24 * p + q = 24 * a + b
          · have : p = a ∧ q = b := by omega
            rw [c2, pk_us, hv, this.1, this.2]
          · rw [pk_un c2, h64]
            exact hO p q h1 h2 h3 (by omega)
      conv => whnf
      rcases hr with ⟨rfl, hf, -, hM2⟩ | ⟨rfl, hf, hM2⟩
      · refine br_f (by decide) ?_
        have hbn : zbn A a b = false := zbn_f.mpr hf
        have g := fin 0 (by rw [hbn]; rfl) (hM2 rfl)
        conv => whnf
        dsimp only
        rw [z24]
        refine ⟨pk_in (24 * a + b) 576 (by omega), Or.inl rfl, ?_⟩
        conv => whnf
        dsimp only
        rw [z24, z24, nI_clamp (by omega : 24 * a + b < 2 ^ 31)]
        refine ⟨pk_in (24 * a + b) 576 (by omega), ?_⟩
        conv => whnf
        dsimp only
        rw [eself]
        refine ⟨pk_in (24 * b + a) 576 (by omega), Or.inl rfl, ?_⟩
        conv => whnf
        rw [nI_clamp (by omega : 24 * b + a < 2 ^ 31)]
        exact hG _ _ _ _ g
      · refine br_t rfl ?_
        have hbn : zbn A a b = true := zbn_t.mpr hf
        have g := fin 1 (by rw [hbn]; rfl) hM2
        conv => whnf
        dsimp only
        rw [z24]
        refine ⟨pk_in (24 * a + b) 576 (by omega), Or.inr rfl, ?_⟩
        conv => whnf
        dsimp only
        rw [z24, z24, nI_clamp (by omega : 24 * a + b < 2 ^ 31)]
        refine ⟨pk_in (24 * a + b) 576 (by omega), ?_⟩
        conv => whnf
        dsimp only
        rw [eself]
        refine ⟨pk_in (24 * b + a) 576 (by omega), Or.inr rfl, ?_⟩
        conv => whnf
        rw [nI_clamp (by omega : 24 * b + a < 2 ^ 31)]
        exact hG _ _ _ _ g
  have out1 : ∀ r a (x1 x2 : Int32) (x3 : Option zAV) (σ' : zST), a + r = zan A → x2 = nI a → zagw zfc2 [11, 12, 13, 21] σ σ' → zmb 2 3 (zrk A false 2 3) (zib (zaa A) (zab A) (zam A) (zK A false 2 3)) σ' → zonp A a 0 σ' → zWp E (d + 30) zM_X8_findClusters (zfcp A σ) 7 [some (.inr (8, 48)), some (.inl x1), some (.inl x2), x3] [] σ' := by
    intro r
    induction r with
    | zero =>
      intro a x1 x2 x3 σ' ha hx2 hag hM hO
      have hI' := hI.agw hag (by simp) (by simp)
      have ha : a = zan A := by omega
      subst ha
      refine zg_X8_findClusters_7 fun G C hG hC => ?_
      conv => whnf
      refine pk_le (zan A) (zan A) (fun _ => ?_) (fun _ => by omega) hI'.2.1 hx2
      conv => whnf
      refine hG _ _ _ _ (out2 (zan A) 0 _ 0 _ _ (by omega) rfl (hag.upf (by simp)) (fun p q h1 h2 h3 => ?_) ⟨?_, fun i hi => by simp [zcu] at hi⟩)
      · rw [zup_ne (by decide)]; exact hO p q h1 h2 h3 (by omega)
      · rw [zup_self, pk_us]; rfl
    | succ r ih =>
      intro a x1 x2 x3 σ' ha hx2 hag hM hO
      have hI' := hI.agw hag (by simp) (by simp)
      refine zg_X8_findClusters_7 fun G C hG hC => ?_
      conv => whnf
      refine pk_le (zan A) a (fun _ => by omega) (fun _ => ?_) hI'.2.1 hx2
      conv => whnf
      exact hG _ _ _ _ (in1 a (by omega) (fun x1 x2 x3 σ3 g1 g2 g3 g4 => ih (a + 1) x1 x2 x3 σ3 (by omega) g1 g2 g3 g4) (zan A - (a + 1)) (a + 1) _ _ _ σ' (by omega) (by omega) hx2 (by rw [hx2]; exact nI_1 a) hag hM (fun p q h1 h2 h3 h4 => hO p q h1 h2 h3 (by omega)))
  refine zSp.of rfl (Nat.le_of_ble_eq_true rfl) (zg_X8_findClusters_0 fun G C hG hC => ?_)
  conv => whnf
  refine hC _ _ _ _ ((sm_ranks (d := d) hI).conseq ?_)
  rintro r σ2 ⟨h1, h2, rfl⟩
  conv => whnf
  exact hG _ _ _ _ (out1 (zan A) 0 _ 0 _ σ2 (by omega) rfl (h1.sub (by simp) (by simp)) h2.1 (fun p q h1 h2 h3 h4 => by omega))
end zQ
