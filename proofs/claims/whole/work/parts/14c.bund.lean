/-! Bundles -/
def zmg (h : Nat → Nat) (p q : Nat) : Nat → Nat := fun x => if h x = max p q then min p q else h x
theorem zmg_same (h : Nat → Nat) (p : Nat) : zmg h p p = h := by
  funext x; unfold zmg; rw [Nat.max_self, Nat.min_self]; split
  · rename_i e; exact e.symm
  · rfl
theorem zmg_comm (h : Nat → Nat) (p q : Nat) : zmg h p q = zmg h q p := by unfold zmg; rw [Nat.max_comm, Nat.min_comm]
theorem zmg_lt {h : Nat → Nat} {m p q : Nat} (hh : ∀ x, x < m → h x < m) (hp : p < m) : ∀ x, x < m → zmg h p q x < m := fun x hx => by
  unfold zmg; split
  · have := Nat.min_le_left p q; omega
  · exact hh x hx
noncomputable def zbs (A : zAS) (left : Nat) (h : Nat → Nat) (f : Nat) : Nat → Nat := if zci A left f = true then zmg h (h left) (h f) else h
noncomputable def zbl (A : zAS) (left : Nat) (h : Nat → Nat) : Nat → (Nat → Nat)
  | 0 => h
  | n + 1 => zbs A left (zbl A left h n) n
noncomputable def zba (A : zAS) : Nat → (Nat → Nat)
  | 0 => fun x => x
  | n + 1 => if zlf A n = true then zbl A n (zba A n) (zam A) else zba A n
theorem zbl_lt {A : zAS} {left : Nat} {h : Nat → Nat} (hl : left < zam A) (hh : ∀ x, x < zam A → h x < zam A) : ∀ n, ∀ x, x < zam A → zbl A left h n x < zam A
  | 0 => hh
  | n + 1 => fun x hx => by
    have ih := zbl_lt hl hh n
    show zbs A left (zbl A left h n) n x < zam A
    unfold zbs; split
    · exact zmg_lt ih (ih left hl) x hx
    · exact ih x hx
theorem zba_lt {A : zAS} : ∀ n, n ≤ zam A → ∀ x, x < zam A → zba A n x < zam A
  | 0, _ => fun x hx => hx
  | n + 1, hn => fun x hx => by
    have ih := zba_lt (A := A) n (by omega)
    show (if zlf A n = true then zbl A n (zba A n) (zam A) else zba A n) x < zam A
    split
    · exact zbl_lt (by omega) ih _ x hx
    · exact ih x hx
noncomputable def zhd (A : zAS) : Nat → Bool := fun x => zat A x && decide (zba A (zam A) x = x)
/-- the heads stand as h -/
def zhs (A : zAS) (h : Nat → Nat) (f : Nat → Int32) : Prop := ∀ x, x < zam A → f x = nI (h x)
theorem sp_join {E : zEN} {d ch p q : Nat} {A : zAS} {h : Nat → Nat} {σ : zST} (hF : zcf A ch σ) (hh : zhs A h (σ 35)) (hlt : ∀ x, x < zam A → h x < zam A) (hp : p < zam A) (hq : q < zam A) : zSp E (d + 1) zM_X0_join [.inr (0, 34), .inl (nI p), .inl (nI q)] σ (fun _ σ' => zagr [35] σ σ' ∧ zhs A (zmg h p q) (σ' 35)) := by
  have hm := hF.1.2.1
  refine zSp.of rfl (Nat.le_of_ble_eq_true rfl) ?_
  have loop : ∀ r i (x5 : Int32) (σ' : zST), i + r = zam A → x5 = nI i → zagr [35] σ σ' → (∀ x, x < zam A → σ' 35 x = if x < i then nI (zmg h p q x) else nI (h x)) → zWp E (d + 1) zM_X0_join (fun _ σ' => zagr [35] σ σ' ∧ zhs A (zmg h p q) (σ' 35)) 16 [some (.inr (0, 34)), some (.inl (nI p)), some (.inl (nI q)), some (.inl (nI (min p q))), some (.inl (nI (max p q))), some (.inl x5)] [] σ' := by
    intro r
    induction r with
    | zero =>
      intro i x5 σ' hi hx5 hag hx
      refine zg_X0_join_16 fun G C hG hC => ?_
      conv => whnf
      refine pk_le _ i (fun _ => ?_) (fun _ => by omega) (hF.agr hag (by simp)).2.2.2.1 hx5
      conv => whnf
      exact ⟨hag, fun x hxm => by rw [hx x hxm, if_pos (by omega)]⟩
    | succ r ih =>
      intro i x5 σ' hi hx5 hag hx
      refine zg_X0_join_16 fun G C hG hC => ?_
      conv => whnf
      refine pk_le _ i (fun _ => by omega) (fun _ => ?_) (hF.agr hag (by simp)).2.2.2.1 hx5
      conv => whnf
      refine ⟨pk_in i 80 (by omega) hx5, ?_⟩
      conv => whnf
      dsimp only
      rw [pk_cl i hx5, hx i (by omega), if_neg (Nat.lt_irrefl _)]
      have hnext : x5 + 1 = nI (i + 1) := by rw [hx5, nI_1]
      have hmax : max p q < 2 ^ 31 := by have := Nat.max_lt.mpr ⟨hp, hq⟩; omega
      have hhi := hlt i (by omega)
      refine pk_eq (h i) (max p q) (fun he => ?_) (fun he => ?_) rfl rfl (by omega) hmax
      · conv => whnf
        refine ⟨pk_in i 80 (by omega) hx5, ?_⟩
        conv => whnf
        dsimp only
        rw [pk_cl i hx5]
        refine hG _ _ _ _ (ih (i + 1) _ _ (by omega) hnext (hag.up (by simp)) (fun x hxm => ?_))
        rw [zup_self]
        by_cases e : x = i
        · subst e; rw [pk_us, if_pos (by omega)]; unfold zmg; rw [if_pos he]
        · rw [pk_un e, hx x hxm]
          have : x < i ↔ x < i + 1 := by omega
          simp only [this]
      · conv => whnf
        refine hG _ _ _ _ (ih (i + 1) _ _ (by omega) hnext hag (fun x hxm => ?_))
        rw [hx x hxm]
        by_cases e : x = i
        · subst e; rw [if_neg (Nat.lt_irrefl _), if_pos (by omega)]; unfold zmg; rw [if_neg he]
        · have : x < i ↔ x < i + 1 := by omega
          simp only [this]
  refine zg_X0_join_0 fun G C hG hC => ?_
  conv => whnf
  have e1 : (if nI q < nI p then nI q else nI p) = nI (min p q) := by
    by_cases h : q < p
    · rw [if_pos (nI_lt h (by omega)), Nat.min_eq_right (by omega)]
    · rw [if_neg (nI_nlt (by omega) (by omega)), Nat.min_eq_left (by omega)]
  have e2 : (if nI p < nI q then nI q else nI p) = nI (max p q) := by
    by_cases h : p < q
    · rw [if_pos (nI_lt h (by omega)), Nat.max_eq_right (by omega)]
    · rw [if_neg (nI_nlt (by omega) (by omega)), Nat.max_eq_left (by omega)]
  dsimp only
  rw [e1, e2]
  exact hG _ _ _ _ (loop (zam A) 0 _ σ (by omega) rfl zagr.rf (fun x hx => by rw [if_neg (Nat.not_lt_zero x)]; exact hh x hx))
set_option maxHeartbeats 4000000 in
theorem sp_joinCircuit {E : zEN} {d ch left : Nat} {A : zAS} {h : Nat → Nat} {σ : zST} (hF : zcf A ch σ) (hR : zrow A ch 7 false 2 3 σ) (hh : zhs A h (σ 35)) (hlt : ∀ x, x < zam A → h x < zam A) (hl : left < zam A) (hlf : zlf A left = true) : zSp E (d + 4) zM_X0_joinCircuit [.inr (0, 34), .inl (nI left)] σ (fun _ σ' => zagr [35] σ σ' ∧ zhs A (zbl A left h (zam A)) (σ' 35)) := by
  have hm := hF.1.2.1
  refine zSp.of rfl (Nat.le_of_ble_eq_true rfl) ?_
  have loop : ∀ r i (x2 : Int32) (σ' : zST), i + r = zam A → x2 = nI i → zagr [35] σ σ' → zhs A (zbl A left h i) (σ' 35) → zWp E (d + 4) zM_X0_joinCircuit (fun _ σ' => zagr [35] σ σ' ∧ zhs A (zbl A left h (zam A)) (σ' 35)) 2 [some (.inr (0, 34)), some (.inl (nI left)), some (.inl x2)] [] σ' := by
    intro r
    induction r with
    | zero =>
      intro i x2 σ' hi hx2 hag hx
      refine zg_X0_joinCircuit_2 fun G C hG hC => ?_
      conv => whnf
      refine pk_le _ i (fun _ => ?_) (fun _ => by omega) (hF.agr hag (by simp)).2.2.2.1 hx2
      conv => whnf
      have : i = zam A := by omega
      subst this
      exact ⟨hag, hx⟩
    | succ r ih =>
      intro i x2 σ' hi hx2 hag hx
      subst hx2
      have hF' := hF.agr hag (by simp)
      have hR' := hR.agr hag (by simp)
      have hlt' := zbl_lt hl hlt i
      refine zg_X0_joinCircuit_2 fun G C hG hC => ?_
      conv => whnf
      refine pk_le _ i (fun _ => by omega) (fun _ => ?_) hF'.2.2.2.1 rfl
      conv => whnf
      refine ⟨pk_in i 80 (by omega), ?_⟩
      conv => whnf
      refine ⟨pk_in left 80 (by omega), ?_⟩
      conv => whnf
      dsimp only
      have ei : σ' 35 i = nI (zbl A left h i i) := hx i (by omega)
      have el : σ' 35 left = nI (zbl A left h i left) := hx left hl
      have b1 := hlt' i (by omega)
      have b2 := hlt' left hl
      rw [nI_clamp (by omega : i < 2 ^ 31), nI_clamp (by omega : left < 2 ^ 31), ei, el]
      have hstep : zbl A left h (i + 1) = zbs A left (zbl A left h i) i := rfl
      refine pk_eq (zbl A left h i i) (zbl A left h i left) (fun he => ?_) (fun he => ?_)
      · conv => whnf
        refine hG _ _ _ _ (ih (i + 1) _ σ' (by omega) (nI_1 i) hag ?_)
        rw [hstep]
        unfold zbs
        split
        · rw [he, zmg_same]; exact hx
        · exact hx
      · conv => whnf
        refine hC _ _ _ _ ((sp_inCircuit hF' hR' (by omega : i < zam A) hl hlf).conseq ?_)
        rintro r2 σ' ⟨rfl, rfl⟩
        conv => whnf
        cases hci : zci A left i
        · rw [if_neg (by decide)]
          refine br_t rfl ?_
          conv => whnf
          refine hG _ _ _ _ (ih (i + 1) _ σ' (by omega) (nI_1 i) hag ?_)
          rw [hstep]; unfold zbs; rw [hci, if_neg (by decide)]; exact hx
        · rw [if_pos rfl]
          refine br_f (by decide) ?_
          conv => whnf
          refine ⟨pk_in i 80 (by omega), ?_⟩
          conv => whnf
          refine ⟨pk_in left 80 (by omega), ?_⟩
          conv => whnf
          dsimp only
          rw [nI_clamp (by omega : i < 2 ^ 31), nI_clamp (by omega : left < 2 ^ 31), ei, el]
          refine hC _ _ _ _ ((sp_join (d := d + 2) hF' hx hlt' b1 b2).conseq ?_)
          rintro r3 σ2 ⟨c1, c2⟩
          conv => whnf
          refine hG _ _ _ _ (ih (i + 1) _ σ2 (by omega) (nI_1 i) (hag.tr c1) ?_)
          rw [hstep]; unfold zbs; rw [hci, if_pos rfl, zmg_comm]; exact c2
  refine zg_X0_joinCircuit_0 fun G C hG hC => ?_
  conv => whnf
  exact hG _ _ _ _ (loop (zam A) 0 _ σ (by omega) rfl zagr.rf hh)
theorem sp_headsBelow {E : zEN} {d ch bd : Nat} {A : zAS} {h : Nat → Nat} {σ : zST} (hF : zcf A ch σ) (hh : zhs A h (σ 35)) (hlt : ∀ x, x < zam A → h x < zam A) (hb : bd ≤ zam A) : zSp E (d + 1) zM_X0_headsBelow [.inr (0, 34), .inl (nI bd)] σ (fun r σ' => σ' = σ ∧ r = nI (fb_ct (fun x => zat A x && decide (h x = x)) bd)) := by
  have hm := hF.1.2.1
  have f5 := hF.2.2.2.2.2.2.1
  refine zSp.of rfl (Nat.le_of_ble_eq_true rfl) ?_
  have loop : ∀ r i (x2 x3 : Int32), i + r = bd → x2 = nI (fb_ct (fun x => zat A x && decide (h x = x)) i) → x3 = nI i → zWp E (d + 1) zM_X0_headsBelow (fun r σ' => σ' = σ ∧ r = nI (fb_ct (fun x => zat A x && decide (h x = x)) bd)) 4 [some (.inr (0, 34)), some (.inl (nI bd)), some (.inl x2), some (.inl x3)] [] σ := by
    intro r
    induction r with
    | zero =>
      intro i x2 x3 hi hx2 hx3
      refine zg_X0_headsBelow_4 fun G C hG hC => ?_
      conv => whnf
      refine pk_le bd i (fun _ => ?_) (fun _ => by omega) rfl hx3
      conv => whnf
      have : i = bd := by omega
      subst this
      exact ⟨rfl, hx2⟩
    | succ r ih =>
      intro i x2 x3 hi hx2 hx3
      have hli := hlt i (by omega)
      refine zg_X0_headsBelow_4 fun G C hG hC => ?_
      conv => whnf
      refine pk_le bd i (fun _ => by omega) (fun _ => ?_) rfl hx3
      conv => whnf
      refine ⟨pk_in i 80 (by omega) hx3, ?_⟩
      conv => whnf
      dsimp only
      rw [pk_cl i hx3, (f5 i (by omega)).2.2.2]
      have hnext : x3 + 1 = nI (i + 1) := by rw [hx3, nI_1]
      cases h1 : zat A i
      · rw [if_neg (by decide)]
        refine br_t rfl ?_
        conv => whnf
        exact hG _ _ _ _ (ih (i + 1) _ _ (by omega) (by rw [hx2, fb_ct_succ, h1]; rfl) hnext)
      · rw [if_pos rfl]
        refine br_f (by decide) ?_
        conv => whnf
        refine ⟨pk_in i 80 (by omega) hx3, ?_⟩
        conv => whnf
        dsimp only
        rw [pk_cl i hx3, hh i (by omega)]
        refine pk_eq (h i) i (fun he => ?_) (fun he => ?_) rfl hx3
        · conv => whnf
          exact hG _ _ _ _ (ih (i + 1) _ _ (by omega) (by rw [hx2, fb_ct_succ, h1, nI_1]; simp [he]) hnext)
        · conv => whnf
          exact hG _ _ _ _ (ih (i + 1) _ _ (by omega) (by rw [hx2, fb_ct_succ, h1]; simp [he]) hnext)
  refine zg_X0_headsBelow_0 fun G C hG hC => ?_
  conv => whnf
  exact hG _ _ _ _ (loop bd 0 _ _ (by omega) rfl rfl)
def zbuo (A : zAS) (ch : Nat) (σ : zST) : Prop := σ 34 3 = nI ch ∧ σ 34 4 = nI (fb_ct (zhd A) (zam A)) ∧ zhs A (zba A (zam A)) (σ 35)
def zbum (A : zAS) (ch : Nat) (σ : zST) : Prop := (σ 34 3 = -1 ∨ ∃ q, q ≤ ch ∧ σ 34 3 = nI q) ∧ (σ 34 3 = nI ch → zbuo A ch σ)
abbrev zbj : List Nat := [7, 8, 9, 10, 11, 12, 13, 14, 34, 35]
theorem zri.agr {A : zAS} {ch j : Nat} {bc : Bool} {σ σ' : zST} {js : List Nat} (h : zri A ch j bc σ) (hag : zagr js σ σ') (hd : ∀ q, q ∈ js → q < j ∨ j + 7 < q) : zri A ch j bc σ' := by
  have e : σ' j = σ j := hag j (fun hm => by have := hd j hm; omega)
  obtain ⟨q1, q2, q3⟩ := h
  refine ⟨by rw [e]; exact q1, by rw [e]; exact q2, fun h => ?_⟩
  rw [e] at h
  obtain ⟨k, l, g1, g2, g3⟩ := q3 h
  exact ⟨k, l, g1, g2, g3.agr hag hd⟩
set_option maxHeartbeats 4000000 in
theorem sp_bufind {E : zEN} {d ch : Nat} {A : zAS} {σ : zST} (hF : zcf A ch σ) (hR : zri A ch 7 false σ) (hM : zbum A ch σ) : zSp E (d + 6) zM_X0_find [.inr (0, 34)] σ (fun _ σ' => zagr zbj σ σ' ∧ zri A ch 7 false σ' ∧ zbuo A ch σ') := by
  have hvd := hF.1
  have hm := hvd.2.1
  refine zSp.of rfl (Nat.le_of_ble_eq_true rfl) ?_
  have loop2 : ∀ r i (x1 : Int32) (σ' : zST), i + r = zam A → x1 = nI i → zagr zbj σ σ' → σ' 7 5 = σ 7 5 → zrow A ch 7 false 2 3 σ' → σ' 34 3 = nI ch → zhs A (zba A i) (σ' 35) → zWp E (d + 6) zM_X0_find (fun _ σ' => zagr zbj σ σ' ∧ zri A ch 7 false σ' ∧ zbuo A ch σ') 58 [some (.inr (0, 34)), some (.inl x1)] [] σ' := by
    intro r
    induction r with
    | zero =>
      intro i x1 σ' hi hx1 hag h75 hR' h3 hh
      have hF' := hF.agr hag (by simp)
      have : i = zam A := by omega
      subst this
      refine zg_X0_find_58 fun G C hG hC => ?_
      conv => whnf
      refine pk_le _ (zam A) (fun _ => ?_) (fun _ => by omega) hF'.2.2.2.1 hx1
      conv => whnf
      dsimp only
      rw [hF'.2.2.2.1]
      refine hC _ _ _ _ ((sp_headsBelow (d := d + 4) hF' hh (zba_lt _ (Nat.le_refl _)) (Nat.le_refl _)).conseq ?_)
      rintro r2 σ' ⟨rfl, rfl⟩
      conv => whnf
      refine ⟨hag.up (by simp), (hR'.agr (js := [34]) (zagr.rf.up (by simp)) (by simp)).ri (by rw [zup_ne (by decide), h75]; exact hR.1), ?_, ?_, ?_⟩
      · rw [zup_self, pk_un (by decide)]; exact h3
      · rw [zup_self, pk_us]; rfl
      · rw [zup_ne (by decide)]; exact hh
    | succ r ih =>
      intro i x1 σ' hi hx1 hag h75 hR' h3 hh
      subst hx1
      have hF' := hF.agr hag (by simp)
      refine zg_X0_find_58 fun G C hG hC => ?_
      conv => whnf
      refine pk_le _ i (fun _ => by omega) (fun _ => ?_) hF'.2.2.2.1 rfl
      conv => whnf
      refine hC _ _ _ _ ((sp_isLeft (d := d + 4) hF' hR' (by omega : i < zam A)).conseq ?_)
      rintro r2 σ' ⟨rfl, rfl⟩
      conv => whnf
      have hstep : zba A (i + 1) = if zlf A i = true then zbl A i (zba A i) (zam A) else zba A i := rfl
      cases hlf : zlf A i
      · rw [if_neg (by decide)]
        refine br_t rfl ?_
        conv => whnf
        refine hG _ _ _ _ (ih (i + 1) _ σ' (by omega) (nI_1 i) hag h75 hR' h3 ?_)
        rw [hstep, hlf, if_neg (by decide)]; exact hh
      · rw [if_pos rfl]
        refine br_f (by decide) ?_
        conv => whnf
        refine hC _ _ _ _ ((sp_joinCircuit (d := d + 1) hF' hR' hh (zba_lt i (by omega)) (by omega : i < zam A) hlf).conseq ?_)
        rintro r3 σ2 ⟨c1, c2⟩
        conv => whnf
        refine hG _ _ _ _ (ih (i + 1) _ σ2 (by omega) (nI_1 i) (hag.tr (c1.sub (by simp))) ?_ (hR'.agr c1 (by simp)) ?_ ?_)
        · rw [c1 7 (by simp)]; exact h75
        · rw [c1 34 (by simp)]; exact h3
        · rw [hstep, hlf, if_pos rfl]; exact c2
  have loop1 : ∀ r i (x1 : Int32) (σ' : zST), i + r = 80 → x1 = nI i → zagr zbj σ σ' → σ' 7 5 = σ 7 5 → zrow A ch 7 false 2 3 σ' → σ' 34 3 = nI ch → (∀ x, x < i → σ' 35 x = nI x) → zWp E (d + 6) zM_X0_find (fun _ σ' => zagr zbj σ σ' ∧ zri A ch 7 false σ' ∧ zbuo A ch σ') 37 [some (.inr (0, 34)), some (.inl x1)] [] σ' := by
    intro r
    induction r with
    | zero =>
      intro i x1 σ' hi hx1 hag h75 hR' h3 hh
      refine zg_X0_find_37 fun G C hG hC => ?_
      conv => whnf
      refine pk_le 80 i (fun _ => ?_) (fun _ => by omega) rfl hx1
      conv => whnf
      exact hG _ _ _ _ (loop2 (zam A) 0 _ σ' (by omega) rfl hag h75 hR' h3 (fun x hx => hh x (by omega)))
    | succ r ih =>
      intro i x1 σ' hi hx1 hag h75 hR' h3 hh
      refine zg_X0_find_37 fun G C hG hC => ?_
      conv => whnf
      refine pk_le 80 i (fun _ => by omega) (fun _ => ?_) rfl hx1
      conv => whnf
      refine ⟨pk_in i 80 (by omega) hx1, ?_⟩
      conv => whnf
      dsimp only
      rw [pk_cl i hx1]
      refine hG _ _ _ _ (ih (i + 1) _ _ (by omega) (by rw [hx1, nI_1]) (hag.up (by simp)) (by rw [zup_ne (by decide)]; exact h75) (hR'.agr (js := [35]) (zagr.rf.up (by simp)) (by simp)) (by rw [zup_ne (by decide)]; exact h3) (fun x hx => ?_))
      rw [zup_self]
      by_cases e : x = i
      · subst e; rw [pk_us, hx1]
      · rw [pk_un e]; exact hh x (by omega)
  refine zg_X0_find_0 fun G C hG hC => ?_
  conv => whnf
  refine ⟨fun h => ?_, fun h => ?_⟩
  · conv => whnf
    have h : σ 34 3 = σ 1 8 := h
    exact ⟨zagr.rf, hR, hM.2 (by rw [h]; exact hF.2.2.2.2.2.1)⟩
  · conv => whnf
    have hag1 : zagr [34] σ (zup σ 34 3 (σ 1 8)) := zagr.rf.up (by simp)
    refine hC _ _ _ _ ((sp_play (d := d) (k := 2) (l := 3) (by decide) (hF.agr hag1 (by simp)) (hR.agr hag1 (by simp)) (by decide) (by decide) (by decide)).conseq ?_)
    rintro r2 σ2 ⟨p1, p2, p3⟩
    conv => whnf
    refine hG _ _ _ _ (loop1 80 0 _ σ2 (by omega) rfl ((hag1.sub (by simp)).tr (p1.sub (by simp))) ?_ p3 ?_ (fun x hx => absurd hx (Nat.not_lt_zero x)))
    · rw [p2, zup_ne (by decide)]
    · rw [p1 34 (by simp), zup_self, pk_us]; exact hF.2.2.2.2.2.1
theorem sp_numberOf {E : zEN} {d ch x : Nat} {A : zAS} {σ : zST} (hF : zcf A ch σ) (hB : zbuo A ch σ) (hx : x < zam A) : zSp E (d + 2) zM_X0_numberOf [.inr (0, 34), .inl (nI x)] σ (fun r σ' => σ' = σ ∧ r = nI (fb_ct (zhd A) (zba A (zam A) x))) := by
  have hm := hF.1.2.1
  have hlt := zba_lt (A := A) (zam A) (Nat.le_refl _)
  have := hlt x hx
  refine zSp.of rfl (Nat.le_of_ble_eq_true rfl) (zg_X0_numberOf_0 fun G C hG hC => ?_)
  conv => whnf
  refine ⟨pk_in x 80 (by omega), ?_⟩
  conv => whnf
  dsimp only
  rw [nI_clamp (by omega : x < 2 ^ 31), hB.2.2 x hx]
  refine hC _ _ _ _ ((sp_headsBelow (d := d) hF hB.2.2 hlt (by omega : zba A (zam A) x ≤ zam A)).conseq ?_)
  rintro r σ' ⟨rfl, rfl⟩
  conv => whnf
  exact ⟨rfl, rfl⟩
