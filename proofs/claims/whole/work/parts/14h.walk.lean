/-! Steps: walk, countThrees -/
def zsto (A : zAS) (ch : Nat) (σ : zST) : Prop := σ 42 7 = nI ch ∧ ∀ i, i < zan A → σ 43 i = nI (zgo1 A i) ∧ σ 44 i = nI (zkd1 A i) ∧ σ 45 i = zco1 A i
def zstm (A : zAS) (ch : Nat) (σ : zST) : Prop := (σ 42 7 = -1 ∨ ∃ q, q ≤ ch ∧ σ 42 7 = nI q) ∧ (σ 42 7 = nI ch → zsto A ch σ)
abbrev zsj : List Nat := [7, 8, 9, 10, 11, 12, 13, 14, 36, 37, 38, 39, 42, 43, 44, 45, 46]
theorem zmask_mk {n : Nat} (hn : n ≤ 24) : ((1 : Int32) <<< (nI n &&& 31)) - 1 = zmk (fun x => decide (x < n)) := zmk_eq (fun i hi => zmask n (by omega) i (by omega)) (fun i h1 h2 => by rw [zmask n (by omega) i h2]; simp; omega)
theorem zkd1_lt {A : zAS} (hvd : zvd A) {i : Nat} (hi : i < zan A) : zkd1 A i < 24 := by
  obtain ⟨b, b1, b2, b3, b4⟩ := zgo1_lt hi
  unfold zkd1
  rw [← b2]
  exact zdeg_lt (zwk_wf hvd i) b (by have := hvd.1; omega)
set_option maxHeartbeats 4000000 in
theorem sp_walk {E : zEN} {d ch : Nat} {A : zAS} {σ : zST} (hF : zcf A ch σ) (hR : zri A ch 7 false σ) (hM : zstm A ch σ) : zSp E (d + 6) zM_X6_walk [.inr (6, 42)] σ (fun _ σ' => zagr zsj σ σ' ∧ zri A ch 7 false σ' ∧ zsto A ch σ') := by
  have hvd := hF.1
  have hn := hvd.1
  have hm := hvd.2.1
  refine zSp.of rfl (Nat.le_of_ble_eq_true rfl) ?_
  have main : ∀ r i (x1 x2 : Int32) (x3 x4 : Option zAV) (σ' : zST), i + r = zan A → x1 = zmk (zwk A i).2 → x2 = nI i → zagr zsj σ σ' → zri A ch 7 false σ' → zne (zwk A i).1 (σ' 46) → σ' 42 7 = nI ch → (∀ q, q < i → σ' 43 q = nI (zgo1 A q) ∧ σ' 44 q = nI (zkd1 A q) ∧ σ' 45 q = zco1 A q) → zWp E (d + 6) zM_X6_walk (fun _ σ' => zagr zsj σ σ' ∧ zri A ch 7 false σ' ∧ zsto A ch σ') 110 [some (.inr (6, 42)), some (.inl x1), some (.inl x2), x3, x4] [] σ' := by
    intro r
    induction r with
    | zero =>
      intro i x1 x2 x3 x4 σ' hi hx1 hx2 hag hR' hN h7 hq
      refine zg_X6_walk_110 fun G C hG hC => ?_
      conv => whnf
      refine pk_le (zan A) i (fun _ => ?_) (fun _ => by omega) (hF.agr hag (by simp)).2.2.1 hx2
      conv => whnf
      exact ⟨hag, hR', h7, fun q hq1 => hq q (by omega)⟩
    | succ r ih =>
      intro i x1 x2 x3 x4 σ' hi hx1 hx2 hag hR' hN h7 hq
      subst hx1
      have hin : i < zan A := by omega
      obtain ⟨b, b1, b2, b3, b4⟩ := zgo1_lt hin
      have hwf := zwk_wf hvd i
      have hkd := zkd1_lt hvd hin
      have hF' := hF.agr hag (by simp)
      refine zg_X6_walk_110 fun G C hG hC => ?_
      conv => whnf
      refine pk_le (zan A) i (fun _ => by omega) (fun _ => ?_) hF'.2.2.1 hx2
      conv => whnf
      refine hC _ _ _ _ ((sp_leastTied (d := d + 3) (S := (zwk A i).2) hF' hN hwf).conseq ?_)
      rintro r2 σ' ⟨rfl, rfl⟩
      rw [b1]
      have eg : (some b).getD 0 = zgo1 A i := b2
      rw [eg]
      have hv24 : zgo1 A i < 24 := by omega
      generalize hgv : zgo1 A i = v at *
      conv => whnf
      refine ⟨pk_in v 24 hv24, ?_⟩
      conv => whnf
      dsimp only
      rw [nI_clamp (by omega : v < 2 ^ 31), hN v hv24]
      refine ⟨pk_in i 24 (by omega) hx2, ?_⟩
      conv => whnf
      dsimp only
      rw [pk_cl i hx2]
      refine hC _ _ _ _ (sp_bitCount.conseq ?_)
      rintro r3 σ1 ⟨hσ1, rfl⟩
      rw [zpopmk]
      have hkde : fb_ct ((zwk A i).1 v) 24 = zkd1 A i := by unfold zkd1 zdeg; rw [hgv]
      rw [hkde]
      conv => whnf
      refine ⟨pk_in i 24 (by omega) hx2, ?_⟩
      conv => whnf
      dsimp only
      rw [pk_cl i hx2, zmk_del _ hv24]
      have hN1 : zne (zwk A i).1 (zup σ1 44 i (nI (zkd1 A i)) 46) := by
        rw [zup_ne (by decide), hσ1, zup_ne (by decide)]; exact hN
      refine hC _ _ _ _ ((sp_takeAway (d := d + 4) hN1 hv24).conseq ?_)
      rintro r4 σ2 ⟨t1, t2⟩
      conv => whnf
      refine ⟨pk_in i 24 (by omega) hx2, ?_⟩
      conv => whnf
      refine ⟨pk_in i 24 (by omega) hx2, ?_⟩
      conv => whnf
      dsimp only
      rw [pk_cl i hx2]
      have k44 : zup σ2 45 i (-9) 44 i = nI (zkd1 A i) := by rw [zup_ne (by decide), t1 44 (by simp), zup_self, pk_us]
      rw [k44]
      -- the state behind all but the bridge
      have hag2 : zagr zsj σ (zup σ2 45 i (-9)) := by
        refine zagr.up (zagr.tr ?_ (t1.sub (by simp))) (by simp)
        rw [hσ1]
        exact (hag.up (by simp)).up (by simp)
      have hσ2 : ∀ q, q ≠ 43 → q ≠ 44 → q ≠ 45 → q ≠ 46 → zup σ2 45 i (-9) q = σ' q := fun q q1 q2 q3 q4 => by
        rw [zup_ne q3, t1 q (by simpa using q4), zup_ne q2, hσ1, zup_ne q1]
      have hR2 : zri A ch 7 false (zup σ2 45 i (-9)) := by
        refine hR'.agr (js := [43, 44, 45, 46]) (fun q hq => ?_) (by simp)
        simp only [List.mem_cons, List.not_mem_nil, or_false, not_or] at hq
        exact hσ2 q hq.1 hq.2.1 hq.2.2.1 hq.2.2.2
      have h43 : zup σ2 45 i (-9) 43 = upd (σ' 43) i (nI v) := by rw [zup_ne (by decide), t1 43 (by simp), zup_ne (by decide), hσ1, zup_self]
      have h44 : zup σ2 45 i (-9) 44 = upd (σ' 44) i (nI (zkd1 A i)) := by rw [zup_ne (by decide), t1 44 (by simp), zup_self, hσ1, zup_ne (by decide)]
      have h45 : zup σ2 45 i (-9) 45 = upd (σ' 45) i (-9) := by rw [zup_self, t1 45 (by simp), zup_ne (by decide), hσ1, zup_ne (by decide)]
      have h46 : zne (zaw (zwk A i).1 v) (zup σ2 45 i (-9) 46) := by rw [zup_ne (by decide)]; exact t2
      have h42 : zup σ2 45 i (-9) 42 7 = nI ch := by rw [hσ2 42 (by decide) (by decide) (by decide) (by decide)]; exact h7
      have hS' : (zwk A (i + 1)).2 = fun x => (zwk A i).2 x && !decide (x = v) := by
        show (zwn (zan A) (zwk A i)).2 = _
        unfold zwn
        dsimp only
        rw [b1, eg]
      have hN' : (zwk A (i + 1)).1 = if zkd1 A i = 3 then zadd (zaw (zwk A i).1 v) (zbf2 ((zwk A i).1 v) (zlb (zaw (zwk A i).1 v))) else zaw (zwk A i).1 v := by
        show (zwn (zan A) (zwk A i)).1 = _
        unfold zwn
        dsimp only
        rw [b1, eg]
        unfold zkd1
        rw [hgv]
      have hco : zco1 A i = if zkd1 A i = 3 then zcode (zbf2 ((zwk A i).1 v) (zlb (zaw (zwk A i).1 v))) else -9 := by
        unfold zco1
        rw [hgv]
      have hnext : x2 + 1 = nI (i + 1) := by rw [hx2, nI_1]
      generalize zup σ2 45 i (-9) = σ3 at *
      refine pk_eq (zkd1 A i) 3 (fun h3 => ?_) (fun h3 => ?_)
      · conv => whnf
        refine hC _ _ _ _ ((sp_layBoard (d := d) h46).conseq ?_)
        rintro r5 σ4 ⟨l1, l2⟩
        conv => whnf
        have h46' : zne (zaw (zwk A i).1 v) (σ4 46) := by rw [l1 46 (by simp)]; exact h46
        refine hC _ _ _ _ ((sp_bridge (d := d + 1) (nb := (zwk A i).1 v) h46' l2).conseq ?_)
        rintro r6 σ5 ⟨g1, rfl, g3⟩
        conv => whnf
        refine ⟨pk_in i 24 (by omega) hx2, ?_⟩
        conv => whnf
        dsimp only
        rw [pk_cl i hx2]
        have k : ∀ q, q ∉ ([36, 37, 38, 39, 46] : List Nat) → σ5 q = σ3 q := fun q hq => by
          simp only [List.mem_cons, List.not_mem_nil, or_false, not_or] at hq
          rw [g1 q (by simp; omega), l1 q (by simp; omega)]
        refine hG _ _ _ _ (ih (i + 1) _ _ _ _ _ (by omega) (by rw [hS']) hnext ?_ ?_ ?_ ?_ ?_)
        · exact ((hag2.tr (l1.sub (by simp))).tr (g1.sub (by simp))).up (by simp)
        · refine hR2.agr (js := [36, 37, 38, 39, 45, 46]) (fun q hq => ?_) (by simp)
          simp only [List.mem_cons, List.not_mem_nil, or_false, not_or] at hq
          rw [zup_ne (by omega), k q (by simp; omega)]
        · rw [zup_ne (by decide), hN', if_pos h3]; exact g3
        · rw [zup_ne (by decide), k 42 (by simp)]; exact h42
        · intro q hq1
          rw [zup_ne (by decide), zup_ne (by decide), zup_self, k 43 (by simp), k 44 (by simp), k 45 (by simp), h43, h44, h45]
          by_cases e : q = i
          · subst e
            rw [pk_us, pk_us, pk_us]
            refine ⟨by rw [hgv], rfl, ?_⟩
            rw [hco, if_pos h3]
          · rw [pk_un e, pk_un e, pk_un e, pk_un e]; exact hq q (by omega)
      · conv => whnf
        refine hG _ _ _ _ (ih (i + 1) _ _ _ _ _ (by omega) (by rw [hS']) hnext hag2 hR2 ?_ h42 ?_)
        · rw [hN', if_neg h3]; exact h46
        · intro q hq1
          rw [h43, h44, h45]
          by_cases e : q = i
          · subst e
            rw [pk_us, pk_us, pk_us]
            refine ⟨by rw [hgv], rfl, ?_⟩
            rw [hco, if_neg h3]
          · rw [pk_un e, pk_un e, pk_un e]; exact hq q (by omega)
  have first : ∀ r i (x1 : Int32) (x2 x3 x4 : Option zAV) (σ' : zST), i + r = zam A → x1 = nI i → zagr zsj σ σ' → σ' 7 5 = σ 7 5 → zrow A ch 7 false 2 3 σ' → zne (zN0 A i) (σ' 46) → σ' 42 7 = nI ch → zWp E (d + 6) zM_X6_walk (fun _ σ' => zagr zsj σ σ' ∧ zri A ch 7 false σ' ∧ zsto A ch σ') 45 [some (.inr (6, 42)), some (.inl x1), x2, x3, x4] [] σ' := by
    intro r
    induction r with
    | zero =>
      intro i x1 x2 x3 x4 σ' hi hx1 hag h75 hR' hN h7
      have hF' := hF.agr hag (by simp)
      refine zg_X6_walk_45 fun G C hG hC => ?_
      conv => whnf
      refine pk_le (zam A) i (fun _ => ?_) (fun _ => by omega) hF'.2.2.2.1 hx1
      conv => whnf
      dsimp only
      rw [hF'.2.2.1, zmask_mk hn]
      have : i = zam A := by omega
      subst this
      exact hG _ _ _ _ (main (zan A) 0 _ _ _ _ σ' (by omega) rfl rfl hag (hR'.ri (by rw [h75]; exact hR.1)) hN h7 (fun q hq => absurd hq (Nat.not_lt_zero q)))
    | succ r ih =>
      intro i x1 x2 x3 x4 σ' hi hx1 hag h75 hR' hN h7
      subst hx1
      have hF' := hF.agr hag (by simp)
      have him : i < zam A := by omega
      obtain ⟨q1, q2, q3, q4⟩ := hF'.2.2.2.2.2.2.1 i him
      obtain ⟨p1, p2, p3⟩ := hvd.2.2 i him
      have h12 : σ' 12 i = if zK A false 2 3 i = true then 1 else 0 := hR'.2.2.2.2.1 i (by omega)
      have hstep : zN0 A (i + 1) = if zK A false 2 3 i = true then zadd (zN0 A i) (some (zaa A i, zab A i)) else zN0 A i := rfl
      refine zg_X6_walk_45 fun G C hG hC => ?_
      conv => whnf
      refine pk_le (zam A) i (fun _ => by omega) (fun _ => ?_) hF'.2.2.2.1 rfl
      conv => whnf
      refine ⟨pk_in i 80 (by omega), ?_⟩
      conv => whnf
      dsimp only
      rw [nI_clamp (by omega : i < 2 ^ 31), h12]
      cases hK : zK A false 2 3 i
      · rw [if_neg (by decide)]
        refine br_t rfl ?_
        conv => whnf
        refine hG _ _ _ _ (ih (i + 1) _ _ _ _ σ' (by omega) (nI_1 i) hag h75 hR' ?_ h7)
        rw [hstep, hK, if_neg (by decide)]; exact hN
      · rw [if_pos rfl]
        refine br_f (by decide) ?_
        conv => whnf
        refine ⟨pk_in i 80 (by omega), ?_⟩
        conv => whnf
        refine ⟨pk_in i 80 (by omega), ?_⟩
        conv => whnf
        dsimp only
        rw [nI_clamp (by omega : i < 2 ^ 31), q1, q2]
        refine hC _ _ _ _ ((sp_tie (d := d + 4) hN (by omega : zaa A i < 24) (by omega : zab A i < 24) (by omega)).conseq ?_)
        rintro r2 σ2 ⟨t1, t2⟩
        conv => whnf
        refine hG _ _ _ _ (ih (i + 1) _ _ _ _ σ2 (by omega) (nI_1 i) (hag.tr (t1.sub (by simp))) (by rw [t1 7 (by simp)]; exact h75) (hR'.agr t1 (by simp)) ?_ (by rw [t1 42 (by simp)]; exact h7))
        rw [hstep, hK, if_pos rfl]; exact t2
  refine zg_X6_walk_0 fun G C hG hC => ?_
  conv => whnf
  refine ⟨fun h => ?_, fun h => ?_⟩
  · conv => whnf
    have h : σ 42 7 = σ 1 8 := h
    exact ⟨zagr.rf, hR, hM.2 (by rw [h]; exact hF.2.2.2.2.2.1)⟩
  · conv => whnf
    have hag1 : zagr [42] σ (zup σ 42 7 (σ 1 8)) := zagr.rf.up (by simp)
    refine hC _ _ _ _ ((sp_play (d := d) (k := 2) (l := 3) (by decide) (hF.agr hag1 (by simp)) (hR.agr hag1 (by simp)) (by decide) (by decide) (by decide)).conseq ?_)
    rintro r2 σ2 ⟨p1, p2, p3⟩
    conv => whnf
    refine hC _ _ _ _ ((sp_fill (d := d + 4) (n := 24) (Or.inl ⟨rfl, rfl⟩)).conseq ?_)
    rintro r3 σ3 ⟨s1, s2⟩
    conv => whnf
    refine hG _ _ _ _ (first (zam A) 0 _ _ _ _ σ3 (by omega) rfl (((hag1.sub (by simp)).tr (p1.sub (by simp))).tr (s1.sub (by simp))) ?_ (p3.agr s1 (by simp)) ?_ ?_)
    · rw [s1 7 (by simp), p2, zup_ne (by decide)]
    · intro v hv
      have := s2 v hv
      rw [this]
      exact zmk_none.symm
    · rw [s1 42 (by simp), p1 42 (by simp), zup_self, pk_us]; exact hF.2.2.2.2.2.1
theorem sp_countThrees {E : zEN} {d ch : Nat} {A : zAS} {σ : zST} (hF : zcf A ch σ) (hS : zsto A ch σ) : zSp E (d + 1) zM_X6_countThrees [.inr (6, 42)] σ (fun r σ' => σ' = σ ∧ r = nI (fb_ct (fun i => decide (zkd1 A i = 3)) (zan A))) := by
  have hvd := hF.1
  have hn := hvd.1
  refine zSp.of rfl (Nat.le_of_ble_eq_true rfl) ?_
  have loop : ∀ r i (x1 x2 : Int32), i + r = zan A → x1 = nI (fb_ct (fun i => decide (zkd1 A i = 3)) i) → x2 = nI i → zWp E (d + 1) zM_X6_countThrees (fun r σ' => σ' = σ ∧ r = nI (fb_ct (fun i => decide (zkd1 A i = 3)) (zan A))) 4 [some (.inr (6, 42)), some (.inl x1), some (.inl x2)] [] σ := by
    intro r
    induction r with
    | zero =>
      intro i x1 x2 hi hx1 hx2
      refine zg_X6_countThrees_4 fun G C hG hC => ?_
      conv => whnf
      refine pk_le _ i (fun _ => ?_) (fun _ => by omega) hF.2.2.1 hx2
      conv => whnf
      have : i = zan A := by omega
      subst this
      exact ⟨rfl, hx1⟩
    | succ r ih =>
      intro i x1 x2 hi hx1 hx2
      have hkd := zkd1_lt hvd (i := i) (by omega)
      refine zg_X6_countThrees_4 fun G C hG hC => ?_
      conv => whnf
      refine pk_le _ i (fun _ => by omega) (fun _ => ?_) hF.2.2.1 hx2
      conv => whnf
      refine ⟨pk_in i 24 (by omega) hx2, ?_⟩
      conv => whnf
      dsimp only
      rw [pk_cl i hx2, (hS.2 i (by omega)).2.1]
      have hnext : x2 + 1 = nI (i + 1) := by rw [hx2, nI_1]
      refine pk_eq (zkd1 A i) 3 (fun h => ?_) (fun h => ?_)
      · conv => whnf
        exact hG _ _ _ _ (ih (i + 1) _ _ (by omega) (by rw [hx1, fb_ct_succ, nI_1]; simp [h]) hnext)
      · conv => whnf
        exact hG _ _ _ _ (ih (i + 1) _ _ (by omega) (by rw [hx1, fb_ct_succ]; simp [h]) hnext)
  refine zg_X6_countThrees_0 fun G C hG hC => ?_
  conv => whnf
  exact hG _ _ _ _ (loop (zan A) 0 _ _ (by omega) rfl rfl)
