/-! the class between calls; its small private methods -/
def zCI (A : zAS) (ch : Nat) (rf : Nat → Int32) (σ : zST) : Prop := zcf A ch σ ∧ zri A ch 7 false σ ∧ zri A ch 15 true σ ∧ zri A ch 23 false σ ∧ zclm A ch σ ∧ zbum A ch σ ∧ zmim A ch σ ∧ zstm A ch σ ∧ ∀ i, i < 6 → σ 47 i = rf i
/-- the cells from 48 on stay -/
def zhi (σ σ' : zST) : Prop := ∀ q, 48 ≤ q → σ' q = σ q
theorem zhi.of {js : List Nat} {σ σ' : zST} (h : zagr js σ σ') (hd : ∀ q, q ∈ js → q < 48) : zhi σ σ' := fun q hq => h q (fun hm => by have := hd q hm; omega)
theorem zhi.tr {σ σ' σ'' : zST} (h : zhi σ σ') (h' : zhi σ' σ'') : zhi σ σ'' := fun q hq => (h' q hq).trans (h q hq)
theorem zclm.agr {A : zAS} {ch : Nat} {σ σ' : zST} (h : zclm A ch σ) (e1 : σ' 31 = σ 31) (e2 : σ' 33 = σ 33) : zclm A ch σ' := by unfold zclm zclo at *; rw [e1, e2]; exact h
theorem zbum.agr {A : zAS} {ch : Nat} {σ σ' : zST} (h : zbum A ch σ) (e1 : σ' 34 = σ 34) (e2 : σ' 35 = σ 35) : zbum A ch σ' := by unfold zbum zbuo at *; rw [e1, e2]; exact h
theorem zmim.agr {A : zAS} {ch : Nat} {σ σ' : zST} (h : zmim A ch σ) (e1 : σ' 40 = σ 40) (e2 : σ' 41 = σ 41) : zmim A ch σ' := by unfold zmim zmio at *; rw [e1, e2]; exact h
theorem zstm.agr {A : zAS} {ch : Nat} {σ σ' : zST} (h : zstm A ch σ) (e1 : σ' 42 = σ 42) (e2 : σ' 43 = σ 43) (e3 : σ' 44 = σ 44) (e4 : σ' 45 = σ 45) : zstm A ch σ' := by unfold zstm zsto at *; rw [e1, e2, e3, e4]; exact h
theorem zCI.row7 {A : zAS} {ch : Nat} {rf : Nat → Int32} {σ σ' : zST} (h : zCI A ch rf σ) (hag : zagr (zrj 7) σ σ') (hr : zri A ch 7 false σ') : zCI A ch rf σ' := by
  obtain ⟨h1, h2, h3, h4, h5, h6, h7, h8, h9⟩ := h
  exact ⟨h1.agr hag (by simp), hr, h3.agr hag (by simp), h4.agr hag (by simp), h5.agr (hag _ (by simp)) (hag _ (by simp)), h6.agr (hag _ (by simp)) (hag _ (by simp)), h7.agr (hag _ (by simp)) (hag _ (by simp)), h8.agr (hag _ (by simp)) (hag _ (by simp)) (hag _ (by simp)) (hag _ (by simp)), fun i hi => by rw [hag 47 (by simp)]; exact h9 i hi⟩
theorem zCI.row15 {A : zAS} {ch : Nat} {rf : Nat → Int32} {σ σ' : zST} (h : zCI A ch rf σ) (hag : zagr (zrj 15) σ σ') (hr : zri A ch 15 true σ') : zCI A ch rf σ' := by
  obtain ⟨h1, h2, h3, h4, h5, h6, h7, h8, h9⟩ := h
  exact ⟨h1.agr hag (by simp), h2.agr hag (by simp), hr, h4.agr hag (by simp), h5.agr (hag _ (by simp)) (hag _ (by simp)), h6.agr (hag _ (by simp)) (hag _ (by simp)), h7.agr (hag _ (by simp)) (hag _ (by simp)), h8.agr (hag _ (by simp)) (hag _ (by simp)) (hag _ (by simp)) (hag _ (by simp)), fun i hi => by rw [hag 47 (by simp)]; exact h9 i hi⟩
theorem zCI.row23 {A : zAS} {ch : Nat} {rf : Nat → Int32} {σ σ' : zST} (h : zCI A ch rf σ) (hag : zagr (zrj 23) σ σ') (hr : zri A ch 23 false σ') : zCI A ch rf σ' := by
  obtain ⟨h1, h2, h3, h4, h5, h6, h7, h8, h9⟩ := h
  exact ⟨h1.agr hag (by simp), h2.agr hag (by simp), h3.agr hag (by simp), hr, h5.agr (hag _ (by simp)) (hag _ (by simp)), h6.agr (hag _ (by simp)) (hag _ (by simp)), h7.agr (hag _ (by simp)) (hag _ (by simp)), h8.agr (hag _ (by simp)) (hag _ (by simp)) (hag _ (by simp)) (hag _ (by simp)), fun i hi => by rw [hag 47 (by simp)]; exact h9 i hi⟩
theorem zCI.clus {A : zAS} {ch : Nat} {rf : Nat → Int32} {σ σ' : zST} (h : zCI A ch rf σ) (hag : zagr zcj σ σ') (hr : zri A ch 7 false σ') (hc : zclo A ch σ') : zCI A ch rf σ' := by
  obtain ⟨h1, h2, h3, h4, h5, h6, h7, h8, h9⟩ := h
  exact ⟨h1.agr hag (by simp), hr, h3.agr hag (by simp), h4.agr hag (by simp), ⟨Or.inr ⟨ch, Nat.le_refl _, hc.1⟩, fun _ => hc⟩, h6.agr (hag _ (by simp)) (hag _ (by simp)), h7.agr (hag _ (by simp)) (hag _ (by simp)), h8.agr (hag _ (by simp)) (hag _ (by simp)) (hag _ (by simp)) (hag _ (by simp)), fun i hi => by rw [hag 47 (by simp)]; exact h9 i hi⟩
theorem zCI.bund {A : zAS} {ch : Nat} {rf : Nat → Int32} {σ σ' : zST} (h : zCI A ch rf σ) (hag : zagr zbj σ σ') (hr : zri A ch 7 false σ') (hc : zbuo A ch σ') : zCI A ch rf σ' := by
  obtain ⟨h1, h2, h3, h4, h5, h6, h7, h8, h9⟩ := h
  exact ⟨h1.agr hag (by simp), hr, h3.agr hag (by simp), h4.agr hag (by simp), h5.agr (hag _ (by simp)) (hag _ (by simp)), ⟨Or.inr ⟨ch, Nat.le_refl _, hc.1⟩, fun _ => hc⟩, h7.agr (hag _ (by simp)) (hag _ (by simp)), h8.agr (hag _ (by simp)) (hag _ (by simp)) (hag _ (by simp)) (hag _ (by simp)), fun i hi => by rw [hag 47 (by simp)]; exact h9 i hi⟩
theorem zCI.miss {A : zAS} {ch : Nat} {rf : Nat → Int32} {σ σ' : zST} (h : zCI A ch rf σ) (hag : zagr zmj σ σ') (hr : zri A ch 7 false σ') (hc : zmio A ch σ') : zCI A ch rf σ' := by
  obtain ⟨h1, h2, h3, h4, h5, h6, h7, h8, h9⟩ := h
  exact ⟨h1.agr hag (by simp), hr, h3.agr hag (by simp), h4.agr hag (by simp), h5.agr (hag _ (by simp)) (hag _ (by simp)), h6.agr (hag _ (by simp)) (hag _ (by simp)), ⟨Or.inr ⟨ch, Nat.le_refl _, hc.1⟩, fun _ => hc⟩, h8.agr (hag _ (by simp)) (hag _ (by simp)) (hag _ (by simp)) (hag _ (by simp)), fun i hi => by rw [hag 47 (by simp)]; exact h9 i hi⟩
theorem zCI.step {A : zAS} {ch : Nat} {rf : Nat → Int32} {σ σ' : zST} (h : zCI A ch rf σ) (hag : zagr zsj σ σ') (hr : zri A ch 7 false σ') (hc : zsto A ch σ') : zCI A ch rf σ' := by
  obtain ⟨h1, h2, h3, h4, h5, h6, h7, h8, h9⟩ := h
  exact ⟨h1.agr hag (by simp), hr, h3.agr hag (by simp), h4.agr hag (by simp), h5.agr (hag _ (by simp)) (hag _ (by simp)), h6.agr (hag _ (by simp)) (hag _ (by simp)), h7.agr (hag _ (by simp)) (hag _ (by simp)), ⟨Or.inr ⟨ch, Nat.le_refl _, hc.1⟩, fun _ => hc⟩, fun i hi => by rw [hag 47 (by simp)]; exact h9 i hi⟩
/-! answers: a refusal (by its place) or a number -/
abbrev zO : Type := Nat ⊕ Int32
def zres : zO → Int32
  | .inl k => -(nI (k + 1))
  | .inr v => v
def zrfo (rf : Nat → Int32) : zO → (Nat → Int32)
  | .inl k => fun i => if i = k then rf i + 1 else rf i
  | .inr _ => rf
def zix (x : Int32) (n : Nat) : Bool := !decide (x < 0) && decide (x.toNatClampNeg < n)
theorem zix_nI {j n : Nat} (hj : j < 2 ^ 31) : zix (nI j) n = decide (j < n) := by
  unfold zix
  rw [nI_clamp hj]
  simp [nI_pos hj]
theorem zix_cases (x : Int32) {n : Nat} (hn : n < 2 ^ 31) : (zix x n = false ∧ (x < 0 ∨ nI n ≤ x)) ∨ ∃ j, j < n ∧ x = nI j ∧ zix x n = true := by
  rcases pk_ix x hn with h | h | ⟨j, hj, rfl⟩
  · left; exact ⟨by unfold zix; simp [h], Or.inl h⟩
  · left
    refine ⟨?_, Or.inr h⟩
    have h0 : ¬ x < 0 := fun hx => by
      have a1 := Int32.lt_iff_toInt_lt.mp hx
      have a2 := Int32.le_iff_toInt_le.mp h
      rw [nI_toInt hn] at a2
      have : (0 : Int32).toInt = 0 := rfl
      omega
    obtain ⟨j, hj, rfl⟩ := nI_of h0
    rw [zix_nI hj]
    have := (nI_leI hn hj).mp h
    simp; omega
  · right; exact ⟨j, hj, rfl, by rw [zix_nI (by omega)]; simp [hj]⟩
theorem sp_refuse {E : zEN} {d k ch : Nat} {A : zAS} {rf : Nat → Int32} {σ : zST} (hk : k < 6) (hI : zCI A ch rf σ) : zSp E (d + 1) zM_X7_refuse [.inr (7, 0), .inl (-(nI (k + 1)))] σ (fun r σ' => zhi σ σ' ∧ zCI A ch (zrfo rf (.inl k)) σ' ∧ r = zres (.inl k)) := by
  have e : ∀ k, k < 6 → -(-(nI (k + 1))) - 1 = nI k := by decide +kernel
  refine zSp.of rfl (Nat.le_of_ble_eq_true rfl) (zg_X7_refuse_0 fun G C hG hC => ?_)
  conv => whnf
  dsimp only
  rw [e k hk]
  refine br_f (nI_pos (by omega)) ?_
  conv => whnf
  refine pk_le 6 k (fun _ => by omega) (fun _ => ?_)
  conv => whnf
  refine ⟨pk_in k 6 hk, ?_⟩
  conv => whnf
  refine ⟨pk_in k 6 hk, ?_⟩
  conv => whnf
  dsimp only
  rw [nI_clamp (by omega : k < 2 ^ 31)]
  have hag : zagr [47] σ (zup σ 47 k (σ 47 k + 1)) := zagr.rf.up (by simp)
  refine ⟨zhi.of hag (by simp), ?_, rfl⟩
  obtain ⟨h1, h2, h3, h4, h5, h6, h7, h8, h9⟩ := hI
  refine ⟨h1.agr hag (by simp), h2.agr hag (by simp), h3.agr hag (by simp), h4.agr hag (by simp), h5.agr (hag _ (by simp)) (hag _ (by simp)), h6.agr (hag _ (by simp)) (hag _ (by simp)), h7.agr (hag _ (by simp)) (hag _ (by simp)), h8.agr (hag _ (by simp)) (hag _ (by simp)) (hag _ (by simp)) (hag _ (by simp)), fun i hi => ?_⟩
  rw [zup_self]
  show _ = if i = k then rf i + 1 else rf i
  by_cases e : i = k
  · subst e; rw [pk_us, h9 i hi, if_pos rfl]
  · rw [pk_un e, h9 i hi, if_neg e]
theorem sp_noJoint {E : zEN} {d n : Nat} {x : Int32} {σ : zST} (hn : n < 2 ^ 31) (h : σ 1 5 = nI n) : zSp E (d + 1) zM_X7_noJoint [.inr (7, 0), .inl x] σ (fun r σ' => σ' = σ ∧ r = if zix x n = true then 0 else 1) := by
  refine zSp.of rfl (Nat.le_of_ble_eq_true rfl) (zg_X7_noJoint_0 fun G C hG hC => ?_)
  conv => whnf
  rcases zix_cases x hn with ⟨h1, h2⟩ | ⟨j, hj, rfl, h1⟩
  · rw [h1]
    refine ⟨fun h3 => ?_, fun h3 => ?_⟩
    · conv => whnf
      exact ⟨Or.inr rfl, rfl, rfl⟩
    · conv => whnf
      refine br_f (fun h4 => ?_) ?_
      · have h4 : x < σ 1 5 := h4
        rw [h] at h4
        rcases h2 with h2 | h2
        · exact h3 h2
        · have a1 := Int32.lt_iff_toInt_lt.mp h4
          have a2 := Int32.le_iff_toInt_le.mp h2
          omega
      · conv => whnf
        exact ⟨Or.inr rfl, rfl, rfl⟩
  · rw [h1]
    refine br_f (nI_pos (by omega)) ?_
    conv => whnf
    refine br_t ?_ ?_
    · show nI j < σ 1 5
      rw [h]; exact nI_lt hj hn
    · conv => whnf
      exact ⟨Or.inl rfl, rfl, rfl⟩
theorem sp_noBar {E : zEN} {d n : Nat} {x : Int32} {σ : zST} (hn : n < 2 ^ 31) (h : σ 1 6 = nI n) : zSp E (d + 1) zM_X7_noBar [.inr (7, 0), .inl x] σ (fun r σ' => σ' = σ ∧ r = if zix x n = true then 0 else 1) := by
  refine zSp.of rfl (Nat.le_of_ble_eq_true rfl) (zg_X7_noBar_0 fun G C hG hC => ?_)
  conv => whnf
  rcases zix_cases x hn with ⟨h1, h2⟩ | ⟨j, hj, rfl, h1⟩
  · rw [h1]
    refine ⟨fun h3 => ?_, fun h3 => ?_⟩
    · conv => whnf
      exact ⟨Or.inr rfl, rfl, rfl⟩
    · conv => whnf
      refine br_f (fun h4 => ?_) ?_
      · have h4 : x < σ 1 6 := h4
        rw [h] at h4
        rcases h2 with h2 | h2
        · exact h3 h2
        · have a1 := Int32.lt_iff_toInt_lt.mp h4
          have a2 := Int32.le_iff_toInt_le.mp h2
          omega
      · conv => whnf
        exact ⟨Or.inr rfl, rfl, rfl⟩
  · rw [h1]
    refine br_f (nI_pos (by omega)) ?_
    conv => whnf
    refine br_t ?_ ?_
    · show nI j < σ 1 6
      rw [h]; exact nI_lt hj hn
    · conv => whnf
      exact ⟨Or.inl rfl, rfl, rfl⟩
theorem sp_noCluster {E : zEN} {d n : Nat} {x : Int32} {σ : zST} (hn : n < 2 ^ 31) (h : σ 31 5 = nI n) : zSp E (d + 1) zM_X7_noCluster [.inr (7, 0), .inl x] σ (fun r σ' => σ' = σ ∧ r = if zix x n = true then 0 else 1) := by
  refine zSp.of rfl (Nat.le_of_ble_eq_true rfl) (zg_X7_noCluster_0 fun G C hG hC => ?_)
  conv => whnf
  rcases zix_cases x hn with ⟨h1, h2⟩ | ⟨j, hj, rfl, h1⟩
  · rw [h1]
    refine ⟨fun h3 => ?_, fun h3 => ?_⟩
    · conv => whnf
      exact ⟨Or.inr rfl, rfl, rfl⟩
    · conv => whnf
      refine br_f (fun h4 => ?_) ?_
      · have h4 : x < σ 31 5 := h4
        rw [h] at h4
        rcases h2 with h2 | h2
        · exact h3 h2
        · have a1 := Int32.lt_iff_toInt_lt.mp h4
          have a2 := Int32.le_iff_toInt_le.mp h2
          omega
      · conv => whnf
        exact ⟨Or.inr rfl, rfl, rfl⟩
  · rw [h1]
    refine br_f (nI_pos (by omega)) ?_
    conv => whnf
    refine br_t ?_ ?_
    · show nI j < σ 31 5
      rw [h]; exact nI_lt hj hn
    · conv => whnf
      exact ⟨Or.inl rfl, rfl, rfl⟩
def zpr (A : zAS) (x y : Int32) : Bool := zix x (zan A) && (zix y (zan A) && !decide (x = y))
theorem sp_noPair {E : zEN} {d : Nat} {A : zAS} {x y : Int32} {σ : zST} (hn : zan A ≤ 24) (h : σ 1 5 = nI (zan A)) : zSp E (d + 2) zM_X7_noPair [.inr (7, 0), .inl x, .inl y] σ (fun r σ' => σ' = σ ∧ r = if zpr A x y = true then 0 else 1) := by
  refine zSp.of rfl (Nat.le_of_ble_eq_true rfl) (zg_X7_noPair_0 fun G C hG hC => ?_)
  conv => whnf
  refine hC _ _ _ _ ((sp_noJoint (d := d) (n := zan A) (by omega) h).conseq ?_)
  rintro r σ' ⟨rfl, rfl⟩
  conv => whnf
  unfold zpr
  cases h1 : zix x (zan A)
  · rw [if_neg (by decide)]
    refine br_f (by decide) ?_
    conv => whnf
    exact ⟨Or.inr rfl, rfl, rfl⟩
  · rw [if_pos rfl]
    refine br_t rfl ?_
    conv => whnf
    refine hC _ _ _ _ ((sp_noJoint (d := d) (n := zan A) (by omega) h).conseq ?_)
    rintro r σ' ⟨rfl, rfl⟩
    conv => whnf
    cases h2 : zix y (zan A)
    · rw [if_neg (by decide)]
      refine br_f (by decide) ?_
      conv => whnf
      exact ⟨Or.inr rfl, rfl, rfl⟩
    · rw [if_pos rfl]
      refine br_t rfl ?_
      conv => whnf
      refine ⟨fun he => ?_, fun he => ?_⟩
      · conv => whnf
        have he : x = y := he
        exact ⟨Or.inr rfl, rfl, by simp [he]⟩
      · conv => whnf
        have he : ¬ x = y := he
        exact ⟨Or.inl rfl, rfl, by simp [he]⟩
def zwc (k l : Int32) : Int32 := if k < 1 ∨ l < 0 then -4 else if 3 < k ∨ 2 * k - 1 < l then -6 else 0
theorem sp_wrongCount {E : zEN} {d : Nat} {k l : Int32} {σ : zST} : zSp E (d + 1) zM_X7_wrongCount [.inl k, .inl l] σ (fun r σ' => σ' = σ ∧ r = zwc k l) := by
  refine zSp.of rfl (Nat.le_of_ble_eq_true rfl) (zg_X7_wrongCount_0 fun G C hG hC => ?_)
  unfold zwc
  conv => whnf
  refine ⟨fun h1 => ?_, fun h1 => ?_⟩
  · conv => whnf
    have h1 : k < 1 := h1
    exact ⟨rfl, by rw [if_pos (Or.inl h1)]⟩
  · have h1 : ¬ k < 1 := h1
    conv => whnf
    refine ⟨fun h2 => ?_, fun h2 => ?_⟩
    · have h2 : 0 ≤ l := h2
      have h2' : ¬ l < 0 := fun q => by
        have a1 := Int32.lt_iff_toInt_lt.mp q
        have a2 := Int32.le_iff_toInt_le.mp h2
        omega
      conv => whnf
      refine ⟨fun h3 => ?_, fun h3 => ?_⟩
      · have h3 : 3 < k := h3
        conv => whnf
        exact ⟨rfl, by rw [if_neg (by simp [h1, h2']), if_pos (Or.inl h3)]⟩
      · have h3 : ¬ 3 < k := h3
        conv => whnf
        refine ⟨fun h4 => ?_, fun h4 => ?_⟩
        · have h4 : l ≤ 2 * k - 1 := h4
          have h4' : ¬ 2 * k - 1 < l := fun q => by
            have a1 := Int32.lt_iff_toInt_lt.mp q
            have a2 := Int32.le_iff_toInt_le.mp h4
            omega
          conv => whnf
          exact ⟨rfl, by rw [if_neg (by simp [h1, h2']), if_neg (by simp [h3, h4'])]⟩
        · have h4 : ¬ l ≤ 2 * k - 1 := h4
          have h4' : 2 * k - 1 < l := by
            rw [Int32.lt_iff_toInt_lt]
            have : ¬ l.toInt ≤ (2 * k - 1).toInt := fun q => h4 (Int32.le_iff_toInt_le.mpr q)
            omega
          conv => whnf
          exact ⟨rfl, by rw [if_neg (by simp [h1, h2']), if_pos (Or.inr h4')]⟩
    · have h2 : ¬ 0 ≤ l := h2
      have h2' : l < 0 := by
        rw [Int32.lt_iff_toInt_lt]
        have : ¬ (0 : Int32).toInt ≤ l.toInt := fun q => h2 (Int32.le_iff_toInt_le.mpr q)
        omega
      conv => whnf
      exact ⟨rfl, by rw [if_pos (Or.inr h2')]⟩
theorem zwc_0 {k l : Int32} (h : zwc k l = 0) : ∃ k' l', k = nI k' ∧ l = nI l' ∧ 1 ≤ k' ∧ k' ≤ 3 ∧ l' < 2 * k' := by
  unfold zwc at h
  split at h
  · exact absurd h (by decide)
  · rename_i h1
    split at h
    · exact absurd h (by decide)
    · rename_i h2
      simp only [not_or] at h1 h2
      have k0 : ¬ k < 0 := fun q => h1.1 (by
        rw [Int32.lt_iff_toInt_lt] at q ⊢
        have a : (0 : Int32).toInt = 0 := rfl
        have b : (1 : Int32).toInt = 1 := rfl
        omega)
      obtain ⟨k', hk', rfl⟩ := nI_of k0
      obtain ⟨l', hl', rfl⟩ := nI_of h1.2
      have a1 : ¬ k' < 1 := fun q => h1.1 (nI_lt (b := 1) q (by decide))
      have a2 : ¬ 3 < k' := fun q => h2.1 (nI_lt (a := 3) q hk')
      refine ⟨k', l', rfl, rfl, by omega, by omega, ?_⟩
      apply Classical.byContradiction
      intro hc
      apply h2.2
      have e : (2 : Int32) * nI k' - 1 = nI (2 * k' - 1) := by
        have e1 : (2 : Int32) * nI k' = nI (2 * k') := pk_mul 2 k'
        rw [e1]; exact pk_sub (b := 1) (by omega)
      rw [e]
      exact nI_lt (by omega) hl'
