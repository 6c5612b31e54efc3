/-! turnBack -/
/-- the joints found, by their places in the queue; each by a pebble of an earlier one -/
def zbf (k : Nat) (f cb : Nat → Int32) (q : Nat → Nat) (n : Nat) : Prop := ∀ i, 1 ≤ i → i < n → ∃ p i', cb (q i) = nI p ∧ p < 72 ∧ p % 3 < k ∧ f p = nI (q i) ∧ i' < i ∧ p / 3 = q i'
def zqi (q : Nat → Nat) (n : Nat) : Prop := (∀ i, i < n → q i < 24) ∧ ∀ i j, i < n → j < n → q i = q j → i = j
def zturned (k : Nat) (f f' : Nat → Int32) (a w : Nat) : Prop := zva k f' ∧ (∀ V, ziL k f' V = ziL k f V) ∧ ∀ v, zlos f' k v + (if v = w then 1 else 0) = zlos f k v + (if v = a then 1 else 0)
theorem zupd_upd (f : Nat → Int32) (p : Nat) (x y : Int32) : upd (upd f p x) p y = upd f p y := by
  funext q; unfold upd; split <;> rfl
theorem zstepback {k : Nat} (hk : k ≤ 3) {g : Nat → Int32} {q : Nat → Nat} {n i i' fr p : Nat} (hq : zqi q (n + 1)) (hi : i < n + 1) (hi' : i' < i) (hf1 : fr < 72) (hf2 : fr % 3 < k) (hf3 : fr / 3 = q i) (hp1 : p < 72) (hp2 : p % 3 < k) (hp3 : p / 3 = q i') (hgp : g p = nI (q i)) :
    (∀ V, ziL k (upd (upd g fr (nI (q i'))) p (-1)) V = ziL k (upd g fr (-1)) V) ∧ ∀ v, zlos (upd (upd g fr (nI (q i'))) p (-1)) k v + (if v = q i then 1 else 0) = zlos (upd g fr (-1)) k v + (if v = q i' then 1 else 0) := by
  have hne : q i' ≠ q i := fun e => by have := hq.2 i' i (by omega) hi e; omega
  have hpf : p ≠ fr := fun e => hne (by rw [← hp3, ← hf3, e])
  have b1 := hq.1 i hi
  have b2 := hq.1 i' (by omega)
  have e0 : upd g fr (nI (q i')) = upd (upd g fr (-1)) fr (nI (q i')) := (zupd_upd _ _ _ _).symm
  rw [e0]
  generalize hg1 : upd g fr (-1) = g1
  have c1 : g1 fr = -1 := by rw [← hg1]; exact pk_us
  have c2 : upd g1 fr (nI (q i')) p = nI (q i) := by rw [pk_un hpf, ← hg1, pk_un hpf, hgp]
  constructor
  · intro V
    have s1 := ziL_upd (k := k) (f := g1) (x := nI (q i')) V hf1 hf2
    have s2 := ziL_upd (k := k) (f := upd g1 fr (nI (q i'))) (x := -1) V hp1 hp2
    rw [c1] at s1
    rw [c2] at s2
    have d1 : zpin V fr (-1) = false := by simp [zpin]
    have d2 : zpin V p (-1) = false := by simp [zpin]
    have d3 : zpin V fr (nI (q i')) = (V (q i) && V (q i')) := by
      unfold zpin
      rw [hf3, nI_clamp (by omega)]
      simp [zm1 (by omega : q i' < 2 ^ 31)]
    have d4 : zpin V p (nI (q i)) = (V (q i') && V (q i)) := by
      unfold zpin
      rw [hp3, nI_clamp (by omega)]
      simp [zm1 (by omega : q i < 2 ^ 31)]
    rw [d1, d3] at s1
    rw [d2, d4] at s2
    simp only [Bool.false_eq_true, if_false] at s1 s2
    rw [Bool.and_comm] at s1
    omega
  · intro v
    have s1 := zlos_upd (f := g1) (x := nI (q i')) v hf2 hk
    have s2 := zlos_upd (f := upd g1 fr (nI (q i'))) (x := -1) v hp2 hk
    rw [c1] at s1
    rw [c2] at s2
    rw [hf3] at s1
    rw [hp3] at s2
    simp only [zm1 (by omega : q i' < 2 ^ 31), zm1 (by omega : q i < 2 ^ 31), and_false, and_true, if_false] at s1 s2
    omega
theorem sp_turnBack {E : zEN} {d j k n p0 : Nat} {q : Nat → Nat} {σ : zST} (hk : k ≤ 3) (hva : zva k (σ (j + 1))) (hn : n < 24) (hq : zqi q (n + 1)) (hb : zbf k (σ (j + 1)) (σ (j + 2)) q (n + 1)) (h1 : p0 < 72) (h2 : p0 % 3 < k) (h3 : p0 / 3 = q n) (h4 : σ (j + 1) p0 = -1) : zSp E (d + 1) zM_X4_turnBack [.inr (4, j), .inl (nI (q 0)), .inl (nI (q n)), .inl (nI p0)] σ (fun _ σ' => zagr [j + 1] σ σ' ∧ zturned k (σ (j + 1)) (σ' (j + 1)) (q 0) (q n)) := by
  refine zSp.of rfl (Nat.le_of_ble_eq_true rfl) ?_
  have loop : ∀ r i c fr (x4 x5 x6 : Int32) (x7 : Option zAV) (σ' : zST), i ≤ r → c + i ≤ n → x4 = nI (q i) → x5 = nI fr → x6 = nI c → fr < 72 → fr % 3 < k → fr / 3 = q i → zagr [j + 1] σ σ' → zva k (σ' (j + 1)) → (∀ p i', i' < i → p / 3 = q i' → σ' (j + 1) p = σ (j + 1) p) → (∀ V, ziL k (upd (σ' (j + 1)) fr (-1)) V = ziL k (σ (j + 1)) V) → (∀ v, zlos (upd (σ' (j + 1)) fr (-1)) k v + (if v = q n then 1 else 0) = zlos (σ (j + 1)) k v + (if v = q i then 1 else 0)) →
      zWp E (d + 1) zM_X4_turnBack (fun _ σ' => zagr [j + 1] σ σ' ∧ zturned k (σ (j + 1)) (σ' (j + 1)) (q 0) (q n)) 9 [some (.inr (4, j)), some (.inl (nI (q 0))), some (.inl (nI (q n))), some (.inl (nI p0)), some (.inl x4), some (.inl x5), some (.inl x6), x7] [] σ' := by
    intro r
    induction r with
    | zero =>
      intro i c fr x4 x5 x6 x7 σ' hir hci hx4 hx5 hx6 f1 f2 f3 hag hv' hfree hiL hlo
      have hi0 : i = 0 := by omega
      subst hi0
      refine zg_X4_turnBack_9 fun G C hG hC => ?_
      conv => whnf
      refine pk_le 24 c (fun h => by omega) (fun h => ?_) rfl hx6
      conv => whnf
      refine br_t hx4 ?_
      conv => whnf
      refine ⟨pk_in fr 72 f1 hx5, ?_⟩
      conv => whnf
      dsimp only
      rw [pk_cl fr hx5, zup_self]
      exact ⟨hag.up (by simp), zva_upd hv' (Or.inl rfl), hiL, hlo⟩
    | succ r ih =>
      intro i c fr x4 x5 x6 x7 σ' hir hci hx4 hx5 hx6 f1 f2 f3 hag hv' hfree hiL hlo
      refine zg_X4_turnBack_9 fun G C hG hC => ?_
      conv => whnf
      refine pk_le 24 c (fun h => by omega) (fun h => ?_) rfl hx6
      conv => whnf
      have b0 := hq.1 0 (by omega)
      have bi := hq.1 i (by omega)
      refine pk_eq (q i) (q 0) (fun h => ?_) (fun h => ?_) hx4 rfl
      · have hi0 : i = 0 := hq.2 i 0 (by omega) (by omega) h
        subst hi0
        conv => whnf
        refine ⟨pk_in fr 72 f1 hx5, ?_⟩
        conv => whnf
        dsimp only
        rw [pk_cl fr hx5, zup_self]
        exact ⟨hag.up (by simp), zva_upd hv' (Or.inl rfl), hiL, hlo⟩
      · have hi1 : 1 ≤ i := by
          rcases Nat.eq_zero_or_pos i with e | e
          · subst e; exact absurd rfl h
          · exact e
        obtain ⟨p, i', c1, c2, c3, c4, c5, c6⟩ := hb i hi1 (by omega)
        have hcb : σ' (j + 2) (x4.toNatClampNeg) = nI p := by
          rw [hag (j + 2) (by simp), pk_cl (q i) hx4, c1]
        have bi' := hq.1 i' (by omega)
        have hdiv : nI p / 3 = nI (q i') := by rw [← c6]; exact pk_div (by omega) (by decide) (by decide)
        conv => whnf
        refine ⟨pk_in (q i) 24 bi hx4, ?_⟩
        conv => whnf
        refine ⟨by decide, ?_⟩
        conv => whnf
        refine ⟨pk_in fr 72 f1 hx5, ?_⟩
        conv => whnf
        dsimp only
        rw [pk_cl fr hx5, hcb, hdiv]
        have hgp : σ' (j + 1) p = nI (q i) := by rw [hfree p i' c5 c6, c4]
        obtain ⟨s1, s2⟩ := zstepback hk hq (by omega) c5 f1 f2 f3 c2 c3 c6 hgp
        refine hG _ _ _ _ (ih i' (c + 1) p _ _ _ _ _ (by omega) (by omega) rfl rfl (by rw [hx6, nI_1]) c2 c3 c6 (hag.up (by simp)) ?_ ?_ ?_ ?_)
        · rw [zup_self]; exact zva_upd hv' (Or.inr ⟨q i', bi', rfl⟩)
        · intro p' i'' hi'' hp'
          rw [zup_self, pk_un, hfree p' i'' (by omega) hp']
          intro e
          have := hq.2 i'' i (by omega) (by omega) (by rw [← hp', e, f3])
          omega
        · intro V
          rw [zup_self, s1, hiL]
        · intro v
          rw [zup_self]
          have := s2 v
          have := hlo v
          omega
  refine zg_X4_turnBack_0 fun G C hG hC => ?_
  conv => whnf
  have e0 : upd (σ (j + 1)) p0 (-1) = σ (j + 1) := by
    funext x; unfold upd; split
    · rename_i e; rw [e, h4]
    · rfl
  exact hG _ _ _ _ (loop n n 0 p0 _ _ _ _ _ (Nat.le_refl _) (by omega) rfl rfl rfl h1 h2 h3 zagr.rf hva (fun _ _ _ _ => rfl) (fun V => by rw [e0]) (fun v => by rw [e0]))
