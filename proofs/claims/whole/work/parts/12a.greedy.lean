/-! bars put on one by one -/
noncomputable def zst1 (a b : Nat → Nat) (m k l : Nat) (K : Nat → Bool) (x : Nat) : Nat → Bool := @ite _ (zfb a b m k l K (a x) (b x)) (Classical.propDecidable _) (fun y => if y = x then true else K y) K
theorem zst1_t {a b : Nat → Nat} {m k l : Nat} {K : Nat → Bool} {x : Nat} (h : zfb a b m k l K (a x) (b x)) : zst1 a b m k l K x = fun y => if y = x then true else K y := by unfold zst1; rw [if_pos h]
theorem zst1_f {a b : Nat → Nat} {m k l : Nat} {K : Nat → Bool} {x : Nat} (h : ¬ zfb a b m k l K (a x) (b x)) : zst1 a b m k l K x = K := by unfold zst1; rw [if_neg h]
theorem zst1_ge {a b : Nat → Nat} {m k l : Nat} {K : Nat → Bool} {x y : Nat} (h : K y = true) : zst1 a b m k l K x y = true := by
  by_cases hf : zfb a b m k l K (a x) (b x)
  · rw [zst1_t hf]; simp [h]
  · rw [zst1_f hf]; exact h
theorem zst1_in {a b : Nat → Nat} {m k l : Nat} {K : Nat → Bool} {x y : Nat} (h : zst1 a b m k l K x y = true) : K y = true ∨ y = x := by
  by_cases hf : zfb a b m k l K (a x) (b x)
  · rw [zst1_t hf] at h
    by_cases e : y = x
    · exact Or.inr e
    · simp only [e, if_false] at h; exact Or.inl h
  · rw [zst1_f hf] at h; exact Or.inl h
noncomputable def zkp (a b : Nat → Nat) (m k l : Nat) (L : List Nat) : Nat → Bool := L.foldl (zst1 a b m k l) (fun _ => false)
theorem zkp_snoc (a b : Nat → Nat) (m k l : Nat) (L : List Nat) (x : Nat) : zkp a b m k l (L ++ [x]) = zst1 a b m k l (zkp a b m k l L) x := by
  unfold zkp; rw [List.foldl_append]; rfl
theorem zsnoc_ind {P : List Nat → Prop} (h0 : P []) (hs : ∀ L x, P L → P (L ++ [x])) : ∀ L, P L := by
  intro L
  have : ∀ n (L : List Nat), L.length = n → P L := by
    intro n
    induction n with
    | zero => intro L hL; rw [List.length_eq_zero_iff.mp hL]; exact h0
    | succ n ih =>
      intro L hL
      have hne : L ≠ [] := fun e => by rw [e] at hL; cases hL
      have e := List.dropLast_concat_getLast hne
      rw [← e]
      exact hs _ _ (ih _ (by rw [List.length_dropLast, hL]; rfl))
  exact this L.length L rfl
theorem zkp_in {a b : Nat → Nat} {m k l : Nat} : ∀ (L : List Nat) (x : Nat), zkp a b m k l L x = true → x ∈ L := by
  refine zsnoc_ind (fun x h => by cases h) (fun L x ih y h => ?_)
  rw [zkp_snoc] at h
  rcases zst1_in h with h | h
  · exact List.mem_append_left _ (ih y h)
  · rw [h]; exact List.mem_append_right _ List.mem_cons_self
theorem zkp_pre {a b : Nat → Nat} {m k l : Nat} (L : List Nat) : ∀ (L2 : List Nat) (x : Nat), zkp a b m k l L x = true → zkp a b m k l (L ++ L2) x = true := by
  refine zsnoc_ind (fun x h => by rw [List.append_nil]; exact h) (fun L2 y ih x h => ?_)
  rw [← List.append_assoc, zkp_snoc]
  exact zst1_ge (ih x h)
theorem zkp_sp {a b : Nat → Nat} {m k l : Nat} (hl : l ≤ 2 * k) : ∀ (L : List Nat), L.Nodup → (∀ x, x ∈ L → x < m) → zsp a b m k l (zkp a b m k l L) := by
  refine zsnoc_ind (fun _ _ => zsp_none hl (fun _ _ => rfl)) (fun L x ih hn hm => ?_)
  rw [List.nodup_append] at hn
  have hx : x ∉ L := fun h => hn.2.2 x h x List.mem_cons_self rfl
  have h1 := ih hn.1 (fun y hy => hm y (List.mem_append_left _ hy))
  rw [zkp_snoc]
  by_cases hf : zfb a b m k l (zkp a b m k l L) (a x) (b x)
  · rw [zst1_t hf]
    refine zsp_add (hm x (List.mem_append_right _ List.mem_cons_self)) ?_ h1 hf
    cases hq : zkp a b m k l L x
    · rfl
    · exact absurd (zkp_in L x hq) hx
  · rw [zst1_f hf]; exact h1
/-- one that is left isn't free over those kept then, nor later -/
theorem zkp_max {a b : Nat → Nat} {m k l : Nat} : ∀ (L : List Nat) (x : Nat), x ∈ L → zkp a b m k l L x = false → ¬ zfb a b m k l (zkp a b m k l L) (a x) (b x) := by
  refine zsnoc_ind (fun x h => absurd h List.not_mem_nil) (fun L y ih x hx hK hf => ?_)
  rw [zkp_snoc] at hK hf
  have hold : zkp a b m k l L x = false := by
    cases hq : zkp a b m k l L x
    · rfl
    · rw [zst1_ge hq] at hK; cases hK
  have hf' : zfb a b m k l (zkp a b m k l L) (a x) (b x) := zfb_sub hf (fun _ _ h => zst1_ge h)
  rcases List.mem_append.mp hx with h | h
  · exact ih x h hold hf'
  · have e : x = y := by simpa using h
    subst e
    rw [zst1_t hf'] at hK
    simp at hK
/-! the order of the bars -/
def zpos (c : Nat → Nat) (cx : Nat) (L : List Nat) : Nat → Nat
  | 0 => 0
  | i + 1 => if cx < c (L.getD i 0) then zpos c cx L i else i + 1
theorem zpos_le (c : Nat → Nat) (cx : Nat) (L : List Nat) : ∀ i, zpos c cx L i ≤ i
  | 0 => Nat.le_refl _
  | i + 1 => by
    unfold zpos
    split
    · exact Nat.le_succ_of_le (zpos_le c cx L i)
    · exact Nat.le_refl _
def zpp (bc : Bool) (c : Nat → Nat) (L : List Nat) (x : Nat) : Nat := if bc = true then zpos c (c x) L L.length else L.length
theorem zpp_le (bc : Bool) (c : Nat → Nat) (L : List Nat) (x : Nat) : zpp bc c L x ≤ L.length := by
  unfold zpp; split
  · exact zpos_le _ _ _ _
  · exact Nat.le_refl _
def zins (L : List Nat) (p x : Nat) : List Nat := L.take p ++ x :: L.drop p
theorem zins_perm (L : List Nat) (p x : Nat) : (zins L p x).Perm (x :: L) := by
  unfold zins
  refine List.perm_middle.trans ?_
  rw [List.take_append_drop]
theorem zins_len (L : List Nat) (p x : Nat) : (zins L p x).length = L.length + 1 := by
  have := (zins_perm L p x).length_eq
  simpa using this
theorem zins_get {L : List Nat} {p x : Nat} (hp : p ≤ L.length) (i : Nat) : (zins L p x).getD i 0 = if i < p then L.getD i 0 else if i = p then x else L.getD (i - 1) 0 := by
  unfold zins
  have hlen : (L.take p).length = p := by simp [hp]
  rw [List.getD_eq_getElem?_getD, List.getD_eq_getElem?_getD, List.getD_eq_getElem?_getD]
  by_cases h1 : i < p
  · rw [List.getElem?_append_left (by omega), List.getElem?_take_of_lt h1, if_pos h1]
  · rw [List.getElem?_append_right (by omega), hlen, if_neg h1]
    by_cases h2 : i = p
    · subst h2; simp
    · rw [if_neg h2]
      obtain ⟨q, hq⟩ : ∃ q, i - p = q + 1 := ⟨i - p - 1, by omega⟩
      rw [hq, List.getElem?_cons_succ, List.getElem?_drop]
      congr 2
      omega
def zord (bc : Bool) (c : Nat → Nat) (t : Nat → Bool) : Nat → List Nat
  | 0 => []
  | m + 1 => if t m = true then zins (zord bc c t m) (zpp bc c (zord bc c t m) m) m else zord bc c t m
theorem zord_mem (bc : Bool) (c : Nat → Nat) (t : Nat → Bool) : ∀ (m x : Nat), x ∈ zord bc c t m ↔ x < m ∧ t x = true
  | 0, x => ⟨fun h => absurd h List.not_mem_nil, fun h => absurd h.1 (Nat.not_lt_zero x)⟩
  | m + 1, x => by
    have ih := zord_mem bc c t m x
    unfold zord
    split
    · rename_i h
      rw [(zins_perm _ _ _).mem_iff, List.mem_cons, ih]
      constructor
      · rintro (e | ⟨h1, h2⟩)
        · subst e; exact ⟨Nat.lt_succ_self _, h⟩
        · exact ⟨by omega, h2⟩
      · rintro ⟨h1, h2⟩
        by_cases e : x = m
        · exact Or.inl e
        · exact Or.inr ⟨by omega, h2⟩
    · rename_i h
      rw [ih]
      constructor
      · rintro ⟨h1, h2⟩; exact ⟨by omega, h2⟩
      · rintro ⟨h1, h2⟩
        refine ⟨?_, h2⟩
        by_cases e : x = m
        · subst e; exact absurd h2 h
        · omega
theorem zord_nodup (bc : Bool) (c : Nat → Nat) (t : Nat → Bool) : ∀ (m : Nat), (zord bc c t m).Nodup
  | 0 => List.nodup_nil
  | m + 1 => by
    have ih := zord_nodup bc c t m
    unfold zord
    split
    · rw [(zins_perm _ _ _).nodup_iff, List.nodup_cons]
      refine ⟨fun h => ?_, ih⟩
      have := ((zord_mem bc c t m m).mp h).1
      omega
    · exact ih
theorem zord_len (bc : Bool) (c : Nat → Nat) (t : Nat → Bool) : ∀ (m : Nat), (zord bc c t m).length = fb_ct t m
  | 0 => rfl
  | m + 1 => by
    have ih := zord_len bc c t m
    unfold zord
    rw [fb_ct_succ]
    split
    · rw [zins_len, ih]
    · rw [ih]; rfl
theorem zord_app (c : Nat → Nat) (t : Nat → Bool) (m : Nat) (h : t m = true) : zord false c t (m + 1) = zord false c t m ++ [m] := by
  have e : zord false c t (m + 1) = zins (zord false c t m) (zord false c t m).length m := by
    show (if t m = true then _ else _) = _
    rw [if_pos h]; rfl
  rw [e]
  unfold zins
  simp
theorem zord_skip (bc : Bool) (c : Nat → Nat) (t : Nat → Bool) (m : Nat) (h : t m = false) : zord bc c t (m + 1) = zord bc c t m := by
  show (if t m = true then _ else _) = _
  rw [if_neg (by rw [h]; decide)]
/-- a left bar's ring: the least tight set over what was kept then -/
def zring (a b : Nat → Nat) (m : Nat) (K : Nat → Bool) (x : Nat) (r : Int32) : Prop := ∃ Kt : Nat → Bool, (∀ y, y < m → Kt y = true → K y = true) ∧ bt r (a x) = true ∧ bt r (b x) = true ∧ zti a b m Kt (bt r) ∧ ∀ V : Nat → Bool, V (a x) = true → V (b x) = true → zti a b m Kt V → ∀ u, u < 24 → bt r u = true → V u = true
theorem zring_mono {a b : Nat → Nat} {m : Nat} {K K' : Nat → Bool} {x : Nat} {r : Int32} (h : zring a b m K x r) (hs : ∀ y, y < m → K y = true → K' y = true) : zring a b m K' x r := by
  obtain ⟨Kt, h1, h2⟩ := h
  exact ⟨Kt, fun y hy h => hs y hy (h1 y hy h), h2⟩
theorem zring_of {a b : Nat → Nat} {m j x : Nat} {K : Nat → Bool} {σ : zST} {r : Int32} (hsp : zsp a b m 2 3 K) (hB : zbd j 2 3 (zib a b m K) σ) (ha : a x < 24) (hb : b x < 24) (hab : a x ≠ b x) (hst : zstk 2 3 (σ (j + 1)) (a x) (b x)) (hr : zrch 2 (σ (j + 1)) (a x) (b x) r) : zring a b m K x r := by
  obtain ⟨R, r1, r2, r3, r4, r5⟩ := hst
  obtain ⟨-, -, -, -, hva, hF⟩ := hB
  obtain ⟨-, c2, c3, c4, c5⟩ := hr
  have hno : ∀ y, y < 24 → bt r y = true → y ≠ a x → y ≠ b x → zlos (σ (j + 1)) 2 y = 0 := fun y hy h h1 h2 => r4 y hy (c5 R r3 r1 r2 y hy h) h1 h2
  have ht := zlost (by decide) hF ha hb hab c4 c2 c3 hno r5
  have hti : zti a b m K (bt r) := ht
  refine ⟨K, fun _ _ h => h, c2, c3, hti, fun V v1 v2 v3 u hu hub => ?_⟩
  have hs := hsp (bt r) (zcd_two ha hb hab c2 c3)
  have e := zsum3 (by decide : 2 ≤ 3) (σ (j + 1)) (bt r)
  have e2 := (fb_sm_two (h := fun v => if bt r v = true then zlos (σ (j + 1)) 2 v else 0) ha hb hab).2 (fun v hv h3 h4 => by
    split
    · rename_i hR; exact hno v hv hR h3 h4
    · rfl)
  simp only [c2, c3, if_true] at e2
  rw [zcl_out c4 72 (Nat.le_refl _), hF] at e
  exact c5 V (ztcl (by decide) hva hF ha hb hab (l := 3) (by omega) v1 v2 v3) v1 v2 u hu hub
