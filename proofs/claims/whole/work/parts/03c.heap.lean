/-! fields, arrays, returns, calls -/
section zHeap
variable {E : zEN} {d : Nat} {M : zMD} {P : zPT} {pc : Nat} {k : zKT}
def zo_getf (c f : Nat) (k : zKT) : zKT := fun L S σ => match S with
  | .inr r :: S' => (match Nat.beq r.1 c with
    | true => (match zfR c f r.2 with
      | some q => k L (.inr q :: S') σ
      | none => k L (.inl (σ r.2 f) :: S') σ)
    | false => False)
  | _ => False
theorem zaK_obj {c : Nat} (h : c < 9) : zaK c = none := by
  have : ∀ c, c < 9 → zaK c = none := by decide
  exact this c h
theorem znF_le (c : Nat) : znF c ≤ 29 := by
  unfold znF
  split <;> decide
theorem zq_getf {ci f index : Nat} {C ref : String} {T : u_T} {N : Nat} (hd : decode M.2.1 pc = .ok (.getfield index, 3)) (hc : vwCl[ci]? = some (C, T, N)) (hN : N = znF ci) (hci : ci < 9) (hin : ∀ w ∈ u_ws C T N, w ∈ zU) (hf : f < N) (hlink : Cond.fieldLink M.1.cls index ref (T f).2.1 (T f).2.2.1 ∈ zU) (href : ref = (T f).1) (hk : ∀ L S σ, k L S σ → zWp E d M P (pc + 3) L S σ) : ∀ L S σ, zo_getf ci f k L S σ → zWp E d M P pc L S σ := by
  intro L S σ h p e s m args below meth c ls H locs hF hl hs hvl hW hS
  unfold zo_getf at h
  split at h
  · rename_i r S'
    split at h
    · rename_i hb
      have hr1 : r.1 = ci := Nat.eq_of_beq_eq_true hb
      have hv : zok r := hs.head
      obtain ⟨hr2, hkd⟩ := hv
      rw [hr1] at hkd
      have he : (zWL E σ)[r.2]? = some (E.2.1 r.2, .inr (ci, zfs E.2.1 σ ci r.2)) := by
        rw [zWL_get E σ hr2, zce_obj hkd (zaK_obj hci)]
      have hg := zfs_get (ad := E.2.1) (σ := σ) (j := r.2) (c := ci) (k := f) (hN ▸ hf)
      subst href
      refine va_get (D := zDD E) (ci := ci) (C := C) (T := T) (N := N) hF.1 hF.2.1 hF.2.2.2.2.2.2.1 hin hF.2.2.2.2.2.1 hF.2.2.2.2.2.2.2.1 hW.1 r.2 he hc f hf (hF.2.2.2.2.2.2.1 _ hlink) (fun _ h9 => h9) hg hd ?_
      split at h
      · rename_i q hq
        rw [hq]
        exact hk _ _ _ h p e s m args below meth c ls H locs hF hl (hs.tail.cons (zclosed r.2 hr2 f (Nat.lt_of_lt_of_le (hN ▸ hf) (znF_le ci)) q (by rw [hkd]; exact hq))) hvl hW hS
      · rename_i hq
        rw [hq]
        exact hk _ _ _ h p e s m args below meth c ls H locs hF hl (hs.tail.cons trivial) hvl hW hS
    · exact h.elim
  · exact h.elim
def zo_putf (c f : Nat) (k : zKT) : zKT := fun L S σ => match S with
  | .inl x :: .inr r :: S' => (match Nat.beq r.1 c with
    | true => k L S' (zup σ r.2 f x)
    | false => False)
  | _ => False
theorem zq_putf {ci f index : Nat} {C ref : String} {T : u_T} {N : Nat} {ty0 : Nat → FieldType} (hd : decode M.2.1 pc = .ok (.putfield index, 3)) (hc : vwCl[ci]? = some (C, T, N)) (hN : N = znF ci) (hci : ci < 9) (hin : ∀ w ∈ u_ws C T N, w ∈ zU) (hty : ∀ k, k < N → parseFieldDescriptor (T k).2.2.1 = some (ty0 k)) (hnm : ∀ a, a < N → ∀ b, b < N → a ≠ b → (T a).2.1 ≠ (T b).2.1) (hf : f < N) (hlink : Cond.fieldLink M.1.cls index ref (T f).2.1 (T f).2.2.1 ∈ zU) (href : ref = (T f).1) (hfin : (T f).2.2.2 = false) (hI : ty0 f = .int) (hR : ∀ j, zfR ci f j = none) (hk : ∀ L S σ, k L S σ → zWp E d M P (pc + 3) L S σ) : ∀ L S σ, zo_putf ci f k L S σ → zWp E d M P pc L S σ := by
  intro L S σ h p e s m args below meth c ls H locs hF hl hs hvl hW hS
  unfold zo_putf at h
  split at h
  · rename_i x r S'
    split at h
    · rename_i hb
      have hr1 : r.1 = ci := Nat.eq_of_beq_eq_true hb
      have hv : zok r := hs.tail.head
      obtain ⟨hr2, hkd⟩ := hv
      rw [hr1] at hkd
      have he : (zWL E σ)[r.2]? = some (E.2.1 r.2, .inr (ci, zfs E.2.1 σ ci r.2)) := by
        rw [zWL_get E σ hr2, zce_obj hkd (zaK_obj hci)]
      subst href
      have hdd : parseFieldDescriptor (T f).2.2.1 = some .int := by rw [hty f hf, hI]
      refine va_put (D := zDD E) (ci := ci) (C := C) (T := T) (N := N) (v := .int x) (ty := .int) hF.1 hF.2.1 hF.2.2.2.2.2.2.1 hin ty0 hty hnm hF.2.2.2.2.2.1 hF.2.2.2.2.2.2.2.1 hW.1 hW.2 hS r.2 he hc f hf (hF.2.2.2.2.2.2.1 _ hlink) (fun _ h9 => h9) hfin hdd rfl rfl (by simp [zfs]; exact hN ▸ hf) hd (fun H1 locs1 hP1 hD1 hS1 => ?_)
      have hset : (zWL E σ).set r.2 (E.2.1 r.2, .inr (ci, (zfs E.2.1 σ ci r.2).set f (.int x))) = zWL E (zup σ r.2 f x) := zWL_set hr2 (by rw [zce_obj hkd (zaK_obj hci), zfs_up (hR r.2)])
      rw [hset] at hP1 hD1
      exact hk _ _ _ h p e s m args below meth c ls H1 locs1 hF hl hs.tail.tail hvl ⟨hP1, hD1⟩ hS1
    · exact h.elim
  · exact h.elim
def zo_iald (k : zKT) : zKT := fun L S σ => match S with
  | .inl i :: .inr r :: S' => (match zaK r.1 with
    | some (false, n) => vp_in i n ∧ k L (.inl (σ r.2 i.toNatClampNeg) :: S') σ
    | _ => False)
  | _ => False
def zo_bald (k : zKT) : zKT := fun L S σ => match S with
  | .inl i :: .inr r :: S' => (match zaK r.1 with
    | some (true, n) => vp_in i n ∧ k L (.inl (σ r.2 i.toNatClampNeg) :: S') σ
    | _ => False)
  | _ => False
theorem zq_iald (hd : decode M.2.1 pc = .ok (.iaload, 1)) (hk : ∀ L S σ, k L S σ → zWp E d M P (pc + 1) L S σ) : ∀ L S σ, zo_iald k L S σ → zWp E d M P pc L S σ := by
  intro L S σ h p e s m args below meth c ls H locs hF hl hs hvl hW hS
  unfold zo_iald at h
  split at h
  · rename_i i r S'
    split at h
    · rename_i n hn
      obtain ⟨hr2, hkd⟩ : zok r := hs.tail.head
      have he : (zWL E σ)[r.2]? = some (E.2.1 r.2, .inl (E.2.2.2.2.1, n, .inl (σ r.2))) := by
        rw [zWL_get E σ hr2, zce_arr hkd hn]; rfl
      exact va_iald hF.1 hF.2.1 hF.2.2.2.2.2.2.2.1 hW.1 r.2 0 he rfl h.1 hd (hk _ _ _ h.2 p e s m args below meth c ls H locs hF hl (hs.tail.tail.cons trivial) hvl hW hS)
    · exact h.elim
  · exact h.elim
theorem zq_bald (hd : decode M.2.1 pc = .ok (.baload, 1)) (hk : ∀ L S σ, k L S σ → zWp E d M P (pc + 1) L S σ) : ∀ L S σ, zo_bald k L S σ → zWp E d M P pc L S σ := by
  intro L S σ h p e s m args below meth c ls H locs hF hl hs hvl hW hS
  unfold zo_bald at h
  split at h
  · rename_i i r S'
    split at h
    · rename_i n hn
      obtain ⟨hr2, hkd⟩ : zok r := hs.tail.head
      have he : (zWL E σ)[r.2]? = some (E.2.1 r.2, .inl (E.2.2.2.2.2, n, .inl (σ r.2))) := by
        rw [zWL_get E σ hr2, zce_arr hkd hn]; rfl
      exact va_zald hF.1 hF.2.1 hF.2.2.2.2.2.2.2.1 hW.1 r.2 1 he rfl h.1 hd (hk _ _ _ h.2 p e s m args below meth c ls H locs hF hl (hs.tail.tail.cons trivial) hvl hW hS)
    · exact h.elim
  · exact h.elim
def zo_iast (k : zKT) : zKT := fun L S σ => match S with
  | .inl x :: .inl i :: .inr r :: S' => (match zaK r.1 with
    | some (false, n) => vp_in i n ∧ k L S' (zup σ r.2 i.toNatClampNeg x)
    | _ => False)
  | _ => False
def zo_bast (k : zKT) : zKT := fun L S σ => match S with
  | .inl x :: .inl i :: .inr r :: S' => (match zaK r.1 with
    | some (true, n) => vp_in i n ∧ (x = 0 ∨ x = 1) ∧ k L S' (zup σ r.2 i.toNatClampNeg x)
    | _ => False)
  | _ => False
theorem zup_self {σ : zST} {j k : Nat} {x : Int32} : zup σ j k x j = upd (σ j) k x := by simp [zup]
theorem zup_ne {σ : zST} {a j k : Nat} {x : Int32} (h : a ≠ j) : zup σ j k x a = σ a := by simp [zup, h]
theorem zq_iast (hd : decode M.2.1 pc = .ok (.iastore, 1)) (hk : ∀ L S σ, k L S σ → zWp E d M P (pc + 1) L S σ) : ∀ L S σ, zo_iast k L S σ → zWp E d M P pc L S σ := by
  intro L S σ h p e s m args below meth c ls H locs hF hl hs hvl hW hS
  unfold zo_iast at h
  split at h
  · rename_i x i r S'
    split at h
    · rename_i n hn
      obtain ⟨hr2, hkd⟩ : zok r := hs.tail.tail.head
      have he : (zWL E σ)[r.2]? = some (E.2.1 r.2, .inl (E.2.2.2.2.1, n, .inl (σ r.2))) := by
        rw [zWL_get E σ hr2, zce_arr hkd hn]; rfl
      refine va_iast hF.1 hF.2.1 hF.2.2.2.2.2.2.2.1 hW.1 hW.2 hS r.2 0 he rfl h.1 hd (fun H1 locs1 hP1 hD1 hS1 => ?_)
      have hset : (zWL E σ).set r.2 (E.2.1 r.2, .inl (E.2.2.2.2.1, n, .inl (upd (σ r.2) i.toNatClampNeg x))) = zWL E (zup σ r.2 i.toNatClampNeg x) := zWL_set hr2 (by rw [zce_arr hkd hn, zup_self]; rfl)
      rw [hset] at hP1 hD1
      exact hk _ _ _ h.2 p e s m args below meth c ls H1 locs1 hF hl hs.tail.tail.tail hvl ⟨hP1, hD1⟩ hS1
    · exact h.elim
  · exact h.elim
theorem zq_bast (hd : decode M.2.1 pc = .ok (.bastore, 1)) (hk : ∀ L S σ, k L S σ → zWp E d M P (pc + 1) L S σ) : ∀ L S σ, zo_bast k L S σ → zWp E d M P pc L S σ := by
  intro L S σ h p e s m args below meth c ls H locs hF hl hs hvl hW hS
  unfold zo_bast at h
  split at h
  · rename_i x i r S'
    split at h
    · rename_i n hn
      obtain ⟨hr2, hkd⟩ : zok r := hs.tail.tail.head
      have he : (zWL E σ)[r.2]? = some (E.2.1 r.2, .inl (E.2.2.2.2.2, n, .inl (σ r.2))) := by
        rw [zWL_get E σ hr2, zce_arr hkd hn]; rfl
      have hx : vp_nar .boolean x = x := by
        rcases h.2.1 with rfl | rfl <;> rfl
      refine va_zast hF.1 hF.2.1 hF.2.2.2.2.2.2.2.1 hW.1 hW.2 hS r.2 1 he rfl h.1 hd (fun H1 locs1 hP1 hD1 hS1 => ?_)
      rw [hx] at hP1 hD1
      have hset : (zWL E σ).set r.2 (E.2.1 r.2, .inl (E.2.2.2.2.2, n, .inl (upd (σ r.2) i.toNatClampNeg x))) = zWL E (zup σ r.2 i.toNatClampNeg x) := zWL_set hr2 (by rw [zce_arr hkd hn, zup_self]; rfl)
      rw [hset] at hP1 hD1
      exact hk _ _ _ h.2.2 p e s m args below meth c ls H1 locs1 hF hl hs.tail.tail.tail hvl ⟨hP1, hD1⟩ hS1
    · exact h.elim
  · exact h.elim
def zo_alen (k : zKT) : zKT := fun L S σ => match S with
  | .inr r :: S' => (match zaK r.1 with
    | some q => k L (.inl (Int32.ofNat q.2) :: S') σ
    | none => False)
  | _ => False
theorem zq_alen (hd : decode M.2.1 pc = .ok (.arraylength, 1)) (hk : ∀ L S σ, k L S σ → zWp E d M P (pc + 1) L S σ) : ∀ L S σ, zo_alen k L S σ → zWp E d M P pc L S σ := by
  intro L S σ h p e s m args below meth c ls H locs hF hl hs hvl hW hS
  unfold zo_alen at h
  split at h
  · rename_i r S'
    split at h
    · rename_i q hn
      obtain ⟨b, n⟩ := q
      obtain ⟨hr2, hkd⟩ : zok r := hs.head
      have he : (zWL E σ)[r.2]? = some (E.2.1 r.2, .inl (cond b E.2.2.2.2.2 E.2.2.2.2.1, n, .inl (σ r.2))) := by
        rw [zWL_get E σ hr2, zce_arr hkd hn]
      cases b
      · exact va_alen hF.1 hF.2.1 hF.2.2.2.2.2.2.2.1 hW.1 r.2 0 he (ty := .int) rfl rfl hd (hk _ _ _ h p e s m args below meth c ls H locs hF hl (hs.tail.cons trivial) hvl hW hS)
      · exact va_alen hF.1 hF.2.1 hF.2.2.2.2.2.2.2.1 hW.1 r.2 1 he (ty := .boolean) rfl rfl hd (hk _ _ _ h p e s m args below meth c ls H locs hF hl (hs.tail.cons trivial) hvl hW hS)
    · exact h.elim
  · exact h.elim
/-! returns -/
def zo_iret (P : zPT) : zKT := fun _ S σ => match S with
  | [.inl x] => P x σ
  | _ => False
def zo_zret (P : zPT) : zKT := fun _ S σ => match S with
  | [.inl x] => (x = 0 ∨ x = 1) ∧ P x σ
  | _ => False
def zo_ret (P : zPT) : zKT := fun _ S σ => match S with
  | [] => P 0 σ
  | _ => False
theorem zq_iret (hr : M.2.2.2 = some .int) (hd : decode M.2.1 pc = .ok (.ireturn, 1)) : ∀ L S σ, zo_iret P L S σ → zWp E d M P pc L S σ := by
  intro L S σ h p e s m args below meth c ls H locs hF hl hs hvl hW hS
  unfold zo_iret at h
  split at h
  · rename_i x
    exact W.iret (v := x) hF.1 hF.2.1 (hF.2.2.2.1.trans hr) (fun t ht hw => ⟨x, σ, by unfold zrv; rw [hr], h, by rw [ht]; exact hW, hS.F ht⟩) hS.2.2 hd hF.2.2.2.2.1
  · exact h.elim
theorem zq_zret (hr : M.2.2.2 = some .boolean) (hd : decode M.2.1 pc = .ok (.ireturn, 1)) : ∀ L S σ, zo_zret P L S σ → zWp E d M P pc L S σ := by
  intro L S σ h p e s m args below meth c ls H locs hF hl hs hvl hW hS
  unfold zo_zret at h
  split at h
  · rename_i x
    exact W.zret (v := x) (ty := .boolean) hF.1 hF.2.1 (hF.2.2.2.1.trans hr) (by rcases h.1 with rfl | rfl <;> rfl) (fun t ht hw => ⟨x, σ, by unfold zrv; rw [hr], h.2, by rw [ht]; exact hW, hS.F ht⟩) hS.2.2 hd hF.2.2.2.2.1
  · exact h.elim
theorem zq_ret (hr : M.2.2.2 = none) (hd : decode M.2.1 pc = .ok (.return_, 1)) : ∀ L S σ, zo_ret P L S σ → zWp E d M P pc L S σ := by
  intro L S σ h p e s m args below meth c ls H locs hF hl hs hvl hW hS
  unfold zo_ret at h
  split at h
  · exact W.vret hF.1 hF.2.1 (hF.2.2.2.1.trans hr) (fun t ht hw => ⟨0, σ, by unfold zrv; rw [hr], h, by rw [ht]; exact hW, hS.F ht⟩) hS.2.2 hd hF.2.2.2.2.1
  · exact h.elim
end zHeap
