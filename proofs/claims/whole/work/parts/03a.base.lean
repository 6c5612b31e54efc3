/-! the abstract machine: values, locals, stack, store; the world of 72 cells -/
abbrev zAV : Type := Int32 ⊕ (Nat × Nat)
abbrev zLS : Type := List (Option zAV)
abbrev zSS : Type := List zAV
abbrev zST : Type := Nat → Nat → Int32
abbrev zKT : Type := zLS → zSS → zST → Prop
abbrev zMD : Type := MethodName × ByteArray × Nat × Option FieldType
abbrev zPT : Type := Int32 → zST → Prop
abbrev zCT : Type := zMD → List zAV → zST → zPT → Prop
/-- launch, addresses of the cells, class ids, slots, the two array classes -/
abbrev zEN : Type := Launch × (Nat → Nat) × (Nat → ClassId) × (Nat → Nat → Nat) × ClassId × ClassId
def zup (σ : zST) (j k : Nat) (x : Int32) : zST := fun a => if a = j then upd (σ j) k x else σ a
/-- an array's tag: whether of booleans, its length -/
def zaK : Nat → Option (Bool × Nat)
  | 20 => some (false, 80)
  | 21 => some (true, 80)
  | 22 => some (false, 24)
  | 23 => some (false, 72)
  | 24 => some (false, 276)
  | 25 => some (false, 6)
  | 26 => some (false, 7)
  | 27 => some (false, 88)
  | 28 => some (true, 24)
  | 29 => some (false, 576)
  | 30 => some (true, 576)
  | 31 => some (false, 48)
  | _ => none
def znF : Nat → Nat
  | 0 => 5
  | 1 => 6
  | 2 => 9
  | 3 => 6
  | 4 => 5
  | 5 => 10
  | 6 => 8
  | 7 => 9
  | _ => 29
/-- a class' field that holds a reference: tag and cell -/
def zfR (c k j : Nat) : Option (Nat × Nat) := match c with
  | 0 => (match k with | 0 => some (2, 1) | 1 => some (5, 7) | 2 => some (20, j + 1) | _ => none)
  | 1 => (match k with | 0 => some (2, 1) | 1 => some (5, 7) | 2 => some (22, j + 1) | 3 => some (24, j + 2) | _ => none)
  | 2 => (match k with | 0 => some (20, j + 1) | 1 => some (20, j + 2) | 2 => some (20, j + 3) | 3 => some (21, j + 4) | 4 => some (22, j + 5) | _ => none)
  | 3 => (match k with | 0 => some (2, 1) | 1 => some (5, 7) | 2 => some (4, 36) | 3 => some (24, j + 1) | _ => none)
  | 4 => (match k with | 0 => some (23, j + 1) | 1 => some (22, j + 2) | 2 => some (22, j + 3) | _ => none)
  | 5 => (match k with | 0 => some (4, j + 1) | 1 => some (21, j + 5) | 2 => some (20, j + 6) | 3 => some (20, j + 7) | 4 => some (2, 1) | _ => none)
  | 6 => (match k with | 0 => some (2, 1) | 1 => some (5, 7) | 2 => some (4, 36) | 3 => some (22, j + 1) | 4 => some (22, j + 2) | 5 => some (22, j + 3) | 6 => some (22, j + 4) | _ => none)
  | 7 => (match k with | 0 => some (2, 1) | 1 => some (5, 7) | 2 => some (5, 15) | 3 => some (5, 23) | 4 => some (1, 31) | 5 => some (0, 34) | 6 => some (3, 40) | 7 => some (6, 42) | 8 => some (25, 47) | _ => none)
  | 8 => (match k with | 0 => some (26, 49) | 1 => some (20, 50) | 2 => some (20, 51) | 3 => some (20, 52) | 4 => some (21, 53) | 7 => some (27, 54) | 8 => some (27, 55) | 9 => some (27, 56) | 10 => some (22, 57) | 14 => some (28, 58) | 15 => some (21, 59) | 16 => some (21, 60) | 17 => some (21, 61) | 18 => some (21, 62) | 19 => some (29, 63) | 20 => some (30, 64) | 22 => some (20, 65) | 23 => some (31, 66) | 24 => some (22, 67) | 25 => some (22, 68) | 26 => some (22, 69) | 27 => some (22, 70) | 28 => some (20, 71) | _ => none)
  | _ => none
def zKL : List Nat := [7, 2, 20, 20, 20, 21, 22, 5, 4, 23, 22, 22, 21, 20, 20, 5, 4, 23, 22, 22, 21, 20, 20, 5, 4, 23, 22, 22, 21, 20, 20, 1, 22, 24, 0, 20, 4, 23, 22, 22, 3, 24, 6, 22, 22, 22, 22, 25, 8, 26, 20, 20, 20, 21, 27, 27, 27, 22, 28, 21, 21, 21, 21, 29, 30, 20, 31, 22, 22, 22, 22, 20]
def zkd (j : Nat) : Nat := zKL.getD j 99
def zok (r : Nat × Nat) : Prop := r.2 < 72 ∧ zkd r.2 = r.1
theorem zclosed : ∀ j, j < 72 → ∀ k, k < 29 → ∀ r, zfR (zkd j) k j = some r → zok r := by
  have h : ∀ j, j < 72 → ∀ k, k < 29 → (match zfR (zkd j) k j with | some r => decide (r.2 < 72) && decide (zkd r.2 = r.1) | none => true) = true := by decide +kernel
  intro j hj k hk r hr
  have h2 := h j hj k hk
  rw [hr] at h2
  simpa [zok] using h2
def zfs (ad : Nat → Nat) (σ : zST) (c j : Nat) : List Value := (List.range (znF c)).map fun k => match zfR c k j with
  | some r => Value.ref (ad r.2)
  | none => Value.int (σ j k)
def zce (E : zEN) (σ : zST) (j : Nat) : va_E := match zaK (zkd j) with
  | some q => .inl (cond q.1 E.2.2.2.2.2 E.2.2.2.2.1, q.2, .inl (σ j))
  | none => .inr (zkd j, zfs E.2.1 σ (zkd j) j)
def zWL (E : zEN) (σ : zST) : va_W := (List.range 72).map fun j => (E.2.1 j, zce E σ j)
def zAA (E : zEN) : Nat → Prop := fun q => ∃ j, j < 72 ∧ q = E.2.1 j
abbrev zDD (E : zEN) : va_G := (E.2.2.1, E.2.2.2.1)
def zWD (E : zEN) (σ : zST) (H : Heap) : Prop := va_P (zDD E) vwCl (zWL E σ) H ∧ va_D (zAA E) (zWL E σ)
abbrev zty (E : zEN) : List (ClassId × FieldType) := [(E.2.2.2.2.1, .int), (E.2.2.2.2.2, .boolean)]
def zKK (E : zEN) (U : State) : Prop := va_K (zDD E) vwCl (zty E) U ∧ ∀ q ∈ zNQ, va_Nw (.methodLinkNest q.1 q.2.1 q.2.2.1 q.2.2.2) U
theorem zKK.warm {E : zEN} {s U : State} (hW : s.WarmedH U.vm) (h : zKK E s) : zKK E U := ⟨va_K.moved hW.alike h.1, fun q hq => va_Nw.warmM hW (h.2 q hq)⟩
theorem zKK.call {E : zEN} {U : State} {g : JFrame} {mk : MethodId} {a : Array Value} (h : zKK E U) : zKK E (U.calling g mk a) := ⟨va_K.moved (u := U) (U := U.calling g mk a) (Vm.Alike.refl U.vm) h.1, fun q hq => va_Nw.same rfl (rfl : U.vm = (U.calling g mk a).vm) (h.2 q hq)⟩
def zcv (E : zEN) : zAV → Value
  | .inl x => .int x
  | .inr r => .ref (E.2.1 r.2)
theorem zcv_cat (E : zEN) (v : zAV) : (zcv E v).category = 1 := by cases v <;> rfl
def zvr : zAV → Prop
  | .inl _ => True
  | .inr r => zok r
def zvs (S : zSS) : Prop := ∀ v ∈ S, zvr v
def zvl (L : zLS) : Prop := ∀ v, some v ∈ L → zvr v
def zlr (E : zEN) (n : Nat) (ls : Array Slot) (L : zLS) : Prop := ls.size = n ∧ lv_wf ls ∧ L.length = n ∧ ∀ (i : Nat) (v : zAV), L[i]? = some (some v) → ls[i]? = some (.val (zcv E v))
def zla (E : zEN) (L : zLS) : List (Nat × Value) := (List.range L.length).filterMap fun i => match L[i]? with
  | some (some v) => some (i, zcv E v)
  | _ => none
theorem zla_mem {E : zEN} {L : zLS} {i : Nat} {w : Value} : (i, w) ∈ zla E L ↔ ∃ v, L[i]? = some (some v) ∧ w = zcv E v := by
  unfold zla
  rw [List.mem_filterMap]
  constructor
  · rintro ⟨a, ha, h⟩
    split at h
    · rename_i v hv
      cases h
      exact ⟨v, hv, rfl⟩
    · cases h
  · rintro ⟨v, hv, rfl⟩
    have hi : i < L.length := (List.getElem?_eq_some_iff.mp hv).1
    exact ⟨i, List.mem_range.mpr hi, by rw [hv]⟩
theorem zlr.has {E : zEN} {n : Nat} {ls : Array Slot} {L : zLS} (h : zlr E n ls L) : lv_has ls n (zla E L) := by
  refine ⟨h.1, h.2.1, ?_⟩
  rintro ⟨i, w⟩ hq
  obtain ⟨v, hv, rfl⟩ := zla_mem.mp hq
  exact h.2.2.2 i v hv
theorem zlr.store {E : zEN} {n : Nat} {ls ls' : Array Slot} {L : zLS} {i : Nat} {v : zAV} (hi : i < n) (h : zlr E n ls L) (h' : lv_has ls' n ((i, zcv E v) :: (zla E L).filter (fun q => !(q.1 == i) && !(q.1 + 1 == i && q.2.category == 2)))) : zlr E n ls' (L.set i (some v)) := by
  refine ⟨h'.1, h'.2.1, by rw [List.length_set]; exact h.2.2.1, ?_⟩
  intro a w ha
  by_cases hia : i = a
  · subst hia
    rw [List.getElem?_set_self (by rw [h.2.2.1]; exact hi)] at ha
    cases ha
    exact h'.2.2 (i, zcv E v) List.mem_cons_self
  · rw [List.getElem?_set_ne hia] at ha
    refine h'.2.2 (a, zcv E w) (List.mem_cons_of_mem _ (List.mem_filter.mpr ⟨zla_mem.mpr ⟨w, ha, rfl⟩, ?_⟩))
    have h1 : (a == i) = false := by simpa using fun e => hia e.symm
    simp [h1, zcv_cat]
theorem zvl.set {L : zLS} {i : Nat} {v : zAV} (h : zvl L) (hv : zvr v) : zvl (L.set i (some v)) := by
  intro w hw
  rcases List.mem_or_eq_of_mem_set hw with h1 | h1
  · exact h w h1
  · cases h1; exact hv
theorem zvs.cons {S : zSS} {v : zAV} (h : zvs S) (hv : zvr v) : zvs (v :: S) := fun w hw => (List.mem_cons.mp hw).elim (fun e => e ▸ hv) (h w)
theorem zvs.tail {S : zSS} {v : zAV} (h : zvs (v :: S)) : zvs S := fun w hw => h w (List.mem_cons_of_mem _ hw)
theorem zvs.head {S : zSS} {v : zAV} (h : zvs (v :: S)) : zvr v := h v List.mem_cons_self
theorem zWL_get (E : zEN) (σ : zST) {j : Nat} (hj : j < 72) : (zWL E σ)[j]? = some (E.2.1 j, zce E σ j) := by
  simp [zWL, hj]
theorem zce_up {E : zEN} {σ : zST} {a j k : Nat} {x : Int32} (h : a ≠ j) : zce E (zup σ j k x) a = zce E σ a := by
  have hz : zup σ j k x a = σ a := by simp [zup, h]
  unfold zce zfs
  rw [hz]
theorem zWL_set {E : zEN} {σ : zST} {j k : Nat} {x : Int32} (hj : j < 72) {e : va_E} (he : e = zce E (zup σ j k x) j) : (zWL E σ).set j (E.2.1 j, e) = zWL E (zup σ j k x) := by
  apply List.ext_getElem?
  intro i
  by_cases hij : j = i
  · subst hij
    rw [List.getElem?_set_self (by simp [zWL]; exact hj), zWL_get E _ hj, he]
  · rw [List.getElem?_set_ne hij]
    by_cases hi : i < 72
    · rw [zWL_get E σ hi, zWL_get E _ hi, zce_up (fun e => hij e.symm)]
    · rw [List.getElem?_eq_none (by simp [zWL]; omega), List.getElem?_eq_none (by simp [zWL]; omega)]
theorem zce_arr {E : zEN} {σ : zST} {j t n : Nat} {b : Bool} (hk : zkd j = t) (ha : zaK t = some (b, n)) : zce E σ j = .inl (cond b E.2.2.2.2.2 E.2.2.2.2.1, n, .inl (σ j)) := by
  unfold zce
  rw [hk, ha]
theorem zce_obj {E : zEN} {σ : zST} {j t : Nat} (hk : zkd j = t) (ha : zaK t = none) : zce E σ j = .inr (t, zfs E.2.1 σ t j) := by
  unfold zce
  rw [hk, ha]
theorem zfs_get {ad : Nat → Nat} {σ : zST} {c j k : Nat} (hk : k < znF c) : (zfs ad σ c j)[k]? = some (match zfR c k j with | some r => Value.ref (ad r.2) | none => Value.int (σ j k)) := by
  simp [zfs, hk]
theorem zfs_up {ad : Nat → Nat} {σ : zST} {c j k : Nat} {x : Int32} (hr : zfR c k j = none) : (zfs ad σ c j).set k (Value.int x) = zfs ad (zup σ j k x) c j := by
  apply List.ext_getElem?
  intro i
  by_cases hi : i < znF c
  · by_cases hki : k = i
    · subst hki
      rw [List.getElem?_set_self (by simp [zfs]; exact hi), zfs_get hi, hr]
      simp [zup, upd]
    · rw [List.getElem?_set_ne hki, zfs_get hi, zfs_get hi]
      have : zup σ j k x j i = σ j i := by simp [zup, upd]; intro e; exact absurd e.symm hki
      rw [this]
  · rw [List.getElem?_eq_none (by simp [zfs]; omega), List.getElem?_eq_none (by simp [zfs]; omega)]
