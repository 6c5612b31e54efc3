/-! bits of sets -/
theorem zb1 : ∀ i, i < 32 → bt 1 i = decide (i = 0) := by decide +kernel
theorem zbitv {s : Int32} {v : Nat} (hv : v < 32) : (s >>> (nI v &&& 31)) &&& 1 = if bt s v = true then 1 else 0 := by
  apply b_ext
  intro i hi
  rw [b_and, zb1 i hi, b_sshr v hv s hi]
  by_cases h0 : i = 0
  · subst h0
    simp only [decide_true, Bool.and_true, Nat.add_zero, hv, if_true]
    cases bt s v <;> simp [b_0, zb1]
  · simp only [h0, decide_false, Bool.and_false]
    cases bt s v <;> simp [b_0, zb1 i hi, h0]
theorem zsh1 : ∀ v, v < 32 → ∀ i, i < 32 → bt ((1 : Int32) <<< (nI v &&& 31)) i = decide (i = v) := by decide +kernel
theorem zmask : ∀ n, n < 31 → ∀ i, i < 32 → bt (((1 : Int32) <<< (nI n &&& 31)) - 1) i = decide (i < n) := by decide +kernel
theorem zbnot {s : Int32} {i : Nat} (hi : i < 32) : bt (s ^^^ (-1)) i = !bt s i := by
  rw [b_xor, b_m1 i hi]
  cases bt s i <;> rfl
theorem zm1 {w : Nat} (hw : w < 2 ^ 31) : ¬ nI w = -1 := fun e => by
  have h := congrArg Int32.toInt e
  rw [nI_toInt hw] at h
  have h9 : (-1 : Int32).toInt = -1 := rfl
  omega
theorem znI_inj {a b : Nat} (ha : a < 2 ^ 31) (hb : b < 2 ^ 31) (h : nI a = nI b) : a = b := (nI_eq ha hb).mp h
