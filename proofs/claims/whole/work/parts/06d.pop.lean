/-! how many bits -/
theorem zand16 {v y m M : Nat} (hv : v < 16) (hm : m < 16) : (v + 16 * y) &&& (m + 16 * M) = (v &&& m) + 16 * (y &&& M) := by
  have h1 : ((v + 16 * y) &&& (m + 16 * M)) % 2 ^ 4 = ((v + 16 * y) % 2 ^ 4) &&& ((m + 16 * M) % 2 ^ 4) := Nat.and_mod_two_pow
  have h2 : ((v + 16 * y) &&& (m + 16 * M)) / 2 ^ 4 = ((v + 16 * y) / 2 ^ 4) &&& ((m + 16 * M) / 2 ^ 4) := Nat.and_div_two_pow
  have e1 : (v + 16 * y) % 2 ^ 4 = v := by omega
  have e2 : (m + 16 * M) % 2 ^ 4 = m := by omega
  have e3 : (v + 16 * y) / 2 ^ 4 = y := by omega
  have e4 : (m + 16 * M) / 2 ^ 4 = M := by omega
  rw [e1, e2] at h1
  rw [e3, e4] at h2
  omega
def zrep (c : Nat) : Nat → Nat
  | 0 => 0
  | n + 1 => c + 16 * zrep c n
def zp4 (v : Nat) : Nat := v % 2 + v / 2 % 2 + v / 4 % 2 + v / 8 % 2
def zdg : Nat → Nat → Nat
  | 0, _ => 0
  | n + 1, x => zp4 (x % 16) + 16 * zdg n (x / 16)
def zs1 (n x : Nat) : Nat := x - ((x / 2) &&& zrep 5 n)
def zs2 (n x : Nat) : Nat := (zs1 n x &&& zrep 3 n) + ((zs1 n x / 4) &&& zrep 3 n)
theorem zs1_step {n v y : Nat} (hv : v < 16) : zs1 (n + 1) (v + 16 * y) = (v - ((v / 2) &&& 5)) + 16 * zs1 n y := by
  unfold zs1
  have e1 : (v + 16 * y) / 2 = (v / 2 + 8 * (y % 2)) + 16 * (y / 2) := by omega
  have e2 : zrep 5 (n + 1) = 5 + 16 * zrep 5 n := rfl
  rw [e1, e2, zand16 (by omega) (by omega)]
  have e3 : ∀ v, v < 16 → ∀ b, b < 2 → (v / 2 + 8 * b) &&& 5 = (v / 2) &&& 5 := by decide
  rw [e3 v hv _ (Nat.mod_lt _ (by decide))]
  have g1 : (v / 2) &&& 5 ≤ v / 2 := Nat.and_le_left
  have g2 : (y / 2) &&& zrep 5 n ≤ y / 2 := Nat.and_le_left
  omega
theorem zs2_step {n v y : Nat} (hv : v < 16) : zs2 (n + 1) (v + 16 * y) = zp4 v + 16 * zs2 n y := by
  unfold zs2
  rw [zs1_step hv]
  have g1 : (v / 2) &&& 5 ≤ v / 2 := Nat.and_le_left
  generalize hw : v - ((v / 2) &&& 5) = w
  have hw16 : w < 16 := by omega
  generalize zs1 n y = z
  have e2 : zrep 3 (n + 1) = 3 + 16 * zrep 3 n := rfl
  have e1 : (w + 16 * z) / 4 = (w / 4 + 4 * (z % 4)) + 16 * (z / 4) := by omega
  rw [e1, e2, zand16 hw16 (by omega), zand16 (by omega) (by omega)]
  have e3 : ∀ v, v < 16 → ∀ b, b < 4 → (v / 4 + 4 * b) &&& 3 = (v / 4) &&& 3 := by decide
  rw [e3 w hw16 _ (Nat.mod_lt _ (by decide))]
  have e4 : ∀ v, v < 16 → ((v - ((v / 2) &&& 5)) &&& 3) + (((v - ((v / 2) &&& 5)) / 4) &&& 3) = zp4 v := by decide
  have := e4 v hv
  rw [hw] at this
  omega
theorem zs2_dg : ∀ n x, x < 16 ^ n → zs2 n x = zdg n x
  | 0, x, h => by
    have : x = 0 := by simpa using h
    subst this; rfl
  | n + 1, x, h => by
    have e : x = x % 16 + 16 * (x / 16) := by omega
    have ih := zs2_dg n (x / 16) (by rw [Nat.pow_succ] at h; omega)
    have hs := zs2_step (n := n) (v := x % 16) (y := x / 16) (Nat.mod_lt _ (by decide))
    rw [← e, ih] at hs
    exact hs
theorem zpN_step (n k : Nat) : fb_ct (fun i => n.testBit i) (k + 1) = n % 2 + fb_ct (fun i => (n / 2).testBit i) k := by
  have h := fb_ct_split (fun i => n.testBit i) 1 k
  rw [Nat.add_comm 1 k] at h
  rw [h]
  have e1 : fb_ct (fun i => n.testBit i) 1 = n % 2 := by
    show 0 + (if n.testBit 0 = true then 1 else 0) = n % 2
    rw [Nat.testBit_zero]
    rcases Nat.mod_two_eq_zero_or_one n with h | h <;> rw [h] <;> rfl
  have e2 : fb_ct (fun i => n.testBit (1 + i)) k = fb_ct (fun i => (n / 2).testBit i) k := fb_ct_cong fun i _ => by
    rw [Nat.add_comm, Nat.testBit_succ]
  rw [e1, e2]
theorem zp4_bits (n k : Nat) : fb_ct (fun i => n.testBit i) (k + 4) = zp4 (n % 16) + fb_ct (fun i => (n / 16).testBit i) k := by
  rw [zpN_step n (k + 3), zpN_step (n / 2) (k + 2), zpN_step (n / 2 / 2) (k + 1), zpN_step (n / 2 / 2 / 2) k]
  have e : n / 2 / 2 / 2 / 2 = n / 16 := by omega
  rw [e]
  unfold zp4
  omega
theorem zp4_le (v : Nat) : zp4 v ≤ 4 := by unfold zp4; omega
theorem zand256 {d0 d1 R M : Nat} (h0 : d0 < 16) (h1 : d1 < 16) : (d0 + 16 * d1 + 256 * R) &&& (15 + 256 * M) = d0 + 256 * (R &&& M) := by
  have e1 : d0 + 16 * d1 + 256 * R = d0 + 16 * (d1 + 16 * R) := by omega
  have e2 : 15 + 256 * M = 15 + 16 * (0 + 16 * M) := by omega
  rw [e1, e2, zand16 h0 (by decide), zand16 h1 (by decide)]
  have e3 : ∀ d, d < 16 → d &&& 15 = d := by decide
  rw [e3 d0 h0, Nat.and_zero]
  omega
/-- the JDK's count -/
def zjb (x : Nat) : Nat :=
  let s := zs2 8 x
  let t := (s + s / 16) &&& 252645135
  let u := t + t / 256
  let w := u + u / 65536
  w &&& 63
theorem zjb_eq {x : Nat} (hx : x < 2 ^ 32) : zjb x = fb_ct (fun i => x.testBit i) 32 := by
  have h16 : (16 : Nat) ^ 8 = 2 ^ 32 := by decide
  have hd : zs2 8 x = zdg 8 x := zs2_dg 8 x (by rw [h16]; exact hx)
  have hp : fb_ct (fun i => x.testBit i) 32 = zp4 (x % 16) + (zp4 (x / 16 % 16) + (zp4 (x / 16 / 16 % 16) + (zp4 (x / 16 / 16 / 16 % 16) + (zp4 (x / 16 / 16 / 16 / 16 % 16) + (zp4 (x / 16 / 16 / 16 / 16 / 16 % 16) + (zp4 (x / 16 / 16 / 16 / 16 / 16 / 16 % 16) + zp4 (x / 16 / 16 / 16 / 16 / 16 / 16 / 16 % 16))))))) := by
    rw [zp4_bits x 28, zp4_bits _ 24, zp4_bits _ 20, zp4_bits _ 16, zp4_bits _ 12, zp4_bits _ 8, zp4_bits _ 4, zp4_bits _ 0]
    rfl
  have hz : zdg 8 x = zp4 (x % 16) + 16 * (zp4 (x / 16 % 16) + 16 * (zp4 (x / 16 / 16 % 16) + 16 * (zp4 (x / 16 / 16 / 16 % 16) + 16 * (zp4 (x / 16 / 16 / 16 / 16 % 16) + 16 * (zp4 (x / 16 / 16 / 16 / 16 / 16 % 16) + 16 * (zp4 (x / 16 / 16 / 16 / 16 / 16 / 16 % 16) + 16 * (zp4 (x / 16 / 16 / 16 / 16 / 16 / 16 / 16 % 16) + 16 * 0))))))) := rfl
  have l0 := zp4_le (x % 16)
  have l1 := zp4_le (x / 16 % 16)
  have l2 := zp4_le (x / 16 / 16 % 16)
  have l3 := zp4_le (x / 16 / 16 / 16 % 16)
  have l4 := zp4_le (x / 16 / 16 / 16 / 16 % 16)
  have l5 := zp4_le (x / 16 / 16 / 16 / 16 / 16 % 16)
  have l6 := zp4_le (x / 16 / 16 / 16 / 16 / 16 / 16 % 16)
  have l7 := zp4_le (x / 16 / 16 / 16 / 16 / 16 / 16 / 16 % 16)
  unfold zjb
  rw [hd, hz, hp]
  generalize zp4 (x % 16) = n0 at *
  generalize zp4 (x / 16 % 16) = n1 at *
  generalize zp4 (x / 16 / 16 % 16) = n2 at *
  generalize zp4 (x / 16 / 16 / 16 % 16) = n3 at *
  generalize zp4 (x / 16 / 16 / 16 / 16 % 16) = n4 at *
  generalize zp4 (x / 16 / 16 / 16 / 16 / 16 % 16) = n5 at *
  generalize zp4 (x / 16 / 16 / 16 / 16 / 16 / 16 % 16) = n6 at *
  generalize zp4 (x / 16 / 16 / 16 / 16 / 16 / 16 / 16 % 16) = n7 at *
  clear hd hz hp hx
  have e : (n0 + 16 * (n1 + 16 * (n2 + 16 * (n3 + 16 * (n4 + 16 * (n5 + 16 * (n6 + 16 * (n7 + 16 * 0)))))))) + (n0 + 16 * (n1 + 16 * (n2 + 16 * (n3 + 16 * (n4 + 16 * (n5 + 16 * (n6 + 16 * (n7 + 16 * 0)))))))) / 16 = (n0 + n1) + 16 * (n1 + n2) + 256 * ((n2 + n3) + 16 * (n3 + n4) + 256 * ((n4 + n5) + 16 * (n5 + n6) + 256 * ((n6 + n7) + 16 * n7 + 256 * 0))) := by omega
  have m : (252645135 : Nat) = 15 + 256 * (15 + 256 * (15 + 256 * (15 + 256 * 0))) := by decide
  have t : ((n0 + n1) + 16 * (n1 + n2) + 256 * ((n2 + n3) + 16 * (n3 + n4) + 256 * ((n4 + n5) + 16 * (n5 + n6) + 256 * ((n6 + n7) + 16 * n7 + 256 * 0)))) &&& (15 + 256 * (15 + 256 * (15 + 256 * (15 + 256 * 0)))) = (n0 + n1) + 256 * ((n2 + n3) + 256 * ((n4 + n5) + 256 * ((n6 + n7) + 256 * 0))) := by
    rw [zand256 (by omega) (by omega), zand256 (by omega) (by omega), zand256 (by omega) (by omega), zand256 (by omega) (by omega), Nat.zero_and]
  dsimp only
  rw [e, m, t]
  have a63 : ∀ w : Nat, w &&& 63 = w % 64 := fun w => Nat.and_two_pow_sub_one_eq_mod w 6
  rw [a63]
  clear e m t a63
  have fin : ∀ d0 d2 d4 d6 : Nat, d0 ≤ 8 → d2 ≤ 8 → d4 ≤ 8 → d6 ≤ 8 → ((d0 + 256 * (d2 + 256 * (d4 + 256 * (d6 + 256 * 0)))) + (d0 + 256 * (d2 + 256 * (d4 + 256 * (d6 + 256 * 0)))) / 256 + ((d0 + 256 * (d2 + 256 * (d4 + 256 * (d6 + 256 * 0)))) + (d0 + 256 * (d2 + 256 * (d4 + 256 * (d6 + 256 * 0)))) / 256) / 65536) % 64 = d0 + d2 + d4 + d6 := by
    intro d0 d2 d4 d6 h0 h2 h4 h6
    have u1 : (d0 + 256 * (d2 + 256 * (d4 + 256 * (d6 + 256 * 0)))) / 256 = d2 + 256 * (d4 + 256 * d6) := by omega
    rw [u1]
    have u2 : (d0 + 256 * (d2 + 256 * (d4 + 256 * (d6 + 256 * 0))) + (d2 + 256 * (d4 + 256 * d6))) / 65536 = d4 + d6 + 256 * d6 := by omega
    rw [u2]
    omega
  rw [fin _ _ _ _ (by omega) (by omega) (by omega) (by omega)]
  omega
theorem zbt_nI {n i : Nat} (hi : i < 32) : bt (nI n) i = n.testBit i := by
  unfold bt
  show (BitVec.ofNat 32 n).getLsbD i = _
  rw [BitVec.getLsbD_ofNat]; simp [hi]
theorem zof32 (x : Int32) : ∃ n, n < 2 ^ 32 ∧ x = nI n := ⟨x.toBitVec.toNat, x.toBitVec.isLt, Int32.toBitVec_inj.mp (by show _ = BitVec.ofNat 32 _; simp)⟩
theorem zand_nI (a b : Nat) : nI a &&& nI b = nI (a &&& b) := by
  apply b_ext
  intro i hi
  rw [b_and, zbt_nI hi, zbt_nI hi, zbt_nI hi, Nat.testBit_and]
theorem zpop_eq {x : Int32} {n : Nat} (h : x = nI n) : fb_ct (bt x) 32 = fb_ct (fun i => n.testBit i) 32 := fb_ct_cong fun i hi => by rw [h, zbt_nI hi]
/-- without the lowest bit one bit less -/
theorem zlow : ∀ (k n : Nat), 0 < n → n < 2 ^ k → fb_ct (fun i => (n &&& (n - 1)).testBit i) k + 1 = fb_ct (fun i => n.testBit i) k
  | 0, n, h0, h => by simp at h; omega
  | k + 1, n, h0, h => by
    rw [zpN_step, zpN_step]
    have hd : (n &&& (n - 1)) / 2 = (n / 2) &&& ((n - 1) / 2) := by
      have := @Nat.and_div_two_pow n (n - 1) 1
      simpa using this
    have hm : (n &&& (n - 1)) % 2 = (n % 2) &&& ((n - 1) % 2) := by
      have := @Nat.and_mod_two_pow n (n - 1) 1
      simpa using this
    rw [hd, hm]
    rcases Nat.mod_two_eq_zero_or_one n with h2 | h2
    · have e : (n - 1) / 2 = n / 2 - 1 := by omega
      have ih := zlow k (n / 2) (by omega) (by rw [Nat.pow_succ] at h; omega)
      rw [e, h2, Nat.zero_and]
      omega
    · have e : (n - 1) / 2 = n / 2 := by omega
      have e2 : (n - 1) % 2 = 0 := by omega
      rw [e, e2, h2, Nat.and_self, Nat.and_zero]
      omega
theorem zpop_le {n k : Nat} (h : fb_ct (fun i => n.testBit i) k = 0) (hn : n < 2 ^ k) : n = 0 := by
  apply Classical.byContradiction
  intro h0
  have := zlow k n (by omega) hn
  omega
