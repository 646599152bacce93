/-! A count of bits, and bits counted one by one. -/
def bsT (m : Nat) : Nat → Nat
  | 0 => 0
  | k + 1 => bsT m k + (m >>> k) % 2
theorem tb_split {x y j : Nat} (hx : x < 256) : (x + 256 * y).testBit j = if j < 8 then x.testBit j else y.testBit (j - 8) := by
  rw [Nat.add_comm]; exact Nat.testBit_two_pow_mul_add (i := 8) y hx j
theorem and_split {x y p q : Nat} (hx : x < 256) (hp : p < 256) : (x + 256 * y) &&& (p + 256 * q) = (x &&& p) + 256 * (y &&& q) := by
  refine Nat.eq_of_testBit_eq (fun j => ?_)
  rw [Nat.testBit_and, tb_split hx, tb_split hp, tb_split (Nat.lt_of_le_of_lt Nat.and_le_left hx)]
  split <;> rw [Nat.testBit_and]
def wA (x : Nat) : Nat := x - ((x / 2) &&& 85)
def wB (a : Nat) : Nat := (a &&& 51) + ((a / 4) &&& 51)
def wC8 (b : Nat) : Nat := (b + b / 16) % 16
theorem f_1 : ∀ x, x < 256 → (x / 2 + 128) &&& 85 = (x / 2) &&& 85 ∧ (x / 2) &&& 85 ≤ x ∧ (x / 2) &&& 5592405 = (x / 2) &&& 85 := by decide +kernel
theorem f_2 : ∀ x, x < 256 → (∀ e, e < 4 → (x / 4 + 64 * e) &&& 51 = (x / 4) &&& 51) ∧ x &&& 3355443 = x &&& 51 ∧ (x / 4) &&& 3355443 = (x / 4) &&& 51 := by decide +kernel
theorem f_3 : ∀ x, x < 256 → x &&& 15 = x % 16 ∧ x &&& 986895 = x % 16 := by decide +kernel
theorem f_4 : ∀ x, x < 256 → wA x < 256 ∧ wB (wA x) % 16 ≤ 4 ∧ wB (wA x) / 16 ≤ 4 ∧ wC8 (wB (wA x)) = bsT x 8 ∧ bsT x 8 ≤ 8 := by decide +kernel
theorem v_A {x y : Nat} (hx : x < 256) (hy : y < 256) : (x + 256 * y) - (((x + 256 * y) >>> 1) &&& 1431655765) = wA x + 256 * wA y ∧ ((x + 256 * y) >>> 1) &&& 1431655765 ≤ x + 256 * y := by
  have e : (x + 256 * y) >>> 1 = (x / 2 + 128 * (y % 2)) + 256 * (y / 2) := by rw [Nat.shiftRight_eq_div_pow]; omega
  obtain ⟨a1, a2, a3⟩ := f_1 x hx
  obtain ⟨b1, b2, b3⟩ := f_1 y hy
  have e2 : (x / 2 + 128 * (y % 2)) &&& 85 = (x / 2) &&& 85 := by
    rcases Nat.mod_two_eq_zero_or_one y with h | h
    · rw [h]; rfl
    · rw [h]; exact a1
  rw [e, show 1431655765 = 85 + 256 * 5592405 from rfl, and_split (by omega) (by omega), e2, b3]
  unfold wA
  omega
theorem v_B {p q : Nat} (hp : p < 256) (hq : q < 256) : ((p + 256 * q) &&& 858993459) + (((p + 256 * q) >>> 2) &&& 858993459) = wB p + 256 * wB q := by
  have e : (p + 256 * q) >>> 2 = (p / 4 + 64 * (q % 4)) + 256 * (q / 4) := by rw [Nat.shiftRight_eq_div_pow]; omega
  obtain ⟨a1, -, -⟩ := f_2 p hp
  obtain ⟨-, b2, b3⟩ := f_2 q hq
  rw [e, show 858993459 = 51 + 256 * 3355443 from rfl, and_split hp (by omega), and_split (by omega) (by omega), a1 _ (by omega), b2, b3]
  unfold wB
  omega
theorem v_C {p q : Nat} (hp : p / 16 ≤ 4) (hp2 : p % 16 ≤ 4) (hq : q / 16 ≤ 4) (hq2 : q % 16 ≤ 4) : ((p + 256 * q) + (p + 256 * q) >>> 4) &&& 252645135 = wC8 p + 256 * wC8 q := by
  have e : (p + 256 * q) + (p + 256 * q) >>> 4 = (p + p / 16 + 16 * (q % 16)) + 256 * (q + q / 16) := by rw [Nat.shiftRight_eq_div_pow]; omega
  rw [e, show 252645135 = 15 + 256 * 986895 from rfl, and_split (by omega) (by omega), (f_3 _ (by omega)).1, (f_3 (q + q / 16) (by omega)).2]
  unfold wC8
  omega
theorem v_T {x y : Nat} (hx : x < 256) : bsT (x + 256 * y) 16 = bsT x 8 + bsT y 8 := by
  have l : ∀ k, k < 8 → ((x + 256 * y) >>> k) % 2 = (x >>> k) % 2 := by
    intro k hk
    rw [Nat.shiftRight_eq_div_pow, Nat.shiftRight_eq_div_pow]
    rcases (by omega : k = 0 ∨ k = 1 ∨ k = 2 ∨ k = 3 ∨ k = 4 ∨ k = 5 ∨ k = 6 ∨ k = 7) with h | h | h | h | h | h | h | h <;> subst h <;> omega
  have r : ∀ k, k < 8 → ((x + 256 * y) >>> (k + 8)) % 2 = (y >>> k) % 2 := by
    intro k hk
    rw [Nat.shiftRight_eq_div_pow, Nat.shiftRight_eq_div_pow]
    rcases (by omega : k = 0 ∨ k = 1 ∨ k = 2 ∨ k = 3 ∨ k = 4 ∨ k = 5 ∨ k = 6 ∨ k = 7) with h | h | h | h | h | h | h | h <;> subst h <;> omega
  have l0 := l 0 (by omega)
  have l1 := l 1 (by omega)
  have l2 := l 2 (by omega)
  have l3 := l 3 (by omega)
  have l4 := l 4 (by omega)
  have l5 := l 5 (by omega)
  have l6 := l 6 (by omega)
  have l7 := l 7 (by omega)
  have r0 := r 0 (by omega)
  have r1 := r 1 (by omega)
  have r2 := r 2 (by omega)
  have r3 := r 3 (by omega)
  have r4 := r 4 (by omega)
  have r5 := r 5 (by omega)
  have r6 := r 6 (by omega)
  have r7 := r 7 (by omega)
  simp only [bsT] at *
  rw [l0, l1, l2, l3, l4, l5, l6, l7, r0, r1, r2, r3, r4, r5, r6, r7]
  omega
theorem bs_bit {m k : Nat} (hk : k < 32) : (nI m >>> (nI k &&& 31)) &&& 1 = nI ((m >>> k) % 2) := by
  have hb : bt (nI m) k = decide ((m >>> k) % 2 = 1) := by
    unfold bt
    show (BitVec.ofNat 32 m).getLsbD k = _
    rw [BitVec.getLsbD_ofNat, decide_eq_true hk, Bool.true_and, Nat.testBit_eq_decide_div_mod_eq, Nat.shiftRight_eq_div_pow]
  rcases Nat.mod_two_eq_zero_or_one (m >>> k) with h | h
  · rw [h]
    show _ = (0 : Int32)
    rw [hasB_iff0 hk, hb, h]; rfl
  · rw [h]
    show _ = (1 : Int32)
    rw [and1_bt hk, hb, h]; rfl
theorem bs_T (m : Nat) : ∀ k, k ≤ 32 → bsN (nI m) k = nI (bsT m k) := by
  intro k
  induction k with
  | zero => intro _; rfl
  | succ k ih => intro h; rw [bsN, bsT, ih (by omega), bs_bit (by omega), nI_add]
theorem bc_bs {m : Nat} (hm : m < 65536) : bcN (nI m) = bsN (nI m) 16 := by
  obtain ⟨x, y, hx, hy, rfl⟩ : ∃ x y, x < 256 ∧ y < 256 ∧ m = x + 256 * y := ⟨m % 256, m / 256, by omega, by omega, by omega⟩
  obtain ⟨a1, a2, a3, a4, a5⟩ := f_4 x hx
  obtain ⟨b1, b2, b3, b4, b5⟩ := f_4 y hy
  obtain ⟨vA, vA2⟩ := v_A hx hy
  have e1 : nI (x + 256 * y) - (((nI (x + 256 * y)).toUInt32 >>> ((1 : Int32).toUInt32 &&& Int32.toUInt32 31)).toInt32 &&& 1431655765) = nI (wA x + 256 * wA y) := by
    have h := nx_ush (j := 1) hm (by omega)
    rw [show nI 1 = (1 : Int32) from rfl] at h
    rw [h, show (1431655765 : Int32) = nI 1431655765 from rfl, nx_and, pk_sub vA2, vA]
  have e2 : (nI (wA x + 256 * wA y) &&& 858993459) + (((nI (wA x + 256 * wA y)).toUInt32 >>> ((2 : Int32).toUInt32 &&& Int32.toUInt32 31)).toInt32 &&& 858993459) = nI (wB (wA x) + 256 * wB (wA y)) := by
    have h := nx_ush (j := 2) (show wA x + 256 * wA y < 65536 by omega) (by omega)
    rw [show nI 2 = (2 : Int32) from rfl] at h
    rw [h, show (858993459 : Int32) = nI 858993459 from rfl, nx_and, nx_and, nI_add, v_B a1 b1]
  have e3 : (nI (wB (wA x) + 256 * wB (wA y)) + ((nI (wB (wA x) + 256 * wB (wA y))).toUInt32 >>> ((4 : Int32).toUInt32 &&& Int32.toUInt32 31)).toInt32) &&& 252645135 = nI (bsT x 8 + 256 * bsT y 8) := by
    have h := nx_ush (j := 4) (show wB (wA x) + 256 * wB (wA y) < 65536 by omega) (by omega)
    rw [show nI 4 = (4 : Int32) from rfl] at h
    rw [h, show (252645135 : Int32) = nI 252645135 from rfl, nI_add, nx_and, v_C a3 a2 b3 b2, a4, b4]
  have e4 : nI (bsT x 8 + 256 * bsT y 8) + ((nI (bsT x 8 + 256 * bsT y 8)).toUInt32 >>> ((8 : Int32).toUInt32 &&& Int32.toUInt32 31)).toInt32 = nI (bsT x 8 + bsT y 8 + 256 * bsT y 8) := by
    have h := nx_ush (j := 8) (show bsT x 8 + 256 * bsT y 8 < 65536 by omega) (by omega)
    rw [show nI 8 = (8 : Int32) from rfl] at h
    rw [h, nI_add, Nat.shiftRight_eq_div_pow]
    congr 1; omega
  have e5 : nI (bsT x 8 + bsT y 8 + 256 * bsT y 8) + ((nI (bsT x 8 + bsT y 8 + 256 * bsT y 8)).toUInt32 >>> ((16 : Int32).toUInt32 &&& Int32.toUInt32 31)).toInt32 = nI (bsT x 8 + bsT y 8 + 256 * bsT y 8) := by
    have h := nx_ush (j := 16) (show bsT x 8 + bsT y 8 + 256 * bsT y 8 < 65536 by omega) (by omega)
    rw [show nI 16 = (16 : Int32) from rfl] at h
    rw [h, nI_add, Nat.shiftRight_eq_div_pow]
    congr 1; omega
  have e6 : nI (bsT x 8 + bsT y 8 + 256 * bsT y 8) &&& 63 = nI (bsT x 8 + bsT y 8) := by
    rw [show (63 : Int32) = nI 63 from rfl, nx_and, Nat.and_two_pow_sub_one_eq_mod _ 6]
    congr 1; omega
  rw [bs_T _ 16 (by omega), v_T hx]
  unfold bcN
  simp only []
  rw [e1, e2, e3, e4, e5, e6]
