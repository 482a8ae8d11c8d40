/-! how many bits: Integer.bitCount below 65536 -/
theorem if_bit (m k : Nat) : (if m.testBit k then 1 else 0) = m / 2 ^ k % 2 := by
  rw [tb_div]
  have h2 : m / 2 ^ k % 2 < 2 := Nat.mod_lt _ (by decide)
  by_cases h : m / 2 ^ k % 2 = 0
  · rw [h]; rfl
  · have h1 : m / 2 ^ k % 2 = 1 := by omega
    rw [h1]; rfl
theorem and_pl (n M k : Nat) : n &&& M = (n % 2 ^ k &&& M % 2 ^ k) + 2 ^ k * (n / 2 ^ k &&& M / 2 ^ k) := by
  rw [← Nat.and_mod_two_pow, ← Nat.and_div_two_pow]
  exact (Nat.mod_add_div _ _).symm
theorem and_5 (n M M' : Nat) (h : M = 4 * M' + 1) : n &&& M = n % 2 + 4 * (n / 4 &&& M') := by
  have e := and_pl n M 2
  have h1 : M % 4 = 1 := by omega
  have h2 : M / 4 = M' := by omega
  rw [show (2 : Nat) ^ 2 = 4 from rfl, h1, h2, Nat.and_one_is_mod] at e
  rw [e]
  omega
theorem and_3 (n M M' : Nat) (h : M = 16 * M' + 3) : n &&& M = n % 4 + 16 * (n / 16 &&& M') := by
  have e := and_pl n M 4
  have h1 : M % 16 = 3 := by omega
  have h2 : M / 16 = M' := by omega
  rw [show (2 : Nat) ^ 4 = 16 from rfl, h1, h2, show (3 : Nat) = 2 ^ 2 - 1 from rfl, Nat.and_two_pow_sub_one_eq_mod, show (2 : Nat) ^ 2 = 4 from rfl] at e
  rw [e]
  omega
theorem and_f (n M M' : Nat) (h : M = 256 * M' + 15) : n &&& M = n % 16 + 256 * (n / 256 &&& M') := by
  have e := and_pl n M 8
  have h1 : M % 256 = 15 := by omega
  have h2 : M / 256 = M' := by omega
  rw [show (2 : Nat) ^ 8 = 256 from rfl, h1, h2, show (15 : Nat) = 2 ^ 4 - 1 from rfl, Nat.and_two_pow_sub_one_eq_mod, show (2 : Nat) ^ 4 = 16 from rfl] at e
  rw [e]
  omega
theorem c_5 {M1 M2 M3 M4 M5 M6 M7 M8 M9 n : Nat} (h1 : M1 = 4 * M2 + 1) (h2 : M2 = 4 * M3 + 1) (h3 : M3 = 4 * M4 + 1) (h4 : M4 = 4 * M5 + 1) (h5 : M5 = 4 * M6 + 1) (h6 : M6 = 4 * M7 + 1) (h7 : M7 = 4 * M8 + 1) (h8 : M8 = 4 * M9 + 1) (h : n < 65536) : n &&& M1 = n % 2 + 4 * (n / 4 % 2) + 16 * (n / 16 % 2) + 64 * (n / 64 % 2) + 256 * (n / 256 % 2) + 1024 * (n / 1024 % 2) + 4096 * (n / 4096 % 2) + 16384 * (n / 16384 % 2) := by
  have e1 := and_5 n M1 M2 h1
  have e2 := and_5 (n / 4) M2 M3 h2
  have e3 := and_5 (n / 16) M3 M4 h3
  have e4 := and_5 (n / 64) M4 M5 h4
  have e5 := and_5 (n / 256) M5 M6 h5
  have e6 := and_5 (n / 1024) M6 M7 h6
  have e7 := and_5 (n / 4096) M7 M8 h7
  have e8 := and_5 (n / 16384) M8 M9 h8
  rw [Nat.div_div_eq_div_mul] at e2 e3 e4 e5 e6 e7 e8
  rw [show n / (16384 * 4) = 0 from Nat.div_eq_of_lt h, Nat.zero_and] at e8
  rw [show 4 * 4 = 16 from rfl] at e2
  rw [show 16 * 4 = 64 from rfl] at e3
  rw [show 64 * 4 = 256 from rfl] at e4
  rw [show 256 * 4 = 1024 from rfl] at e5
  rw [show 1024 * 4 = 4096 from rfl] at e6
  rw [show 4096 * 4 = 16384 from rfl] at e7
  rw [e1, e2, e3, e4, e5, e6, e7, e8]
  generalize n % 2 = a0
  generalize n / 4 % 2 = a1
  generalize n / 16 % 2 = a2
  generalize n / 64 % 2 = a3
  generalize n / 256 % 2 = a4
  generalize n / 1024 % 2 = a5
  generalize n / 4096 % 2 = a6
  generalize n / 16384 % 2 = a7
  clear e1 e2 e3 e4 e5 e6 e7 e8 h1 h2 h3 h4 h5 h6 h7 h8 h
  omega
theorem c_3 {M1 M2 M3 M4 M5 n : Nat} (h1 : M1 = 16 * M2 + 3) (h2 : M2 = 16 * M3 + 3) (h3 : M3 = 16 * M4 + 3) (h4 : M4 = 16 * M5 + 3) (h : n < 65536) : n &&& M1 = n % 4 + 16 * (n / 16 % 4) + 256 * (n / 256 % 4) + 4096 * (n / 4096 % 4) := by
  have e1 := and_3 n M1 M2 h1
  have e2 := and_3 (n / 16) M2 M3 h2
  have e3 := and_3 (n / 256) M3 M4 h3
  have e4 := and_3 (n / 4096) M4 M5 h4
  rw [Nat.div_div_eq_div_mul] at e2 e3 e4
  rw [show n / (4096 * 16) = 0 from Nat.div_eq_of_lt h, Nat.zero_and] at e4
  rw [show 16 * 16 = 256 from rfl] at e2
  rw [show 256 * 16 = 4096 from rfl] at e3
  rw [e1, e2, e3, e4]
  generalize n % 4 = a0
  generalize n / 16 % 4 = a1
  generalize n / 256 % 4 = a2
  generalize n / 4096 % 4 = a3
  clear e1 e2 e3 e4 h1 h2 h3 h4 h
  omega
theorem c_f {M1 M2 M3 n : Nat} (h1 : M1 = 256 * M2 + 15) (h2 : M2 = 256 * M3 + 15) (h : n < 65536) : n &&& M1 = n % 16 + 256 * (n / 256 % 16) := by
  have e1 := and_f n M1 M2 h1
  have e2 := and_f (n / 256) M2 M3 h2
  rw [Nat.div_div_eq_div_mul, show n / (256 * 256) = 0 from Nat.div_eq_of_lt h, Nat.zero_and] at e2
  rw [e1, e2]
  omega
theorem m_5 {n : Nat} (h : n < 65536) : n &&& 1431655765 = n % 2 + 4 * (n / 4 % 2) + 16 * (n / 16 % 2) + 64 * (n / 64 % 2) + 256 * (n / 256 % 2) + 1024 * (n / 1024 % 2) + 4096 * (n / 4096 % 2) + 16384 * (n / 16384 % 2) := c_5 (M2 := 357913941) (M3 := 89478485) (M4 := 22369621) (M5 := 5592405) (M6 := 1398101) (M7 := 349525) (M8 := 87381) (M9 := 21845) (Nat.eq_of_beq_eq_true rfl) (Nat.eq_of_beq_eq_true rfl) (Nat.eq_of_beq_eq_true rfl) (Nat.eq_of_beq_eq_true rfl) (Nat.eq_of_beq_eq_true rfl) (Nat.eq_of_beq_eq_true rfl) (Nat.eq_of_beq_eq_true rfl) (Nat.eq_of_beq_eq_true rfl) h
theorem m_3 {n : Nat} (h : n < 65536) : n &&& 858993459 = n % 4 + 16 * (n / 16 % 4) + 256 * (n / 256 % 4) + 4096 * (n / 4096 % 4) := c_3 (M2 := 53687091) (M3 := 3355443) (M4 := 209715) (M5 := 13107) (Nat.eq_of_beq_eq_true rfl) (Nat.eq_of_beq_eq_true rfl) (Nat.eq_of_beq_eq_true rfl) (Nat.eq_of_beq_eq_true rfl) h
theorem m_f {n : Nat} (h : n < 65536) : n &&& 252645135 = n % 16 + 256 * (n / 256 % 16) := c_f (M2 := 986895) (M3 := 3855) (Nat.eq_of_beq_eq_true rfl) (Nat.eq_of_beq_eq_true rfl) h
theorem il (n : Nat) : (OfNat.ofNat n : Int32) = nI n := rfl
theorem dg {b y t a : Nat} (h : a = y + b * t) (hy : y < b) : a / b = t ∧ a % b = y := by
  have hb : 0 < b := by omega
  constructor
  · rw [h, Nat.add_mul_div_left _ _ hb, Nat.div_eq_of_lt hy, Nat.zero_add]
  · rw [h, Nat.add_mul_mod_self_left, Nat.mod_eq_of_lt hy]
theorem bc_pop (m : Nat) : pop m 16 = m % 2 + m / 2 % 2 + m / 4 % 2 + m / 8 % 2 + m / 16 % 2 + m / 32 % 2 + m / 64 % 2 + m / 128 % 2 + m / 256 % 2 + m / 512 % 2 + m / 1024 % 2 + m / 2048 % 2 + m / 4096 % 2 + m / 8192 % 2 + m / 16384 % 2 + m / 32768 % 2 := by
  simp only [pop, if_bit]
  simp only [Nat.zero_add, Nat.reducePow, Nat.div_one]
theorem bc_sum {m : Nat} (h : m < 65536) : m = m % 2 + 2 * (m / 2 % 2) + 4 * (m / 4 % 2) + 8 * (m / 8 % 2) + 16 * (m / 16 % 2) + 32 * (m / 32 % 2) + 64 * (m / 64 % 2) + 128 * (m / 128 % 2) + 256 * (m / 256 % 2) + 512 * (m / 512 % 2) + 1024 * (m / 1024 % 2) + 2048 * (m / 2048 % 2) + 4096 * (m / 4096 % 2) + 8192 * (m / 8192 % 2) + 16384 * (m / 16384 % 2) + 32768 * (m / 32768 % 2) := by
  have e0 := Nat.mod_add_div m 2
  have e1 := Nat.mod_add_div (m / 2) 2
  have e2 := Nat.mod_add_div (m / 4) 2
  have e3 := Nat.mod_add_div (m / 8) 2
  have e4 := Nat.mod_add_div (m / 16) 2
  have e5 := Nat.mod_add_div (m / 32) 2
  have e6 := Nat.mod_add_div (m / 64) 2
  have e7 := Nat.mod_add_div (m / 128) 2
  have e8 := Nat.mod_add_div (m / 256) 2
  have e9 := Nat.mod_add_div (m / 512) 2
  have e10 := Nat.mod_add_div (m / 1024) 2
  have e11 := Nat.mod_add_div (m / 2048) 2
  have e12 := Nat.mod_add_div (m / 4096) 2
  have e13 := Nat.mod_add_div (m / 8192) 2
  have e14 := Nat.mod_add_div (m / 16384) 2
  have e15 := Nat.mod_add_div (m / 32768) 2
  rw [Nat.div_div_eq_div_mul, show 2 * 2 = 4 from rfl] at e1
  rw [Nat.div_div_eq_div_mul, show 4 * 2 = 8 from rfl] at e2
  rw [Nat.div_div_eq_div_mul, show 8 * 2 = 16 from rfl] at e3
  rw [Nat.div_div_eq_div_mul, show 16 * 2 = 32 from rfl] at e4
  rw [Nat.div_div_eq_div_mul, show 32 * 2 = 64 from rfl] at e5
  rw [Nat.div_div_eq_div_mul, show 64 * 2 = 128 from rfl] at e6
  rw [Nat.div_div_eq_div_mul, show 128 * 2 = 256 from rfl] at e7
  rw [Nat.div_div_eq_div_mul, show 256 * 2 = 512 from rfl] at e8
  rw [Nat.div_div_eq_div_mul, show 512 * 2 = 1024 from rfl] at e9
  rw [Nat.div_div_eq_div_mul, show 1024 * 2 = 2048 from rfl] at e10
  rw [Nat.div_div_eq_div_mul, show 2048 * 2 = 4096 from rfl] at e11
  rw [Nat.div_div_eq_div_mul, show 4096 * 2 = 8192 from rfl] at e12
  rw [Nat.div_div_eq_div_mul, show 8192 * 2 = 16384 from rfl] at e13
  rw [Nat.div_div_eq_div_mul, show 16384 * 2 = 32768 from rfl] at e14
  rw [Nat.div_div_eq_div_mul, show 32768 * 2 = 65536 from rfl] at e15
  rw [Nat.div_eq_of_lt h] at e15
  generalize m % 2 = x0 at *
  generalize m / 2 % 2 = x1 at *
  generalize m / 4 % 2 = x2 at *
  generalize m / 8 % 2 = x3 at *
  generalize m / 16 % 2 = x4 at *
  generalize m / 32 % 2 = x5 at *
  generalize m / 64 % 2 = x6 at *
  generalize m / 128 % 2 = x7 at *
  generalize m / 256 % 2 = x8 at *
  generalize m / 512 % 2 = x9 at *
  generalize m / 1024 % 2 = x10 at *
  generalize m / 2048 % 2 = x11 at *
  generalize m / 4096 % 2 = x12 at *
  generalize m / 8192 % 2 = x13 at *
  generalize m / 16384 % 2 = x14 at *
  generalize m / 32768 % 2 = x15 at *
  generalize m / 2 = m1 at *
  generalize m / 4 = m2 at *
  generalize m / 8 = m3 at *
  generalize m / 16 = m4 at *
  generalize m / 32 = m5 at *
  generalize m / 64 = m6 at *
  generalize m / 128 = m7 at *
  generalize m / 256 = m8 at *
  generalize m / 512 = m9 at *
  generalize m / 1024 = m10 at *
  generalize m / 2048 = m11 at *
  generalize m / 4096 = m12 at *
  generalize m / 8192 = m13 at *
  generalize m / 16384 = m14 at *
  generalize m / 32768 = m15 at *
  clear h
  have f15 : m15 = x15 := by rw [← e15]; exact (Nat.add_zero _)
  have f14 : m14 = x14 + 2 * x15 := by clear e0 e1 e2 e3 e4 e5 e6 e7 e8 e9 e10 e11 e12 e13 e15; omega
  have f13 : m13 = x13 + 2 * x14 + 4 * x15 := by clear e0 e1 e2 e3 e4 e5 e6 e7 e8 e9 e10 e11 e12 e14 e15 f15; omega
  have f12 : m12 = x12 + 2 * x13 + 4 * x14 + 8 * x15 := by clear e0 e1 e2 e3 e4 e5 e6 e7 e8 e9 e10 e11 e13 e14 e15 f14 f15; omega
  have f11 : m11 = x11 + 2 * x12 + 4 * x13 + 8 * x14 + 16 * x15 := by clear e0 e1 e2 e3 e4 e5 e6 e7 e8 e9 e10 e12 e13 e14 e15 f13 f14 f15; omega
  have f10 : m10 = x10 + 2 * x11 + 4 * x12 + 8 * x13 + 16 * x14 + 32 * x15 := by clear e0 e1 e2 e3 e4 e5 e6 e7 e8 e9 e11 e12 e13 e14 e15 f12 f13 f14 f15; omega
  have f9 : m9 = x9 + 2 * x10 + 4 * x11 + 8 * x12 + 16 * x13 + 32 * x14 + 64 * x15 := by clear e0 e1 e2 e3 e4 e5 e6 e7 e8 e10 e11 e12 e13 e14 e15 f11 f12 f13 f14 f15; omega
  have f8 : m8 = x8 + 2 * x9 + 4 * x10 + 8 * x11 + 16 * x12 + 32 * x13 + 64 * x14 + 128 * x15 := by clear e0 e1 e2 e3 e4 e5 e6 e7 e9 e10 e11 e12 e13 e14 e15 f10 f11 f12 f13 f14 f15; omega
  have f7 : m7 = x7 + 2 * x8 + 4 * x9 + 8 * x10 + 16 * x11 + 32 * x12 + 64 * x13 + 128 * x14 + 256 * x15 := by clear e0 e1 e2 e3 e4 e5 e6 e8 e9 e10 e11 e12 e13 e14 e15 f9 f10 f11 f12 f13 f14 f15; omega
  have f6 : m6 = x6 + 2 * x7 + 4 * x8 + 8 * x9 + 16 * x10 + 32 * x11 + 64 * x12 + 128 * x13 + 256 * x14 + 512 * x15 := by clear e0 e1 e2 e3 e4 e5 e7 e8 e9 e10 e11 e12 e13 e14 e15 f8 f9 f10 f11 f12 f13 f14 f15; omega
  have f5 : m5 = x5 + 2 * x6 + 4 * x7 + 8 * x8 + 16 * x9 + 32 * x10 + 64 * x11 + 128 * x12 + 256 * x13 + 512 * x14 + 1024 * x15 := by clear e0 e1 e2 e3 e4 e6 e7 e8 e9 e10 e11 e12 e13 e14 e15 f7 f8 f9 f10 f11 f12 f13 f14 f15; omega
  have f4 : m4 = x4 + 2 * x5 + 4 * x6 + 8 * x7 + 16 * x8 + 32 * x9 + 64 * x10 + 128 * x11 + 256 * x12 + 512 * x13 + 1024 * x14 + 2048 * x15 := by clear e0 e1 e2 e3 e5 e6 e7 e8 e9 e10 e11 e12 e13 e14 e15 f6 f7 f8 f9 f10 f11 f12 f13 f14 f15; omega
  have f3 : m3 = x3 + 2 * x4 + 4 * x5 + 8 * x6 + 16 * x7 + 32 * x8 + 64 * x9 + 128 * x10 + 256 * x11 + 512 * x12 + 1024 * x13 + 2048 * x14 + 4096 * x15 := by clear e0 e1 e2 e4 e5 e6 e7 e8 e9 e10 e11 e12 e13 e14 e15 f5 f6 f7 f8 f9 f10 f11 f12 f13 f14 f15; omega
  have f2 : m2 = x2 + 2 * x3 + 4 * x4 + 8 * x5 + 16 * x6 + 32 * x7 + 64 * x8 + 128 * x9 + 256 * x10 + 512 * x11 + 1024 * x12 + 2048 * x13 + 4096 * x14 + 8192 * x15 := by clear e0 e1 e3 e4 e5 e6 e7 e8 e9 e10 e11 e12 e13 e14 e15 f4 f5 f6 f7 f8 f9 f10 f11 f12 f13 f14 f15; omega
  have f1 : m1 = x1 + 2 * x2 + 4 * x3 + 8 * x4 + 16 * x5 + 32 * x6 + 64 * x7 + 128 * x8 + 256 * x9 + 512 * x10 + 1024 * x11 + 2048 * x12 + 4096 * x13 + 8192 * x14 + 16384 * x15 := by clear e0 e2 e3 e4 e5 e6 e7 e8 e9 e10 e11 e12 e13 e14 e15 f3 f4 f5 f6 f7 f8 f9 f10 f11 f12 f13 f14 f15; omega
  clear e1 e2 e3 e4 e5 e6 e7 e8 e9 e10 e11 e12 e13 e14 e15 f2 f3 f4 f5 f6 f7 f8 f9 f10 f11 f12 f13 f14 f15
  omega
theorem bc_1 {m : Nat} (h : m < 65536) : (m / 2 &&& 1431655765) = m / 2 % 2 + 4 * (m / 8 % 2) + 16 * (m / 32 % 2) + 64 * (m / 128 % 2) + 256 * (m / 512 % 2) + 1024 * (m / 2048 % 2) + 4096 * (m / 8192 % 2) + 16384 * (m / 32768 % 2) := by
  rw [m_5 (Nat.lt_of_le_of_lt (Nat.div_le_self _ _) h)]
  simp only [Nat.div_div_eq_div_mul, Nat.reduceMul]
theorem bc_2 {a y0 y1 y2 y3 y4 y5 y6 y7 : Nat} (h : a = y0 + 4 * y1 + 16 * y2 + 64 * y3 + 256 * y4 + 1024 * y5 + 4096 * y6 + 16384 * y7) (h0 : y0 < 3) (h1 : y1 < 3) (h2 : y2 < 3) (h3 : y3 < 3) (h4 : y4 < 3) (h5 : y5 < 3) (h6 : y6 < 3) (h7 : y7 < 3) : a < 65536 ∧ (a &&& 858993459) = y0 + 16 * y2 + 256 * y4 + 4096 * y6 ∧ (a / 4 &&& 858993459) = y1 + 16 * y3 + 256 * y5 + 4096 * y7 := by
  have hl : a < 65536 := by omega
  have g0 := dg (b := 4) (y := y0) (t := y1 + 4 * (y2 + 4 * (y3 + 4 * (y4 + 4 * (y5 + 4 * (y6 + 4 * y7)))))) (a := a) (by omega) (by omega)
  have g1 := dg (b := 4) (y := y1) (t := (y2 + 4 * (y3 + 4 * (y4 + 4 * (y5 + 4 * (y6 + 4 * y7)))))) (a := (y1 + 4 * (y2 + 4 * (y3 + 4 * (y4 + 4 * (y5 + 4 * (y6 + 4 * y7))))))) (by omega) (by omega)
  have g2 := dg (b := 4) (y := y2) (t := (y3 + 4 * (y4 + 4 * (y5 + 4 * (y6 + 4 * y7))))) (a := (y2 + 4 * (y3 + 4 * (y4 + 4 * (y5 + 4 * (y6 + 4 * y7)))))) (by omega) (by omega)
  have g3 := dg (b := 4) (y := y3) (t := (y4 + 4 * (y5 + 4 * (y6 + 4 * y7)))) (a := (y3 + 4 * (y4 + 4 * (y5 + 4 * (y6 + 4 * y7))))) (by omega) (by omega)
  have g4 := dg (b := 4) (y := y4) (t := (y5 + 4 * (y6 + 4 * y7))) (a := (y4 + 4 * (y5 + 4 * (y6 + 4 * y7)))) (by omega) (by omega)
  have g5 := dg (b := 4) (y := y5) (t := (y6 + 4 * y7)) (a := (y5 + 4 * (y6 + 4 * y7))) (by omega) (by omega)
  have g6 := dg (b := 4) (y := y6) (t := y7) (a := (y6 + 4 * y7)) (by omega) (by omega)
  have g7 := dg (b := 4) (y := y7) (t := 0) (a := y7) (by omega) (by omega)
  refine ⟨hl, ?_, ?_⟩
  · rw [m_3 hl, show (16 : Nat) = 4 * 4 from rfl, show (256 : Nat) = 4 * 4 * 4 * 4 from rfl, show (4096 : Nat) = 4 * 4 * 4 * 4 * 4 * 4 from rfl]
    simp only [← Nat.div_div_eq_div_mul]
    rw [g0.2, g0.1, g1.1, g2.1, g3.1, g4.1, g5.1, g2.2, g4.2, g6.2]
  · rw [m_3 (Nat.lt_of_le_of_lt (Nat.div_le_self _ _) hl), show (16 : Nat) = 4 * 4 from rfl, show (256 : Nat) = 4 * 4 * 4 * 4 from rfl, show (4096 : Nat) = 4 * 4 * 4 * 4 * 4 * 4 from rfl]
    simp only [← Nat.div_div_eq_div_mul]
    rw [g0.1, g1.1, g2.1, g3.1, g4.1, g5.1, g6.1, g1.2, g3.2, g5.2, g7.2]
theorem bc_3 {b z0 z1 z2 z3 : Nat} (h : b = z0 + 16 * z1 + 256 * z2 + 4096 * z3) (h0 : z0 < 5) (h1 : z1 < 5) (h2 : z2 < 5) (h3 : z3 < 5) : b < 32768 ∧ (b + b / 16 &&& 252645135) = (z0 + z1) + 256 * (z2 + z3) := by
  have hl : b < 32768 := by omega
  have g := dg (b := 16) (y := z0) (t := z1 + 16 * z2 + 256 * z3) (a := b) (by omega) (by omega)
  have hb : b + b / 16 = (z0 + z1) + 16 * ((z1 + z2) + 16 * ((z2 + z3) + 16 * z3)) := by omega
  refine ⟨hl, ?_⟩
  rw [hb, m_f (by omega), show (256 : Nat) = 16 * 16 from rfl, ← Nat.div_div_eq_div_mul]
  rw [(dg (b := 16) (y := z0 + z1) rfl (by omega)).2, (dg (b := 16) (y := z0 + z1) rfl (by omega)).1, (dg (b := 16) (y := z1 + z2) rfl (by omega)).1, (dg (b := 16) (y := z2 + z3) rfl (by omega)).2]
theorem bc_4 {c p q : Nat} (h : c = p + 256 * q) (hp : p < 9) (hq : q < 9) : ((c + c / 256) + (c + c / 256) / 65536 &&& 63) = p + q := by
  have g := dg (b := 256) (y := p) (t := q) (a := c) h (by omega)
  rw [g.1, Nat.div_eq_of_lt (by omega), show (63 : Nat) = 2 ^ 6 - 1 from rfl, Nat.and_two_pow_sub_one_eq_mod, show (2 : Nat) ^ 6 = 64 from rfl]
  omega
theorem lt3 {a b : Nat} (h : a < 2) (h' : b < 2) : a + b < 3 := by omega
theorem lt5 {a b : Nat} (h : a < 3) (h' : b < 3) : a + b < 5 := by omega
theorem lt9 {a b : Nat} (h : a < 5) (h' : b < 5) : a + b < 9 := by omega
theorem bc_a {m X x0 x1 x2 x3 x4 x5 x6 x7 x8 x9 x10 x11 x12 x13 x14 x15 : Nat} (hm : m = x0 + 2 * x1 + 4 * x2 + 8 * x3 + 16 * x4 + 32 * x5 + 64 * x6 + 128 * x7 + 256 * x8 + 512 * x9 + 1024 * x10 + 2048 * x11 + 4096 * x12 + 8192 * x13 + 16384 * x14 + 32768 * x15) (s1 : X = x1 + 4 * x3 + 16 * x5 + 64 * x7 + 256 * x9 + 1024 * x11 + 4096 * x13 + 16384 * x15) : m - X = (x0 + x1) + 4 * (x2 + x3) + 16 * (x4 + x5) + 64 * (x6 + x7) + 256 * (x8 + x9) + 1024 * (x10 + x11) + 4096 * (x12 + x13) + 16384 * (x14 + x15) := by
  apply Nat.sub_eq_of_eq_add
  rw [hm, s1]
  clear hm s1
  omega
theorem bc_b {a x0 x1 x2 x3 x4 x5 x6 x7 x8 x9 x10 x11 x12 x13 x14 x15 : Nat} (ha : a = (x0 + x1) + 4 * (x2 + x3) + 16 * (x4 + x5) + 64 * (x6 + x7) + 256 * (x8 + x9) + 1024 * (x10 + x11) + 4096 * (x12 + x13) + 16384 * (x14 + x15)) (b0 : x0 < 2) (b1 : x1 < 2) (b2 : x2 < 2) (b3 : x3 < 2) (b4 : x4 < 2) (b5 : x5 < 2) (b6 : x6 < 2) (b7 : x7 < 2) (b8 : x8 < 2) (b9 : x9 < 2) (b10 : x10 < 2) (b11 : x11 < 2) (b12 : x12 < 2) (b13 : x13 < 2) (b14 : x14 < 2) (b15 : x15 < 2) : a < 65536 ∧ ((a &&& 858993459) + (a / 4 &&& 858993459)) = (x0 + x1 + (x2 + x3)) + 16 * (x4 + x5 + (x6 + x7)) + 256 * (x8 + x9 + (x10 + x11)) + 4096 * (x12 + x13 + (x14 + x15)) := by
  obtain ⟨hl, t1, t2⟩ := bc_2 ha (lt3 b0 b1) (lt3 b2 b3) (lt3 b4 b5) (lt3 b6 b7) (lt3 b8 b9) (lt3 b10 b11) (lt3 b12 b13) (lt3 b14 b15)
  refine ⟨hl, ?_⟩
  rw [t1, t2]
  clear hl t1 t2 ha b0 b1 b2 b3 b4 b5 b6 b7 b8 b9 b10 b11 b12 b13 b14 b15
  omega
theorem bc_p {P x0 x1 x2 x3 x4 x5 x6 x7 x8 x9 x10 x11 x12 x13 x14 x15 : Nat} (h : P = x0 + x1 + x2 + x3 + x4 + x5 + x6 + x7 + x8 + x9 + x10 + x11 + x12 + x13 + x14 + x15) : (x0 + x1 + (x2 + x3) + (x4 + x5 + (x6 + x7))) + (x8 + x9 + (x10 + x11) + (x12 + x13 + (x14 + x15))) = P := by rw [h]; clear h; omega
theorem bc_n {m : Nat} (h : m < 65536) : ∃ a b c, (m / 2 &&& 1431655765) ≤ m ∧ m - (m / 2 &&& 1431655765) = a ∧ a < 65536 ∧ (a &&& 858993459) + (a / 4 &&& 858993459) = b ∧ b < 32768 ∧ (b + b / 16 &&& 252645135) = c ∧ c < 65536 ∧ ((c + c / 256) + (c + c / 256) / 65536 &&& 63) = pop m 16 := by
  have s1 := bc_1 h
  have hs : (m / 2 &&& 1431655765) ≤ m := Nat.le_trans Nat.and_le_left (Nat.div_le_self _ _)
  have b0 : m % 2 < 2 := Nat.mod_lt _ (by decide)
  have b1 : m / 2 % 2 < 2 := Nat.mod_lt _ (by decide)
  have b2 : m / 4 % 2 < 2 := Nat.mod_lt _ (by decide)
  have b3 : m / 8 % 2 < 2 := Nat.mod_lt _ (by decide)
  have b4 : m / 16 % 2 < 2 := Nat.mod_lt _ (by decide)
  have b5 : m / 32 % 2 < 2 := Nat.mod_lt _ (by decide)
  have b6 : m / 64 % 2 < 2 := Nat.mod_lt _ (by decide)
  have b7 : m / 128 % 2 < 2 := Nat.mod_lt _ (by decide)
  have b8 : m / 256 % 2 < 2 := Nat.mod_lt _ (by decide)
  have b9 : m / 512 % 2 < 2 := Nat.mod_lt _ (by decide)
  have b10 : m / 1024 % 2 < 2 := Nat.mod_lt _ (by decide)
  have b11 : m / 2048 % 2 < 2 := Nat.mod_lt _ (by decide)
  have b12 : m / 4096 % 2 < 2 := Nat.mod_lt _ (by decide)
  have b13 : m / 8192 % 2 < 2 := Nat.mod_lt _ (by decide)
  have b14 : m / 16384 % 2 < 2 := Nat.mod_lt _ (by decide)
  have b15 : m / 32768 % 2 < 2 := Nat.mod_lt _ (by decide)
  have ha := bc_a (bc_sum h) s1
  obtain ⟨hl, hb⟩ := bc_b ha b0 b1 b2 b3 b4 b5 b6 b7 b8 b9 b10 b11 b12 b13 b14 b15
  obtain ⟨hbl, t3⟩ := bc_3 hb (lt5 (lt3 b0 b1) (lt3 b2 b3)) (lt5 (lt3 b4 b5) (lt3 b6 b7)) (lt5 (lt3 b8 b9) (lt3 b10 b11)) (lt5 (lt3 b12 b13) (lt3 b14 b15))
  have p1 := lt9 (lt5 (lt3 b0 b1) (lt3 b2 b3)) (lt5 (lt3 b4 b5) (lt3 b6 b7))
  have p2 := lt9 (lt5 (lt3 b8 b9) (lt3 b10 b11)) (lt5 (lt3 b12 b13) (lt3 b14 b15))
  have t4 := bc_4 t3 p1 p2
  refine ⟨_, _, _, hs, rfl, hl, rfl, hbl, rfl, ?_, ?_⟩
  · rw [t3]
    generalize (m % 2 + m / 2 % 2 + (m / 4 % 2 + m / 8 % 2) + (m / 16 % 2 + m / 32 % 2 + (m / 64 % 2 + m / 128 % 2))) = u at p1 ⊢
    generalize (m / 256 % 2 + m / 512 % 2 + (m / 1024 % 2 + m / 2048 % 2) + (m / 4096 % 2 + m / 8192 % 2 + (m / 16384 % 2 + m / 32768 % 2))) = v at p2 ⊢
    clear s1 hs ha hb t3 t4
    omega
  · rw [t4]
    exact bc_p (bc_pop m)
theorem a_bc {F m : Nat} (h : m < 65536) : kJ6_bitCount_0f7a4 F (nI m) = some (nI (pop m 16)) := by
  have u1 : ∀ n, n < 2 ^ 32 → ((nI n).toUInt32 >>> ((1 : Int32).toUInt32 &&& Int32.toUInt32 31)).toInt32 = nI (n / 2) := fun n hn => pk_ushrN hn 1 1 (by decide)
  have u2 : ∀ n, n < 2 ^ 32 → ((nI n).toUInt32 >>> ((2 : Int32).toUInt32 &&& Int32.toUInt32 31)).toInt32 = nI (n / 4) := fun n hn => pk_ushrN hn 2 2 (by decide)
  have u4 : ∀ n, n < 2 ^ 32 → ((nI n).toUInt32 >>> ((4 : Int32).toUInt32 &&& Int32.toUInt32 31)).toInt32 = nI (n / 16) := fun n hn => pk_ushrN hn 4 4 (by decide)
  have u8 : ∀ n, n < 2 ^ 32 → ((nI n).toUInt32 >>> ((8 : Int32).toUInt32 &&& Int32.toUInt32 31)).toInt32 = nI (n / 256) := fun n hn => pk_ushrN hn 8 8 (by decide)
  have u16 : ∀ n, n < 2 ^ 32 → ((nI n).toUInt32 >>> ((16 : Int32).toUInt32 &&& Int32.toUInt32 31)).toInt32 = nI (n / 65536) := fun n hn => pk_ushrN hn 16 16 (by decide)
  obtain ⟨a, b, c, hs, ea, ha, eb, hb, ec, hc, t4⟩ := bc_n h
  have l1 : m < 2 ^ 32 := Nat.lt_trans h (by decide)
  have l2 : a < 2 ^ 32 := Nat.lt_trans ha (by decide)
  have l3 : b < 2 ^ 32 := Nat.lt_trans hb (by decide)
  have l4 : c < 2 ^ 32 := Nat.lt_trans hc (by decide)
  have l5 : c + c / 256 < 2 ^ 32 := by clear ea eb ec t4 hs; omega
  have r1 : nI m - (((nI m).toUInt32 >>> ((1 : Int32).toUInt32 &&& Int32.toUInt32 31)).toInt32 &&& 1431655765) = nI a := by
    rw [u1 m l1, il 1431655765, q_and, pk_sub hs, ea]
  have r2 : (nI a &&& 858993459) + (((nI a).toUInt32 >>> ((2 : Int32).toUInt32 &&& Int32.toUInt32 31)).toInt32 &&& 858993459) = nI b := by
    rw [u2 a l2, il 858993459, q_and, q_and, nI_add, eb]
  have r3 : (nI b + ((nI b).toUInt32 >>> ((4 : Int32).toUInt32 &&& Int32.toUInt32 31)).toInt32) &&& 252645135 = nI c := by
    rw [u4 b l3, il 252645135, nI_add, q_and, ec]
  have r4 : nI c + ((nI c).toUInt32 >>> ((8 : Int32).toUInt32 &&& Int32.toUInt32 31)).toInt32 = nI (c + c / 256) := by
    rw [u8 c l4, nI_add]
  unfold kJ6_bitCount_0f7a4
  rw [r1, r2, r3, r4, u16 _ l5, nI_add, il 63, q_and, t4]
