/-! how many bits: Integer.bitCount below 65536 -/
theorem if_bit (m k : Nat) : (if m.testBit k then 1 else 0) = m / 2 ^ k % 2 := by
  rw [tb_div]
  have h2 : m / 2 ^ k % 2 < 2 := Nat.mod_lt _ (by decide)
  by_cases h : m / 2 ^ k % 2 = 0
  · rw [h]; rfl
  · have h1 : m / 2 ^ k % 2 = 1 := by omega
    rw [h1]; rfl
theorem and_pl (n M k : Nat) : n &&& M = (n % 2 ^ k &&& M % 2 ^ k) + 2 ^ k * (n / 2 ^ k &&& M / 2 ^ k) := by
  rw [← Nat.and_mod_two_pow, ← Nat.and_div_two_pow]
  exact (Nat.mod_add_div _ _).symm
theorem and_5 (n M M' : Nat) (h : M = 4 * M' + 1) : n &&& M = n % 2 + 4 * (n / 4 &&& M') := by
  have e := and_pl n M 2
  have h1 : M % 4 = 1 := by omega
  have h2 : M / 4 = M' := by omega
  rw [show (2 : Nat) ^ 2 = 4 from rfl, h1, h2, Nat.and_one_is_mod] at e
  rw [e]
  omega
theorem and_3 (n M M' : Nat) (h : M = 16 * M' + 3) : n &&& M = n % 4 + 16 * (n / 16 &&& M') := by
  have e := and_pl n M 4
  have h1 : M % 16 = 3 := by omega
  have h2 : M / 16 = M' := by omega
  rw [show (2 : Nat) ^ 4 = 16 from rfl, h1, h2, show (3 : Nat) = 2 ^ 2 - 1 from rfl, Nat.and_two_pow_sub_one_eq_mod, show (2 : Nat) ^ 2 = 4 from rfl] at e
  rw [e]
  omega
theorem and_f (n M M' : Nat) (h : M = 256 * M' + 15) : n &&& M = n % 16 + 256 * (n / 256 &&& M') := by
  have e := and_pl n M 8
  have h1 : M % 256 = 15 := by omega
  have h2 : M / 256 = M' := by omega
  rw [show (2 : Nat) ^ 8 = 256 from rfl, h1, h2, show (15 : Nat) = 2 ^ 4 - 1 from rfl, Nat.and_two_pow_sub_one_eq_mod, show (2 : Nat) ^ 4 = 16 from rfl] at e
  rw [e]
  omega
theorem c_5 {M1 M2 M3 M4 M5 M6 M7 M8 M9 n : Nat} (h1 : M1 = 4 * M2 + 1) (h2 : M2 = 4 * M3 + 1) (h3 : M3 = 4 * M4 + 1) (h4 : M4 = 4 * M5 + 1) (h5 : M5 = 4 * M6 + 1) (h6 : M6 = 4 * M7 + 1) (h7 : M7 = 4 * M8 + 1) (h8 : M8 = 4 * M9 + 1) (h : n < 65536) : n &&& M1 = n % 2 + 4 * (n / 4 % 2) + 16 * (n / 16 % 2) + 64 * (n / 64 % 2) + 256 * (n / 256 % 2) + 1024 * (n / 1024 % 2) + 4096 * (n / 4096 % 2) + 16384 * (n / 16384 % 2) := by
  have e1 := and_5 n M1 M2 h1
  have e2 := and_5 (n / 4) M2 M3 h2
  have e3 := and_5 (n / 16) M3 M4 h3
  have e4 := and_5 (n / 64) M4 M5 h4
  have e5 := and_5 (n / 256) M5 M6 h5
  have e6 := and_5 (n / 1024) M6 M7 h6
  have e7 := and_5 (n / 4096) M7 M8 h7
  have e8 := and_5 (n / 16384) M8 M9 h8
  rw [Nat.div_div_eq_div_mul] at e2 e3 e4 e5 e6 e7 e8
  rw [show n / (16384 * 4) = 0 from Nat.div_eq_of_lt h, Nat.zero_and] at e8
  rw [show 4 * 4 = 16 from rfl] at e2
  rw [show 16 * 4 = 64 from rfl] at e3
  rw [show 64 * 4 = 256 from rfl] at e4
  rw [show 256 * 4 = 1024 from rfl] at e5
  rw [show 1024 * 4 = 4096 from rfl] at e6
  rw [show 4096 * 4 = 16384 from rfl] at e7
  rw [e1, e2, e3, e4, e5, e6, e7, e8]
  generalize n % 2 = a0
  generalize n / 4 % 2 = a1
  generalize n / 16 % 2 = a2
  generalize n / 64 % 2 = a3
  generalize n / 256 % 2 = a4
  generalize n / 1024 % 2 = a5
  generalize n / 4096 % 2 = a6
  generalize n / 16384 % 2 = a7
  clear e1 e2 e3 e4 e5 e6 e7 e8 h1 h2 h3 h4 h5 h6 h7 h8 h
  omega
theorem c_3 {M1 M2 M3 M4 M5 n : Nat} (h1 : M1 = 16 * M2 + 3) (h2 : M2 = 16 * M3 + 3) (h3 : M3 = 16 * M4 + 3) (h4 : M4 = 16 * M5 + 3) (h : n < 65536) : n &&& M1 = n % 4 + 16 * (n / 16 % 4) + 256 * (n / 256 % 4) + 4096 * (n / 4096 % 4) := by
  have e1 := and_3 n M1 M2 h1
  have e2 := and_3 (n / 16) M2 M3 h2
  have e3 := and_3 (n / 256) M3 M4 h3
  have e4 := and_3 (n / 4096) M4 M5 h4
  rw [Nat.div_div_eq_div_mul] at e2 e3 e4
  rw [show n / (4096 * 16) = 0 from Nat.div_eq_of_lt h, Nat.zero_and] at e4
  rw [show 16 * 16 = 256 from rfl] at e2
  rw [show 256 * 16 = 4096 from rfl] at e3
  rw [e1, e2, e3, e4]
  generalize n % 4 = a0
  generalize n / 16 % 4 = a1
  generalize n / 256 % 4 = a2
  generalize n / 4096 % 4 = a3
  clear e1 e2 e3 e4 h1 h2 h3 h4 h
  omega
theorem c_f {M1 M2 M3 n : Nat} (h1 : M1 = 256 * M2 + 15) (h2 : M2 = 256 * M3 + 15) (h : n < 65536) : n &&& M1 = n % 16 + 256 * (n / 256 % 16) := by
  have e1 := and_f n M1 M2 h1
  have e2 := and_f (n / 256) M2 M3 h2
  rw [Nat.div_div_eq_div_mul, show n / (256 * 256) = 0 from Nat.div_eq_of_lt h, Nat.zero_and] at e2
  rw [e1, e2]
  omega
