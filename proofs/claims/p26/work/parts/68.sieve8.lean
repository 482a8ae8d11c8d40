/-! the reference: what is struck -/
def RNi (n : Nat) (v : Nat → Int32) (L : Nat → Nat) : Prop := ∀ j, j < n → v j = nI (L j)
theorem bI_1 (b : Bool) : bI b = 1 ↔ b = true := by cases b <;> decide
theorem bI_e (a b : Bool) : bI a = bI b ↔ a = b := by cases a <;> cases b <;> decide
theorem q_bit {m k : Nat} (hm : m < 2 ^ 31) (hk : k < 32) : (nI m >>> (nI k &&& 31)) &&& 1 = bI (m.testBit k) := by
  rw [q_shr hk hm, i1, q_and, Nat.and_one_is_mod]
  have h2 : m / 2 ^ k % 2 < 2 := Nat.mod_lt _ (by decide)
  rw [tb_div]
  by_cases h : m / 2 ^ k % 2 = 0
  · rw [h]; rfl
  · have h1 : m / 2 ^ k % 2 = 1 := by omega
    rw [h1]; rfl
def clr (m k : Nat) : Nat := m &&& (15 - 2 ^ k)
theorem q_clr {m k : Nat} (hm : m < 16) (hk : k < 4) : nI m &&& (((1 : Int32) <<< (nI k &&& 31)) ^^^ (-1)) = nI (clr m k) := by
  have h : ∀ m, m < 16 → ∀ k, k < 4 → nI m &&& (((1 : Int32) <<< (nI k &&& 31)) ^^^ (-1)) = nI (clr m k) := by decide +kernel
  exact h m hm k hk
theorem clr_lt (m k : Nat) : clr m k < 16 := Nat.lt_of_le_of_lt Nat.and_le_right (Nat.lt_of_le_of_lt (Nat.sub_le 15 _) (by decide))
theorem clr_tb {m k i : Nat} (hk : k < 4) (hi : i < 4) : (clr m k).testBit i = true ↔ m.testBit i = true ∧ i ≠ k := by
  have h : ∀ k, k < 4 → ∀ i, i < 4 → (15 - 2 ^ k).testBit i = decide (i ≠ k) := by decide +kernel
  unfold clr
  rw [Nat.testBit_and, Bool.and_eq_true, h k hk i hi, decide_eq_true_iff]
section S8
variable {F n : Nat} {mw mh mg : Int32} {mW : Nat → Int32} {nb : Nat → Nat → Option Nat} {wl : Nat → Nat → Bool} {Wy : Nat → Nat → Option Nat} {T L : Nat → Nat} {v : Nat → Int32}
end S8
