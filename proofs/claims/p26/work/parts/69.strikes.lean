/-! the reference: strikes, lays -/
section ST
variable {F n : Nat} {mw mh mg : Int32} {mW : Nat → Int32} {nb : Nat → Nat → Option Nat} {wl : Nat → Nat → Bool} {Wy : Nat → Nat → Option Nat} {T L : Nat → Nat} {v : Nat → Int32}
/-- a circle over the side s, whose neighbour is d, and a side before it -/
def CircAt (Wy : Nat → Nat → Option Nat) (T L : Nat → Nat) (c k s i : Nat) : Prop := ∃ d s2 d2, s2 < i ∧ Wy c s = some d ∧ Wy c s2 = some d2 ∧ opL T c k s ∧ opL T c k s2 ∧ Rc (SA Wy T L c) d d2
/-- how many lays the reference gives a tile -/
def laysN (t : Nat) (b : Bool) : Nat := if b = true ∨ t = 0 ∨ t = 15 then 1 else if t = 5 ∨ t = 10 then 2 else 4
theorem own_lays {t : Nat} (b : Bool) (ht : t < 16) : 2 ^ laysN t b - 1 = ownM t b := by
  have h : ∀ t, t < 16 → ∀ b : Bool, 2 ^ laysN t b - 1 = ownM t b := by decide +kernel
  exact h t ht b
theorem laysN_le (t : Nat) (b : Bool) : laysN t b ≤ 4 := by
  unfold laysN
  split
  · decide
  · split <;> decide
theorem RNi.st {L : Nat → Nat} (h : RNi n v L) {c : Nat} (hc : c < 16) (m : Nat) : RNi n (upd v (nI c).toNatClampNeg (nI m)) (up L c m) := by
  intro i hi
  rw [cl_n (by omega)]
  by_cases e : i = c
  · subst e; rw [pk_us, up_s]
  · rw [pk_un e, up_n e]; exact h i hi
theorem up_clr {L : Nat → Nat} {c k : Nat} (hL : ∀ j, L j < 16) (hk : k < 4) : (∀ j, up L c (clr (L c) k) j < 16) ∧ subM (up L c (clr (L c) k)) L := by
  have h1 : ∀ j, up L c (clr (L c) k) j < 16 := by
    intro j; unfold up; split
    · exact clr_lt _ _
    · exact hL j
  refine ⟨h1, subM.of h1 (fun j i hi hb => ?_)⟩
  by_cases e : j = c
  · subst e; rw [up_s] at hb; exact ((clr_tb hk hi).mp hb).1
  · rw [up_n e] at hb; exact hb
end ST
