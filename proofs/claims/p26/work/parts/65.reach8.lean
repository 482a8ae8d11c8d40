/-! the reference: what is reached -/
def RB (R : Nat → Int32) (ρ : Nat → Bool) : Prop := ∀ i, i < 16 → R i = bI (ρ i)
theorem RB.st {R : Nat → Int32} {ρ : Nat → Bool} (h : RB R ρ) {c : Nat} (hc : c < 16) (b : Bool) : RB (upd R (nI c).toNatClampNeg (vp_nar .boolean (bI b))) (up ρ c b) := by
  intro i hi
  rw [cl_n (by omega), nar_b]
  unfold up
  by_cases e : i = c
  · subst e; rw [pk_us, if_pos rfl]
  · rw [pk_un e, if_neg e]; exact h i hi
section RE
variable {F n : Nat} {mw mh mg : Int32} {mW : Nat → Int32} {nb : Nat → Nat → Option Nat} {wl : Nat → Nat → Bool} {Wy : Nat → Nat → Option Nat} {T : Nat → Nat}
end RE
