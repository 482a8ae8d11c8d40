/-! walls, locks, small things (out of whole's parts 80 to 83, by wip/p26/walls.py) -/
def BF (F : Nat) : Prop := 1000 ≤ F ∧ 2 ^ 20 ≤ F ∧ rdsB 16 < F
theorem BF_ex : ∃ F, BF F := ⟨2 ^ 20 + rdsB 16 + 1, by rw [p20]; omega, by omega, by omega⟩
def CP (nb nw : Nat) : Prop := nw = nb ∧ 16 ≤ nb ∧ nb ≤ 2 ^ 19
theorem n10 : ¬ (1 : Int32) = 0 := by decide
theorem n20 : ¬ (2 : Int32) = 0 := by decide
theorem n21 : ¬ (2 : Int32) = 1 := by decide
theorem n01 : ¬ (0 : Nat) = 1 := by decide
theorem upd_fE0 (Y : Nat → Option Nat) (k : Nat) : upd (fE Y) k (-1) = fE (up Y k none) := by
  funext j
  unfold upd fE up
  split <;> rfl
/-- a wall set or taken away, in a mask -/
def wb (m s : Nat) (b : Bool) : Nat := clr m s ||| (if b = true then 2 ^ s else 0)
theorem wb_lt {m s : Nat} {b : Bool} (hs : s < 4) : wb m s b < 16 := by
  unfold wb
  refine or16 (clr_lt m s) ?_
  split
  · exact p16 hs
  · decide
theorem wb_tb {m s i : Nat} {b : Bool} (hs : s < 4) (hi : i < 4) : (wb m s b).testBit i = if i = s then b else m.testBit i := by
  unfold wb
  rw [Nat.testBit_or]
  have hc := clr_tb (m := m) hs hi
  by_cases e : i = s
  · subst e
    rw [if_pos rfl]
    have h1 : (clr m i).testBit i = false := by
      cases x : (clr m i).testBit i with
      | false => rfl
      | true => exact absurd rfl (hc.mp x).2
    rw [h1]
    cases b with
    | true => rw [if_pos rfl, (tb_p2 i i).mpr rfl]; rfl
    | false => rw [if_neg (by decide), Nat.zero_testBit]; rfl
  · rw [if_neg e]
    have h2 : (if b = true then 2 ^ s else 0 : Nat).testBit i = false := by
      cases b with
      | true =>
        rw [if_pos rfl]
        cases x : (2 ^ s).testBit i with
        | false => rfl
        | true => exact absurd ((tb_p2 s i).mp x) e
      | false => rw [if_neg (by decide), Nat.zero_testBit]
    rw [h2, Bool.or_false]
    cases x : m.testBit i with
    | true => exact hc.mpr ⟨x, e⟩
    | false =>
      cases y : (clr m s).testBit i with
      | false => rfl
      | true => rw [(hc.mp y).1] at x; cases x
theorem q_wb {m s : Nat} {b : Bool} {v : Int32} (hm : m < 16) (hs : s < 4) (hv : v = nI (if b = true then 2 ^ s else 0)) : (nI m &&& (((1 : Int32) <<< (nI s &&& 31)) ^^^ (-1))) ||| v = nI (wb m s b) := by
  rw [q_clr hm hs, hv, q_or]
  rfl
def W2 (Wm : Nat → Nat) (c s d : Nat) (b : Bool) : Nat → Nat := up (up Wm c (wb (Wm c) s b)) d (wb (up Wm c (wb (Wm c) s b) d) ((s + 2) % 4) b)
theorem W2_tb {Wm : Nat → Nat} {c s d c' s' : Nat} {b : Bool} (hs : s < 4) (hs' : s' < 4) (hcd : d ≠ c) : (W2 Wm c s d b c').testBit s' = if (c' = c ∧ s' = s) ∨ (c' = d ∧ s' = (s + 2) % 4) then b else (Wm c').testBit s' := by
  unfold W2
  by_cases e : c' = d
  · subst e
    rw [up_s, up_n hcd, wb_tb (s2_lt s) hs']
    by_cases e2 : s' = (s + 2) % 4
    · rw [if_pos e2, if_pos (Or.inr ⟨rfl, e2⟩)]
    · rw [if_neg e2, if_neg (by rintro (⟨h, -⟩ | ⟨-, h⟩); exact hcd h; exact e2 h)]
  · rw [up_n e]
    by_cases e3 : c' = c
    · subst e3
      rw [up_s, wb_tb hs hs']
      by_cases e2 : s' = s
      · rw [if_pos e2, if_pos (Or.inl ⟨rfl, e2⟩)]
      · rw [if_neg e2, if_neg (by rintro (⟨-, h⟩ | ⟨h, -⟩); exact e2 h; exact e h)]
    · rw [up_n e3, if_neg (by rintro (⟨h, -⟩ | ⟨h, -⟩); exact e3 h; exact e h)]
theorem W2_sy {w h : Nat} {g : Bool} {Wm : Nat → Nat} {c s d : Nat} {b : Bool} (o : okS w h g = true) (hsy : wsy w h g Wm) (hc : c < w * h) (hs : s < 4) (e : nbr w h g c s = some d) : wsy w h g (W2 Wm c s d b) := by
  obtain ⟨h1, h2, h3⟩ := nb_lt o hc hs e
  intro c' s' d' hc' hs' e'
  obtain ⟨k1, k2, k3⟩ := nb_lt o hc' hs' e'
  rw [W2_tb hs hs' h2, W2_tb hs (s2_lt s') h2, hsy c' s' d' hc' hs' e']
  have key : ((c' = c ∧ s' = s) ∨ (c' = d ∧ s' = (s + 2) % 4)) ↔ ((d' = c ∧ (s' + 2) % 4 = s) ∨ (d' = d ∧ (s' + 2) % 4 = (s + 2) % 4)) := by
    constructor
    · rintro (⟨rfl, rfl⟩ | ⟨rfl, rfl⟩)
      · rw [e] at e'; cases e'
        exact Or.inr ⟨rfl, rfl⟩
      · rw [h3] at e'; cases e'
        exact Or.inl ⟨rfl, s22 hs⟩
    · rintro (⟨rfl, q⟩ | ⟨rfl, q⟩)
      · rw [q] at k3
        rw [e] at k3; cases k3
        refine Or.inr ⟨rfl, ?_⟩
        rw [← q, s22 hs']
      · have : s' = s := by omega
        subst this
        rw [h3] at k3
        cases k3
        exact Or.inl ⟨rfl, rfl⟩
  by_cases q : (c' = c ∧ s' = s) ∨ (c' = d ∧ s' = (s + 2) % 4)
  · rw [if_pos q, if_pos (key.mp q)]
  · rw [if_neg q, if_neg (fun x => q (key.mpr x))]
theorem W2_Y {w h : Nat} {g : Bool} {Wm : Nat → Nat} {c s d : Nat} {b : Bool} {Y : Nat → Option Nat} (o : okS w h g = true) (hY : ∀ c s, c < 16 → s < 4 → Y (c * 4 + s) = Wyf w h g Wm c s) (hc : c < w * h) (hs : s < 4) (e : nbr w h g c s = some d) : ∀ c' s', c' < 16 → s' < 4 → up (up Y (c * 4 + s) (if b = true then none else some d)) (d * 4 + (s + 2) % 4) (if b = true then none else some c) (c' * 4 + s') = Wyf w h g (W2 Wm c s d b) c' s' := by
  obtain ⟨h1, h2, h3⟩ := nb_lt o hc hs e
  have h4 := s2_lt s
  intro c' s' hc' hs'
  unfold Wyf
  rw [W2_tb hs hs' h2]
  by_cases q1 : c' = d ∧ s' = (s + 2) % 4
  · obtain ⟨rfl, rfl⟩ := q1
    rw [up_s, if_pos h1, if_pos (Or.inr ⟨rfl, rfl⟩), h3]
  · rw [up_n (by omega)]
    by_cases q2 : c' = c ∧ s' = s
    · obtain ⟨rfl, rfl⟩ := q2
      rw [up_s, if_pos hc, if_pos (Or.inl ⟨rfl, rfl⟩), e]
    · have hno : ¬ ((c' = c ∧ s' = s) ∨ (c' = d ∧ s' = (s + 2) % 4)) := fun x => x.elim q2 q1
      rw [up_n (by omega), hY c' s' hc' hs', if_neg hno]
      rfl
theorem q_lock {m c : Nat} (hm : m < 2 ^ 16) (hc : c < 16) : nI m &&& (((1 : Int32) <<< (nI c &&& 31)) ^^^ (-1)) = nI (m &&& (65535 ^^^ 2 ^ c)) := by
  have e1 : (1 : Int32) <<< (nI c &&& 31) = nI (2 ^ c) := by
    rw [i1, q_shl (by omega) (by have := p2_lt hc; omega), Nat.one_mul]
  rw [e1]
  apply Int32.toBitVec_inj.1
  show BitVec.ofNat 32 m &&& (BitVec.ofNat 32 (2 ^ c) ^^^ BitVec.allOnes 32) = BitVec.ofNat 32 (m &&& (65535 ^^^ 2 ^ c))
  apply BitVec.eq_of_getLsbD_eq
  intro j hj
  rw [BitVec.getLsbD_and, BitVec.getLsbD_xor, BitVec.getLsbD_ofNat, BitVec.getLsbD_ofNat, BitVec.getLsbD_ofNat, BitVec.getLsbD_allOnes, Nat.testBit_and, Nat.testBit_xor, decide_eq_true hj, Bool.true_and, Bool.true_and, Bool.true_and]
  by_cases h16 : j < 16
  · have h : (65535 : Nat).testBit j = true := by
      rw [show (65535 : Nat) = 2 ^ 16 - 1 from rfl, Nat.testBit_two_pow_sub_one]
      exact decide_eq_true h16
    rw [h, Bool.xor_comm]
  · rw [Nat.testBit_lt_two_pow (Nat.lt_of_lt_of_le hm (Nat.pow_le_pow_right (by decide) (show 16 ≤ j by omega))), Bool.false_and, Bool.false_and]
theorem lock_tb {m c j : Nat} (hj : j < 16) : (m &&& (65535 ^^^ 2 ^ c)).testBit j = (m.testBit j && decide (j ≠ c)) := by
  have h : (65535 : Nat).testBit j = true := by
    rw [show (65535 : Nat) = 2 ^ 16 - 1 from rfl, Nat.testBit_two_pow_sub_one]
    exact decide_eq_true hj
  rw [Nat.testBit_and, Nat.testBit_xor, h]
  by_cases e : j = c
  · subst e; rw [(tb_p2 j j).mpr rfl, decide_eq_false (by simp)]; rfl
  · have : (2 ^ c).testBit j = false := by
      cases x : (2 ^ c).testBit j with
      | false => rfl
      | true => exact absurd ((tb_p2 c j).mp x) e
    rw [this, decide_eq_true e]; rfl
theorem okS_1 {w h : Nat} {g : Bool} (o : okS w h g = true) : 1 ≤ w * h := by
  obtain ⟨a, b, c, d, e⟩ := okS_b o
  exact Nat.mul_pos (show 0 < w by omega) (show 0 < h by omega)
