/-! the board: neighbours, ways, joined sides -/
theorem bI_n : ¬ bI true = 0 := by decide
def nbr (w h : Nat) (g : Bool) (c s : Nat) : Option Nat :=
  if s = 0 then (if w ≤ c then some (c - w) else if g then some (c + w * (h - 1)) else none)
  else if s = 1 then (if c % w + 1 < w then some (c + 1) else if g then some (c + 1 - w) else none)
  else if s = 2 then (if c + w < w * h then some (c + w) else if g then some (c + w - w * h) else none)
  else (if 0 < c % w then some (c - 1) else if g then some (c + w - 1) else none)
def okS (w h : Nat) (g : Bool) : Bool := decide (2 ≤ w ∧ w ≤ 5 ∧ 2 ≤ h ∧ h ≤ 5 ∧ w * h ≤ 16) && (!g || decide (3 ≤ w ∧ 3 ≤ h ∧ w * h ≤ 12))
theorem okS_b {w h : Nat} {g : Bool} (o : okS w h g = true) : 2 ≤ w ∧ w ≤ 5 ∧ 2 ≤ h ∧ h ≤ 5 ∧ w * h ≤ 16 := by
  unfold okS at o
  rw [Bool.and_eq_true] at o
  exact of_decide_eq_true o.1
def enc (o : Option Nat) : Int32 := match o with
  | none => -1
  | some d => nI d
theorem enc_m1 {o : Option Nat} (h : ∀ d, o = some d → d < 2 ^ 31) : enc o = -1 ↔ o = none := by
  cases o with
  | none => exact ⟨fun _ => rfl, fun _ => rfl⟩
  | some d => exact ⟨fun e => absurd e (n_m1 (h d rfl)), fun e => by cases e⟩
def nbP (w h : Nat) (g : Bool) (c s : Nat) : Bool := !(okS w h g && decide (c < w * h)) || ((match nbr w h g c s with | none => true | some d => decide (d < w * h) && decide (d ≠ c) && decide (nbr w h g d ((s + 2) % 4) = some c)) && (List.range 4).all (fun s' => !(decide (nbr w h g c s = nbr w h g c s')) || (nbr w h g c s).isNone || decide (s = s')))
def nbA : Bool := (List.range 6).all fun w => (List.range 6).all fun h => [false, true].all fun g => (List.range 16).all fun c => (List.range 4).all fun s => nbP w h g c s
theorem nbA_t : nbA = true := by decide +kernel
theorem nb_all {w h : Nat} {g : Bool} (o : okS w h g = true) {c s : Nat} (hc : c < w * h) (hs : s < 4) : (match nbr w h g c s with | none => true | some d => decide (d < w * h) && decide (d ≠ c) && decide (nbr w h g d ((s + 2) % 4) = some c)) = true ∧ (List.range 4).all (fun s' => !(decide (nbr w h g c s = nbr w h g c s')) || (nbr w h g c s).isNone || decide (s = s')) = true := by
  obtain ⟨h1, h2, h3, h4, h5⟩ := okS_b o
  have t := nbA_t
  unfold nbA at t
  have t := List.all_eq_true.mp t w (List.mem_range.mpr (by omega))
  have t := List.all_eq_true.mp t h (List.mem_range.mpr (by omega))
  have t := List.all_eq_true.mp t g (by cases g <;> simp)
  have t := List.all_eq_true.mp t c (List.mem_range.mpr (by omega))
  have t := List.all_eq_true.mp t s (List.mem_range.mpr hs)
  unfold nbP at t
  rw [o, decide_eq_true hc] at t
  have t : (_ && _) = true := t
  rw [Bool.and_eq_true] at t
  exact ⟨t.1, t.2⟩
theorem nb_lt {w h : Nat} {g : Bool} (o : okS w h g = true) {c s d : Nat} (hc : c < w * h) (hs : s < 4) (e : nbr w h g c s = some d) : d < w * h ∧ d ≠ c ∧ nbr w h g d ((s + 2) % 4) = some c := by
  obtain ⟨k2, -⟩ := nb_all o hc hs
  rw [e] at k2
  have k2 : (_ && _ && _) = true := k2
  rw [Bool.and_eq_true, Bool.and_eq_true] at k2
  exact ⟨of_decide_eq_true k2.1.1, of_decide_eq_true k2.1.2, of_decide_eq_true k2.2⟩
theorem nb_one {w h : Nat} {g : Bool} (o : okS w h g = true) {c s s' d : Nat} (hc : c < w * h) (hs : s < 4) (hs' : s' < 4) (e : nbr w h g c s = some d) (e' : nbr w h g c s' = some d) : s = s' := by
  obtain ⟨-, k4⟩ := nb_all o hc hs
  have k := List.all_eq_true.mp k4 s' (List.mem_range.mpr hs')
  rw [e, e'] at k
  simpa using k
/-- what is asked of the ways between n cells: from c at the side s to another cell, and back -/
def WOK (n : Nat) (Wy : Nat → Nat → Option Nat) : Prop := n ≤ 16 ∧ (∀ c s d, s < 4 → Wy c s = some d → c < n ∧ d < n ∧ d ≠ c ∧ Wy d ((s + 2) % 4) = some c) ∧ ∀ c s s' d, s < 4 → s' < 4 → Wy c s = some d → Wy c s' = some d → s = s'
def fE (Y : Nat → Option Nat) : Nat → Int32 := fun j => enc (Y j)
theorem a_across {F c s : Nat} {Y : Nat → Option Nat} (hc : c < 16) (hs : s < 4) : kX0_across F (fE Y) (nI c) (nI s) = some (enc (Y (c * 4 + s))) := by
  unfold kX0_across
  rw [i4, pk_mul, nI_add, if_neg (nI_pos (by omega)), if_neg (show ¬ (64 : Int32) ≤ nI (c * 4 + s) from nI_ge (show c * 4 + s < 64 by omega) (by decide)), kg_i (ix_n (by omega) (by decide)) rfl, cl_n (by omega)]
  rfl
theorem a_beside {F c s : Nat} {Y : Nat → Option Nat} (hc : c < 16) (hs : s < 4) : kX0_beside F (fE Y) (nI c) (nI s) = some (enc (Y (c * 4 + s))) := by
  unfold kX0_beside
  rw [i4, pk_mul, nI_add, if_neg (nI_pos (by omega)), if_neg (show ¬ (64 : Int32) ≤ nI (c * 4 + s) from nI_ge (show c * 4 + s < 64 by omega) (by decide)), kg_i (ix_n (by omega) (by decide)) rfl, cl_n (by omega)]
  rfl
theorem a_sidesOf {F c : Nat} {p : Nat → Int32} (hc : c < 16) : kX0_sidesOf F p (nI c) = some (p c) := by
  unfold kX0_sidesOf
  exact ob_i (a_at (by decide) hc) rfl
def jnd (Wy : Nat → Nat → Option Nat) (T : Nat → Nat) (c s : Nat) : Bool := match Wy c s with
  | none => false
  | some d => (T c).testBit s && (T d).testBit ((s + 2) % 4)
theorem s2_lt (s : Nat) : (s + 2) % 4 < 4 := Nat.mod_lt _ (by decide)
theorem a_joins0 {F n c s : Nat} {Wy : Nat → Nat → Option Nat} {T : Nat → Nat} {Y : Nat → Option Nat} (hW : WOK n Wy) (hT : ∀ j, T j < 16) (hY : ∀ c s, c < 16 → s < 4 → Y (c * 4 + s) = Wy c s) (hc : c < 16) (hs : s < 4) : kX0_joins F (fN T) (fE Y) (nI c) (nI s) = some (bI (jnd Wy T c s)) := by
  unfold kX0_joins jnd
  refine ob_i (a_across hc hs) ?_
  rw [hY c s hc hs]
  cases e : Wy c s with
  | none => rw [if_pos (show enc none = -1 from rfl)]; rfl
  | some d =>
    obtain ⟨-, hd, -⟩ := hW.2.1 c s d hs e
    have hd16 : d < 16 := Nat.lt_of_lt_of_le hd hW.1
    rw [if_neg (show ¬ enc (some d) = -1 from n_m1 (by omega))]
    show _ = some (bI ((T c).testBit s && (T d).testBit ((s + 2) % 4)))
    refine ob_i (a_at (by decide) hc) ?_
    refine ob_i (a_holds (show T c < 2 ^ 31 by have := hT c; omega) (by omega)) ?_
    cases b1 : (T c).testBit s with
    | false => rw [if_pos bI_f]; rfl
    | true =>
      rw [if_neg bI_n]
      refine ob_i (a_at (p := fN T) (by decide) hd16) ?_
      refine ob_i (a_opposite hs) ?_
      refine ob_i (a_holds (show T d < 2 ^ 31 by have := hT d; omega) (by have := s2_lt s; omega)) ?_
      cases b2 : (T d).testBit ((s + 2) % 4) with
      | false => rw [if_pos bI_f]; rfl
      | true => rw [if_neg bI_n]; rfl