/-! begin, on both sides -/
def lnk (w h : Nat) (g : Bool) (c d s : Nat) : Option Nat := if d < w * h then (match nbr w h g d s with
  | none => none
  | some e => if s = 1 ∨ s = 2 then (if d < c then some e else none) else (if e < c then some e else none)) else none
def lnkP (w h : Nat) (g : Bool) (c d s : Nat) : Bool := !(okS w h g && decide (c < w * h)) || decide (lnk w h g (c + 1) d s = (if s = 0 then (if nbr w h g c 2 = some d then some c else lnk w h g c d 0) else if s = 1 then (if d = c then nbr w h g c 1 else lnk w h g c d 1) else if s = 2 then (if d = c then nbr w h g c 2 else lnk w h g c d 2) else (if nbr w h g c 1 = some d then some c else lnk w h g c d 3)))
def lnkA : Bool := (List.range 6).all fun w => (List.range 6).all fun h => [false, true].all fun g => (List.range 16).all fun c => (List.range 16).all fun d => (List.range 4).all fun s => lnkP w h g c d s
theorem lnkA_t : lnkA = true := by decide +kernel
theorem lnk_s {w h : Nat} {g : Bool} (o : okS w h g = true) {c d s : Nat} (hc : c < w * h) (hd : d < 16) (hs : s < 4) : lnk w h g (c + 1) d s = (if s = 0 then (if nbr w h g c 2 = some d then some c else lnk w h g c d 0) else if s = 1 then (if d = c then nbr w h g c 1 else lnk w h g c d 1) else if s = 2 then (if d = c then nbr w h g c 2 else lnk w h g c d 2) else (if nbr w h g c 1 = some d then some c else lnk w h g c d 3)) := by
  obtain ⟨h1, h2, h3, h4, h5⟩ := okS_b o
  have t := lnkA_t
  unfold lnkA at t
  have t := List.all_eq_true.mp t w (List.mem_range.mpr (by omega))
  have t := List.all_eq_true.mp t h (List.mem_range.mpr (by omega))
  have t := List.all_eq_true.mp t g (by cases g <;> simp)
  have t := List.all_eq_true.mp t c (List.mem_range.mpr (by omega))
  have t := List.all_eq_true.mp t d (List.mem_range.mpr hd)
  have t := List.all_eq_true.mp t s (List.mem_range.mpr hs)
  unfold lnkP at t
  rw [o, decide_eq_true hc] at t
  exact of_decide_eq_true t
theorem lnk_0 {w h : Nat} {g : Bool} (d s : Nat) : lnk w h g 0 d s = none := by
  unfold lnk
  split
  · cases nbr w h g d s with
    | none => rfl
    | some e =>
      show (if s = 1 ∨ s = 2 then (if d < 0 then some e else none) else (if e < 0 then some e else none)) = none
      rw [if_neg (Nat.not_lt_zero d), if_neg (Nat.not_lt_zero e), ite_self]
  · rfl
theorem lnk_n {w h : Nat} {g : Bool} (o : okS w h g = true) {d s : Nat} (hd : d < w * h) (hs : s < 4) : lnk w h g (w * h) d s = nbr w h g d s := by
  unfold lnk
  rw [if_pos hd]
  cases e : nbr w h g d s with
  | none => rfl
  | some x =>
    have hx := (nb_lt o hd hs e).1
    show (if s = 1 ∨ s = 2 then (if d < w * h then some x else none) else (if x < w * h then some x else none)) = some x
    rw [if_pos hd, if_pos hx, ite_self]
theorem upd_fE (Y : Nat → Option Nat) (k d : Nat) : upd (fE Y) k (nI d) = fE (up Y k (some d)) := by
  funext j
  unfold upd fE up
  split <;> rfl
section BG
variable {F n w h : Nat} {g : Bool}
theorem a_link {c s d : Nat} {N : Nat → Option Nat} (hn : n ≤ 16) (hc : c < n) (hd : d < n) (hs : s < 4) : kX0_link F (nI n) (fE N) (nI c) (nI s) (nI d) = some (fE (up (up N (c * 4 + s) (some d)) (d * 4 + (s + 2) % 4) (some c))) := by
  have h2 := s2_lt s
  unfold kX0_link
  refine ob_i (a_has hn (by omega)) ?_
  rw [decide_eq_true hc, if_neg bI_n]
  refine ob_i (a_has hn (by omega)) ?_
  rw [decide_eq_true hd, if_neg bI_n, i4, pk_mul, nI_add, if_pos (ix_n (show c * 4 + s < 64 by omega) (by decide))]
  refine ob_i (a_opposite hs) ?_
  rw [pk_mul, nI_add, if_pos (ix_n (show d * 4 + (s + 2) % 4 < 64 by omega) (by decide)), cl_n (by omega), cl_n (by omega), upd_fE, upd_fE]
def z16 (T : Nat → Nat) : Nat → Nat := fun q => if q < 16 then 0 else T q
theorem z16_lt {T : Nat → Nat} (hT : ∀ j, T j < 16) (j : Nat) : z16 T j < 16 := by
  unfold z16
  split
  · decide
  · exact hT j
/-- a row of the neighbours as far as the cells before c have been linked -/
def LK (w h : Nat) (g : Bool) (c : Nat) (N : Nat → Option Nat) : Prop := ∀ d s, d < 16 → s < 4 → N (d * 4 + s) = lnk w h g c d s
/-- after the link of c to the RIGHT -/
def LKr (w h : Nat) (g : Bool) (c : Nat) (N : Nat → Option Nat) : Prop := ∀ d s, d < 16 → s < 4 → N (d * 4 + s) = if s = 1 then (if d = c then nbr w h g c 1 else lnk w h g c d 1) else if s = 3 then (if nbr w h g c 1 = some d then some c else lnk w h g c d 3) else lnk w h g c d s
theorem lnk_c {c s : Nat} (hs : s = 1 ∨ s = 2) : lnk w h g c c s = none := by
  unfold lnk
  by_cases hcc : c < w * h
  · rw [if_pos hcc]
    cases nbr w h g c s with
    | none => rfl
    | some e =>
      show (if s = 1 ∨ s = 2 then (if c < c then some e else none) else (if e < c then some e else none)) = none
      rw [if_pos hs, if_neg (Nat.lt_irrefl c)]
  · rw [if_neg hcc]
theorem LK.r {c : Nat} {N : Nat → Option Nat} (h1 : LK w h g c N) (e : nbr w h g c 1 = none) : LKr w h g c N := by
  intro d s hd hs
  rw [h1 d s hd hs]
  by_cases e1 : s = 1
  · subst e1
    rw [if_pos rfl]
    by_cases ed : d = c
    · subst ed; rw [if_pos rfl, e]; exact lnk_c (Or.inl rfl)
    · rw [if_neg ed]
  · rw [if_neg e1]
    by_cases e3 : s = 3
    · subst e3; rw [if_pos rfl, if_neg (by rw [e]; intro x; cases x)]
    · rw [if_neg e3]
theorem LK.r' {c e : Nat} {N : Nat → Option Nat} (hc : c < 16) (he : e < 16) (h1 : LK w h g c N) (hx : nbr w h g c 1 = some e) : LKr w h g c (up (up N (c * 4 + 1) (some e)) (e * 4 + (1 + 2) % 4) (some c)) := by
  intro d s hd hs
  by_cases e3 : s = 3
  · subst e3
    rw [if_neg (by decide), if_pos rfl]
    by_cases ed : d = e
    · subst ed; rw [if_pos hx, up_s]
    · rw [if_neg (by rw [hx]; intro x; cases x; exact ed rfl), up_n (by omega), up_n (by omega)]
      exact h1 d 3 hd hs
  · rw [up_n (by omega)]
    by_cases e1 : s = 1
    · subst e1
      rw [if_pos rfl]
      by_cases ed : d = c
      · subst ed; rw [if_pos rfl, up_s, hx]
      · rw [if_neg ed, up_n (by omega)]; exact h1 d 1 hd hs
    · rw [if_neg e1, if_neg e3, up_n (by omega)]
      exact h1 d s hd hs
theorem LKr.d {c : Nat} {N : Nat → Option Nat} (o : okS w h g = true) (hc : c < w * h) (h1 : LKr w h g c N) (e : nbr w h g c 2 = none) : LK w h g (c + 1) N := by
  intro d s hd hs
  rw [h1 d s hd hs, lnk_s o hc hd hs]
  have hs' : s = 0 ∨ s = 1 ∨ s = 2 ∨ s = 3 := by omega
  rcases hs' with rfl | rfl | rfl | rfl
  · rw [if_neg (by decide), if_neg (by decide), if_pos rfl, if_neg (by rw [e]; intro x; cases x)]
  · rfl
  · rw [if_neg (by decide), if_neg (by decide), if_neg (by decide), if_neg (by decide), if_pos rfl]
    by_cases ed : d = c
    · subst ed; rw [if_pos rfl, e]; exact lnk_c (Or.inr rfl)
    · rw [if_neg ed]
  · rfl
theorem LKr.d' {c e : Nat} {N : Nat → Option Nat} (o : okS w h g = true) (hc : c < w * h) (hc16 : c < 16) (he : e < 16) (h1 : LKr w h g c N) (hx : nbr w h g c 2 = some e) : LK w h g (c + 1) (up (up N (c * 4 + 2) (some e)) (e * 4 + (2 + 2) % 4) (some c)) := by
  intro d s hd hs
  rw [lnk_s o hc hd hs]
  have hs' : s = 0 ∨ s = 1 ∨ s = 2 ∨ s = 3 := by omega
  rcases hs' with rfl | rfl | rfl | rfl
  · rw [if_pos rfl]
    by_cases ed : d = e
    · subst ed; rw [if_pos hx, up_s]
    · rw [if_neg (by rw [hx]; intro x; cases x; exact ed rfl), up_n (by omega), up_n (by omega), h1 d 0 hd hs]
      rfl
  · rw [up_n (by omega), up_n (by omega), h1 d 1 hd hs]
    rfl
  · rw [if_neg (by decide), if_neg (by decide), if_pos rfl, up_n (by omega)]
    by_cases ed : d = c
    · subst ed; rw [if_pos rfl, up_s, hx]
    · rw [if_neg ed, up_n (by omega), h1 d 2 hd hs]
      rfl
  · rw [up_n (by omega), up_n (by omega), h1 d 3 hd hs]
    rfl
theorem a_clear48 {row : Nat} {C : Nat → Int32} {N : Nat → Option Nat} (o : okS w h g = true) (hrow : row < h) (hC : ∀ i, i < row * w → C i = nI (i % w)) (hN : LK w h g (row * w) N) (hF : 1000 ≤ F) : Ex (kloop F (fun s_ => kX0_clear_s48 F (nI w) (nI h) (bI g) (nI row) s_.1 s_.2.1 s_.2.2.1 s_.2.2.2) (nI (row * w), 0, C, fE N)) (fun r => r.1 = nI ((row + 1) * w) ∧ (∀ i, i < (row + 1) * w → r.2.1 i = nI (i % w)) ∧ ∃ N', r.2.2 = fE N' ∧ LK w h g ((row + 1) * w) N') := by
  obtain ⟨w2, w5, h2, h5, hn⟩ := okS_b o
  have hrw : (row + 1) * w ≤ w * h := by rw [Nat.mul_comm w h]; exact Nat.mul_le_mul_right w hrow
  rw [Nat.add_mul, Nat.one_mul] at hrw
  refine Ex.fr w (fun col s => s.1 = nI (row * w + col) ∧ s.2.1 = nI col ∧ (∀ i, i < row * w + col → s.2.2.1 i = nI (i % w)) ∧ ∃ N', s.2.2.2 = fE N' ∧ LK w h g (row * w + col) N') ⟨rfl, rfl, hC, N, rfl, hN⟩ ?_ ?_ (by omega)
  · rintro col ⟨s0, s1, C1, N1⟩ hcol ⟨e0, e1, hC1, N', e2, hN'⟩
    have e0 : s0 = nI (row * w + col) := e0
    have e1 : s1 = nI col := e1
    have e2 : N1 = fE N' := e2
    subst e0 e1 e2
    have hC1 : ∀ i, i < row * w + col → C1 i = nI (i % w) := hC1
    generalize hc : row * w + col = c at *
    have hcn : c < w * h := by omega
    have hc16 : c < 16 := by omega
    have hcw : c % w = col := by rw [← hc, Nat.add_comm, Nat.add_mul_mod_self_right, Nat.mod_eq_of_lt hcol]
    show Ex (kX0_clear_s48 F (nI w) (nI h) (bI g) (nI row) (nI c) (nI col) C1 (fE N')) _
    unfold kX0_clear_s48
    rw [i1, pk_sub (show 1 ≤ w by omega), pk_mul, nI_add, pk_sub (show col ≤ c by omega)]
    refine Ex.f (nI_ge hcol (by omega)) (Ex.f (show ¬ (16 : Int32) ≤ nI c from nI_ge hc16 (by decide)) (Ex.t (ix_n hc16 (by decide)) ?_))
    -- DOWN, behind RIGHT
    have down : ∀ N2, LKr w h g c N2 → Ex (kX0_clear_j109 F (nI w) (nI h) (bI g) (nI row) (nI c) (nI col) C1 (fE N2)) (onS (fun s => s.1 = nI (row * w + (col + 1)) ∧ s.2.1 = nI (col + 1) ∧ (∀ i, i < row * w + (col + 1) → s.2.2.1 i = nI (i % w)) ∧ ∃ N', s.2.2.2 = fE N' ∧ LK w h g (row * w + (col + 1)) N') (fun r => r.1 = nI ((row + 1) * w) ∧ (∀ i, i < (row + 1) * w → r.2.1 i = nI (i % w)) ∧ ∃ N', r.2.2 = fE N' ∧ LK w h g ((row + 1) * w) N')) := by
      intro N2 hN2
      have fin : ∀ N3, LK w h g (c + 1) N3 → Ex (kX0_clear_j145 F (nI c) (nI col) C1 (fE N3)) (onS (fun s => s.1 = nI (row * w + (col + 1)) ∧ s.2.1 = nI (col + 1) ∧ (∀ i, i < row * w + (col + 1) → s.2.2.1 i = nI (i % w)) ∧ ∃ N', s.2.2.2 = fE N' ∧ LK w h g (row * w + (col + 1)) N') (fun r => r.1 = nI ((row + 1) * w) ∧ (∀ i, i < (row + 1) * w → r.2.1 i = nI (i % w)) ∧ ∃ N', r.2.2 = fE N' ∧ LK w h g ((row + 1) * w) N')) := by
        intro N3 hN3
        unfold kX0_clear_j145
        rw [cl_n (show c < 2 ^ 31 by omega), ← Nat.add_assoc, hc]
        refine Ex.v ⟨nI_1 c, nI_1 col, fun i hi => ?_, N3, rfl, hN3⟩
        show upd C1 c (nI col) i = _
        by_cases ei : i = c
        · subst ei; rw [pk_us, hcw]
        · rw [pk_un ei]; exact hC1 i (by omega)
      unfold kX0_clear_j109
      rw [i1, pk_sub (show 1 ≤ h by omega), pk_mul, nI_add]
      by_cases hr : row + 1 < h
      · have hdn : c + w < w * h := by
          have : (row + 2) * w ≤ w * h := by rw [Nat.mul_comm w h]; exact Nat.mul_le_mul_right w (by omega)
          rw [Nat.add_mul] at this
          omega
        have hx : nbr w h g c 2 = some (c + w) := by
          unfold nbr
          rw [if_neg (by decide), if_neg (by decide), if_pos rfl, if_pos hdn]
        have hl := fin _ (LKr.d' o hcn hc16 (show c + w < 16 by omega) hN2 hx)
        have hle : ¬ nI (h - 1) ≤ nI row := nI_ge (by omega) (by omega)
        have el := a_link (F := F) (N := N2) (s := 2) hn hcn hdn (by decide)
        cases g with
        | false => exact Ex.t bI_f (Ex.f hle (Ex.f hle (Ex.o el hl)))
        | true => exact Ex.f bI_n (Ex.f hle (Ex.o el hl))
      · have hnd : ¬ c + w < w * h := by
          have : w * h = (row + 1) * w := by rw [show h = row + 1 by omega, Nat.mul_comm]
          rw [Nat.add_mul, Nat.one_mul] at this
          omega
        have hle : nI (h - 1) ≤ nI row := nI_le (by omega) (by omega)
        cases g with
        | false =>
          have hx : nbr w h false c 2 = none := by
            unfold nbr
            rw [if_neg (by decide), if_neg (by decide), if_pos rfl, if_neg hnd]; rfl
          exact Ex.t bI_f (Ex.t hle (fin N2 (LKr.d o hcn hN2 hx)))
        | true =>
          have hx : nbr w h true c 2 = some (c + w - w * h) := by
            unfold nbr
            rw [if_neg (by decide), if_neg (by decide), if_pos rfl, if_neg hnd]; rfl
          have ec : c + w - w * h = col := by
            have : w * h = (row + 1) * w := by rw [show h = row + 1 by omega, Nat.mul_comm]
            rw [Nat.add_mul, Nat.one_mul] at this
            omega
          rw [ec] at hx
          have hl := fin _ (LKr.d' o hcn hc16 (show col < 16 by omega) hN2 hx)
          exact Ex.f bI_n (Ex.t hle (Ex.o (a_link hn hcn (show col < w * h by omega) (by decide)) hl))
    by_cases hr : col + 1 < w
    · have hx : nbr w h g c 1 = some (c + 1) := by
        unfold nbr
        rw [if_neg (by decide), if_pos rfl, hcw, if_pos hr]
      have hd := down _ (LK.r' hc16 (show c + 1 < 16 by omega) hN' hx)
      have el := a_link (F := F) (N := N') (s := 1) hn hcn (show c + 1 < w * h by omega) (by decide)
      have hle : ¬ nI (w - 1) ≤ nI col := nI_ge (by omega) (by omega)
      cases g with
      | false => exact Ex.t bI_f (Ex.f hle (Ex.f hle (Ex.o el hd)))
      | true => exact Ex.f bI_n (Ex.f hle (Ex.o el hd))
    · have hle : nI (w - 1) ≤ nI col := nI_le (by omega) (by omega)
      cases g with
      | false =>
        have hx : nbr w h false c 1 = none := by
          unfold nbr
          rw [if_neg (by decide), if_pos rfl, hcw, if_neg hr]; rfl
        exact Ex.t bI_f (Ex.t hle (down N' (LK.r hN' hx)))
      | true =>
        have hx : nbr w h true c 1 = some (c + 1 - w) := by
          unfold nbr
          rw [if_neg (by decide), if_pos rfl, hcw, if_neg hr]; rfl
        have ec : c + 1 - w = c - col := by omega
        rw [ec] at hx
        have hd := down _ (LK.r' hc16 (show c - col < 16 by omega) hN' hx)
        exact Ex.f bI_n (Ex.t hle (Ex.o (a_link hn hcn (show c - col < w * h by omega) (by decide)) hd))
  · rintro ⟨s0, s1, C1, N1⟩ ⟨e0, e1, hC1, N', e2, hN'⟩
    have e1 : s1 = nI w := e1
    subst e1
    show Ex (kX0_clear_s48 F (nI w) (nI h) (bI g) (nI row) s0 (nI w) C1 N1) _
    unfold kX0_clear_s48
    refine Ex.t (nI_le (Nat.le_refl w) (by omega)) (Ex.v ?_)
    rw [Nat.add_mul, Nat.one_mul]
    exact ⟨e0, hC1, N', e2, hN'⟩
theorem fill_fN {T : Nat → Nat} {r : Nat → Int32} (h1 : ∀ q, q < 16 → r q = 0) (h2 : ∀ q, 16 ≤ q → r q = fN T q) : r = fN (z16 T) := by
  funext q
  unfold fN z16
  by_cases hq : q < 16
  · rw [h1 q hq, if_pos hq]; rfl
  · rw [h2 q (by omega), if_neg hq]; rfl
theorem a_clear {T : Nat → Nat} {bn bk bs : Int32} {bC : Nat → Int32} {N0 Y0 : Nat → Option Nat} (o : okS w h g = true) (hF : 1000 ≤ F) : Ex (kX0_clear F bn bk bs (fN T) bC (fE N0) (fE Y0) (nI w) (nI h) (bI g)) (fun r => r.1 = nI (w * h) ∧ r.2.1 = nI 0 ∧ r.2.2.1 = nI 0 ∧ r.2.2.2.1 = fN (z16 T) ∧ (∀ c, c < w * h → r.2.2.2.2.1 c = nI (c % w)) ∧ ∃ N Y, r.2.2.2.2.2.1 = fE N ∧ r.2.2.2.2.2.2 = fE Y ∧ (∀ c s, c < w * h → s < 4 → N (c * 4 + s) = nbr w h g c s) ∧ ∀ c s, c < 16 → s < 4 → Y (c * 4 + s) = if c < w * h then nbr w h g c s else none) := by
  obtain ⟨w2, w5, h2, h5, hn⟩ := okS_b o
  unfold kX0_clear
  refine Ex.b (a_fill (n := 16) (x := 0) (by decide) hF) ?_
  rintro r1 ⟨g1, g2⟩
  refine Ex.b (a_fill (n := 64) (x := -1) (by decide) hF) ?_
  rintro r2 ⟨g3, g4⟩
  have e1 := fill_fN g1 g2
  have e2 : r2 = fE (fun q => if q < 64 then none else N0 q) := by
    funext q
    unfold fE
    by_cases hq : q < 64
    · rw [g3 q hq]
      show (-1 : Int32) = enc (if q < 64 then none else N0 q)
      rw [if_pos hq]; rfl
    · rw [g4 q (by omega)]
      show fE N0 q = enc (if q < 64 then none else N0 q)
      rw [if_neg hq]; rfl
  subst e2
  refine Ex.b (P := fun r => (∀ i, i < w * h → r.1 i = nI (i % w)) ∧ ∃ N', r.2 = fE N' ∧ LK w h g (w * h) N') (Ex.fr h (fun row s => s.1 = nI (row * w) ∧ s.2.1 = nI row ∧ (∀ i, i < row * w → s.2.2.1 i = nI (i % w)) ∧ ∃ N', s.2.2.2 = fE N' ∧ LK w h g (row * w) N') ⟨by rw [Nat.zero_mul]; rfl, rfl, fun i hi => by rw [Nat.zero_mul] at hi; exact absurd hi (Nat.not_lt_zero i), _, rfl, fun d s hd hs => ?_⟩ ?_ ?_ (by omega)) ?_
  · rw [Nat.zero_mul, lnk_0]
    exact if_pos (by omega)
  · rintro row ⟨s0, s1, C1, N1⟩ hrow ⟨q0, q1, hC1, N', q2, hN'⟩
    have q0 : s0 = nI (row * w) := q0
    have q1 : s1 = nI row := q1
    have q2 : N1 = fE N' := q2
    subst q0 q1 q2
    show Ex (kX0_clear_s39 F (nI w) (nI h) (bI g) (nI (row * w)) (nI row) C1 (fE N')) _
    unfold kX0_clear_s39
    refine Ex.f (nI_ge hrow (by omega)) (Ex.b (a_clear48 o hrow hC1 hN' hF) ?_)
    rintro ⟨t0, t1, t2⟩ ⟨k0, k1, N2, k2, k3⟩
    exact Ex.v ⟨k0, nI_1 row, k1, N2, k2, k3⟩
  · rintro ⟨s0, s1, C1, N1⟩ ⟨q0, q1, hC1, N', q2, hN'⟩
    have q1 : s1 = nI h := q1
    subst q1
    show Ex (kX0_clear_s39 F (nI w) (nI h) (bI g) s0 (nI h) C1 N1) _
    unfold kX0_clear_s39
    refine Ex.t (nI_le (Nat.le_refl h) (by omega)) (Ex.v ?_)
    rw [Nat.mul_comm w h]
    exact ⟨hC1, N', q2, hN'⟩
  · rintro ⟨C1, N1⟩ ⟨hC1, N', q2, hN'⟩
    have q2 : N1 = fE N' := q2
    subst q2
    refine Ex.t (by decide) (Ex.v ⟨pk_mul w h, rfl, rfl, e1, hC1, N', fun j => if j < 64 then N' j else Y0 j, rfl, ?_, fun c s hc hs => ?_, fun c s hc hs => ?_⟩)
    · show va_cpy (fE N') (fE Y0) (0 : Int32).toNatClampNeg (0 : Int32).toNatClampNeg (64 : Int32).toNatClampNeg = _
      rw [show (0 : Int32).toNatClampNeg = 0 from rfl, show (64 : Int32).toNatClampNeg = 64 from rfl]
      funext j
      by_cases hj : j < 64
      · rw [pk_cpy_in (Nat.zero_le j) (show j < 0 + 64 by omega), show 0 + (j - 0) = j by omega]
        show enc (N' j) = enc (if j < 64 then N' j else Y0 j)
        rw [if_pos hj]
      · rw [pk_cpy_out (Or.inr (show 0 + 64 ≤ j by omega))]
        show enc (Y0 j) = enc (if j < 64 then N' j else Y0 j)
        rw [if_neg hj]
    · rw [hN' c s (by omega) hs, lnk_n o hc hs]
    · show (if c * 4 + s < 64 then N' (c * 4 + s) else Y0 (c * 4 + s)) = _
      rw [if_pos (by omega), hN' c s hc hs]
      by_cases hcn : c < w * h
      · rw [if_pos hcn, lnk_n o hcn hs]
      · rw [if_neg hcn]
        unfold lnk
        rw [if_neg hcn]
end BG
