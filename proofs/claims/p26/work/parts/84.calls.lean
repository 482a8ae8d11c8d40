/-! what the class's calls answer -/
def BD (w h : Nat) (g : Bool) (T Wm : Nat → Nat) (lm src : Nat) (bn bk bs : Int32) (bT bC bN bW : Nat → Int32) : Prop := okS w h g = true ∧ (∀ j, T j < 16) ∧ (∀ j, Wm j < 16) ∧ wsy w h g Wm ∧ lm < 2 ^ 16 ∧ src < w * h ∧ bn = nI (w * h) ∧ bk = nI lm ∧ bs = nI src ∧ bT = fN T ∧ (∀ c, c < w * h → bC c = nI (c % w)) ∧ ∃ N Y, bN = fE N ∧ bW = fE Y ∧ (∀ c s, c < w * h → s < 4 → N (c * 4 + s) = nbr w h g c s) ∧ ∀ c s, c < 16 → s < 4 → Y (c * 4 + s) = Wyf w h g Wm c s
def HS (n dn ke : Nat) (hist : Nat → Nat) (hd hk : Int32) (hM : Nat → Int32) : Prop := dn ≤ ke ∧ ke ≤ 512 ∧ (∀ j, j < ke → hist j < n) ∧ hd = nI dn ∧ hk = nI ke ∧ ∀ j, j < ke → hM j = nI (hist j)
theorem r_side {F s : Nat} (hs : s < 4) : kX7_requireSide F (nI s) = some () := by
  have h : ∀ s, s < 4 → (¬ nI s < 0 ∧ nI s ≤ 3) := by decide
  obtain ⟨h1, h2⟩ := h s hs
  unfold kX7_requireSide
  rw [if_neg h1, if_pos h2]
theorem r_board {F w h : Nat} {g : Bool} (o : okS w h g = true) : kX7_requireBoard F (nI w) (nI h) (bI g) = some () := by
  have key : ∀ w, w < 6 → ∀ h, h < 6 → ∀ g : Bool, kX0_allows 0 (nI w) (nI h) (bI g) = some (bI (okS w h g)) := by decide +kernel
  obtain ⟨a1, a2, a3, a4, -⟩ := okS_b o
  have k : kX0_allows F (nI w) (nI h) (bI g) = some (bI (okS w h g)) := key w (by omega) h (by omega) g
  unfold kX7_requireBoard
  refine ob_i k ?_
  rw [o]; rfl
theorem r_cell {F n c : Nat} (hn : n ≤ 16) (hc : c < n) : kX7_requireCell F (nI n) (nI c) = some () := by
  unfold kX7_requireCell
  refine ob_i (a_has hn (by omega)) ?_
  rw [decide_eq_true hc]; rfl
section CA
variable {F w h : Nat} {g : Bool} {T Wm : Nat → Nat} {lm src : Nat} {bn bk bs : Int32} {bT bC bN bW bL : Nat → Int32} {dn ke : Nat} {hist : Nat → Nat} {hd hk : Int32} {hM : Nat → Int32} {kp ku : Int32} {kC kS vL vS vA vT sR sI sF : Nat → Int32} {so sw : Int32} {sP : Nat → Nat → Int32} {wP wN lw0 lw1 : Nat → Int32} {lc0 lc1 : Int32} {lb0 lb1 : Nat → Int64} {nb0 nw0 nb1 nw1 : Nat}
theorem BD.n (hB : BD w h g T Wm lm src bn bk bs bT bC bN bW) : w * h ≤ 16 ∧ 1 ≤ w * h ∧ src < w * h ∧ (∀ j, T j < 16) ∧ WOK (w * h) (Wyf w h g Wm) := ⟨(okS_b hB.1).2.2.2.2, okS_1 hB.1, hB.2.2.2.2.2.1, hB.2.1, mk_WOK hB.1 hB.2.2.2.1⟩
theorem c_size (hB : BD w h g T Wm lm src bn bk bs bT bC bN bW) : kX7_size F bn = some (nI (w * h)) := by
  rw [hB.2.2.2.2.2.2.1]; rfl
theorem c_moves (hH : HS (w * h) dn ke hist hd hk hM) : kX7_moves F hd = some (nI dn) := by
  rw [hH.2.2.2.1]; rfl
theorem c_tile {c : Nat} (hB : BD w h g T Wm lm src bn bk bs bT bC bN bW) (hc : c < w * h) : kX7_tile F bn bT (nI c) = some (nI (T c)) := by
  obtain ⟨o, hT, hWm, hsy, hlm, hsrc, rfl, rfl, rfl, rfl, hC, N, Y, rfl, rfl, hN, hY⟩ := hB
  have hn := (okS_b o).2.2.2.2
  unfold kX7_tile
  exact ob_i (r_cell hn hc) (ob_i (a_sidesOf (show c < 16 by omega)) rfl)
theorem c_neigh {c s : Nat} (hB : BD w h g T Wm lm src bn bk bs bT bC bN bW) (hc : c < w * h) (hs : s < 4) : kX7_neighbour F bn bN (nI c) (nI s) = some (enc (nbr w h g c s)) := by
  obtain ⟨o, hT, hWm, hsy, hlm, hsrc, rfl, rfl, rfl, rfl, hC, N, Y, rfl, rfl, hN, hY⟩ := hB
  have hn := (okS_b o).2.2.2.2
  unfold kX7_neighbour
  exact ob_i (r_cell hn hc) (ob_i (r_side hs) (ob_i (a_beside (show c < 16 by omega) hs) (by rw [hN c s hc hs])))
theorem c_joined {c s : Nat} (hB : BD w h g T Wm lm src bn bk bs bT bC bN bW) (hc : c < w * h) (hs : s < 4) : kX7_isJoined F bn bT bW (nI c) (nI s) = some (bI (jnd (Wyf w h g Wm) T c s)) := by
  have hW := hB.n.2.2.2.2
  obtain ⟨o, hT, hWm, hsy, hlm, hsrc, rfl, rfl, rfl, rfl, hC, N, Y, rfl, rfl, hN, hY⟩ := hB
  have hn := (okS_b o).2.2.2.2
  unfold kX7_isJoined
  exact ob_i (r_cell hn hc) (ob_i (r_side hs) (ob_i (a_joins0 hW hT hY (show c < 16 by omega) hs) (by rw [if_pos (isZ_b _)])))
theorem c_isWat {c : Nat} (hB : BD w h g T Wm lm src bn bk bs bT bC bN bW) (hc : c < w * h) (hF : 1000 ≤ F) : Ex (kX7_isWatered F bn bs bT bW bL (nI c)) (fun r => ∃ b, r.1 = bI b ∧ (b = true ↔ Rc (JA (Wyf w h g Wm) T) src c)) := by
  have hW := hB.n.2.2.2.2
  obtain ⟨o, hT, hWm, hsy, hlm, hsrc, rfl, rfl, rfl, rfl, hC, N, Y, rfl, rfl, hN, hY⟩ := hB
  have hn := (okS_b o).2.2.2.2
  unfold kX7_isWatered
  refine Ex.o (r_cell hn hc) (Ex.o rfl (Ex.b (a_reachedFrom (bL := bL) hW hT hY (show src < 16 by omega) hF) ?_))
  rintro ⟨q0, q1⟩ ⟨M, eM, hM, hMb⟩
  have eM : q0 = nI M := eM
  subst eM
  exact Ex.o (show kX7_holds F (nI M) (nI c) = _ from a_holds (by omega) (by omega)) (Ex.t (isZ_b _) (Ex.v ⟨_, rfl, hMb c⟩))
theorem c_loose (hB : BD w h g T Wm lm src bn bk bs bT bC bN bW) (hF : 1000 ≤ F) : kX7_loose F bn bT bW = some (nI (opn T (w * h)) - nI (jnn (Wyf w h g Wm) T (w * h))) := by
  have hW := hB.n.2.2.2.2
  obtain ⟨o, hT, hWm, hsy, hlm, hsrc, rfl, rfl, rfl, rfl, hC, N, Y, rfl, rfl, hN, hY⟩ := hB
  have hn := (okS_b o).2.2.2.2
  unfold kX7_loose
  exact ob_i (a_countOpen hT hn hF) (ob_i (a_countJoined' hW hT hY hF) rfl)
theorem c_wat (hB : BD w h g T Wm lm src bn bk bs bT bC bN bW) (hF : 1000 ≤ F) : Ex (kX7_watered F bs bT bW bL) (fun r => r.1 = nI (nP (fun b => Rc (JA (Wyf w h g Wm) T) src b) (w * h))) := by
  have hW := hB.n.2.2.2.2
  obtain ⟨o, hT, hWm, hsy, hlm, hsrc, rfl, rfl, rfl, rfl, hC, N, Y, rfl, rfl, hN, hY⟩ := hB
  have hn := (okS_b o).2.2.2.2
  unfold kX7_watered
  refine Ex.o rfl (Ex.b (a_reachedFrom (bL := bL) hW hT hY (show src < 16 by omega) hF) ?_)
  rintro ⟨q0, q1⟩ ⟨M, eM, hM, hMb⟩
  have eM : q0 = nI M := eM
  subst eM
  refine Ex.o (show kJ6_bitCount_0f7a4 F (nI M) = _ from a_bc hM) (Ex.v ?_)
  show nI (pop M 16) = _
  rw [nP_pop (p := fun b => Rc (JA (Wyf w h g Wm) T) src b) (fun b _ => hMb b)]
  have := nP_up (p := fun b => Rc (JA (Wyf w h g Wm) T) src b) (n := w * h) (fun b hb hr => absurd (JA.rlt hW hsrc hr) (by omega)) (16 - w * h)
  rw [show w * h + (16 - w * h) = 16 by omega] at this
  rw [this]
def Slv (Wy : Nat → Nat → Option Nat) (T : Nat → Nat) (n : Nat) : Prop := jnn Wy T n = opn T n ∧ jnn Wy T n = 2 * (n - 1) ∧ conA Wy T n
theorem c_solved (hB : BD w h g T Wm lm src bn bk bs bT bC bN bW) (hF : 1000 ≤ F) : Ex (kX7_isSolved F bn bT bW bL) (fun r => ∃ b, r.1 = bI b ∧ (b = true ↔ Slv (Wyf w h g Wm) T (w * h))) := by
  have hW := hB.n.2.2.2.2
  obtain ⟨o, hT, hWm, hsy, hlm, hsrc, rfl, rfl, rfl, rfl, hC, N, Y, rfl, rfl, hN, hY⟩ := hB
  have hn := (okS_b o).2.2.2.2
  have hn1 := okS_1 o
  have l1 := opn_le T hn
  have l2 := jnn_le (Wyf w h g Wm) T hn
  have e2 : 2 * (nI (w * h) - 1) = nI (2 * (w * h - 1)) := by rw [i1, pk_sub hn1, i2, pk_mul]
  have hp : 2 ^ (w * h) ≤ 2 ^ 16 := Nat.pow_le_pow_right (by decide) hn
  have eall : kX0_allCells F (nI (w * h)) = some (nI (2 ^ (w * h) - 1)) := by
    unfold kX0_allCells
    rw [i1, q_shl (by omega) (by omega), Nat.one_mul, pk_sub (Nat.one_le_two_pow)]
  unfold kX7_isSolved
  refine Ex.o (a_countJoined' hW hT hY hF) (Ex.o (show kX0_countOpen F (nI (w * h)) (fN T) = some (nI (opn T (w * h))) from a_countOpen hT hn hF) ?_)
  by_cases c1 : jnn (Wyf w h g Wm) T (w * h) = opn T (w * h)
  · refine Ex.t (by rw [c1]) (Ex.o (show kX0_count F (nI (w * h)) = some (nI (w * h)) from rfl) ?_)
    rw [e2]
    by_cases c2 : jnn (Wyf w h g Wm) T (w * h) = 2 * (w * h - 1)
    · refine Ex.t (by rw [c2]) (Ex.b (a_reachedFrom (a := 0) (bL := bL) hW hT hY (by decide) hF) ?_)
      rintro ⟨q0, q1⟩ ⟨M, eM, hM, hMb⟩
      have eM : q0 = nI M := eM
      subst eM
      refine Ex.o eall ?_
      have key : M = 2 ^ (w * h) - 1 ↔ ∀ c, c < w * h → Rc (JA (Wyf w h g Wm) T) 0 c := by
        constructor
        · intro hh c hc
          refine (hMb c).mp ?_
          rw [hh, Nat.testBit_two_pow_sub_one]
          exact decide_eq_true hc
        · intro hh
          apply Nat.eq_of_testBit_eq
          intro i
          rw [Nat.testBit_two_pow_sub_one]
          by_cases hi : i < w * h
          · rw [decide_eq_true hi]; exact (hMb i).mpr (hh i hi)
          · rw [decide_eq_false hi]
            cases e : M.testBit i with
            | false => rfl
            | true => exact absurd (JA.rlt hW (show 0 < w * h by omega) ((hMb i).mp e)) hi
      by_cases c3 : M = 2 ^ (w * h) - 1
      · exact Ex.t (show nI M = _ by rw [c3]) (Ex.v ⟨true, rfl, fun _ => ⟨c1, c2, key.mp c3⟩, fun _ => rfl⟩)
      · exact Ex.f (show ¬ nI M = _ from fun x => c3 ((nI_eq (by omega) (by omega)).mp x)) (Ex.v ⟨false, rfl, fun x => (by cases x), fun x => absurd (key.mpr x.2.2) c3⟩)
    · exact Ex.f (fun x => c2 ((nI_eq (by omega) (by omega)).mp x)) (Ex.v ⟨false, rfl, fun x => (by cases x), fun x => absurd x.2.1 c2⟩)
  · exact Ex.f (fun x => c1 ((nI_eq (by omega) (by omega)).mp x)) (Ex.v ⟨false, rfl, fun x => (by cases x), fun x => absurd x.1 c1⟩)
/-- the search of the board as it is -/
noncomputable def E1 (w h : Nat) (g : Bool) (T Wm : Nat → Nat) (lm : Nat) : Int32 × Nat × (Nat → Nat) := srE (Wyf w h g Wm) T (ownA T lm (w * h)) (w * h)
theorem c_srch (hB : BD w h g T Wm lm src bn bk bs bT bC bN bW) (hF : 1000 ≤ F) : Ex (kX5_sift F bn bk bT bW vL vS vA vT) (fun q => Ex (kX4_countAll F bn bT bW q.1 so sw sR sI sP sF) (fun r => r.1 = r.2.1 ∧ RelS (w * h) r.2.1 r.2.2.1 r.2.2.2.2.2.2 (E1 w h g T Wm lm))) := by
  have hW := hB.n.2.2.2.2
  have hn1 := hB.n.2.1
  obtain ⟨o, hT, hWm, hsy, hlm, hsrc, rfl, rfl, rfl, rfl, hC, N, Y, rfl, rfl, hN, hY⟩ := hB
  refine (a_sift (vL := vL) (vS := vS) (vA := vA) (vT := vT) hW hT hY hlm hF).m ?_
  rintro ⟨z1, z2, z3, z4⟩ ⟨L, hL1, hL2, hL3⟩
  exact a_countAll hW hn1 hT hY hL2 hL1 hL3 hF
theorem c_sols (hB : BD w h g T Wm lm src bn bk bs bT bC bN bW) (hF : 1000 ≤ F) : Ex (kX7_solutions F bn bk bT bW vL vS vA vT so sw sR sI sP sF) (fun r => r.1 = (E1 w h g T Wm lm).1) := by
  unfold kX7_solutions
  refine Ex.b (c_srch hB hF) (fun q hq => Ex.b hq ?_)
  rintro ⟨y0, y1, y2, y3, y4, y5, y6⟩ ⟨k1, k2⟩
  exact Ex.v (k1.trans k2.1)
theorem c_first {c : Nat} (hB : BD w h g T Wm lm src bn bk bs bT bC bN bW) (hc : c < w * h) (hz : (E1 w h g T Wm lm).1 ≠ 0) (hF : 1000 ≤ F) : Ex (kX7_first F bn bk bT bW vL vS vA vT so sw sR sI sP sF (nI c)) (fun r => r.1 = nI ((E1 w h g T Wm lm).2.2 c)) := by
  have hn := hB.n.1
  unfold kX7_first
  refine Ex.o (show kX7_requireCell F bn (nI c) = some () by rw [hB.2.2.2.2.2.2.1]; exact r_cell hn hc) (Ex.b (c_srch hB hF) (fun q hq => Ex.b hq ?_))
  rintro ⟨y0, y1, y2, y3, y4, y5, y6⟩ ⟨k1, k2, k3⟩
  have k1 : y0 = y1 := k1
  have k2 : y1 = _ := k2
  subst k1 k2
  refine Ex.f hz (Ex.o (a := y6 c) ?_ (Ex.v ((k3 hz).2.2 c hc)))
  unfold kX4_firstAt
  exact ob_i (a_at (by decide) (show c < 16 by omega)) rfl
theorem c_few (hB : BD w h g T Wm lm src bn bk bs bT bC bN bW) (hz : (E1 w h g T Wm lm).1 ≠ 0) (hF : 1000 ≤ F) : Ex (kX7_fewestTurns F bn bk bT bW vL vS vA vT so sw sR sI sP sF) (fun r => r.1 = nI (E1 w h g T Wm lm).2.1) := by
  unfold kX7_fewestTurns
  refine Ex.b (c_srch hB hF) (fun q hq => Ex.b hq ?_)
  rintro ⟨y0, y1, y2, y3, y4, y5, y6⟩ ⟨k1, k2, k3⟩
  have k1 : y0 = y1 := k1
  have k2 : y1 = _ := k2
  subst k1 k2
  exact Ex.f hz (Ex.o (a := y2) rfl (Ex.v (k3 hz).1))
theorem c_lays {c : Nat} (hB : BD w h g T Wm lm src bn bk bs bT bC bN bW) (hc : c < w * h) (hF : 1000 ≤ F) : Ex (kX7_lays F bn bk bT bW vL vS vA vT (nI c)) (fun r => ∃ L : Nat → Nat, r.1 = nI (L c) ∧ (∀ j, L j < 16) ∧ ∀ c k, (L c).testBit k = true ↔ Keep (Wyf w h g Wm) T (ownA T lm (w * h)) (w * h) c k) := by
  have hW := hB.n.2.2.2.2
  have hn := hB.n.1
  obtain ⟨o, hT, hWm, hsy, hlm, hsrc, rfl, rfl, rfl, rfl, hC, N, Y, rfl, rfl, hN, hY⟩ := hB
  unfold kX7_lays
  refine Ex.o (r_cell hn hc) (Ex.b (a_sift (vL := vL) (vS := vS) (vA := vA) (vT := vT) hW hT hY hlm hF) ?_)
  rintro ⟨z1, z2, z3, z4⟩ ⟨L, hL1, hL2, hL3⟩
  exact Ex.o (a_leftAt hL1 (show c < 16 by omega)) (Ex.v ⟨L, rfl, hL2, hL3⟩)
theorem c_sweep (hB : BD w h g T Wm lm src bn bk bs bT bC bN bW) (h0 : CP nb0 nw0) (h1 : CP nb1 nw1) (hF : 2 ^ 20 ≤ F) : Ex (kX6_countAll F bn bk bT bC bN bW wP wN lc0 nb0 lb0 nw0 lw0 lc1 nb1 lb1 nw1 lw1) (fun r => r.1 = (E1 w h g T Wm lm).1 ∧ CP r.2.2.2.2.1 r.2.2.2.2.2.2.1 ∧ CP r.2.2.2.2.2.2.2.2.2.1 r.2.2.2.2.2.2.2.2.2.2.2.1) := by
  have hW := hB.n.2.2.2.2
  obtain ⟨o, hT, hWm, hsy, hlm, hsrc, rfl, rfl, rfl, rfl, hC, N, Y, rfl, rfl, hN, hY⟩ := hB
  refine (a_sweep (wP := wP) (wN := wN) (lc0 := lc0) (lc1 := lc1) (lb0 := lb0) (lb1 := lb1) (lw0 := lw0) (lw1 := lw1) o hW (fun c s d _ e => (Wyf_n e).2.2) hT hY hN hC hlm h0 h1 hF).m ?_
  rintro ⟨y0, y1, y2, y3, y4, y5, y6, y7, y8, y9, y10, y11, y12⟩ ⟨k1, k2, k3⟩
  exact ⟨k1, k2, k3⟩
theorem BD.til {U : Nat → Nat} (hB : BD w h g T Wm lm src bn bk bs bT bC bN bW) (hU : ∀ j, U j < 16) : BD w h g U Wm lm src bn bk bs (fN U) bC bN bW := by
  obtain ⟨o, hT, hWm, hsy, hlm, hsrc, e1, e2, e3, e4, h9⟩ := hB
  exact ⟨o, hU, hWm, hsy, hlm, hsrc, e1, e2, e3, rfl, h9⟩
theorem BD.t (hB : BD w h g T Wm lm src bn bk bs bT bC bN bW) : bT = fN T := hB.2.2.2.2.2.2.2.2.2.1
theorem c_setTile {c t : Nat} (hB : BD w h g T Wm lm src bn bk bs bT bC bN bW) (hc : c < w * h) (ht : t < 16) : kX7_setTile F bn bT hd hk (nI c) (nI t) = some (nI (T c), fN (up T c t), 0, 0) := by
  obtain ⟨o, hT, hWm, hsy, hlm, hsrc, rfl, rfl, rfl, rfl, hC, N, Y, rfl, rfl, hN, hY⟩ := hB
  have hn := (okS_b o).2.2.2.2
  unfold kX7_setTile
  refine ob_i (r_cell hn hc) ?_
  rw [if_neg (nI_pos (by omega)), if_pos (show nI t ≤ (15 : Int32) from nI_le (show t ≤ 15 by omega) (by decide))]
  exact ob_i (a_sidesOf (show c < 16 by omega)) (ob_i (a_lay hn hc) (ob_i rfl rfl))
theorem c_setWall {c s d : Nat} {b : Bool} (hB : BD w h g T Wm lm src bn bk bs bT bC bN bW) (hc : c < w * h) (hs : s < 4) (en : nbr w h g c s = some d) : Ex (kX7_setWall F bn bN bW (nI c) (nI s) (bI b)) (fun z => z.1 = bI ((Wm c).testBit s) ∧ BD w h g T (W2 Wm c s d b) lm src bn bk bs bT bC bN z.2) := by
  obtain ⟨o, hT, hWm, hsy, hlm, hsrc, rfl, rfl, rfl, rfl, hC, N, Y, rfl, rfl, hN, hY⟩ := hB
  have hn := (okS_b o).2.2.2.2
  have hc16 : c < 16 := by omega
  obtain ⟨k1, k2, k3⟩ := nb_lt o hc hs en
  have h4 := s2_lt s
  have eb : N (c * 4 + s) = some d := by rw [hN c s hc hs, en]
  have nd : ¬ enc (some d) = -1 := n_m1 (show d < 2 ^ 31 by omega)
  have ey : Y (c * 4 + s) = if (Wm c).testBit s = true then none else some d := by
    rw [hY c s hc16 hs]
    unfold Wyf
    rw [if_pos hc, en]
  have j51 : Ex (kX7_setWall_j51 F (nI (w * h)) (fE N) (fE Y) (nI c) (nI s) (bI b) (bI ((Wm c).testBit s))) (fun z => z = (bI ((Wm c).testBit s), fE (up (up Y (c * 4 + s) (if b = true then none else some d)) (d * 4 + (s + 2) % 4) (if b = true then none else some c)))) := by
    unfold kX7_setWall_j51 kX0_putWall
    refine Ex.b (P := fun z => z = fE (up (up Y (c * 4 + s) (if b = true then none else some d)) (d * 4 + (s + 2) % 4) (if b = true then none else some c))) (Ex.o (a_beside hc16 hs) (Ex.o (a_has hn (by omega)) ?_)) (fun a ha => by subst ha; exact Ex.t (isZ_b _) (Ex.v rfl))
    rw [eb, decide_eq_true hc]
    refine Ex.f bI_n (Ex.o (show kX0_has F (nI (w * h)) (nI d) = _ from a_has hn (by omega)) ?_)
    rw [decide_eq_true k1]
    refine Ex.f bI_n ?_
    show Ex (if bI b = 0 then kX0_putWall_j44 F (fE Y) (nI c) (nI s) (bI b) (nI d) (nI d) else kX0_putWall_j44 F (fE Y) (nI c) (nI s) (bI b) (nI d) (-1)) _
    have i1' : (nI c * 4 + nI s : Int32) = nI (c * 4 + s) := by rw [i4, pk_mul, nI_add]
    have i2' : (nI d * 4 + nI ((s + 2) % 4) : Int32) = nI (d * 4 + (s + 2) % 4) := by rw [i4, pk_mul, nI_add]
    cases b with
    | false =>
      refine Ex.t bI_f ?_
      unfold kX0_putWall_j44
      rw [i1', cl_n (show c * 4 + s < 2 ^ 31 by omega)]
      refine Ex.t (ix_n (show c * 4 + s < 64 by omega) (by decide)) (Ex.o (a_opposite hs) (Ex.t bI_f ?_))
      rw [i2', cl_n (show d * 4 + (s + 2) % 4 < 2 ^ 31 by omega), upd_fE, upd_fE]
      exact Ex.t (ix_n (show d * 4 + (s + 2) % 4 < 64 by omega) (by decide)) (Ex.v rfl)
    | true =>
      refine Ex.f bI_n ?_
      unfold kX0_putWall_j44
      rw [i1', cl_n (show c * 4 + s < 2 ^ 31 by omega)]
      refine Ex.t (ix_n (show c * 4 + s < 64 by omega) (by decide)) (Ex.o (a_opposite hs) (Ex.f bI_n ?_))
      rw [i2', cl_n (show d * 4 + (s + 2) % 4 < 2 ^ 31 by omega), upd_fE0, upd_fE0]
      exact Ex.t (ix_n (show d * 4 + (s + 2) % 4 < 64 by omega) (by decide)) (Ex.v rfl)
  have fin : BD w h g T (W2 Wm c s d b) lm src (nI (w * h)) (nI lm) (nI src) (fN T) bC (fE N) (fE (up (up Y (c * 4 + s) (if b = true then none else some d)) (d * 4 + (s + 2) % 4) (if b = true then none else some c))) := by
    refine ⟨o, hT, fun j => ?_, W2_sy o hsy hc hs en, hlm, hsrc, rfl, rfl, rfl, rfl, hC, N, _, rfl, rfl, hN, W2_Y o hY hc hs en⟩
    unfold W2
    exact up_lt (up_lt hWm (wb_lt hs)) (wb_lt h4) j
  unfold kX7_setWall
  refine (Ex.o (r_cell hn hc) (Ex.o (r_side hs) (Ex.o (a_beside hc16 hs) (Ex.f (by rw [eb]; exact nd) (Ex.o (a_across hc16 hs) ?_))))).m (P := fun z => z = (bI ((Wm c).testBit s), fE (up (up Y (c * 4 + s) (if b = true then none else some d)) (d * 4 + (s + 2) % 4) (if b = true then none else some c)))) ?_
  · rw [ey]
    cases ew : (Wm c).testBit s with
    | true =>
      rw [ew] at j51
      rw [show (if true = true then none else some d : Option Nat) = none from rfl]
      exact Ex.t rfl j51
    | false =>
      rw [ew] at j51
      rw [show (if false = true then none else some d : Option Nat) = some d from rfl]
      exact Ex.f nd j51
  · rintro _ rfl
    exact ⟨rfl, fin⟩
theorem c_setLock {c : Nat} {b : Bool} (hB : BD w h g T Wm lm src bn bk bs bT bC bN bW) (hc : c < w * h) : Ex (kX7_setLock F bn bk (nI c) (bI b)) (fun z => z.1 = bI (lm.testBit c) ∧ ∃ lm', BD w h g T Wm lm' src bn z.2 bs bT bC bN bW ∧ ∀ j, j < 16 → lm'.testBit j = if j = c then b else lm.testBit j) := by
  obtain ⟨o, hT, hWm, hsy, hlm, hsrc, rfl, rfl, rfl, rfl, hC, N, Y, rfl, rfl, hN, hY⟩ := hB
  have hn := (okS_b o).2.2.2.2
  have hc16 : c < 16 := by omega
  have hp2 := p2_lt hc16
  obtain ⟨lm', hl1, hl2, hl3⟩ : ∃ lm', kX0_putLock F (nI lm) (nI c) (bI b) = some (nI lm') ∧ lm' < 2 ^ 16 ∧ ∀ j, j < 16 → lm'.testBit j = if j = c then b else lm.testBit j := by
    unfold kX0_putLock
    cases b with
    | false =>
      refine ⟨lm &&& (65535 ^^^ 2 ^ c), ?_, Nat.lt_of_le_of_lt Nat.and_le_left hlm, fun j hj => ?_⟩
      · rw [if_pos bI_f, q_lock hlm hc16]
      · rw [lock_tb hj]
        by_cases e : j = c
        · rw [if_pos e, decide_eq_false (by simp [e]), Bool.and_false]
        · rw [if_neg e, decide_eq_true e, Bool.and_true]
    | true =>
      refine ⟨lm ||| 2 ^ c, ?_, or_lt hlm hp2, fun j hj => ?_⟩
      · rw [if_neg bI_n, i1, q_shl (by omega) (by omega), Nat.one_mul, q_or]
      · by_cases e : j = c
        · rw [if_pos e, e]; exact (tb_or _ _ _).mpr (Or.inr ((tb_p2 c c).mpr rfl))
        · rw [if_neg e, Nat.testBit_or]
          have : (2 ^ c).testBit j = false := by
            cases x : (2 ^ c).testBit j with
            | false => rfl
            | true => exact absurd ((tb_p2 c j).mp x) e
          rw [this, Bool.or_false]
  have hl : kX0_hasLock F (nI lm) (nI c) = some (bI (lm.testBit c)) := by
    unfold kX0_hasLock
    exact ob_i (a_holds (by omega) (by omega)) (by rw [if_pos (isZ_b _)])
  unfold kX7_setLock
  exact Ex.o (r_cell hn hc) (Ex.o hl (Ex.o hl1 (Ex.t (isZ_b _) (Ex.v ⟨rfl, lm', ⟨o, hT, hWm, hsy, hl2, hsrc, rfl, rfl, rfl, rfl, hC, N, Y, rfl, rfl, hN, hY⟩, hl3⟩))))
theorem c_setSource {c : Nat} (hB : BD w h g T Wm lm src bn bk bs bT bC bN bW) (hc : c < w * h) : kX7_setSource F bn bs (nI c) = some (nI src, nI c) := by
  obtain ⟨o, hT, hWm, hsy, hlm, hsrc, rfl, rfl, rfl, rfl, hC, N, Y, rfl, rfl, hN, hY⟩ := hB
  unfold kX7_setSource
  exact ob_i (r_cell (okS_b o).2.2.2.2 hc) (ob_i rfl (ob_i rfl rfl))
theorem BD.sr {c : Nat} (hB : BD w h g T Wm lm src bn bk bs bT bC bN bW) (hc : c < w * h) : BD w h g T Wm lm c bn bk (nI c) bT bC bN bW := by
  obtain ⟨o, hT, hWm, hsy, hlm, hsrc, e1, e2, e3, h9⟩ := hB
  exact ⟨o, hT, hWm, hsy, hlm, hc, e1, e2, rfl, h9⟩
theorem a_spinN {c k : Nat} {x : Int32} (hx : x = nI k) (hk : k < 4) (hn : w * h ≤ 16) (hT : ∀ j, T j < 16) (hc : c < w * h) : kX0_spin F (nI (w * h)) (fN T) (nI c) x = some (fN (up T c (rot (T c) k))) := by
  subst hx
  unfold kX0_spin
  exact ob_i (a_sidesOf (show c < 16 by omega)) (ob_i (show kX7_turned F (fN T c) (nI k) = _ from a_turned (hT c) hk) (ob_i (a_lay hn hc) rfl))
theorem c_turn {c : Nat} (hB : BD w h g T Wm lm src bn bk bs bT bC bN bW) (hH : HS (w * h) dn ke hist hd hk hM) (hc : c < w * h) (hlk : lm.testBit c = false) (hd512 : dn < 512) : kX7_turn F bn bk bT hd hk hM (nI c) = some (nI (rot (T c) 1), fN (up T c (rot (T c) 1)), nI (dn + 1), nI (dn + 1), upd hM dn (nI c)) ∧ HS (w * h) (dn + 1) (dn + 1) (up hist dn c) (nI (dn + 1)) (nI (dn + 1)) (upd hM dn (nI c)) := by
  obtain ⟨o, hT, hWm, hsy, hlm, hsrc, rfl, rfl, rfl, rfl, hC, N, Y, rfl, rfl, hN, hY⟩ := hB
  obtain ⟨hdk, hki, hhist, rfl, rfl, hMh⟩ := hH
  have hn := (okS_b o).2.2.2.2
  have hc16 : c < 16 := by omega
  have hl : kX0_hasLock F (nI lm) (nI c) = some (bI (lm.testBit c)) := by
    unfold kX0_hasLock
    exact ob_i (a_holds (by omega) (by omega)) (by rw [if_pos (isZ_b _)])
  have hnote : kX2_note F (nI dn) (nI ke) hM (nI c) = some (nI (dn + 1), nI (dn + 1), upd hM dn (nI c)) := by
    unfold kX2_note
    rw [if_neg (nI_pos (by omega)), if_neg (show ¬ (512 : Int32) ≤ nI dn from nI_ge (show dn < 512 from hd512) (by decide)), if_pos (ix_n hd512 (by decide)), cl_n (by omega), nI_1]
  have hfull : kX2_isFull F (nI dn) = some 0 := by
    unfold kX2_isFull
    rw [if_pos (show nI dn < (512 : Int32) from nI_lt (show dn < 512 from hd512) (by decide))]
  have hso : kX0_sidesOf F (fN (up T c (rot (T c) 1))) (nI c) = some (nI (rot (T c) 1)) := by
    rw [a_sidesOf hc16]
    show some (nI (up T c (rot (T c) 1) c)) = _
    rw [up_s]
  refine ⟨?_, Nat.le_refl _, by omega, fun j hj => ?_, rfl, rfl, fun j hj => ?_⟩
  · unfold kX7_turn
    refine ob_i (r_cell hn hc) (ob_i hl ?_)
    rw [if_pos (show bI (lm.testBit c) = 0 by rw [hlk]; rfl)]
    refine ob_i hfull ?_
    rw [if_pos rfl]
    exact ob_i (a_spinN (k := 1) rfl (by decide) hn hT hc) (ob_i hnote (ob_i hso rfl))
  · by_cases e : j = dn
    · subst e; rw [up_s]; exact hc
    · rw [up_n e]; exact hhist j (by omega)
  · by_cases e : j = dn
    · subst e; rw [pk_us, up_s]
    · rw [pk_un e, up_n e]; exact hMh j (by omega)
theorem c_undo {e : Nat} (hB : BD w h g T Wm lm src bn bk bs bT bC bN bW) (hH : HS (w * h) (e + 1) ke hist hd hk hM) : kX7_undo F bn bT hd hM = some (nI e, fN (up T (hist e) (rot (T (hist e)) 3)), nI e) ∧ HS (w * h) e ke hist (nI e) hk hM ∧ hist e < w * h := by
  obtain ⟨o, hT, hWm, hsy, hlm, hsrc, rfl, rfl, rfl, rfl, hC, N, Y, rfl, rfl, hN, hY⟩ := hB
  obtain ⟨hdk, hki, hhist, rfl, rfl, hMh⟩ := hH
  have hn := (okS_b o).2.2.2.2
  have he : e < ke := by omega
  have hc := hhist e he
  refine ⟨?_, ⟨by omega, hki, hhist, rfl, rfl, hMh⟩, hc⟩
  have hMe := hMh e he
  generalize hist e = c at hc hMe
  have hst : kX2_stepBack F (nI (e + 1)) hM = some (nI c, nI e) := by
    unfold kX2_stepBack
    rw [nI_pred, if_neg (nI_nle (by omega) (by omega)), if_pos (show nI (e + 1) ≤ (512 : Int32) from nI_le (show e + 1 ≤ 512 by omega) (by decide)), if_pos (ix_n (show e < 512 by omega) (by decide)), cl_n (by omega), hMe]
  unfold kX7_undo
  refine ob_i hst ?_
  rw [if_neg (n_m1 (show c < 2 ^ 31 by omega))]
  exact ob_i (a_spinN (k := 3) rfl (by decide) hn hT hc) (ob_i rfl rfl)
theorem c_redo (hB : BD w h g T Wm lm src bn bk bs bT bC bN bW) (hH : HS (w * h) dn ke hist hd hk hM) (he : dn < ke) : kX7_redo F bn bT hd hk hM = some (nI (dn + 1), fN (up T (hist dn) (rot (T (hist dn)) 1)), nI (dn + 1)) ∧ HS (w * h) (dn + 1) ke hist (nI (dn + 1)) hk hM ∧ hist dn < w * h := by
  obtain ⟨o, hT, hWm, hsy, hlm, hsrc, rfl, rfl, rfl, rfl, hC, N, Y, rfl, rfl, hN, hY⟩ := hB
  obtain ⟨hdk, hki, hhist, rfl, rfl, hMh⟩ := hH
  have hn := (okS_b o).2.2.2.2
  have hc := hhist dn he
  refine ⟨?_, ⟨by omega, hki, hhist, rfl, rfl, hMh⟩, hc⟩
  have hMe := hMh dn he
  generalize hist dn = c at hc hMe
  have hst : kX2_stepOn F (nI dn) (nI ke) hM = some (nI c, nI (dn + 1)) := by
    unfold kX2_stepOn
    rw [nI_1, nI_pred, if_neg (nI_pos (by omega)), if_neg (nI_ge he (by omega)), if_pos (show nI dn < (512 : Int32) from nI_lt (show dn < 512 by omega) (by decide)), if_pos (ix_n (show dn < 512 by omega) (by decide)), cl_n (by omega), hMe]
  unfold kX7_redo
  refine ob_i hst ?_
  rw [if_neg (n_m1 (show c < 2 ^ 31 by omega))]
  exact ob_i (a_spinN (k := 1) rfl (by decide) hn hT hc) (ob_i rfl rfl)
theorem c_start {w' h' : Nat} {g' : Bool} (hB : BD w h g T Wm lm src bn bk bs bT bC bN bW) (o : okS w' h' g' = true) (hF : 1000 ≤ F) : Ex (kX7_startBoard F bn bk bs bT bC bN bW hd hk (nI w') (nI h') (bI g')) (fun u => BD w' h' g' (z16 T) (fun _ => 0) 0 0 u.1 u.2.1 u.2.2.1 u.2.2.2.1 u.2.2.2.2.1 u.2.2.2.2.2.1 u.2.2.2.2.2.2.1 ∧ u.2.2.2.2.2.2.2.1 = 0 ∧ u.2.2.2.2.2.2.2.2 = 0) := by
  obtain ⟨o0, hT, hWm, hsy, hlm, hsrc, rfl, rfl, rfl, rfl, hC, N, Y, rfl, rfl, hN, hY⟩ := hB
  have hn1 := okS_1 o
  unfold kX7_startBoard
  refine Ex.b (a_clear (bn := nI (w * h)) (bk := nI lm) (bs := nI src) (bC := bC) (T := T) (N0 := N) (Y0 := Y) o hF) ?_
  rintro ⟨z1, z2, z3, z4, z5, z6, z7⟩ ⟨g1, g2, g3, g4, g5, N1, Y1, g6, g7, g8, g9⟩
  refine Ex.o rfl (Ex.v ⟨⟨o, z16_lt hT, fun _ => (by show 0 < 16; decide), wsy0, by decide, by omega, g1, g2, g3, g4, g5, N1, Y1, g6, g7, g8, fun c s hc hs => ?_⟩, rfl, rfl⟩)
  rw [g9 c s hc hs]
  unfold Wyf
  rw [Nat.zero_testBit]
  rfl
theorem c_begin {w' h' : Nat} {g' : Bool} (hB : BD w h g T Wm lm src bn bk bs bT bC bN bW) (o : okS w' h' g' = true) (hF : 1000 ≤ F) : Ex (kX7_begin F bn bk bs bT bC bN bW hd hk (nI w') (nI h') (bI g')) (fun u => u.1 = nI (w' * h') ∧ BD w' h' g' (z16 T) (fun _ => 0) 0 0 u.2.1 u.2.2.1 u.2.2.2.1 u.2.2.2.2.1 u.2.2.2.2.2.1 u.2.2.2.2.2.2.1 u.2.2.2.2.2.2.2.1 ∧ u.2.2.2.2.2.2.2.2.1 = 0 ∧ u.2.2.2.2.2.2.2.2.2 = 0) := by
  unfold kX7_begin
  refine Ex.o (r_board o) (Ex.b (c_start hB o hF) ?_)
  rintro ⟨z1, z2, z3, z4, z5, z6, z7, z8, z9⟩ ⟨hB2, h1, h2⟩
  exact Ex.o rfl (Ex.v ⟨hB2.2.2.2.2.2.2.1, hB2, h1, h2⟩)
theorem c_make {w' h' u : Nat} {g' : Bool} (hB : BD w h g T Wm lm src bn bk bs bT bC bN bW) (o : okS w' h' g' = true) (hu : u < 65536) (hF : 1000 ≤ F) : Ex (kX7_make F bn bk bs bT bC bN bW bL hd hk kp ku kC kS (nI w') (nI h') (bI g') (nI u)) (fun r => r.1 = nI (ends (mkT w' h' g' u (z16 T)) (w' * h')) ∧ BD w' h' g' (mkT w' h' g' u (z16 T)) (fun _ => 0) 0 0 r.2.1 r.2.2.1 r.2.2.2.1 r.2.2.2.2.1 r.2.2.2.2.2.1 r.2.2.2.2.2.2.1 r.2.2.2.2.2.2.2.1 ∧ r.2.2.2.2.2.2.2.2.2.1 = 0 ∧ r.2.2.2.2.2.2.2.2.2.2.1 = 0) := by
  have hz := z16_lt hB.2.1
  have hmt : ∀ j, mkT w' h' g' u (z16 T) j < 16 := (tT_lt (mxs_lt _ _ _ hu) (jT_lt hz _) _).2
  have hn := (okS_b o).2.2.2.2
  unfold kX7_make
  refine Ex.o (r_board o) (Ex.f (nI_pos (by omega)) (Ex.t (show nI u < (65536 : Int32) from nI_lt hu (by decide)) (Ex.b (c_start hB o hF) ?_)))
  rintro ⟨z1, z2, z3, z4, z5, z6, z7, z8, z9⟩ ⟨hB2, h1, h2⟩
  have hB3 := hB2.til hmt
  obtain ⟨o2, hT2, hWm2, hsy2, hlm2, hsrc2, e1, e2, e3, e4, hC2, N1, Y1, e5, e6, hN1, hY1⟩ := hB2
  have e1 : z1 = nI (w' * h') := e1
  have e4 : z4 = fN (z16 T) := e4
  have e5 : z6 = fE N1 := e5
  have e6 : z7 = fE Y1 := e6
  subst e1 e4 e5 e6
  refine Ex.b (a_fillBoard o hz hN1 hY1 hu hF) ?_
  rintro ⟨f1, f2, f3, f4, f5, f6⟩ ef
  have ef : f1 = fN (mkT w' h' g' u (z16 T)) := ef
  subst ef
  exact Ex.o (a_countEnds hmt hn hF) (Ex.v ⟨rfl, hB3, h1, h2⟩)
end CA
