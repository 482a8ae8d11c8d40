/-! the law between two steps -/
section LB
variable {F : Nat} {bn bk bs : Int32} {bT bC bN bW bL tT tW : Nat → Int32} {hd hk : Int32} {hM : Nat → Int32} {vL vS vA vT sR sI sF : Nat → Int32} {so sw : Int32} {sP : Nat → Nat → Int32} {wP wN lw0 lw1 : Nat → Int32} {lc0 lc1 : Int32} {lb0 lb1 : Nat → Int64} {nb0 nw0 nb1 nw1 : Nat}
theorem L_B (hLI : LI bn bk bs bT bC bN bW hd hk hM tT tW) (h0 : CP nb0 nw0) (h1 : CP nb1 nw1) (hF : BF F) : Ex (kL_areSolutions F bn bk bT bC bN bW bL hd hk hM vL vS vA vT so sw sR sI sP sF wP wN lc0 nb0 lb0 nw0 lw0 lc1 nb1 lb1 nw1 lw1 tT) (fun r => r.1 = 1 ∧ (∀ q, kX6_countAll F bn bk bT bC bN bW wP wN lc0 nb0 lb0 nw0 lw0 lc1 nb1 lb1 nw1 lw1 = some q → q.2.2.2.2.1 + q.2.2.2.2.2.2.2.2.2.1 ≤ r.2.2.2.2.2.2.2.2.2.2.2.2.2.2.2.2.2.2.2.1 + r.2.2.2.2.2.2.2.2.2.2.2.2.2.2.2.2.2.2.2.2.2.2.2.2.1 ∧ q.2.2.2.2.2.2.1 + q.2.2.2.2.2.2.2.2.2.2.2.1 ≤ r.2.2.2.2.2.2.2.2.2.2.2.2.2.2.2.2.2.2.2.2.2.1 + r.2.2.2.2.2.2.2.2.2.2.2.2.2.2.2.2.2.2.2.2.2.2.2.2.2.2.1) ∧ (nb0 + nb1 ≤ r.2.2.2.2.2.2.2.2.2.2.2.2.2.2.2.2.2.2.2.1 + r.2.2.2.2.2.2.2.2.2.2.2.2.2.2.2.2.2.2.2.2.2.2.2.2.1 ∧ nw0 + nw1 ≤ r.2.2.2.2.2.2.2.2.2.2.2.2.2.2.2.2.2.2.2.2.2.1 + r.2.2.2.2.2.2.2.2.2.2.2.2.2.2.2.2.2.2.2.2.2.2.2.2.2.2.1) ∧ CP r.2.2.2.2.2.2.2.2.2.2.2.2.2.2.2.2.2.2.2.1 r.2.2.2.2.2.2.2.2.2.2.2.2.2.2.2.2.2.2.2.2.2.1 ∧ CP r.2.2.2.2.2.2.2.2.2.2.2.2.2.2.2.2.2.2.2.2.2.2.2.2.1 r.2.2.2.2.2.2.2.2.2.2.2.2.2.2.2.2.2.2.2.2.2.2.2.2.2.2.1 ∧ ∃ v, kX7_setTile F bn r.2.1 r.2.2.2.1 r.2.2.2.2.1 0 (tT 0) = some v ∧ v.1 = tT 0 ∧ v.2.2.1 = 0 ∧ LI bn bk bs v.2.1 bC bN bW v.2.2.1 v.2.2.2 r.2.2.2.2.2.1 (upd (upd tT 62 0) 63 0) tW) := by
  obtain ⟨w, h, g, T, Wm, lm, src, dn, ke, hist, h12, hB, hH, hL, hW⟩ := hLI
  obtain ⟨hn, hn1, hsrc, hT, hWK⟩ := hB.n
  refine (L_areSol (bL := bL) (vL := vL) (vS := vS) (vA := vA) (vT := vT) (so := so) (sw := sw) (sR := sR) (sI := sI) (sP := sP) (sF := sF) (wP := wP) (wN := wN) (lc0 := lc0) (lc1 := lc1) (lb0 := lb0) (lb1 := lb1) (lw0 := lw0) (lw1 := lw1) hB hH hL h12 h0 h1 hF).m ?_
  rintro r ⟨e1, e2, -, q, hq, cp0, cp1, a1, a2, a3, a4⟩
  obtain ⟨l1, l2, l3, l4, l5, l6⟩ := hL
  have hmo := mo_X6_countAll hq
  have eu : up T 0 (T 0) = T := by
    funext j
    by_cases e : j = 0
    · rw [e, up_s]
    · rw [up_n e]
  have cs := c_setTile (F := F) (hd := r.2.2.2.1) (hk := r.2.2.2.2.1) (c := 0) hB (by omega) (hT 0)
  rw [eu] at cs
  refine ⟨e1, fun q' hq' => ?_, ?_, cp0, cp1, (nI (T 0), fN T, 0, 0), ?_, (l1 0 (by omega)).symm, rfl, w, h, g, T, Wm, lm, src, 0, 0, hist, h12, hB.til hT, ⟨Nat.le_refl 0, Nat.zero_le _, fun j hj => absurd hj (Nat.not_lt_zero j), rfl, rfl, fun j hj => absurd hj (Nat.not_lt_zero j)⟩, ⟨fun j hj => ?_, fun j hj => ?_, fun j hj => absurd hj (Nat.not_lt_zero j), ?_, ?_, Nat.zero_le _⟩, hW⟩
  · rw [hq] at hq'
    cases hq'
    rw [a1, a2, a3, a4]
    exact ⟨Nat.le_refl _, Nat.le_refl _⟩
  · rw [a1, a2, a3, a4]
    exact hmo
  · rw [e2, l1 0 (by omega)]
    exact cs
  · rw [pk_un (by omega), pk_un (by omega), l1 j hj]
  · rw [pk_un (by omega), pk_un (by omega), l2 j hj]
  · rw [pk_un (by decide), pk_us]; rfl
  · rw [pk_us]; rfl
abbrev Z0 : Nat → Nat := fun _ => 0
theorem L_init (hF : 1000 ≤ F) : Ex (kX0_clear F 0 0 0 (fun _ => 0) (fun _ => 0) (fun _ => 0) (fun _ => 0) 3 3 0) (fun r => BD 3 3 false Z0 Z0 0 0 r.1 r.2.1 r.2.2.1 r.2.2.2.1 r.2.2.2.2.1 r.2.2.2.2.2.1 r.2.2.2.2.2.2) := by
  have h := a_clear (F := F) (w := 3) (h := 3) (g := false) (T := fun _ => 0) (bn := 0) (bk := 0) (bs := 0) (bC := fun _ => 0) (N0 := fun _ => some 0) (Y0 := fun _ => some 0) (by decide) hF
  obtain ⟨r, e, g1, g2, g3, g4, g5, N1, Y1, g6, g7, g8, g9⟩ := h
  have z0 : z16 (fun _ => 0) = fun _ => 0 := by
    funext q
    unfold z16
    split <;> rfl
  refine ⟨r, e, by decide, fun _ => (by show 0 < 16; decide), fun _ => (by show 0 < 16; decide), wsy0, by decide, by decide, g1, g2, g3, g4.trans (congrArg fN z0), g5, N1, Y1, g6, g7, g8, fun c s hc hs => ?_⟩
  rw [g9 c s hc hs]
  unfold Wyf
  rw [Nat.zero_testBit]
  rfl
theorem L_start (hB : BD 3 3 false Z0 Z0 0 0 bn bk bs bT bC bN bW) (hF : 1000 ≤ F) : kX7_size F bn = some 9 ∧ kX7_neighbour F bn bN 0 0 = some (-1) ∧ Ex (kX7_watered F bs bT bW bL) (fun r => r.1 = 1 ∧ Ex (kX7_isSolved F bn bT bW r.2) (fun q => q.1 = 0)) ∧ kX7_loose F bn bT bW = some 0 := by
  obtain ⟨hn, hn1, hsrc, hT, hW⟩ := hB.n
  have zz : ∀ j, j < 3 * 3 → Z0 j = 0 := fun j _ => rfl
  have op := opn_0 zz
  have sp := opn_split (n := 3 * 3) (Wy := Wyf 3 3 false Z0) hT
  have jn0 : jnn (Wyf 3 3 false Z0) Z0 (3 * 3) = 0 := by omega
  refine ⟨c_size hB, c_neigh (c := 0) (s := 0) hB (by decide) (by decide), (c_wat hB hF).m (fun r hr => ⟨?_, (c_solved hB hF).m (fun q hq => ?_)⟩), ?_⟩
  · have hp : nP (fun b => Rc (JA (Wyf 3 3 false Z0) Z0) 0 b) (3 * 3) = 1 := nP_one Rc.rf hn1 (fun i hi hin hr => by have := Rc_0 hW zz hr; omega)
    rw [hr, hp]; rfl
  · obtain ⟨b, k1, k2⟩ := hq
    rw [k1]
    cases b with
    | false => rfl
    | true =>
      have := (k2.mp rfl).2.1
      rw [jn0] at this
      exact absurd this (by decide)
  · rw [c_loose hB hF, op, jn0]; rfl
end LB
