/-! each call's answers: the board as it is, lays and solutions -/
theorem INV.cap {i : Nat} {bn bk bs : Int32} {bT bC bN bW : Nat → Int32} {hd hk : Int32} {hM : Nat → Int32} {nb0 nw0 nb1 nw1 a b c d : Nat} {mw mh mg ms mv md : Int32} {mT mW mK mM : Nat → Int32} (h : INV i bn bk bs bT bC bN bW hd hk hM nb0 nw0 nb1 nw1 mw mh mg ms mv md mT mW mK mM) (h1 : CP a b) (h2 : CP c d) : INV i bn bk bs bT bC bN bW hd hk hM a b c d mw mh mg ms mv md mT mW mK mM := by
  obtain ⟨w, h, g, T, Wm, lm, src, hist, dn, ke, N, Y, o, hT, hWm, hsy, hlm, hsrc, hdk, hki, hhist, b1, b2, b3, b4, hC, b5, b6, hN, hY, b7, b8, hMh, hc0, hc1, h9⟩ := h
  exact ⟨w, h, g, T, Wm, lm, src, hist, dn, ke, N, Y, o, hT, hWm, hsy, hlm, hsrc, hdk, hki, hhist, b1, b2, b3, b4, hC, b5, b6, hN, hY, b7, b8, hMh, h1, h2, h9⟩
theorem INV.cp {i : Nat} {bn bk bs : Int32} {bT bC bN bW : Nat → Int32} {hd hk : Int32} {hM : Nat → Int32} {nb0 nw0 nb1 nw1 : Nat} {mw mh mg ms mv md : Int32} {mT mW mK mM : Nat → Int32} (h : INV i bn bk bs bT bC bN bW hd hk hM nb0 nw0 nb1 nw1 mw mh mg ms mv md mT mW mK mM) : CP nb0 nw0 ∧ CP nb1 nw1 := by
  obtain ⟨w, h, g, T, Wm, lm, src, hist, dn, ke, N, Y, o, hT, hWm, hsy, hlm, hsrc, hdk, hki, hhist, b1, b2, b3, b4, hC, b5, b6, hN, hY, b7, b8, hMh, hc0, hc1, h9⟩ := h
  exact ⟨hc0, hc1⟩
theorem okS_1 {w h : Nat} {g : Bool} (o : okS w h g = true) : 1 ≤ w * h := by
  obtain ⟨a, b, c, d, e⟩ := okS_b o
  exact Nat.mul_pos (show 0 < w by omega) (show 0 < h by omega)
section AJ
variable {F i : Nat} {bn bk bs : Int32} {bT bC bN bW bL : Nat → Int32} {hd hk : Int32} {hM : Nat → Int32} {nb0 nw0 nb1 nw1 : Nat} {mt mw mh mg ms mv md mu mo mf : Int32} {mT mW mK mM mR mL mP mY mF : Nat → Int32} {kp ku : Int32} {kC kS vL vS vA vT sR sI sF : Nat → Int32} {so sw : Int32} {sP : Nat → Nat → Int32} {oO : Nat → Int64} {x1 x2 x3 x4 : Int32} {wP wN lw0 lw1 : Nat → Int32} {lc0 lc1 : Int32} {lb0 lb1 : Nat → Int64}
theorem ag_tile (hI : INV i bn bk bs bT bC bN bW hd hk hM nb0 nw0 nb1 nw1 mw mh mg ms mv md mT mW mK mM) (hF : BF F) : Ex (kL_tile F bn bT x1 oO) (fun r => Ex (kX8_tile F mt mw mh mT x1) (fun q => q.2 = r.1 ∧ (r.1 = 0 → r.2 0 = q.1.toInt64))) := by
  unfold kL_tile kX7_tile kX8_tile
  obtain ⟨w, h, g, T, Wm, lm, src, hist, dn, ke, N, Y, o, hT, hWm, hsy, hlm, hsrc, hdk, hki, hhist, rfl, rfl, rfl, rfl, hC, rfl, rfl, hN, hY, rfl, rfl, hMh, hc0, hc1, rfl, rfl, rfl, rfl, rfl, rfl, rfl, hmW, hmK, hmM⟩ := hI
  have hn := (okS_b o).2.2.2.2
  have hcc : ∀ F, kX8_cells F (nI w) (nI h) = some (nI (w * h)) := fun F => congrArg some (pk_mul w h)
  rcases cellQ (F := F) (x := x1) hn hcc with ⟨c, hc, rfl⟩ | ⟨e1, e2⟩
  · obtain ⟨e1, e2⟩ := cell_ok (F := F) hn hcc hc
    have hc16 : c < 16 := by omega
    refine Ex.b (P := fun z => z = .inl (nI (T c))) (Ex.o e1 (exRl (Ex.o (a_sidesOf hc16) (Ex.v rfl)))) ?_
    rintro _ rfl
    refine exWl (Ex.t out0 (Ex.v (Ex.o e2 (Ex.f n10 ?_))))
    unfold kX8_tile_j14
    refine Ex.o holds8_0 (Ex.f n10 (Ex.t (ix_n hc16 (by decide)) (Ex.v ⟨rfl, fun _ => ?_⟩)))
    rw [cl_n (show c < 2 ^ 31 by omega)]
    rfl
  · refine Ex.b (P := fun z => z = .inr 1) (Ex.o e1 (exRr rfl)) ?_
    rintro _ rfl
    refine exWr (Ex.t rfl (Ex.v (Ex.o e2 (Ex.t rfl ?_))))
    unfold kX8_tile_j14
    exact Ex.o holds8_1 (Ex.t rfl (Ex.v ⟨rfl, fun h => absurd h n10⟩))
theorem ag_neighbour (hI : INV i bn bk bs bT bC bN bW hd hk hM nb0 nw0 nb1 nw1 mw mh mg ms mv md mT mW mK mM) (hF : BF F) : Ex (kL_neighbour F bn bN x1 x2 oO) (fun r => Ex (kX8_neighbour F mt mw mh mg x1 x2) (fun q => q.2 = r.1 ∧ (r.1 = 0 → r.2 0 = q.1.toInt64))) := by
  unfold kL_neighbour kX7_neighbour kX8_neighbour
  obtain ⟨w, h, g, T, Wm, lm, src, hist, dn, ke, N, Y, o, hT, hWm, hsy, hlm, hsrc, hdk, hki, hhist, rfl, rfl, rfl, rfl, hC, rfl, rfl, hN, hY, rfl, rfl, hMh, hc0, hc1, rfl, rfl, rfl, rfl, rfl, rfl, rfl, hmW, hmK, hmM⟩ := hI
  have hn := (okS_b o).2.2.2.2
  have hcc : ∀ F, kX8_cells F (nI w) (nI h) = some (nI (w * h)) := fun F => congrArg some (pk_mul w h)
  rcases cellQ (F := F) (x := x1) hn hcc with ⟨c, hc, rfl⟩ | ⟨e1, e2⟩
  · obtain ⟨e1, e2⟩ := cell_ok (F := F) hn hcc hc
    have hc16 : c < 16 := by omega
    rcases sideQ (F := F) (x := x2) with ⟨s, hs, rfl⟩ | ⟨e3, e4⟩
    · obtain ⟨e3, e4⟩ := side_ok (F := F) hs
      refine Ex.b (P := fun z => z = .inl (enc (nbr w h g c s))) (Ex.o e1 (exRl (Ex.o e3 (exRl (Ex.o (a_beside hc16 hs) (Ex.v (by rw [hN c s hc hs]))))))) ?_
      rintro _ rfl
      refine exWl (Ex.t out0 (Ex.v (Ex.o e2 (Ex.f n10 (Ex.o e4 (Ex.f n10 ?_))))))
      unfold kX8_neighbour_j21
      exact Ex.o holds8_0 (Ex.f n10 (Ex.o (a_nb o hc hs) (Ex.v ⟨rfl, fun _ => rfl⟩)))
    · refine Ex.b (P := fun z => z = .inr 1) (Ex.o e1 (exRl (Ex.o e3 (exRr rfl)))) ?_
      rintro _ rfl
      refine exWr (Ex.t rfl (Ex.v (Ex.o e2 (Ex.f n10 (Ex.o e4 (Ex.t rfl ?_))))))
      unfold kX8_neighbour_j21
      exact Ex.o holds8_1 (Ex.t rfl (Ex.v ⟨rfl, fun h => absurd h n10⟩))
  · refine Ex.b (P := fun z => z = .inr 1) (Ex.o e1 (exRr rfl)) ?_
    rintro _ rfl
    refine exWr (Ex.t rfl (Ex.v (Ex.o e2 (Ex.t rfl ?_))))
    unfold kX8_neighbour_j21
    exact Ex.o holds8_1 (Ex.t rfl (Ex.v ⟨rfl, fun h => absurd h n10⟩))
theorem ag_isJoined (hI : INV i bn bk bs bT bC bN bW hd hk hM nb0 nw0 nb1 nw1 mw mh mg ms mv md mT mW mK mM) (hF : BF F) : Ex (kL_isJoined F bn bT bW x1 x2 oO) (fun r => Ex (kX8_isJoined F mt mw mh mg mT mW x1 x2) (fun q => q.2 = r.1 ∧ (r.1 = 0 → r.2 0 = b2L q.1))) := by
  unfold kL_isJoined kX7_isJoined kX8_isJoined
  obtain ⟨w, h, g, T, Wm, lm, src, hist, dn, ke, N, Y, o, hT, hWm, hsy, hlm, hsrc, hdk, hki, hhist, rfl, rfl, rfl, rfl, hC, rfl, rfl, hN, hY, rfl, rfl, hMh, hc0, hc1, rfl, rfl, rfl, rfl, rfl, rfl, rfl, hmW, hmK, hmM⟩ := hI
  have hn := (okS_b o).2.2.2.2
  have hMB := mk_MB o hmW hWm
  have hW := mk_WOK o hsy
  have hcc := hMB.2.2.2.2.2
  rcases cellQ (F := F) (x := x1) hn hcc with ⟨c, hc, rfl⟩ | ⟨e1, e2⟩
  · obtain ⟨e1, e2⟩ := cell_ok (F := F) hn hcc hc
    have hc16 : c < 16 := by omega
    rcases sideQ (F := F) (x := x2) with ⟨s, hs, rfl⟩ | ⟨e3, e4⟩
    · obtain ⟨e3, e4⟩ := side_ok (F := F) hs
      refine Ex.b (P := fun z => z = .inl (bI (jnd (Wyf w h g Wm) T c s))) (Ex.o e1 (exRl (Ex.o e3 (exRl (Ex.o (a_joins0 hW hT hY hc16 hs) (Ex.t (isZ_b _) (Ex.v rfl))))))) ?_
      rintro _ rfl
      refine exWl ?_
      have ref : ∀ oL : Int64, oL = b2L (bI (jnd (Wyf w h g Wm) T c s)) → Ex ((kX8_isCell F (nI w) (nI h) (nI c)).bind fun q1 => (if q1 = 0 then kX8_isJoined_j21 F mt (nI w) (nI h) (bI g) (fN T) mW (nI c) (nI s) 1 else ((kX8_isSide F (nI s)).bind fun q9 => (if q9 = 0 then kX8_isJoined_j21 F mt (nI w) (nI h) (bI g) (fN T) mW (nI c) (nI s) 1 else kX8_isJoined_j21 F mt (nI w) (nI h) (bI g) (fN T) mW (nI c) (nI s) 0)))) (fun q => q.2 = 0 ∧ ((0 : Int32) = 0 → vp_updL oO (0 : Int32).toNatClampNeg oL 0 = b2L q.1)) := by
        intro oL hoL
        refine Ex.o e2 (Ex.f n10 (Ex.o e4 (Ex.f n10 ?_)))
        unfold kX8_isJoined_j21
        refine Ex.o holds8_0 (Ex.f n10 (Ex.o (a_joins8 hMB hT hc hs) ?_))
        cases ej : jnd (Wyf w h g Wm) T c s with
        | false =>
          rw [ej] at hoL
          exact Ex.t bI_f (Ex.v ⟨rfl, fun _ => by show vp_updL oO 0 oL 0 = _; rw [pk_uLs, hoL]; rfl⟩)
        | true =>
          rw [ej] at hoL
          exact Ex.f bI_n (Ex.v ⟨rfl, fun _ => by show vp_updL oO 0 oL 0 = _; rw [pk_uLs, hoL]; rfl⟩)
      cases ej : jnd (Wyf w h g Wm) T c s with
      | false => rw [ej] at ref; exact Ex.t bI_f (Ex.t out0 (Ex.v (ref 0 rfl)))
      | true => rw [ej] at ref; exact Ex.f bI_n (Ex.t out0 (Ex.v (ref 1 rfl)))
    · refine Ex.b (P := fun z => z = .inr 1) (Ex.o e1 (exRl (Ex.o e3 (exRr rfl)))) ?_
      rintro _ rfl
      refine exWr (Ex.t rfl (Ex.v (Ex.o e2 (Ex.f n10 (Ex.o e4 (Ex.t rfl ?_))))))
      unfold kX8_isJoined_j21
      exact Ex.o holds8_1 (Ex.t rfl (Ex.v ⟨rfl, fun h => absurd h n10⟩))
  · refine Ex.b (P := fun z => z = .inr 1) (Ex.o e1 (exRr rfl)) ?_
    rintro _ rfl
    refine exWr (Ex.t rfl (Ex.v (Ex.o e2 (Ex.t rfl ?_))))
    unfold kX8_isJoined_j21
    exact Ex.o holds8_1 (Ex.t rfl (Ex.v ⟨rfl, fun h => absurd h n10⟩))
theorem ag_isWatered (hI : INV i bn bk bs bT bC bN bW hd hk hM nb0 nw0 nb1 nw1 mw mh mg ms mv md mT mW mK mM) (hF : BF F) : Ex (kL_isWatered F bn bs bT bW bL x1 oO) (fun r => Ex (kX8_isWatered F mt mw mh mg ms mT mW mR x1) (fun q => q.2.1 = r.1 ∧ (r.1 = 0 → r.2.2 0 = b2L q.1))) := by
  unfold kL_isWatered kX7_isWatered kX8_isWatered
  obtain ⟨w, h, g, T, Wm, lm, src, hist, dn, ke, N, Y, o, hT, hWm, hsy, hlm, hsrc, hdk, hki, hhist, rfl, rfl, rfl, rfl, hC, rfl, rfl, hN, hY, rfl, rfl, hMh, hc0, hc1, rfl, rfl, rfl, rfl, rfl, rfl, rfl, hmW, hmK, hmM⟩ := hI
  have hn := (okS_b o).2.2.2.2
  have hMB := mk_MB o hmW hWm
  have hW := mk_WOK o hsy
  have hcc := hMB.2.2.2.2.2
  rcases cellQ (F := F) (x := x1) hn hcc with ⟨c, hc, rfl⟩ | ⟨e1, e2⟩
  · obtain ⟨e1, e2⟩ := cell_ok (F := F) hn hcc hc
    have hc16 : c < 16 := by omega
    refine Ex.b (P := fun z => ∃ b L', z = .inl (bI b, L') ∧ (b = true ↔ Rc (JA (Wyf w h g Wm) T) src c)) (Ex.o e1 (exRl (Ex.o rfl (Ex.b (a_reachedFrom (bL := bL) hW hT hY (show src < 16 by omega) hF.1) ?_)))) ?_
    · rintro ⟨q0, q1⟩ ⟨M, eM, hM, hMb⟩
      have eM : q0 = nI M := eM
      subst eM
      exact Ex.o (show kX7_holds F (nI M) (nI c) = _ from a_holds (by omega) (by omega)) (Ex.t (isZ_b _) (Ex.v ⟨_, q1, rfl, hMb c⟩))
    · rintro _ ⟨b, L', rfl, hb⟩
      refine exWl ?_
      have ref : ∀ oL : Int64, oL = b2L (bI b) → Ex ((kX8_isCell F (nI w) (nI h) (nI c)).bind fun q1 => (if q1 = 0 then kX8_isWatered_j14 F mt (nI w) (nI h) (bI g) (nI src) (fN T) mW mR (nI c) 1 else kX8_isWatered_j14 F mt (nI w) (nI h) (bI g) (nI src) (fN T) mW mR (nI c) 0)) (fun q => q.2.1 = 0 ∧ ((0 : Int32) = 0 → vp_updL oO (0 : Int32).toNatClampNeg oL 0 = b2L q.1)) := by
        intro oL hoL
        refine Ex.o e2 (Ex.f n10 ?_)
        unfold kX8_isWatered_j14
        refine Ex.o holds8_0 (Ex.f n10 (Ex.b (a_reaches hW hMB hT hsrc hF.1) ?_))
        rintro ⟨q0, R2⟩ ⟨ρ, e3, hR, hρ⟩
        have e3 : q0 = nI (num ρ (w * h)) := e3
        subst e3
        have hR : RB R2 ρ := hR
        have h1 := num_pos hsrc ((hρ src).mpr Rc.rf)
        have h2 := num_le ρ (w * h)
        have hbρ : b = ρ c := by
          cases x : ρ c with
          | true => exact hb.mpr ((hρ c).mp x)
          | false =>
            cases y : b with
            | false => rfl
            | true => rw [(hρ c).mpr (hb.mp y)] at x; cases x
        refine Ex.f (nI_nle (by omega) (by omega)) (Ex.t (ix_n hc16 (by decide)) ?_)
        rw [cl_n (show c < 2 ^ 31 by omega)]
        dsimp only
        have hrc : R2 c = bI b := by rw [hbρ]; exact hR c hc16
        cases b with
        | false => exact Ex.t hrc (Ex.v ⟨rfl, fun _ => by show vp_updL oO 0 oL 0 = _; rw [pk_uLs, hoL]; rfl⟩)
        | true => exact Ex.f (show ¬ R2 c = 0 by rw [hrc]; exact bI_n) (Ex.v ⟨rfl, fun _ => by show vp_updL oO 0 oL 0 = _; rw [pk_uLs, hoL]; rfl⟩)
      cases b with
      | false => exact Ex.t bI_f (Ex.t out0 (Ex.v (ref 0 rfl)))
      | true => exact Ex.f bI_n (Ex.t out0 (Ex.v (ref 1 rfl)))
  · refine Ex.b (P := fun z => z = .inr (1, bL)) (Ex.o e1 (exRr rfl)) ?_
    rintro _ rfl
    refine exWr (Ex.t rfl (Ex.v (Ex.o e2 (Ex.t rfl ?_))))
    unfold kX8_isWatered_j14
    exact Ex.o holds8_1 (Ex.t rfl (Ex.v ⟨rfl, fun h => absurd h n10⟩))
theorem ag_moves (hI : INV i bn bk bs bT bC bN bW hd hk hM nb0 nw0 nb1 nw1 mw mh mg ms mv md mT mW mK mM) : Ex (kX7_moves F hd) (fun r => Ex (kX8_moves F mt md) (fun q => r = q.1)) := by
  obtain ⟨w, h, g, T, Wm, lm, src, hist, dn, ke, N, Y, o, hT, hWm, hsy, hlm, hsrc, hdk, hki, hhist, rfl, rfl, rfl, rfl, hC, rfl, rfl, hN, hY, rfl, rfl, hMh, hc0, hc1, rfl, rfl, rfl, rfl, rfl, rfl, rfl, hmW, hmK, hmM⟩ := hI
  exact ⟨_, rfl, _, rfl, rfl⟩
theorem ag_size (hI : INV i bn bk bs bT bC bN bW hd hk hM nb0 nw0 nb1 nw1 mw mh mg ms mv md mT mW mK mM) : Ex (kX7_size F bn) (fun r => Ex (kX8_size F mt mw mh) (fun q => r = q.1)) := by
  obtain ⟨w, h, g, T, Wm, lm, src, hist, dn, ke, N, Y, o, hT, hWm, hsy, hlm, hsrc, hdk, hki, hhist, rfl, rfl, rfl, rfl, hC, rfl, rfl, hN, hY, rfl, rfl, hMh, hc0, hc1, rfl, rfl, rfl, rfl, rfl, rfl, rfl, hmW, hmK, hmM⟩ := hI
  exact ⟨_, rfl, _, rfl, (pk_mul w h).symm⟩
theorem ag_loose (hI : INV i bn bk bs bT bC bN bW hd hk hM nb0 nw0 nb1 nw1 mw mh mg ms mv md mT mW mK mM) (hF : BF F) : Ex (kX7_loose F bn bT bW) (fun r => Ex (kX8_loose F mt mw mh mg mT mW) (fun q => r = q.1)) := by
  obtain ⟨w, h, g, T, Wm, lm, src, hist, dn, ke, N, Y, o, hT, hWm, hsy, hlm, hsrc, hdk, hki, hhist, rfl, rfl, rfl, rfl, hC, rfl, rfl, hN, hY, rfl, rfl, hMh, hc0, hc1, rfl, rfl, rfl, rfl, rfl, rfl, rfl, hmW, hmK, hmM⟩ := hI
  have hn := (okS_b o).2.2.2.2
  have hMB := mk_MB o hmW hWm
  have hW := mk_WOK o hsy
  unfold kX7_loose kX8_loose
  exact Ex.o (a_countOpen hT hn hF.1) (Ex.o (a_countJoined' hW hT hY hF.1) (Ex.v (Ex.o (a_open8 hMB.2.2.2.2.2 hT hn hF.1) (Ex.o (a_joined8 hMB hT hF.1) (Ex.v rfl)))))
theorem ag_watered (hI : INV i bn bk bs bT bC bN bW hd hk hM nb0 nw0 nb1 nw1 mw mh mg ms mv md mT mW mK mM) (hF : BF F) : Ex (kX7_watered F bs bT bW bL) (fun r => Ex (kX8_watered F mt mw mh mg ms mT mW mR) (fun q => r.1 = q.1)) := by
  obtain ⟨w, h, g, T, Wm, lm, src, hist, dn, ke, N, Y, o, hT, hWm, hsy, hlm, hsrc, hdk, hki, hhist, rfl, rfl, rfl, rfl, hC, rfl, rfl, hN, hY, rfl, rfl, hMh, hc0, hc1, rfl, rfl, rfl, rfl, rfl, rfl, rfl, hmW, hmK, hmM⟩ := hI
  have hn := (okS_b o).2.2.2.2
  have hMB := mk_MB o hmW hWm
  have hW := mk_WOK o hsy
  unfold kX7_watered kX8_watered
  refine Ex.o rfl (Ex.b (a_reachedFrom (bL := bL) hW hT hY (show src < 16 by omega) hF.1) ?_)
  rintro ⟨q0, q1⟩ ⟨M, eM, hM, hMb⟩
  have eM : q0 = nI M := eM
  subst eM
  refine Ex.o (show kJ6_bitCount_0f7a4 F (nI M) = _ from a_bc hM) (Ex.v (Ex.b (a_reaches hW hMB hT hsrc hF.1) ?_))
  rintro ⟨z0, R2⟩ ⟨ρ, e3, hR, hρ⟩
  have e3 : z0 = nI (num ρ (w * h)) := e3
  subst e3
  refine Ex.v ?_
  show nI (pop M 16) = nI (num ρ (w * h))
  rw [nP_pop (p := fun b => Rc (JA (Wyf w h g Wm) T) src b) (fun b _ => hMb b), nP_num (p := fun b => Rc (JA (Wyf w h g Wm) T) src b) (fun b _ => hρ b)]
  have := nP_up (p := fun b => Rc (JA (Wyf w h g Wm) T) src b) (n := w * h) (fun b hb hr => absurd (JA.rlt hW hsrc hr) (by omega)) (16 - w * h)
  rw [show w * h + (16 - w * h) = 16 by omega] at this
  rw [this]
theorem ag_isSolved (hI : INV i bn bk bs bT bC bN bW hd hk hM nb0 nw0 nb1 nw1 mw mh mg ms mv md mT mW mK mM) (hF : BF F) : Ex (kX7_isSolved F bn bT bW bL) (fun r => Ex (kX8_isSolved F mt mw mh mg mT mW mR) (fun q => r.1 = q.1)) := by
  obtain ⟨w, h, g, T, Wm, lm, src, hist, dn, ke, N, Y, o, hT, hWm, hsy, hlm, hsrc, hdk, hki, hhist, rfl, rfl, rfl, rfl, hC, rfl, rfl, hN, hY, rfl, rfl, hMh, hc0, hc1, rfl, rfl, rfl, rfl, rfl, rfl, rfl, hmW, hmK, hmM⟩ := hI
  have hn := (okS_b o).2.2.2.2
  have hn1 := okS_1 o
  have hMB := mk_MB o hmW hWm
  have hW := mk_WOK o hsy
  have hcc := hMB.2.2.2.2.2
  have l1 := opn_le T hn
  have l2 := jnn_le (Wyf w h g Wm) T hn
  have e2 : 2 * (nI (w * h) - 1) = nI (2 * (w * h - 1)) := by rw [i1, pk_sub hn1, i2, pk_mul]
  have hp : 2 ^ (w * h) ≤ 2 ^ 16 := Nat.pow_le_pow_right (by decide) hn
  have eall : kX0_allCells F (nI (w * h)) = some (nI (2 ^ (w * h) - 1)) := by
    unfold kX0_allCells
    rw [i1, q_shl (by omega) (by omega), Nat.one_mul, pk_sub (Nat.one_le_two_pow)]
  unfold kX7_isSolved kX8_isSolved kX8_isDone
  refine Ex.o (a_countJoined' hW hT hY hF.1) (Ex.o (show kX0_countOpen F (nI (w * h)) (fN T) = some (nI (opn T (w * h))) from a_countOpen hT hn hF.1) ?_)
  by_cases c1 : jnn (Wyf w h g Wm) T (w * h) = opn T (w * h)
  · refine Ex.t (by rw [c1]) (Ex.o (show kX0_count F (nI (w * h)) = some (nI (w * h)) from rfl) ?_)
    rw [e2]
    by_cases c2 : jnn (Wyf w h g Wm) T (w * h) = 2 * (w * h - 1)
    · refine Ex.t (by rw [c2]) (Ex.b (a_reachedFrom (a := 0) (bL := bL) hW hT hY (by decide) hF.1) ?_)
      rintro ⟨q0, q1⟩ ⟨M, eM, hM, hMb⟩
      have eM : q0 = nI M := eM
      subst eM
      refine Ex.o eall ?_
      have key : M = 2 ^ (w * h) - 1 ↔ ∀ c, c < w * h → Rc (JA (Wyf w h g Wm) T) 0 c := by
        constructor
        · intro hh c hc
          refine (hMb c).mp ?_
          rw [hh, Nat.testBit_two_pow_sub_one]
          exact decide_eq_true hc
        · intro hh
          apply Nat.eq_of_testBit_eq
          intro i
          rw [Nat.testBit_two_pow_sub_one]
          by_cases hi : i < w * h
          · rw [decide_eq_true hi]; exact (hMb i).mpr (hh i hi)
          · rw [decide_eq_false hi]
            cases e : M.testBit i with
            | false => rfl
            | true => exact absurd (JA.rlt hW (show 0 < w * h by omega) ((hMb i).mp e)) hi
      have ref : ∀ v : Int32, (M = 2 ^ (w * h) - 1 → v = 1) → (M ≠ 2 ^ (w * h) - 1 → v = 0) → Ex (Option.bind ((kX8_open F (nI w) (nI h) (fN T)).bind fun q1 => ((kX8_joined F (nI w) (nI h) (bI g) (fN T) mW).bind fun q2 => (if q1 = q2 then ((kX8_joined F (nI w) (nI h) (bI g) (fN T) mW).bind fun q9 => ((kX8_cells F (nI w) (nI h)).bind fun q10 => (if q9 = (2 * (q10 - 1)) then ((kX8_reaches F (nI w) (nI h) (bI g) (fN T) mW mR 0).bind fun q15 => ((kX8_cells F (nI w) (nI h)).bind fun q16 => (if q15.1 = q16 then some (1, q15.2) else some (0, q15.2)))) else some (0, mR)))) else some (0, mR)))) (fun q1 => (if isZ q1.1 = true then some (q1.1, 0, q1.2) else none) : Int32 × (Nat → Int32) → Option (Int32 × Int32 × (Nat → Int32)))) (fun q => v = q.1) := by
        intro v hv1 hv0
        refine Ex.b (P := fun z => z.1 = v ∧ isZ z.1 = true) (Ex.o (a_open8 hcc hT hn hF.1) (Ex.o (a_joined8 hMB hT hF.1) (Ex.t (by rw [c1]) (Ex.o (a_joined8 hMB hT hF.1) (Ex.o (hcc F) (Ex.t (by rw [e2, c2]) (Ex.b (a_reaches (a := 0) hW hMB hT (by omega) hF.1) ?_))))))) ?_
        · rintro ⟨z0, R2⟩ ⟨ρ, e3, hR, hρ⟩
          have e3 : z0 = nI (num ρ (w * h)) := e3
          subst e3
          have hnl := num_le ρ (w * h)
          have hall : num ρ (w * h) = w * h ↔ ∀ c, c < w * h → Rc (JA (Wyf w h g Wm) T) 0 c := by
            rw [nP_num (p := fun b => Rc (JA (Wyf w h g Wm) T) 0 b) (fun b _ => hρ b), nP_all]
          refine Ex.o (hcc F) ?_
          by_cases c3 : num ρ (w * h) = w * h
          · exact Ex.t (show nI (num ρ (w * h)) = nI (w * h) by rw [c3]) (Ex.v ⟨(hv1 (key.mpr (hall.mp c3))).symm, rfl⟩)
          · exact Ex.f (show ¬ nI (num ρ (w * h)) = nI (w * h) from fun x => c3 ((nI_eq (by omega) (by omega)).mp x)) (Ex.v ⟨(hv0 (fun x => c3 (hall.mpr (key.mp x)))).symm, rfl⟩)
        · rintro ⟨z0, z1⟩ ⟨h1, h2⟩
          exact Ex.t h2 (Ex.v h1.symm)
      by_cases c3 : M = 2 ^ (w * h) - 1
      · exact Ex.t (show nI M = _ by rw [c3]) (Ex.v (ref 1 (fun _ => rfl) (fun x => absurd c3 x)))
      · exact Ex.f (show ¬ nI M = _ from fun x => c3 ((nI_eq (by omega) (by omega)).mp x)) (Ex.v (ref 0 (fun x => absurd x c3) (fun _ => rfl)))
    · refine Ex.f (fun x => c2 ((nI_eq (by omega) (by omega)).mp x)) (Ex.v ?_)
      refine Ex.b (P := fun z => z = (0, mR)) (Ex.o (a_open8 hcc hT hn hF.1) (Ex.o (a_joined8 hMB hT hF.1) (Ex.t (by rw [c1]) (Ex.o (a_joined8 hMB hT hF.1) (Ex.o (hcc F) (Ex.f (by rw [e2]; exact fun x => c2 ((nI_eq (by omega) (by omega)).mp x)) (Ex.v rfl))))))) ?_
      rintro _ rfl
      exact Ex.t rfl (Ex.v rfl)
  · refine Ex.f (fun x => c1 ((nI_eq (by omega) (by omega)).mp x)) (Ex.v ?_)
    refine Ex.b (P := fun z => z = (0, mR)) (Ex.o (a_open8 hcc hT hn hF.1) (Ex.o (a_joined8 hMB hT hF.1) (Ex.f (fun x => c1 ((nI_eq (by omega) (by omega)).mp x).symm) (Ex.v rfl)))) ?_
    rintro _ rfl
    exact Ex.t rfl (Ex.v rfl)
theorem ag_lays (hI : INV i bn bk bs bT bC bN bW hd hk hM nb0 nw0 nb1 nw1 mw mh mg ms mv md mT mW mK mM) (hF : BF F) : Ex (kL_lays F bn bk bT bW vL vS vA vT x1 oO) (fun r => Ex (kX8_lays F mt mw mh mg mT mW mK mR mL x1) (fun q => q.2.1 = r.1 ∧ (r.1 = 0 → r.2.2.2.2.2 0 = q.1.toInt64))) := by
  unfold kL_lays kX7_lays kX8_lays
  obtain ⟨w, h, g, T, Wm, lm, src, hist, dn, ke, N, Y, o, hT, hWm, hsy, hlm, hsrc, hdk, hki, hhist, rfl, rfl, rfl, rfl, hC, rfl, rfl, hN, hY, rfl, rfl, hMh, hc0, hc1, rfl, rfl, rfl, rfl, rfl, rfl, rfl, hmW, hmK, hmM⟩ := hI
  have hn := (okS_b o).2.2.2.2
  have hMB := mk_MB o hmW hWm
  have hW := mk_WOK o hsy
  have hcc := hMB.2.2.2.2.2
  rcases cellQ (F := F) (x := x1) hn hcc with ⟨c, hc, rfl⟩ | ⟨e1, e2⟩
  · obtain ⟨e1, e2⟩ := cell_ok (F := F) hn hcc hc
    have hc16 : c < 16 := by omega
    refine Ex.b (P := fun z => ∃ (L : Nat → Nat) (u : Int32 × (Nat → Int32) × (Nat → Int32) × (Nat → Int32) × (Nat → Int32)), z = .inl u ∧ u.1 = nI (L c) ∧ (∀ j, L j < 16) ∧ ∀ c k, (L c).testBit k = true ↔ Keep (Wyf w h g Wm) T (ownA T lm (w * h)) (w * h) c k) (Ex.o e1 (exRl (Ex.b (a_sift (vL := vL) (vS := vS) (vA := vA) (vT := vT) hW hT hY hlm hF.1) ?_))) ?_
    · rintro ⟨z1, z2, z3, z4⟩ ⟨L, hL1, hL2, hL3⟩
      exact Ex.o (a_leftAt hL1 hc16) (Ex.v ⟨L, _, rfl, rfl, hL2, hL3⟩)
    · rintro _ ⟨L, ⟨u0, u1, u2, u3, u4⟩, rfl, eu, hL2, hL3⟩
      refine exWl (Ex.t out0 (Ex.v (Ex.o e2 (Ex.f n10 ?_))))
      unfold kX8_lays_j14
      refine Ex.o holds8_0 (Ex.f n10 (Ex.b (a_strikes hW hMB hT hmK hF.1) ?_))
      rintro ⟨R2, v2⟩ ⟨L', hL1', hL2', hL3'⟩
      have hL1' : RNi (w * h) v2 L' := hL1'
      refine Ex.t (ix_n hc16 (by decide)) (Ex.v ⟨rfl, fun _ => ?_⟩)
      show vp_updL oO 0 u0.toInt64 0 = (v2 (nI c).toNatClampNeg).toInt64
      rw [pk_uLs, cl_n (show c < 2 ^ 31 by omega), hL1' c hc, show u0 = nI (L c) from eu, eq16 (hL2 c) (hL2' c) (fun k _ => (hL3 c k).trans (hL3' c k).symm)]
  · refine Ex.b (P := fun z => z = .inr (1, vL, vS, vA, vT)) (Ex.o e1 (exRr rfl)) ?_
    rintro _ rfl
    refine exWr (Ex.t rfl (Ex.v (Ex.o e2 (Ex.t rfl ?_))))
    unfold kX8_lays_j14
    exact Ex.o holds8_1 (Ex.t rfl (Ex.v ⟨rfl, fun h => absurd h n10⟩))
theorem ag_solutions (hI : INV i bn bk bs bT bC bN bW hd hk hM nb0 nw0 nb1 nw1 mw mh mg ms mv md mT mW mK mM) (hF : BF F) : Ex (kX7_solutions F bn bk bT bW vL vS vA vT so sw sR sI sP sF) (fun r => Ex (kX8_solutions F mt mw mh mg mo mf mT mW mK mR mY mF) (fun q => r.1 = q.1)) := by
  obtain ⟨w, h, g, T, Wm, lm, src, hist, dn, ke, N, Y, o, hT, hWm, hsy, hlm, hsrc, hdk, hki, hhist, rfl, rfl, rfl, rfl, hC, rfl, rfl, hN, hY, rfl, rfl, hMh, hc0, hc1, rfl, rfl, rfl, rfl, rfl, rfl, rfl, hmW, hmK, hmM⟩ := hI
  have hn1 := okS_1 o
  have hMB := mk_MB o hmW hWm
  have hW := mk_WOK o hsy
  unfold kX7_solutions kX8_solutions
  refine Ex.b (a_sift (vL := vL) (vS := vS) (vA := vA) (vT := vT) hW hT hY hlm hF.1) ?_
  rintro ⟨z1, z2, z3, z4⟩ ⟨L, hL1, hL2, hL3⟩
  refine Ex.b (a_countAll hW hn1 hT hY hL2 hL1 hL3 hF.1) ?_
  rintro ⟨y0, y1, y2, y3, y4, y5, y6⟩ ⟨k1, k2⟩
  refine Ex.v (Ex.b (a_searches hW hMB hn1 hT hmK hF.1 hF.2.2) ?_)
  rintro ⟨t1, t2, t3, t4, t5⟩ k3
  refine Ex.v ?_
  show y0 = t1
  rw [show y0 = y1 from k1, show y1 = _ from k2.1, show t1 = _ from k3.1]
theorem ag_sweep (hI : INV i bn bk bs bT bC bN bW hd hk hM nb0 nw0 nb1 nw1 mw mh mg ms mv md mT mW mK mM) (hF : BF F) : Ex (kX6_countAll F bn bk bT bC bN bW wP wN lc0 nb0 lb0 nw0 lw0 lc1 nb1 lb1 nw1 lw1) (fun r => CP r.2.2.2.2.1 r.2.2.2.2.2.2.1 ∧ CP r.2.2.2.2.2.2.2.2.2.1 r.2.2.2.2.2.2.2.2.2.2.2.1 ∧ Ex (kX8_solutionsBySweep F mt mw mh mg mo mf mT mW mK mR mY mF) (fun q => r.1 = q.1)) := by
  obtain ⟨w, h, g, T, Wm, lm, src, hist, dn, ke, N, Y, o, hT, hWm, hsy, hlm, hsrc, hdk, hki, hhist, rfl, rfl, rfl, rfl, hC, rfl, rfl, hN, hY, rfl, rfl, hMh, hc0, hc1, rfl, rfl, rfl, rfl, rfl, rfl, rfl, hmW, hmK, hmM⟩ := hI
  have hn1 := okS_1 o
  have hMB := mk_MB o hmW hWm
  have hW := mk_WOK o hsy
  refine (a_sweep (wP := wP) (wN := wN) (lc0 := lc0) (lc1 := lc1) (lb0 := lb0) (lb1 := lb1) (lw0 := lw0) (lw1 := lw1) o hW (fun c s d _ e => (Wyf_n e).2.2) hT hY hN hC hlm hc0 hc1 hF.2.1).m ?_
  rintro ⟨y0, y1, y2, y3, y4, y5, y6, y7, y8, y9, y10, y11, y12⟩ ⟨k1, k2, k3⟩
  refine ⟨k2, k3, ?_⟩
  unfold kX8_solutionsBySweep
  refine Ex.b (a_searches hW hMB hn1 hT hmK hF.1 hF.2.2) ?_
  rintro ⟨t1, t2, t3, t4, t5⟩ k4
  refine Ex.v ?_
  show y0 = t1
  rw [show y0 = _ from k1, show t1 = _ from k4.1]
theorem ag_first (hI : INV i bn bk bs bT bC bN bW hd hk hM nb0 nw0 nb1 nw1 mw mh mg ms mv md mT mW mK mM) (hF : BF F) : Ex (kL_first F bn bk bT bW vL vS vA vT so sw sR sI sP sF x1 oO) (fun r => Ex (kX8_first F mt mw mh mg mo mf mT mW mK mR mY mF x1) (fun q => q.2.1 = r.1 ∧ (r.1 = 0 → r.2.2.2.2.2.2.2.2.2.2.2 0 = q.1.toInt64))) := by
  unfold kL_first kX7_first kX8_first
  obtain ⟨w, h, g, T, Wm, lm, src, hist, dn, ke, N, Y, o, hT, hWm, hsy, hlm, hsrc, hdk, hki, hhist, rfl, rfl, rfl, rfl, hC, rfl, rfl, hN, hY, rfl, rfl, hMh, hc0, hc1, rfl, rfl, rfl, rfl, rfl, rfl, rfl, hmW, hmK, hmM⟩ := hI
  have hn := (okS_b o).2.2.2.2
  have hn1 := okS_1 o
  have hMB := mk_MB o hmW hWm
  have hW := mk_WOK o hsy
  have hcc := hMB.2.2.2.2.2
  have hs := a_searches (F := F) (mo := mo) (mf := mf) (mR := mR) (mY := mY) (mF := mF) hW hMB hn1 hT hmK hF.1 hF.2.2
  rcases cellQ (F := F) (x := x1) hn hcc with ⟨c, hc, rfl⟩ | ⟨e1, e2⟩
  · obtain ⟨e1, e2⟩ := cell_ok (F := F) hn hcc hc
    have hc16 : c < 16 := by omega
    refine Ex.b (P := fun z => ((srE (Wyf w h g Wm) T (ownA T lm (w * h)) (w * h)).1 = 0 ∧ ∃ e, z = .inr e ∧ e.1 = 2) ∨ ((srE (Wyf w h g Wm) T (ownA T lm (w * h)) (w * h)).1 ≠ 0 ∧ ∃ u, z = .inl u ∧ u.1 = nI ((srE (Wyf w h g Wm) T (ownA T lm (w * h)) (w * h)).2.2 c))) (Ex.o e1 (exRl (Ex.b (a_sift (vL := vL) (vS := vS) (vA := vA) (vT := vT) hW hT hY hlm hF.1) ?_))) ?_
    · rintro ⟨z1, z2, z3, z4⟩ ⟨L, hL1, hL2, hL3⟩
      refine Ex.b (a_countAll hW hn1 hT hY hL2 hL1 hL3 hF.1) ?_
      rintro ⟨y0, y1, y2, y3, y4, y5, y6⟩ ⟨k1, k2, k3⟩
      have k1 : y0 = y1 := k1
      have k2 : y1 = _ := k2
      subst k1 k2
      by_cases hz : (srE (Wyf w h g Wm) T (ownA T lm (w * h)) (w * h)).1 = 0
      · exact Ex.t hz (Ex.v (Or.inl ⟨hz, _, rfl, rfl⟩))
      · refine Ex.f hz (Ex.o (a := y6 c) ?_ (Ex.v (Or.inr ⟨hz, _, rfl, ?_⟩)))
        · unfold kX4_firstAt
          exact ob_i (a_at (by decide) hc16) rfl
        · exact (k3 hz).2.2 c hc
    · rintro _ (⟨hz, ⟨e0, e⟩, rfl, ee⟩ | ⟨hz, ⟨u0, u⟩, rfl, eu⟩)
      · have ee : e0 = 2 := ee
        subst ee
        refine exWr (Ex.f (show ¬ (2 : Nat) = 1 by decide) (Ex.t rfl (Ex.v (Ex.o e2 (Ex.b hs ?_)))))
        rintro ⟨t1, t2, t3, t4, t5⟩ k4
        have k5 : t1 = _ := k4.1
        refine Ex.f n10 (Ex.t (show t1 = 0 by rw [k5, hz]) ?_)
        unfold kX8_first_j31
        exact Ex.o holds8_2 (Ex.t rfl (Ex.v ⟨rfl, fun h => absurd h n20⟩))
      · refine exWl (Ex.t out0 (Ex.v (Ex.o e2 (Ex.b hs ?_))))
        rintro ⟨t1, t2, t3, t4, t5⟩ k4
        have k5 : t1 = _ := k4.1
        refine Ex.f n10 (Ex.f (show ¬ t1 = 0 by rw [k5]; exact hz) ?_)
        unfold kX8_first_j31
        refine Ex.o holds8_0 (Ex.f n10 (Ex.t (ix_n hc16 (by decide)) (Ex.v ⟨rfl, fun _ => ?_⟩)))
        show vp_updL oO 0 u0.toInt64 0 = (t5 (nI c).toNatClampNeg).toInt64
        rw [pk_uLs, cl_n (show c < 2 ^ 31 by omega), show t5 c = _ from (k4.2 hz).2.2 c hc, show u0 = _ from eu]
  · refine Ex.b (P := fun z => ∃ e, z = .inr e ∧ e.1 = 1) (Ex.o e1 (exRr ⟨_, rfl, rfl⟩)) ?_
    rintro _ ⟨⟨e0, e⟩, rfl, ee⟩
    have ee : e0 = 1 := ee
    subst ee
    refine exWr (Ex.t rfl (Ex.v (Ex.o e2 (Ex.b hs ?_))))
    rintro ⟨t1, t2, t3, t4, t5⟩ k4
    refine Ex.t rfl ?_
    unfold kX8_first_j31
    exact Ex.o holds8_1 (Ex.t rfl (Ex.v ⟨rfl, fun h => absurd h n10⟩))
theorem ag_fewestTurns (hI : INV i bn bk bs bT bC bN bW hd hk hM nb0 nw0 nb1 nw1 mw mh mg ms mv md mT mW mK mM) (hF : BF F) : Ex (kL_fewestTurns F bn bk bT bW vL vS vA vT so sw sR sI sP sF oO) (fun r => Ex (kX8_fewestTurns F mt mw mh mg mo mf mT mW mK mR mY mF) (fun q => q.2.1 = r.1 ∧ (r.1 = 0 → r.2.2.2.2.2.2.2.2.2.2.2 0 = q.1.toInt64))) := by
  unfold kL_fewestTurns kX7_fewestTurns kX8_fewestTurns
  obtain ⟨w, h, g, T, Wm, lm, src, hist, dn, ke, N, Y, o, hT, hWm, hsy, hlm, hsrc, hdk, hki, hhist, rfl, rfl, rfl, rfl, hC, rfl, rfl, hN, hY, rfl, rfl, hMh, hc0, hc1, rfl, rfl, rfl, rfl, rfl, rfl, rfl, hmW, hmK, hmM⟩ := hI
  have hn1 := okS_1 o
  have hMB := mk_MB o hmW hWm
  have hW := mk_WOK o hsy
  have hs := a_searches (F := F) (mo := mo) (mf := mf) (mR := mR) (mY := mY) (mF := mF) hW hMB hn1 hT hmK hF.1 hF.2.2
  refine Ex.b (P := fun z => ((srE (Wyf w h g Wm) T (ownA T lm (w * h)) (w * h)).1 = 0 ∧ ∃ e, z = .inr e ∧ e.1 = 2) ∨ ((srE (Wyf w h g Wm) T (ownA T lm (w * h)) (w * h)).1 ≠ 0 ∧ ∃ u, z = .inl u ∧ u.1 = nI (srE (Wyf w h g Wm) T (ownA T lm (w * h)) (w * h)).2.1)) (Ex.b (a_sift (vL := vL) (vS := vS) (vA := vA) (vT := vT) hW hT hY hlm hF.1) ?_) ?_
  · rintro ⟨z1, z2, z3, z4⟩ ⟨L, hL1, hL2, hL3⟩
    refine Ex.b (a_countAll hW hn1 hT hY hL2 hL1 hL3 hF.1) ?_
    rintro ⟨y0, y1, y2, y3, y4, y5, y6⟩ ⟨k1, k2, k3⟩
    have k1 : y0 = y1 := k1
    have k2 : y1 = _ := k2
    subst k1 k2
    by_cases hz : (srE (Wyf w h g Wm) T (ownA T lm (w * h)) (w * h)).1 = 0
    · exact Ex.t hz (Ex.v (Or.inl ⟨hz, _, rfl, rfl⟩))
    · exact Ex.f hz (Ex.o (a := y2) rfl (Ex.v (Or.inr ⟨hz, _, rfl, (k3 hz).1⟩)))
  · rintro _ (⟨hz, ⟨e0, e⟩, rfl, ee⟩ | ⟨hz, ⟨u0, u⟩, rfl, eu⟩)
    · have ee : e0 = 2 := ee
      subst ee
      refine exWr (Ex.t rfl (Ex.v (Ex.b hs ?_)))
      rintro ⟨t1, t2, t3, t4, t5⟩ k4
      have k5 : t1 = _ := k4.1
      refine Ex.t (show t1 = 0 by rw [k5, hz]) ?_
      unfold kX8_fewestTurns_j17
      exact Ex.o holds8_1 (Ex.t rfl (Ex.v ⟨rfl, fun h => absurd h n10⟩))
    · refine exWl (Ex.t out0 (Ex.v (Ex.b hs ?_)))
      rintro ⟨t1, t2, t3, t4, t5⟩ k4
      have k5 : t1 = _ := k4.1
      refine Ex.f (show ¬ t1 = 0 by rw [k5]; exact hz) ?_
      unfold kX8_fewestTurns_j17
      refine Ex.o holds8_0 (Ex.f n10 (Ex.v ⟨rfl, fun _ => ?_⟩))
      show vp_updL oO 0 u0.toInt64 0 = t2.toInt64
      rw [pk_uLs, show t2 = _ from (k4.2 hz).1, show u0 = _ from eu]
end AJ
