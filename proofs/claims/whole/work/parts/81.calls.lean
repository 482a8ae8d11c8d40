/-! each call's answers, further -/
section AH
variable {F i : Nat} {bn bk bs : Int32} {bT bC bN bW bL : Nat → Int32} {hd hk : Int32} {hM : Nat → Int32} {nb0 nw0 nb1 nw1 : Nat} {mt mw mh mg ms mv md mu mo mf : Int32} {mT mW mK mM mR mL mP mY mF : Nat → Int32} {kp ku : Int32} {kC kS vL vS vA vT sR sI sF : Nat → Int32} {so sw : Int32} {sP : Nat → Nat → Int32} {oO : Nat → Int64} {x1 x2 x3 x4 : Int32}
theorem ag_make {b : Bool} (hI : INV i bn bk bs bT bC bN bW hd hk hM nb0 nw0 nb1 nw1 mw mh mg ms mv md mT mW mK mM) (hF : BF F) : Ex (kL_make F bn bk bs bT bC bN bW bL hd hk kp ku kC kS x1 x2 (bI b) x4 oO) (fun r => Ex (kX8_make F mt mw mh mg ms mv md mu mT mW mK mR mP x1 x2 (bI b) x4) (fun q => q.2.1 = r.1 ∧ (r.1 = 0 → r.2.2.2.2.2.2.2.2.2.2.2.2.2.2.2 0 = q.1.toInt64) ∧ INV (i + 1) r.2.1 r.2.2.1 r.2.2.2.1 r.2.2.2.2.1 r.2.2.2.2.2.1 r.2.2.2.2.2.2.1 r.2.2.2.2.2.2.2.1 r.2.2.2.2.2.2.2.2.2.1 r.2.2.2.2.2.2.2.2.2.2.1 hM nb0 nw0 nb1 nw1 q.2.2.1 q.2.2.2.1 q.2.2.2.2.1 q.2.2.2.2.2.1 q.2.2.2.2.2.2.1 q.2.2.2.2.2.2.2.1 q.2.2.2.2.2.2.2.2.2.1 q.2.2.2.2.2.2.2.2.2.2.1 q.2.2.2.2.2.2.2.2.2.2.2.1 mM)) := by
  unfold kL_make kX7_make kX8_make
  have bad : kX7_requireBoard F x1 x2 (bI b) = some (.inl ()) ∧ (x4 < 0 ∨ ¬ x4 < 65536) ∨ kX7_requireBoard F x1 x2 (bI b) = some (.inr 0) → ((∃ z, kX8_isBoard F x1 x2 (bI b) = some z ∧ (z = 0 ∨ (z = 1 ∧ (x4 < 0 ∨ ¬ x4 < 65536)))) → Ex ((Option.bind (Option.bind (kX7_requireBoard F x1 x2 (bI b)) fun q1 => onR q1 (fun u2 => (if x4 < 0 then some (.inr (0, bn, bk, bs, bT, bC, bN, bW, bL, hd, hk, kp, ku, kC, kS)) else (if x4 < 65536 then ((kX7_startBoard F bn bk bs bT bC bN bW hd hk x1 x2 (bI b)).bind fun q4 => ((kX3_fillBoard F q4.1 q4.2.2.2.1 q4.2.2.2.2.2.1 q4.2.2.2.2.2.2.1 bL kp ku kC kS x4).bind fun q5 => ((kX0_countEnds F q4.1 q5.1).bind fun q6 => some (.inl (q6, q4.1, q4.2.1, q4.2.2.1, q5.1, q4.2.2.2.2.1, q4.2.2.2.2.2.1, q4.2.2.2.2.2.2.1, q5.2.1, q4.2.2.2.2.2.2.2.1, q4.2.2.2.2.2.2.2.2, q5.2.2.1, q5.2.2.2.1, q5.2.2.2.2.1, q5.2.2.2.2.2))))) else some (.inr (0, bn, bk, bs, bT, bC, bN, bW, bL, hd, hk, kp, ku, kC, kS))))) (fun e3 => (e3, bn, bk, bs, bT, bC, bN, bW, bL, hd, hk, kp, ku, kC, kS)))) fun q => onW q (fun u => (if ix 0 1 = true then some (0, u.2.1, u.2.2.1, u.2.2.2.1, u.2.2.2.2.1, u.2.2.2.2.2.1, u.2.2.2.2.2.2.1, u.2.2.2.2.2.2.2.1, u.2.2.2.2.2.2.2.2.1, u.2.2.2.2.2.2.2.2.2.1, u.2.2.2.2.2.2.2.2.2.2.1, u.2.2.2.2.2.2.2.2.2.2.2.1, u.2.2.2.2.2.2.2.2.2.2.2.2.1, u.2.2.2.2.2.2.2.2.2.2.2.2.2.1, u.2.2.2.2.2.2.2.2.2.2.2.2.2.2, vp_updL oO (0 : Int32).toNatClampNeg (u.1).toInt64) else none)) (fun e => (if e.1 = 0 then some (1, e.2.1, e.2.2.1, e.2.2.2.1, e.2.2.2.2.1, e.2.2.2.2.2.1, e.2.2.2.2.2.2.1, e.2.2.2.2.2.2.2.1, e.2.2.2.2.2.2.2.2.1, e.2.2.2.2.2.2.2.2.2.1, e.2.2.2.2.2.2.2.2.2.2.1, e.2.2.2.2.2.2.2.2.2.2.2.1, e.2.2.2.2.2.2.2.2.2.2.2.2.1, e.2.2.2.2.2.2.2.2.2.2.2.2.2.1, e.2.2.2.2.2.2.2.2.2.2.2.2.2.2, oO) else none))) (fun r => Ex ((kX8_isBoard F x1 x2 (bI b)).bind fun q1 => (if q1 = 0 then kX8_make_j27 F mt mw mh mg ms mv md mu mT mW mK mR mP x1 x2 (bI b) x4 1 else (if x4 < 0 then kX8_make_j27 F mt mw mh mg ms mv md mu mT mW mK mR mP x1 x2 (bI b) x4 1 else (if 65536 ≤ x4 then kX8_make_j27 F mt mw mh mg ms mv md mu mT mW mK mR mP x1 x2 (bI b) x4 1 else kX8_make_j27 F mt mw mh mg ms mv md mu mT mW mK mR mP x1 x2 (bI b) x4 0)))) (fun q => q.2.1 = r.1 ∧ (r.1 = 0 → r.2.2.2.2.2.2.2.2.2.2.2.2.2.2.2 0 = q.1.toInt64) ∧ INV (i + 1) r.2.1 r.2.2.1 r.2.2.2.1 r.2.2.2.2.1 r.2.2.2.2.2.1 r.2.2.2.2.2.2.1 r.2.2.2.2.2.2.2.1 r.2.2.2.2.2.2.2.2.2.1 r.2.2.2.2.2.2.2.2.2.2.1 hM nb0 nw0 nb1 nw1 q.2.2.1 q.2.2.2.1 q.2.2.2.2.1 q.2.2.2.2.2.1 q.2.2.2.2.2.2.1 q.2.2.2.2.2.2.2.1 q.2.2.2.2.2.2.2.2.2.1 q.2.2.2.2.2.2.2.2.2.2.1 q.2.2.2.2.2.2.2.2.2.2.2.1 mM))) := by
    intro h1 h2
    refine Ex.b (P := fun z => z = .inr (0, bn, bk, bs, bT, bC, bN, bW, bL, hd, hk, kp, ku, kC, kS)) ?_ ?_
    · rcases h1 with ⟨e, h⟩ | e
      · refine Ex.o e (exRl ?_)
        by_cases hx : x4 < 0
        · exact Ex.t hx (Ex.v rfl)
        · exact Ex.f hx (Ex.f (h.resolve_left hx) (Ex.v rfl))
      · exact Ex.o e (exRr rfl)
    · rintro _ rfl
      refine exWr (Ex.t rfl (Ex.v ?_))
      have j27 : Ex (kX8_make_j27 F mt mw mh mg ms mv md mu mT mW mK mR mP x1 x2 (bI b) x4 1) (fun q => q.2.1 = 1 ∧ ((1 : Int32) = 0 → oO 0 = q.1.toInt64) ∧ INV (i + 1) bn bk bs bT bC bN bW hd hk hM nb0 nw0 nb1 nw1 q.2.2.1 q.2.2.2.1 q.2.2.2.2.1 q.2.2.2.2.2.1 q.2.2.2.2.2.2.1 q.2.2.2.2.2.2.2.1 q.2.2.2.2.2.2.2.2.2.1 q.2.2.2.2.2.2.2.2.2.2.1 q.2.2.2.2.2.2.2.2.2.2.2.1 mM) := by
        unfold kX8_make_j27
        exact Ex.o holds8_1 (Ex.t rfl (Ex.v ⟨rfl, fun h => absurd h n10, hI.up⟩))
      obtain ⟨z, e, hz⟩ := h2
      refine Ex.o e ?_
      rcases hz with rfl | ⟨rfl, hz⟩
      · exact Ex.t rfl j27
      · refine Ex.f n10 ?_
        by_cases hx : x4 < 0
        · exact Ex.t hx j27
        · exact Ex.f hx (Ex.t (Int32.not_lt.mp (hz.resolve_left hx)) j27)
  rcases boardQ (F := F) (x1 := x1) (x2 := x2) (g := b) with ⟨w, h, rfl, rfl, o, e1, e2⟩ | ⟨e1, e2⟩
  · by_cases hx : x4 < 0
    · exact bad (Or.inl ⟨e1, Or.inl hx⟩) ⟨1, e2, Or.inr ⟨rfl, Or.inl hx⟩⟩
    · by_cases hx2 : x4 < 65536
      · clear bad
        obtain ⟨u, hu, rfl⟩ : ∃ u, u < 65536 ∧ x4 = nI u := by
          obtain ⟨u, hu, rfl⟩ := nI_of hx
          refine ⟨u, ?_, rfl⟩
          exact (nI_ltI hu (by decide)).mp hx2
        obtain ⟨w0, h0, g0, T, Wm, lm, src, hist, dn, ke, N, Y, o0, hT, hWm, hsy, hlm, hsrc, hdk, hki, hhist, rfl, rfl, rfl, rfl, hC, rfl, rfl, hN, hY, rfl, rfl, hMh, hc0, hc1, rfl, rfl, rfl, rfl, rfl, rfl, rfl, hmW, hmK, hmM⟩ := hI
        have hn := (okS_b o).2.2.2.2
        have hz := z16_lt hT
        have hmt : ∀ j, mkT w h b u (z16 T) j < 16 := (tT_lt (mxs_lt _ _ _ hu) (jT_lt hz _) _).2
        refine Ex.b (P := fun z => ∃ v, z = .inl v ∧ v.1 = nI (ends (mkT w h b u (z16 T)) (w * h)) ∧ v.2.1 = nI (w * h) ∧ v.2.2.1 = nI 0 ∧ v.2.2.2.1 = nI 0 ∧ v.2.2.2.2.1 = fN (mkT w h b u (z16 T)) ∧ (∀ c, c < w * h → v.2.2.2.2.2.1 c = nI (c % w)) ∧ v.2.2.2.2.2.2.2.2.2.1 = nI 0 ∧ v.2.2.2.2.2.2.2.2.2.2.1 = nI 0 ∧ ∃ N Y, v.2.2.2.2.2.2.1 = fE N ∧ v.2.2.2.2.2.2.2.1 = fE Y ∧ (∀ c s, c < w * h → s < 4 → N (c * 4 + s) = nbr w h b c s) ∧ ∀ c s, c < 16 → s < 4 → Y (c * 4 + s) = Wyf w h b (fun _ => 0) c s) ?_ ?_
        · refine Ex.o e1 (exRl (Ex.f hx (Ex.t hx2 ?_)))
          unfold kX7_startBoard
          refine Ex.b (P := fun z => z.1 = nI (w * h) ∧ z.2.1 = nI 0 ∧ z.2.2.1 = nI 0 ∧ z.2.2.2.1 = fN (z16 T) ∧ (∀ c, c < w * h → z.2.2.2.2.1 c = nI (c % w)) ∧ z.2.2.2.2.2.2.2.1 = nI 0 ∧ z.2.2.2.2.2.2.2.2 = nI 0 ∧ ∃ N Y, z.2.2.2.2.2.1 = fE N ∧ z.2.2.2.2.2.2.1 = fE Y ∧ (∀ c s, c < w * h → s < 4 → N (c * 4 + s) = nbr w h b c s) ∧ ∀ c s, c < 16 → s < 4 → Y (c * 4 + s) = if c < w * h then nbr w h b c s else none) (Ex.b (a_clear (bn := nI (w0 * h0)) (bk := nI lm) (bs := nI src) (bC := bC) (T := T) (N0 := N) (Y0 := Y) o hF.1) ?_) ?_
          · rintro ⟨z1, z2, z3, z4, z5, z6, z7⟩ ⟨g1, g2, g3, g4, g5, N1, Y1, g6, g7, g8, g9⟩
            exact Ex.o rfl (Ex.v ⟨g1, g2, g3, g4, g5, rfl, rfl, N1, Y1, g6, g7, g8, g9⟩)
          · rintro ⟨z1, z2, z3, z4, z5, z6, z7, z8, z9⟩ ⟨g1, g2, g3, g4, g5, g10, g11, N1, Y1, g6, g7, g8, g9⟩
            have g1 : z1 = nI (w * h) := g1
            have g4 : z4 = fN (z16 T) := g4
            have g6 : z6 = fE N1 := g6
            have g7 : z7 = fE Y1 := g7
            subst g1 g4 g6 g7
            have g9' : ∀ c s, c < 16 → s < 4 → Y1 (c * 4 + s) = Wyf w h b (fun _ => 0) c s := fun c s hc hs => by
              rw [g9 c s hc hs]
              unfold Wyf
              rw [Nat.zero_testBit]
              rfl
            refine Ex.b (a_fillBoard o hz g8 g9' hu hF.1) ?_
            rintro ⟨f1, f2, f3, f4, f5, f6⟩ ef
            have ef : f1 = fN (mkT w h b u (z16 T)) := ef
            subst ef
            exact Ex.o (a_countEnds hmt hn hF.1) (Ex.v ⟨_, rfl, rfl, rfl, g2, g3, rfl, g5, g10, g11, N1, Y1, rfl, rfl, g8, g9'⟩)
        · rintro _ ⟨⟨u0, u1, u2, u3, u4, u5, u6, u7, u8, u9, u10, u11, u12, u13, u14⟩, rfl, g0, g1, g2, g3, g4, g5, g10, g11, N1, Y1, g6, g7, g8, g9⟩
          refine exWl (Ex.t out0 (Ex.v ?_))
          refine Ex.o e2 (Ex.f n10 (Ex.f hx (Ex.f (Int32.not_le.mpr hx2) ?_)))
          unfold kX8_make_j27
          refine Ex.o holds8_0 (Ex.f n10 (Ex.b (a_begins (g := b) (T := T) hF.1) ?_))
          rintro ⟨y1, y2, y3, y4, y5, y6, y7, y8, y9⟩ ⟨k1, k2, k3, k4, k5, k6, k7, k8, k9⟩
          have k1 : y1 = nI w := k1
          have k2 : y2 = nI h := k2
          have k3 : y3 = bI b := k3
          have k7 : y7 = fN (z16 T) := k7
          have k8 : RN y8 (fun _ => 0) := k8
          subst k1 k2 k3 k7
          refine Ex.b (a_laysPairs o hz k8 hu hF.1) ?_
          rintro ⟨p1, p2, p3, p4⟩ ⟨q1, q2⟩
          have q1 : p1 = nI (mkP w h b u).1 := q1
          have q2 : p2 = fN (jT w h b (mkP w h b u).2 (z16 T) (prs w h b (2 * (w * h))).1) := q2
          subst q1 q2
          refine Ex.b (a_make58 (n := w * h) hn (fun F => show kX8_cells F (nI w) (nI h) = some (nI (w * h)) from congrArg some (pk_mul w h)) (jT_lt hz _) (mxs_lt _ _ _ hu) hF.1) ?_
          rintro ⟨m1, m2, m3⟩ ⟨e5, e6⟩
          have e5 : m1 = nI (ends (mkT w h b u (z16 T)) (w * h)) := e5
          have e6 : m3 = fN (mkT w h b u (z16 T)) := e6
          subst e5 e6
          refine Ex.v ⟨rfl, fun _ => ?_, w, h, b, mkT w h b u (z16 T), fun _ => 0, 0, 0, hist, 0, 0, N1, Y1, o, hmt, fun _ => (by show 0 < 16; decide), wsy0, by decide, ?_, Nat.le_refl 0, Nat.zero_le _, fun j hj => absurd hj (Nat.not_lt_zero j), g1, g2, g3, g4, g5, g6, g7, g8, g9, g10, g11, fun j hj => absurd hj (Nat.not_lt_zero j), hc0, hc1, rfl, rfl, rfl, k4, k5, k6, rfl, k8, k9, fun j hj => absurd hj (Nat.not_lt_zero j)⟩
          · show vp_updL oO 0 (u0.toInt64) 0 = (nI (ends (mkT w h b u (z16 T)) (w * h))).toInt64
            rw [pk_uLs, show u0 = nI (ends (mkT w h b u (z16 T)) (w * h)) from g0]
          · obtain ⟨c1, c2, c3, c4, c5⟩ := okS_b o
            exact Nat.mul_pos (show 0 < w by omega) (show 0 < h by omega)
      · exact bad (Or.inl ⟨e1, Or.inr hx2⟩) ⟨1, e2, Or.inr ⟨rfl, Or.inr hx2⟩⟩
  · exact bad (Or.inr e1) ⟨0, e2, Or.inl rfl⟩
theorem ag_setTile (hI : INV i bn bk bs bT bC bN bW hd hk hM nb0 nw0 nb1 nw1 mw mh mg ms mv md mT mW mK mM) (hF : BF F) : Ex (kL_setTile F bn bT hd hk x1 x2 oO) (fun r => Ex (kX8_setTile F mt mw mh mv md mT x1 x2) (fun q => q.2.1 = r.1 ∧ (r.1 = 0 → r.2.2.2.2 0 = q.1.toInt64) ∧ INV (i + 1) bn bk bs r.2.1 bC bN bW r.2.2.1 r.2.2.2.1 hM nb0 nw0 nb1 nw1 mw mh mg ms q.2.2.1 q.2.2.2.1 q.2.2.2.2 mW mK mM)) := by
  unfold kL_setTile kX7_setTile kX8_setTile
  have hI' := hI
  obtain ⟨w, h, g, T, Wm, lm, src, hist, dn, ke, N, Y, o, hT, hWm, hsy, hlm, hsrc, hdk, hki, hhist, rfl, rfl, rfl, rfl, hC, rfl, rfl, hN, hY, rfl, rfl, hMh, hc0, hc1, rfl, rfl, rfl, rfl, rfl, rfl, rfl, hmW, hmK, hmM⟩ := hI
  have hn := (okS_b o).2.2.2.2
  have hcc : ∀ F, kX8_cells F (nI w) (nI h) = some (nI (w * h)) := fun F => congrArg some (pk_mul w h)
  rcases cellQ (F := F) (x := x1) hn hcc with ⟨c, hc, rfl⟩ | ⟨e1, e2⟩
  · obtain ⟨e1, e2⟩ := cell_ok (F := F) hn hcc hc
    have hc16 : c < 16 := by omega
    by_cases h0 : x2 < 0
    · refine Ex.b (P := fun z => z = .inr (0, fN T, nI dn, nI ke)) (Ex.o e1 (exRl (Ex.t h0 (Ex.v rfl)))) ?_
      rintro _ rfl
      refine exWr (Ex.f n01 (Ex.t rfl (Ex.v ?_)))
      refine Ex.o e2 (Ex.f n10 (Ex.t h0 ?_))
      unfold kX8_setTile_j28
      exact Ex.o holds8_2 (Ex.t rfl (Ex.v ⟨rfl, fun h => absurd h n20, hI'.up⟩))
    · by_cases h15 : x2 ≤ 15
      · obtain ⟨t, ht, rfl⟩ := nI_of2 (M := 15) (n := 15) (by decide) h0 h15
        refine Ex.b (P := fun z => z = .inl (nI (T c), fN (up T c t), 0, 0)) (Ex.o e1 (exRl (Ex.f h0 (Ex.t h15 (Ex.o (a_sidesOf hc16) (Ex.o (a_lay hn hc) (Ex.o rfl (Ex.v rfl)))))))) ?_
        rintro _ rfl
        refine exWl (Ex.t out0 (Ex.v ?_))
        refine Ex.o e2 (Ex.f n10 (Ex.f h0 (Ex.t h15 ?_)))
        unfold kX8_setTile_j28
        refine Ex.o holds8_0 (Ex.f n10 (Ex.t (ix_n hc16 (by decide)) (Ex.t (ix_n hc16 (by decide)) (Ex.v ?_))))
        rw [cl_n (show c < 2 ^ 31 by omega)]
        refine ⟨rfl, fun _ => rfl, w, h, g, up T c t, Wm, lm, src, hist, 0, 0, N, Y, o, up_lt hT (by omega), hWm, hsy, hlm, hsrc, Nat.le_refl 0, Nat.zero_le _, fun j hj => absurd hj (Nat.not_lt_zero j), rfl, rfl, rfl, rfl, hC, rfl, rfl, hN, hY, rfl, rfl, fun j hj => absurd hj (Nat.not_lt_zero j), hc0, hc1, rfl, rfl, rfl, rfl, rfl, rfl, upd_fN _ _ _, hmW, hmK, fun j hj => absurd hj (Nat.not_lt_zero j)⟩
      · refine Ex.b (P := fun z => z = .inr (0, fN T, nI dn, nI ke)) (Ex.o e1 (exRl (Ex.f h0 (Ex.f h15 (Ex.v rfl))))) ?_
        rintro _ rfl
        refine exWr (Ex.f n01 (Ex.t rfl (Ex.v ?_)))
        refine Ex.o e2 (Ex.f n10 (Ex.f h0 (Ex.f h15 ?_)))
        unfold kX8_setTile_j28
        exact Ex.o holds8_2 (Ex.t rfl (Ex.v ⟨rfl, fun h => absurd h n20, hI'.up⟩))
  · refine Ex.b (P := fun z => z = .inr (1, fN T, nI dn, nI ke)) (Ex.o e1 (exRr rfl)) ?_
    rintro _ rfl
    refine exWr (Ex.t rfl (Ex.v ?_))
    refine Ex.o e2 (Ex.t rfl ?_)
    unfold kX8_setTile_j28
    exact Ex.o holds8_1 (Ex.t rfl (Ex.v ⟨rfl, fun h => absurd h n10, hI'.up⟩))
end AH
