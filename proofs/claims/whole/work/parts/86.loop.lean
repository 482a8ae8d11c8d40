/-! the law: its loop (laid by wip/whole/lawwalk.py) -/
set_option maxHeartbeats 40000000 in
set_option maxRecDepth 100000 in
theorem lo_loop {p : Program} {l : Launch} {e : Env} {s : State} {m : MethodId} {below : List Frame} {meth : Method} {c : Code} {b L : Nat} {xs : Nat → Int32} {G : GG} {A : Nat → Prop} {Q : State → Prop} (C : LCX p l s m b L xs c G A) {F : Nat} (hF : BF F) (hL : L ≤ 2560) {qX qM qO : Nat} (ke : ∀ (H' : Heap) (locs' : List Loc) (ls' : Array Slot), va_S A s.heap H' locs' → W p l e room_1 s m #[Value.ref b] below meth c H' locs' 601024 7293034 Q (F0 m 1325 ls' [])) : ∀ (n j : Nat), n + j = 512 → ∀ ⦃qB qBT qBC qBN qBW qBL qH qHM qK qKC qKS qV qVL qVS qVA qVT qS qSR qSI qSP qSF qW qWP qWN qL0 qL0b qL0w qL1 qL1b qL1w qMT qMW qMK qMM qMR qML qMP qMY qMF : Nat⦄ ⦃qR : Nat → Nat⦄ ⦃bn : Int32⦄ ⦃bk : Int32⦄ ⦃bs : Int32⦄ ⦃bT : Nat → Int32⦄ ⦃bC : Nat → Int32⦄ ⦃bN : Nat → Int32⦄ ⦃bW : Nat → Int32⦄ ⦃bL : Nat → Int32⦄ ⦃hd : Int32⦄ ⦃hk : Int32⦄ ⦃hM : Nat → Int32⦄ ⦃kp : Int32⦄ ⦃ku : Int32⦄ ⦃kC : Nat → Int32⦄ ⦃kS : Nat → Int32⦄ ⦃vL : Nat → Int32⦄ ⦃vS : Nat → Int32⦄ ⦃vA : Nat → Int32⦄ ⦃vT : Nat → Int32⦄ ⦃so : Int32⦄ ⦃sw : Int32⦄ ⦃sR : Nat → Int32⦄ ⦃sI : Nat → Int32⦄ ⦃sP : Nat → Nat → Int32⦄ ⦃sF : Nat → Int32⦄ ⦃wP : Nat → Int32⦄ ⦃wN : Nat → Int32⦄ ⦃lc0 : Int32⦄ ⦃nb0 : Nat⦄ ⦃lb0 : Nat → Int64⦄ ⦃nw0 : Nat⦄ ⦃lw0 : Nat → Int32⦄ ⦃lc1 : Int32⦄ ⦃nb1 : Nat⦄ ⦃lb1 : Nat → Int64⦄ ⦃nw1 : Nat⦄ ⦃lw1 : Nat → Int32⦄ ⦃mt : Int32⦄ ⦃mw : Int32⦄ ⦃mh : Int32⦄ ⦃mg : Int32⦄ ⦃ms : Int32⦄ ⦃mv : Int32⦄ ⦃md : Int32⦄ ⦃mu : Int32⦄ ⦃mo : Int32⦄ ⦃mf : Int32⦄ ⦃mT : Nat → Int32⦄ ⦃mW : Nat → Int32⦄ ⦃mK : Nat → Int32⦄ ⦃mM : Nat → Int32⦄ ⦃mR : Nat → Int32⦄ ⦃mL : Nat → Int32⦄ ⦃mP : Nat → Int32⦄ ⦃mY : Nat → Int32⦄ ⦃mF : Nat → Int32⦄ ⦃oO : Nat → Int64⦄ ⦃H : Heap⦄ ⦃locs : List Loc⦄ ⦃ls : Array Slot⦄, va_P G.1 vwCl (wLaw G qX qM qO qB qBT qBC qBN qBW qBL qH qHM qK qKC qKS qV qVL qVS qVA qVT qS qSR qSI qSP qSF qW qWP qWN qL0 qL0b qL0w qL1 qL1b qL1w qMT qMW qMK qMM qMR qML qMP qMY qMF qR bn bk bs bT bC bN bW bL hd hk hM kp ku kC kS vL vS vA vT so sw sR sI sP sF wP wN lc0 nb0 lb0 nw0 lw0 lc1 nb1 lb1 nw1 lw1 mt mw mh mg ms mv md mu mo mf mT mW mK mM mR mL mP mY mF oO) H → va_D A (wLaw G qX qM qO qB qBT qBC qBN qBW qBL qH qHM qK qKC qKS qV qVL qVS qVA qVT qS qSR qSI qSP qSF qW qWP qWN qL0 qL0b qL0w qL1 qL1b qL1w qMT qMW qMK qMM qMR qML qMP qMY qMF qR bn bk bs bT bC bN bW bL hd hk hM kp ku kC kS vL vS vA vT so sw sR sI sP sF wP wN lc0 nb0 lb0 nw0 lw0 lc1 nb1 lb1 nw1 lw1 mt mw mh mg ms mv md mu mo mf mT mW mK mM mR mL mP mY mF oO) → INV j bn bk bs bT bC bN bW hd hk hM nb0 nw0 nb1 nw1 mw mh mg ms mv md mT mW mK mM → va_S A s.heap H locs → lv_has ls 7 [(4, .int (nI (5 * j))), (3, .ref qO), (2, .ref qM), (1, .ref qX), (0, .ref b)] → W p l e room_1 s m #[Value.ref b] below meth c H locs (CE j (nb0 + nb1)) (SE j (nb0 + nb1) (nw0 + nw1)) Q (F0 m 23 ls []) := by
  obtain ⟨hx, hb, hml, hown, hts, hX, hbl, hbA, hA, hKK, hT, hN, hfl⟩ := id C
  intro n
  induction n with
  | zero =>
    intro j hn qB qBT qBC qBN qBW qBL qH qHM qK qKC qKS qV qVL qVS qVA qVT qS qSR qSI qSP qSF qW qWP qWN qL0 qL0b qL0w qL1 qL1b qL1w qMT qMW qMK qMM qMR qML qMP qMY qMF qR bn bk bs bT bC bN bW bL hd hk hM kp ku kC kS vL vS vA vT so sw sR sI sP sF wP wN lc0 nb0 lb0 nw0 lw0 lc1 nb1 lb1 nw1 lw1 mt mw mh mg ms mv md mu mo mf mT mW mK mM mR mL mP mY mF oO H locs ls hP hD hI hS hl
    have hj : j = 512 := by omega
    subst hj
    obtain ⟨hc, hs⟩ := ce_mx5 (Nat.le_refl 512) hI.cp.1 hI.cp.2
    refine lv_iload hx hb dL_law_23 (lv_at hl 0 rfl) ?_
    refine lv_aload_n hx hb dL_law_25 rfl (lv_at hl 4 rfl) ?_
    refine va_slen hx hb hX hbl hbA hS dL_law_26 ?_
    refine lv_iconst (v := 5) hx hb dL_law_27 (by decide) ?_
    refine lv_isub hx hb dL_law_28 ?_
    refine lv_icmp_gt (tgt := 1325) hx hb dL_law_29 (by decide) (fun c_29 => ?_) (fun c_29 => ?_)
    · exact W.widen (k := 601024) (n := 7293034) hc hs (ke H locs ls hS)
    · exact absurd (gt5 hL (Nat.le_refl 512) c_29) (by omega)
  | succ n ih =>
    intro j hn qB qBT qBC qBN qBW qBL qH qHM qK qKC qKS qV qVL qVS qVA qVT qS qSR qSI qSP qSF qW qWP qWN qL0 qL0b qL0w qL1 qL1b qL1w qMT qMW qMK qMM qMR qML qMP qMY qMF qR bn bk bs bT bC bN bW bL hd hk hM kp ku kC kS vL vS vA vT so sw sR sI sP sF wP wN lc0 nb0 lb0 nw0 lw0 lc1 nb1 lb1 nw1 lw1 mt mw mh mg ms mv md mu mo mf mT mW mK mM mR mL mP mY mF oO H locs ls hP hD hI hS hl
    obtain ⟨hc, hs⟩ := ce_mx5 (show j ≤ 512 by omega) hI.cp.1 hI.cp.2
    refine lv_iload hx hb dL_law_23 (lv_at hl 0 rfl) ?_
    refine lv_aload_n hx hb dL_law_25 rfl (lv_at hl 4 rfl) ?_
    refine va_slen hx hb hX hbl hbA hS dL_law_26 ?_
    refine lv_iconst (v := 5) hx hb dL_law_27 (by decide) ?_
    refine lv_isub hx hb dL_law_28 ?_
    refine lv_icmp_gt (tgt := 1325) hx hb dL_law_29 (by decide) (fun c_29 => ?_) (fun c_29 => ?_)
    · exact W.widen (k := 601024) (n := 7293034) hc hs (ke H locs ls hS)
    · have hj := gt5 hL (show j ≤ 512 by omega) c_29
      refine lv_aload_n hx hb dL_law_32 rfl (lv_at hl 4 rfl) ?_
      refine lv_iload hx hb dL_law_33 (lv_at hl 0 rfl) ?_
      refine va_sld hx hb hX hbl hbA hS (vp_in_nI (show 5 * j < L by omega) (by omega)) dL_law_35 ?_
      refine lv_bipush (v := 31) hx hb dL_law_36 (by decide) ?_
      refine lv_iand hx hb dL_law_38 ?_
      obtain ⟨k, hk, ek⟩ := and31 (xs (nI (5 * j)).toNatClampNeg)
      rw [ek]
      have kk : ∀ ⦃qB qBT qBC qBN qBW qBL qH qHM qK qKC qKS qV qVL qVS qVA qVT qS qSR qSI qSP qSF qW qWP qWN qL0 qL0b qL0w qL1 qL1b qL1w qMT qMW qMK qMM qMR qML qMP qMY qMF : Nat⦄ ⦃qR : Nat → Nat⦄ ⦃bn : Int32⦄ ⦃bk : Int32⦄ ⦃bs : Int32⦄ ⦃bT : Nat → Int32⦄ ⦃bC : Nat → Int32⦄ ⦃bN : Nat → Int32⦄ ⦃bW : Nat → Int32⦄ ⦃bL : Nat → Int32⦄ ⦃hd : Int32⦄ ⦃hk : Int32⦄ ⦃hM : Nat → Int32⦄ ⦃kp : Int32⦄ ⦃ku : Int32⦄ ⦃kC : Nat → Int32⦄ ⦃kS : Nat → Int32⦄ ⦃vL : Nat → Int32⦄ ⦃vS : Nat → Int32⦄ ⦃vA : Nat → Int32⦄ ⦃vT : Nat → Int32⦄ ⦃so : Int32⦄ ⦃sw : Int32⦄ ⦃sR : Nat → Int32⦄ ⦃sI : Nat → Int32⦄ ⦃sP : Nat → Nat → Int32⦄ ⦃sF : Nat → Int32⦄ ⦃wP : Nat → Int32⦄ ⦃wN : Nat → Int32⦄ ⦃lc0 : Int32⦄ ⦃nb0 : Nat⦄ ⦃lb0 : Nat → Int64⦄ ⦃nw0 : Nat⦄ ⦃lw0 : Nat → Int32⦄ ⦃lc1 : Int32⦄ ⦃nb1 : Nat⦄ ⦃lb1 : Nat → Int64⦄ ⦃nw1 : Nat⦄ ⦃lw1 : Nat → Int32⦄ ⦃mt : Int32⦄ ⦃mw : Int32⦄ ⦃mh : Int32⦄ ⦃mg : Int32⦄ ⦃ms : Int32⦄ ⦃mv : Int32⦄ ⦃md : Int32⦄ ⦃mu : Int32⦄ ⦃mo : Int32⦄ ⦃mf : Int32⦄ ⦃mT : Nat → Int32⦄ ⦃mW : Nat → Int32⦄ ⦃mK : Nat → Int32⦄ ⦃mM : Nat → Int32⦄ ⦃mR : Nat → Int32⦄ ⦃mL : Nat → Int32⦄ ⦃mP : Nat → Int32⦄ ⦃mY : Nat → Int32⦄ ⦃mF : Nat → Int32⦄ ⦃oO : Nat → Int64⦄ ⦃H' : Heap⦄ ⦃locs' : List Loc⦄ ⦃ls' : Array Slot⦄, va_P G.1 vwCl (wLaw G qX qM qO qB qBT qBC qBN qBW qBL qH qHM qK qKC qKS qV qVL qVS qVA qVT qS qSR qSI qSP qSF qW qWP qWN qL0 qL0b qL0w qL1 qL1b qL1w qMT qMW qMK qMM qMR qML qMP qMY qMF qR bn bk bs bT bC bN bW bL hd hk hM kp ku kC kS vL vS vA vT so sw sR sI sP sF wP wN lc0 nb0 lb0 nw0 lw0 lc1 nb1 lb1 nw1 lw1 mt mw mh mg ms mv md mu mo mf mT mW mK mM mR mL mP mY mF oO) H' → va_D A (wLaw G qX qM qO qB qBT qBC qBN qBW qBL qH qHM qK qKC qKS qV qVL qVS qVA qVT qS qSR qSI qSP qSF qW qWP qWN qL0 qL0b qL0w qL1 qL1b qL1w qMT qMW qMK qMM qMR qML qMP qMY qMF qR bn bk bs bT bC bN bW bL hd hk hM kp ku kC kS vL vS vA vT so sw sR sI sP sF wP wN lc0 nb0 lb0 nw0 lw0 lc1 nb1 lb1 nw1 lw1 mt mw mh mg ms mv md mu mo mf mT mW mK mM mR mL mP mY mF oO) → INV (j + 1) bn bk bs bT bC bN bW hd hk hM nb0 nw0 nb1 nw1 mw mh mg ms mv md mT mW mK mM → va_S A s.heap H' locs' → lv_has ls' 7 [(4, .int (nI (5 * j))), (3, .ref qO), (2, .ref qM), (1, .ref qX), (0, .ref b)] → W p l e room_1 s m #[Value.ref b] below meth c H' locs' (CE (j + 1) (nb0 + nb1)) (SE (j + 1) (nb0 + nb1) (nw0 + nw1)) Q (F0 m 1319 ls' []) := by
        intro qB qBT qBC qBN qBW qBL qH qHM qK qKC qKS qV qVL qVS qVA qVT qS qSR qSI qSP qSF qW qWP qWN qL0 qL0b qL0w qL1 qL1b qL1w qMT qMW qMK qMM qMR qML qMP qMY qMF qR bn bk bs bT bC bN bW bL hd hk hM kp ku kC kS vL vS vA vT so sw sR sI sP sF wP wN lc0 nb0 lb0 nw0 lw0 lc1 nb1 lb1 nw1 lw1 mt mw mh mg ms mv md mu mo mf mT mW mK mM mR mL mP mY mF oO H' locs' ls' hP' hD' hI' hS' hl'
        refine lv_iinc (v := nI (5 * (j + 1))) (lv' := [(4, .int (nI (5 * (j + 1)))), (3, .ref qO), (2, .ref qM), (1, .ref qX), (0, .ref b)]) hx hb dL_law_1319 hl' (k := 0) rfl (nI_add (5 * j) 5) (by decide) rfl (fun ls hl => ?_)
        refine lv_goto (tgt := 23) hx hb dL_law_1322 (by decide) ?_
        exact ih (j + 1) (by omega) hP' hD' hI' hS' hl
      by_cases h0 : k = 0
      · subst h0
        refine lv_tableIn (tgt := 144) (off := 105) hx hb dL_law_39 (by decide +kernel) (by decide +kernel) (by decide +kernel) (by decide) ?_
        exact lo_begin C hF hj hL hP hD hI hS hl kk
      by_cases h1 : k = 1
      · subst h1
        refine lv_tableIn (tgt := 240) (off := 201) hx hb dL_law_39 (by decide +kernel) (by decide +kernel) (by decide +kernel) (by decide) ?_
        exact lo_make C hF hj hL hP hD hI hS hl kk
      by_cases h2 : k = 2
      · subst h2
        refine lv_tableIn (tgt := 348) (off := 309) hx hb dL_law_39 (by decide +kernel) (by decide +kernel) (by decide +kernel) (by decide) ?_
        exact lo_setTile C hF hj hL hP hD hI hS hl kk
      by_cases h3 : k = 3
      · subst h3
        refine lv_tableIn (tgt := 416) (off := 377) hx hb dL_law_39 (by decide +kernel) (by decide +kernel) (by decide +kernel) (by decide) ?_
        exact lo_setWall C hF hj hL hP hD hI hS hl kk
      by_cases h4 : k = 4
      · subst h4
        refine lv_tableIn (tgt := 519) (off := 480) hx hb dL_law_39 (by decide +kernel) (by decide +kernel) (by decide +kernel) (by decide) ?_
        exact lo_setLock C hF hj hL hP hD hI hS hl kk
      by_cases h5 : k = 5
      · subst h5
        refine lv_tableIn (tgt := 610) (off := 571) hx hb dL_law_39 (by decide +kernel) (by decide +kernel) (by decide +kernel) (by decide) ?_
        exact lo_setSource C hF hj hL hP hD hI hS hl kk
      by_cases h6 : k = 6
      · subst h6
        refine lv_tableIn (tgt := 666) (off := 627) hx hb dL_law_39 (by decide +kernel) (by decide +kernel) (by decide +kernel) (by decide) ?_
        exact lo_turn C hF hj hL hP hD hI hS hl kk
      by_cases h7 : k = 7
      · subst h7
        refine lv_tableIn (tgt := 722) (off := 683) hx hb dL_law_39 (by decide +kernel) (by decide +kernel) (by decide +kernel) (by decide) ?_
        exact lo_undo C hF hj hL hP hD hI hS hl kk
      by_cases h8 : k = 8
      · subst h8
        refine lv_tableIn (tgt := 766) (off := 727) hx hb dL_law_39 (by decide +kernel) (by decide +kernel) (by decide +kernel) (by decide) ?_
        exact lo_redo C hF hj hL hP hD hI hS hl kk
      by_cases h9 : k = 9
      · subst h9
        refine lv_tableIn (tgt := 810) (off := 771) hx hb dL_law_39 (by decide +kernel) (by decide +kernel) (by decide +kernel) (by decide) ?_
        exact lo_moves C hF hj hL hP hD hI hS hl kk
      by_cases h10 : k = 10
      · subst h10
        refine lv_tableIn (tgt := 823) (off := 784) hx hb dL_law_39 (by decide +kernel) (by decide +kernel) (by decide +kernel) (by decide) ?_
        exact lo_size C hF hj hL hP hD hI hS hl kk
      by_cases h11 : k = 11
      · subst h11
        refine lv_tableIn (tgt := 836) (off := 797) hx hb dL_law_39 (by decide +kernel) (by decide +kernel) (by decide +kernel) (by decide) ?_
        exact lo_tile C hF hj hL hP hD hI hS hl kk
      by_cases h12 : k = 12
      · subst h12
        refine lv_tableIn (tgt := 892) (off := 853) hx hb dL_law_39 (by decide +kernel) (by decide +kernel) (by decide +kernel) (by decide) ?_
        exact lo_neighbour C hF hj hL hP hD hI hS hl kk
      by_cases h13 : k = 13
      · subst h13
        refine lv_tableIn (tgt := 960) (off := 921) hx hb dL_law_39 (by decide +kernel) (by decide +kernel) (by decide +kernel) (by decide) ?_
        exact lo_isJoined C hF hj hL hP hD hI hS hl kk
      by_cases h14 : k = 14
      · subst h14
        refine lv_tableIn (tgt := 1035) (off := 996) hx hb dL_law_39 (by decide +kernel) (by decide +kernel) (by decide +kernel) (by decide) ?_
        exact lo_loose C hF hj hL hP hD hI hS hl kk
      by_cases h15 : k = 15
      · subst h15
        refine lv_tableIn (tgt := 1048) (off := 1009) hx hb dL_law_39 (by decide +kernel) (by decide +kernel) (by decide +kernel) (by decide) ?_
        exact lo_watered C hF hj hL hP hD hI hS hl kk
      by_cases h16 : k = 16
      · subst h16
        refine lv_tableIn (tgt := 1061) (off := 1022) hx hb dL_law_39 (by decide +kernel) (by decide +kernel) (by decide +kernel) (by decide) ?_
        exact lo_isWatered C hF hj hL hP hD hI hS hl kk
      by_cases h17 : k = 17
      · subst h17
        refine lv_tableIn (tgt := 1124) (off := 1085) hx hb dL_law_39 (by decide +kernel) (by decide +kernel) (by decide +kernel) (by decide) ?_
        exact lo_isSolved C hF hj hL hP hD hI hS hl kk
      by_cases h18 : k = 18
      · subst h18
        refine lv_tableIn (tgt := 1137) (off := 1098) hx hb dL_law_39 (by decide +kernel) (by decide +kernel) (by decide +kernel) (by decide) ?_
        exact lo_lays C hF hj hL hP hD hI hS hl kk
      by_cases h19 : k = 19
      · subst h19
        refine lv_tableIn (tgt := 1193) (off := 1154) hx hb dL_law_39 (by decide +kernel) (by decide +kernel) (by decide +kernel) (by decide) ?_
        exact lo_solutions C hF hj hL hP hD hI hS hl kk
      by_cases h20 : k = 20
      · subst h20
        refine lv_tableIn (tgt := 1206) (off := 1167) hx hb dL_law_39 (by decide +kernel) (by decide +kernel) (by decide +kernel) (by decide) ?_
        exact lo_solutionsBySweep C hF hj hL hP hD hI hS hl kk
      by_cases h21 : k = 21
      · subst h21
        refine lv_tableIn (tgt := 1219) (off := 1180) hx hb dL_law_39 (by decide +kernel) (by decide +kernel) (by decide +kernel) (by decide) ?_
        exact lo_first C hF hj hL hP hD hI hS hl kk
      by_cases h22 : k = 22
      · subst h22
        refine lv_tableIn (tgt := 1275) (off := 1236) hx hb dL_law_39 (by decide +kernel) (by decide +kernel) (by decide +kernel) (by decide) ?_
        exact lo_fewestTurns C hF hj hL hP hD hI hS hl kk
      refine lv_tableOut (tgt := 1319) hx hb dL_law_39 (Or.inr (tbo k hk (by omega))) (by decide) ?_
      refine W.widen (k := CE (j + 1) (nb0 + nb1)) (n := SE (j + 1) (nb0 + nb1) (nw0 + nw1)) (by rw [ce_1]; omega) (by rw [se_1]; omega) ?_
      exact kk hP hD hI.up hS hl
