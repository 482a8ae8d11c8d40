/-! the law's loop (laid by wip/p26/lawwalk.py) -/
set_option maxHeartbeats 40000000 in
set_option maxRecDepth 100000 in
theorem lo_loop {p : Program} {l : Launch} {e : Env} {s : State} {m : MethodId} {below : List Frame} {meth : Method} {c : Code} {b L : Nat} {xs : Nat → Int32} {G : GG} {A : Nat → Prop} {Q : State → Prop} (C : LCX p l s m b L xs c G A) {F : Nat} (hF : BF F) {K : Nat} (hK50 : K ≤ 50) (hKL : 3 * K ≤ L) (hL : L ≤ 260) {qX qTT qTW : Nat} (ke : ∀ (H' : Heap) (locs' : List Loc) (ls' : Array Slot), va_S A s.heap H' locs' → lv_has ls' 7 [(6, .int (nI K)), (5, .int (nI K)), (4, .int 1), (3, .ref qTW), (2, .ref qTT), (1, .ref qX), (0, .ref b)] → W p l e room_1 s m #[Value.ref b] below meth c H' locs' 600104 7301313 Q (F0 m 227 ls' [])) : ∀ (n j : Nat), n + j = K → ∀ ⦃qB qBT qBC qBN qBW qBL qH qHM qK qKC qKS qV qVL qVS qVA qVT qS qSR qSI qSP qSF qW qWP qWN qL0 qL0b qL0w qL1 qL1b qL1w : Nat⦄ ⦃qR : Nat → Nat⦄ ⦃bn : Int32⦄ ⦃bk : Int32⦄ ⦃bs : Int32⦄ ⦃bT : Nat → Int32⦄ ⦃bC : Nat → Int32⦄ ⦃bN : Nat → Int32⦄ ⦃bW : Nat → Int32⦄ ⦃bL : Nat → Int32⦄ ⦃hd : Int32⦄ ⦃hk : Int32⦄ ⦃hM : Nat → Int32⦄ ⦃kp : Int32⦄ ⦃ku : Int32⦄ ⦃kC : Nat → Int32⦄ ⦃kS : Nat → Int32⦄ ⦃vL : Nat → Int32⦄ ⦃vS : Nat → Int32⦄ ⦃vA : Nat → Int32⦄ ⦃vT : Nat → Int32⦄ ⦃so : Int32⦄ ⦃sw : Int32⦄ ⦃sR : Nat → Int32⦄ ⦃sI : Nat → Int32⦄ ⦃sP : Nat → Nat → Int32⦄ ⦃sF : Nat → Int32⦄ ⦃wP : Nat → Int32⦄ ⦃wN : Nat → Int32⦄ ⦃lc0 : Int32⦄ ⦃nb0 : Nat⦄ ⦃lb0 : Nat → Int64⦄ ⦃nw0 : Nat⦄ ⦃lw0 : Nat → Int32⦄ ⦃lc1 : Int32⦄ ⦃nb1 : Nat⦄ ⦃lb1 : Nat → Int64⦄ ⦃nw1 : Nat⦄ ⦃lw1 : Nat → Int32⦄ ⦃tT : Nat → Int32⦄ ⦃tW : Nat → Int32⦄ ⦃H : Heap⦄ ⦃locs : List Loc⦄ ⦃ls : Array Slot⦄, va_P G.1 vwCl (wLaw G qX qTT qTW qB qBT qBC qBN qBW qBL qH qHM qK qKC qKS qV qVL qVS qVA qVT qS qSR qSI qSP qSF qW qWP qWN qL0 qL0b qL0w qL1 qL1b qL1w qR bn bk bs bT bC bN bW bL hd hk hM kp ku kC kS vL vS vA vT so sw sR sI sP sF wP wN lc0 nb0 lb0 nw0 lw0 lc1 nb1 lb1 nw1 lw1 tT tW) H → va_D A (wLaw G qX qTT qTW qB qBT qBC qBN qBW qBL qH qHM qK qKC qKS qV qVL qVS qVA qVT qS qSR qSI qSP qSF qW qWP qWN qL0 qL0b qL0w qL1 qL1b qL1w qR bn bk bs bT bC bN bW bL hd hk hM kp ku kC kS vL vS vA vT so sw sR sI sP sF wP wN lc0 nb0 lb0 nw0 lw0 lc1 nb1 lb1 nw1 lw1 tT tW) → LI bn bk bs bT bC bN bW hd hk hM tT tW → CP nb0 nw0 → CP nb1 nw1 → va_S A s.heap H locs → lv_has ls 7 [(6, .int (nI j)), (5, .int (nI K)), (4, .int 1), (3, .ref qTW), (2, .ref qTT), (1, .ref qX), (0, .ref b)] → W p l e room_1 s m #[Value.ref b] below meth c H locs (CE j (nb0 + nb1)) (SE j (nb0 + nb1) (nw0 + nw1)) Q (F0 m 96 ls []) := by
  obtain ⟨hx, hb, hml, hown, hts, hX, hbl, hbA, hA, hKK⟩ := id C
  intro n
  induction n with
  | zero =>
    intro j hn qB qBT qBC qBN qBW qBL qH qHM qK qKC qKS qV qVL qVS qVA qVT qS qSR qSI qSP qSF qW qWP qWN qL0 qL0b qL0w qL1 qL1b qL1w qR bn bk bs bT bC bN bW bL hd hk hM kp ku kC kS vL vS vA vT so sw sR sI sP sF wP wN lc0 nb0 lb0 nw0 lw0 lc1 nb1 lb1 nw1 lw1 tT tW H locs ls hP hD hI cp0 cp1 hS hl
    have hj : j = K := by omega
    subst hj
    obtain ⟨hc, hs⟩ := ce_mx hK50 cp0 cp1
    refine lv_iload hx hb dL_law_96 (lv_at hl 0 rfl) ?_
    refine lv_iload hx hb dL_law_98 (lv_at hl 1 rfl) ?_
    refine lv_icmp_ge (tgt := 227) hx hb dL_law_100 (by decide) (fun c_9 => ?_) (fun c_9 => ?_)
    · exact W.widen (k := 600104) (n := 7301313) (by omega) (by omega) (ke H locs ls hS hl)
    · exact absurd (nI_le (Nat.le_refl j) (by omega)) c_9
  | succ n ih =>
    intro j hn qB qBT qBC qBN qBW qBL qH qHM qK qKC qKS qV qVL qVS qVA qVT qS qSR qSI qSP qSF qW qWP qWN qL0 qL0b qL0w qL1 qL1b qL1w qR bn bk bs bT bC bN bW bL hd hk hM kp ku kC kS vL vS vA vT so sw sR sI sP sF wP wN lc0 nb0 lb0 nw0 lw0 lc1 nb1 lb1 nw1 lw1 tT tW H locs ls hP hD hI cp0 cp1 hS hl
    refine lv_iload hx hb dL_law_96 (lv_at hl 0 rfl) ?_
    refine lv_iload hx hb dL_law_98 (lv_at hl 1 rfl) ?_
    refine lv_icmp_ge (tgt := 227) hx hb dL_law_100 (by decide) (fun c_9 => ?_) (fun c_9 => ?_)
    · exact absurd c_9 (nI_ge (show j < K by omega) (by omega))
    · refine lv_iload hx hb dL_law_103 (lv_at hl 2 rfl) ?_
      refine lv_if_eq (tgt := 227) hx hb dL_law_105 (by decide) (fun c_8 => absurd c_8 (by decide)) (fun c_8 => ?_)
      refine lo_A C hF (show j < K by omega) hK50 hKL hL hP hD hI cp0 cp1 hS hl ?_
      intro qB qBT qBC qBN qBW qBL qH qHM qK qKC qKS qV qVL qVS qVA qVT qS qSR qSI qSP qSF qW qWP qWN qL0 qL0b qL0w qL1 qL1b qL1w qR bn bk bs bT bC bN bW bL hd hk hM kp ku kC kS vL vS vA vT so sw sR sI sP sF wP wN lc0 nb0 lb0 nw0 lw0 lc1 nb1 lb1 nw1 lw1 tT tW H locs ls hP hD hI cp0 cp1 hS hl
      refine lo_B C hF (show j < K by omega) hK50 hP hD hI cp0 cp1 hS hl ?_
      intro qB qBT qBC qBN qBW qBL qH qHM qK qKC qKS qV qVL qVS qVA qVT qS qSR qSI qSP qSF qW qWP qWN qL0 qL0b qL0w qL1 qL1b qL1w qR bn bk bs bT bC bN bW bL hd hk hM kp ku kC kS vL vS vA vT so sw sR sI sP sF wP wN lc0 nb0 lb0 nw0 lw0 lc1 nb1 lb1 nw1 lw1 tT tW H locs ls hP hD hI cp0 cp1 hS hl
      refine lv_iinc (v := nI (j + 1)) (lv' := [(6, .int (nI (j + 1))), (5, .int (nI K)), (4, .int 1), (3, .ref qTW), (2, .ref qTT), (1, .ref qX), (0, .ref b)]) hx hb dL_law_221 hl (k := 0) rfl (nI_1 j) (by decide) rfl (fun ls hl => ?_)
      refine lv_goto (tgt := 96) hx hb dL_law_224 (by decide) ?_
      exact ih (j + 1) (by omega) hP hD hI cp0 cp1 hS hl
