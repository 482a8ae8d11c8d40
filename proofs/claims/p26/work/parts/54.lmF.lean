/-! the law's own method step (laid by wip/p26/lawm.py) -/
abbrev rmL_step : Room := { frames := 47, cells := 0, slots := 0, locals := 1118 }
set_option maxHeartbeats 40000000 in
set_option maxRecDepth 100000 in
theorem tL_step (G : GG) (l : Launch) {qX qB qH qK qV qS qW qBT qBC qBN qBW qBL qHM qKC qKS qVL qVS qVA qVT qSR qSI qSP qSF qTT qTW : Nat} {qR : Nat → Nat} {bn : Int32} {bk : Int32} {bs : Int32} {bT : Nat → Int32} {bC : Nat → Int32} {bN : Nat → Int32} {bW : Nat → Int32} {bL : Nat → Int32} {hd : Int32} {hk : Int32} {hM : Nat → Int32} {kp : Int32} {ku : Int32} {kC : Nat → Int32} {kS : Nat → Int32} {vL : Nat → Int32} {vS : Nat → Int32} {vA : Nat → Int32} {vT : Nat → Int32} {so : Int32} {sw : Int32} {sR : Nat → Int32} {sI : Nat → Int32} {sP : Nat → Nat → Int32} {sF : Nat → Int32} {tT : Nat → Int32} {tW : Nat → Int32} {x3 : Int32} {x4 : Int32} {x5 : Int32} {sz : Nat} {F : Nat} {r : Int32 × Int32 × Int32 × Int32 × (Nat → Int32) × (Nat → Int32) × (Nat → Int32) × (Nat → Int32) × (Nat → Int32) × Int32 × Int32 × (Nat → Int32) × Int32 × Int32 × (Nat → Int32) × (Nat → Int32) × (Nat → Int32) × (Nat → Int32) × (Nat → Int32) × (Nat → Int32) × Int32 × Int32 × (Nat → Int32) × (Nat → Int32) × (Nat → Nat → Int32) × (Nat → Int32) × (Nat → Int32) × (Nat → Int32)} (hq : kL_step F bn bk bs bT bC bN bW bL hd hk hM kp ku kC kS vL vS vA vT so sw sR sI sP sF tT tW x3 x4 x5 = some r) : Met l yL_step wsL_step rmL_step (pcW G ([(qX, .inr (7, [.ref qB, .ref qH, .ref qK, .ref qV, .ref qS, .ref qW])), (qB, .inr (0, [.ref qBT, .ref qBC, .ref qBN, .ref qBW, .ref qBL, .int bn, .int bk, .int bs])), (qBT, .inl (G.2.1, 16, .inl bT)), (qBC, .inl (G.2.1, 16, .inl bC)), (qBN, .inl (G.2.1, 64, .inl bN)), (qBW, .inl (G.2.1, 64, .inl bW)), (qBL, .inl (G.2.1, 16, .inl bL)), (qH, .inr (2, [.ref qHM, .int hd, .int hk])), (qHM, .inl (G.2.1, 512, .inl hM)), (qK, .inr (3, [.ref qB, .ref qKC, .ref qKS, .int kp, .int ku])), (qKC, .inl (G.2.1, 32, .inl kC)), (qKS, .inl (G.2.1, 32, .inl kS)), (qV, .inr (5, [.ref qB, .ref qVL, .ref qVS, .ref qVA, .ref qVT])), (qVL, .inl (G.2.1, 16, .inl vL)), (qVS, .inl (G.2.1, 16, .inl vS)), (qVA, .inl (G.2.1, 16, .inl vA)), (qVT, .inl (G.2.1, 16, .inl vT)), (qS, .inr (4, [.ref qB, .ref qV, .ref qSR, .ref qSI, .ref qSP, .ref qSF, .int so, .int sw])), (qSR, .inl (G.2.1, 16, .inl sR)), (qSI, .inl (G.2.1, 16, .inl sI)), (qSP, .inl (G.2.2.2.2, 17, .inr (.inr (.inr (.inr (outR qR)))))), (qSF, .inl (G.2.1, 16, .inl sF)), (qTT, .inl (G.2.1, 64, .inl tT)), (qTW, .inl (G.2.1, 16, .inl tW))] ++ rws G qR sP) sz [.ref qX, .ref qTT, .ref qTW, .int x3, .int x4, .int x5]) (qcI G r.1 ([(qX, .inr (7, [.ref qB, .ref qH, .ref qK, .ref qV, .ref qS, .ref qW])), (qB, .inr (0, [.ref qBT, .ref qBC, .ref qBN, .ref qBW, .ref qBL, .int r.2.1, .int r.2.2.1, .int r.2.2.2.1])), (qBT, .inl (G.2.1, 16, .inl r.2.2.2.2.1)), (qBC, .inl (G.2.1, 16, .inl r.2.2.2.2.2.1)), (qBN, .inl (G.2.1, 64, .inl r.2.2.2.2.2.2.1)), (qBW, .inl (G.2.1, 64, .inl r.2.2.2.2.2.2.2.1)), (qBL, .inl (G.2.1, 16, .inl r.2.2.2.2.2.2.2.2.1)), (qH, .inr (2, [.ref qHM, .int r.2.2.2.2.2.2.2.2.2.1, .int r.2.2.2.2.2.2.2.2.2.2.1])), (qHM, .inl (G.2.1, 512, .inl r.2.2.2.2.2.2.2.2.2.2.2.1)), (qK, .inr (3, [.ref qB, .ref qKC, .ref qKS, .int r.2.2.2.2.2.2.2.2.2.2.2.2.1, .int r.2.2.2.2.2.2.2.2.2.2.2.2.2.1])), (qKC, .inl (G.2.1, 32, .inl r.2.2.2.2.2.2.2.2.2.2.2.2.2.2.1)), (qKS, .inl (G.2.1, 32, .inl r.2.2.2.2.2.2.2.2.2.2.2.2.2.2.2.1)), (qV, .inr (5, [.ref qB, .ref qVL, .ref qVS, .ref qVA, .ref qVT])), (qVL, .inl (G.2.1, 16, .inl r.2.2.2.2.2.2.2.2.2.2.2.2.2.2.2.2.1)), (qVS, .inl (G.2.1, 16, .inl r.2.2.2.2.2.2.2.2.2.2.2.2.2.2.2.2.2.1)), (qVA, .inl (G.2.1, 16, .inl r.2.2.2.2.2.2.2.2.2.2.2.2.2.2.2.2.2.2.1)), (qVT, .inl (G.2.1, 16, .inl r.2.2.2.2.2.2.2.2.2.2.2.2.2.2.2.2.2.2.2.1)), (qS, .inr (4, [.ref qB, .ref qV, .ref qSR, .ref qSI, .ref qSP, .ref qSF, .int r.2.2.2.2.2.2.2.2.2.2.2.2.2.2.2.2.2.2.2.2.1, .int r.2.2.2.2.2.2.2.2.2.2.2.2.2.2.2.2.2.2.2.2.2.1])), (qSR, .inl (G.2.1, 16, .inl r.2.2.2.2.2.2.2.2.2.2.2.2.2.2.2.2.2.2.2.2.2.2.1)), (qSI, .inl (G.2.1, 16, .inl r.2.2.2.2.2.2.2.2.2.2.2.2.2.2.2.2.2.2.2.2.2.2.2.1)), (qSP, .inl (G.2.2.2.2, 17, .inr (.inr (.inr (.inr (outR qR)))))), (qSF, .inl (G.2.1, 16, .inl r.2.2.2.2.2.2.2.2.2.2.2.2.2.2.2.2.2.2.2.2.2.2.2.2.2.1)), (qTT, .inl (G.2.1, 64, .inl r.2.2.2.2.2.2.2.2.2.2.2.2.2.2.2.2.2.2.2.2.2.2.2.2.2.2.1)), (qTW, .inl (G.2.1, 16, .inl r.2.2.2.2.2.2.2.2.2.2.2.2.2.2.2.2.2.2.2.2.2.2.2.2.2.2.2))] ++ rws G qR r.2.2.2.2.2.2.2.2.2.2.2.2.2.2.2.2.2.2.2.2.2.2.2.2.1) (va_A ([(qX, .inr (7, [.ref qB, .ref qH, .ref qK, .ref qV, .ref qS, .ref qW])), (qB, .inr (0, [.ref qBT, .ref qBC, .ref qBN, .ref qBW, .ref qBL, .int bn, .int bk, .int bs])), (qBT, .inl (G.2.1, 16, .inl bT)), (qBC, .inl (G.2.1, 16, .inl bC)), (qBN, .inl (G.2.1, 64, .inl bN)), (qBW, .inl (G.2.1, 64, .inl bW)), (qBL, .inl (G.2.1, 16, .inl bL)), (qH, .inr (2, [.ref qHM, .int hd, .int hk])), (qHM, .inl (G.2.1, 512, .inl hM)), (qK, .inr (3, [.ref qB, .ref qKC, .ref qKS, .int kp, .int ku])), (qKC, .inl (G.2.1, 32, .inl kC)), (qKS, .inl (G.2.1, 32, .inl kS)), (qV, .inr (5, [.ref qB, .ref qVL, .ref qVS, .ref qVA, .ref qVT])), (qVL, .inl (G.2.1, 16, .inl vL)), (qVS, .inl (G.2.1, 16, .inl vS)), (qVA, .inl (G.2.1, 16, .inl vA)), (qVT, .inl (G.2.1, 16, .inl vT)), (qS, .inr (4, [.ref qB, .ref qV, .ref qSR, .ref qSI, .ref qSP, .ref qSF, .int so, .int sw])), (qSR, .inl (G.2.1, 16, .inl sR)), (qSI, .inl (G.2.1, 16, .inl sI)), (qSP, .inl (G.2.2.2.2, 17, .inr (.inr (.inr (.inr (outR qR)))))), (qSF, .inl (G.2.1, 16, .inl sF)), (qTT, .inl (G.2.1, 64, .inl tT)), (qTW, .inl (G.2.1, 16, .inl tW))] ++ rws G qR sP) sz)) 0 0 (va_A ([(qX, .inr (7, [.ref qB, .ref qH, .ref qK, .ref qV, .ref qS, .ref qW])), (qB, .inr (0, [.ref qBT, .ref qBC, .ref qBN, .ref qBW, .ref qBL, .int bn, .int bk, .int bs])), (qBT, .inl (G.2.1, 16, .inl bT)), (qBC, .inl (G.2.1, 16, .inl bC)), (qBN, .inl (G.2.1, 64, .inl bN)), (qBW, .inl (G.2.1, 64, .inl bW)), (qBL, .inl (G.2.1, 16, .inl bL)), (qH, .inr (2, [.ref qHM, .int hd, .int hk])), (qHM, .inl (G.2.1, 512, .inl hM)), (qK, .inr (3, [.ref qB, .ref qKC, .ref qKS, .int kp, .int ku])), (qKC, .inl (G.2.1, 32, .inl kC)), (qKS, .inl (G.2.1, 32, .inl kS)), (qV, .inr (5, [.ref qB, .ref qVL, .ref qVS, .ref qVA, .ref qVT])), (qVL, .inl (G.2.1, 16, .inl vL)), (qVS, .inl (G.2.1, 16, .inl vS)), (qVA, .inl (G.2.1, 16, .inl vA)), (qVT, .inl (G.2.1, 16, .inl vT)), (qS, .inr (4, [.ref qB, .ref qV, .ref qSR, .ref qSI, .ref qSP, .ref qSF, .int so, .int sw])), (qSR, .inl (G.2.1, 16, .inl sR)), (qSI, .inl (G.2.1, 16, .inl sI)), (qSP, .inl (G.2.2.2.2, 17, .inr (.inr (.inr (.inr (outR qR)))))), (qSF, .inl (G.2.1, 16, .inl sF)), (qTT, .inl (G.2.1, 64, .inl tT)), (qTW, .inl (G.2.1, 16, .inl tW))] ++ rws G qR sP) sz) := by
  refine Met.ofW (cc := cL_step) (maxL := 15) (ret := (some .boolean)) (by decide) rfl ?_
  intro p e s m args below meth c s₁ B hml hv
  obtain ⟨rfl, hsz, hP, hKK, hD0⟩ := hv
  have hK := hKK.1
  have hx := B.exec
  have hb := B.bytes
  have hr := B.returns
  have hts := atoms_spec (ws := wsL_step) B.pre
  have hown : s.vm.findClass RL = some m.cls := findClass_of_methodNamed B.named
  have hlocks := B.notSynchronized
  subst hsz
  have hD := hD0.self (sz := s.heap.size)
  generalize hAe : va_A ([(qX, .inr (7, [.ref qB, .ref qH, .ref qK, .ref qV, .ref qS, .ref qW])), (qB, .inr (0, [.ref qBT, .ref qBC, .ref qBN, .ref qBW, .ref qBL, .int bn, .int bk, .int bs])), (qBT, .inl (G.2.1, 16, .inl bT)), (qBC, .inl (G.2.1, 16, .inl bC)), (qBN, .inl (G.2.1, 64, .inl bN)), (qBW, .inl (G.2.1, 64, .inl bW)), (qBL, .inl (G.2.1, 16, .inl bL)), (qH, .inr (2, [.ref qHM, .int hd, .int hk])), (qHM, .inl (G.2.1, 512, .inl hM)), (qK, .inr (3, [.ref qB, .ref qKC, .ref qKS, .int kp, .int ku])), (qKC, .inl (G.2.1, 32, .inl kC)), (qKS, .inl (G.2.1, 32, .inl kS)), (qV, .inr (5, [.ref qB, .ref qVL, .ref qVS, .ref qVA, .ref qVT])), (qVL, .inl (G.2.1, 16, .inl vL)), (qVS, .inl (G.2.1, 16, .inl vS)), (qVA, .inl (G.2.1, 16, .inl vA)), (qVT, .inl (G.2.1, 16, .inl vT)), (qS, .inr (4, [.ref qB, .ref qV, .ref qSR, .ref qSI, .ref qSP, .ref qSF, .int so, .int sw])), (qSR, .inl (G.2.1, 16, .inl sR)), (qSI, .inl (G.2.1, 16, .inl sI)), (qSP, .inl (G.2.2.2.2, 17, .inr (.inr (.inr (.inr (outR qR)))))), (qSF, .inl (G.2.1, 16, .inl sF)), (qTT, .inl (G.2.1, 64, .inl tT)), (qTW, .inl (G.2.1, 16, .inl tW))] ++ rws G qR sP) s.heap.size = A at hD ⊢
  have hA : ∀ q : Nat, s.heap.size ≤ q → A q := fun q h => by rw [← hAe]; exact Or.inr h
  have hS : va_S A s.heap s.heap [] := va_S.rf
  have hl := lv_entry ([.ref qX, .ref qTT, .ref qTW, .int x3, .int x4, .int x5] : List Value) (n := 15) (Nat.le_of_ble_eq_true rfl)
  rw [lg_entry_eq]
  generalize (lg_sl ([.ref qX, .ref qTT, .ref qTW, .int x3, .int x4, .int x5] : List Value) ++ List.replicate (15 - (lg_sl ([.ref qX, .ref qTT, .ref qTW, .int x3, .int x4, .int x5] : List Value)).length) Slot.unset).toArray = ls at hl ⊢
  have hl : lv_has ls 15 [(0, .ref qX), (1, .ref qTT), (2, .ref qTW), (3, .int x3), (4, .int x4), (5, .int x5)] := hl
  refine wq (fun Q hQ => ?_)
  unfold kL_step at hq
  refine lv_iload hx hb dL_step_0 (lv_at hl 4 rfl) ?_
  refine lv_aload_n hx hb dL_step_2 rfl (lv_at hl 0 rfl) ?_
  replace hq := ob hq
  obtain ⟨q1, eq1, hq⟩ := hq
  have hPc := hP.sub (ws' := [(qX, .inr (7, [.ref qB, .ref qH, .ref qK, .ref qV, .ref qS, .ref qW])), (qB, .inr (0, [.ref qBT, .ref qBC, .ref qBN, .ref qBW, .ref qBL, .int bn, .int bk, .int bs]))]) [0, 1] rfl
  have hKc := hK
  refine vp_callSi (va_Run.run (va_runV (As := []) (rest := [.int x4]) ⟨hx, hb, hml, hown, hts⟩ (tX7_size G l eq1) (cwV 0 hts gL_step_X7_size rfl rfl rfl (by decide +kernel) ⟨Nat.le_of_ble_eq_true rfl, Nat.le_of_ble_eq_true rfl⟩) ⟨pcP_blind, va_recv hKc hPc (ci := 7) (q0 := 0) rfl rfl, pcP_pre hPc hKK⟩ rfl rfl hl.1 rfl (lv_room (Nat.le_of_ble_eq_true rfl)) dL_step_3 ⟨Nat.zero_le _, Nat.zero_le _⟩)) (fun r0 hr0 => ?_)
  obtain rfl := hr0
  replace hq := k_g hq
  obtain ⟨hg, hq⟩ := hq
  refine lv_irem hx hb dL_step_6 (nz_n hg) ?_
  refine lv_istore (lv' := [(6, .int (x4 - x4 / q1 * q1)), (0, .ref qX), (1, .ref qTT), (2, .ref qTW), (3, .int x3), (4, .int x4), (5, .int x5)]) hx hb dL_step_7 hl (by decide) rfl (fun ls hl => ?_)
  replace hq := ob hq
  obtain ⟨y2, ey2, hq⟩ := hq
  have ey2 := Option.some.inj ey2
  have hl : lv_has ls 15 [(6, .int y2), (0, .ref qX), (1, .ref qTT), (2, .ref qTW), (3, .int x3), (4, .int x4), (5, .int x5)] := ey2 ▸ hl
  refine lv_iload_n hx hb dL_step_9 rfl (lv_at hl 4 rfl) ?_
  refine lv_bipush (v := 12) hx hb dL_step_10 (by decide) ?_
  refine lv_irem hx hb dL_step_12 (by decide) ?_
  by_cases c_13_0 : x3 - x3 / 12 * 12 = 0
  · replace hq := k_t c_13_0 hq
    rw [c_13_0]
    refine lv_tableIn (tgt := 52) (off := 39) hx hb dL_step_13 (by decide +kernel) (by decide +kernel) (by decide +kernel) (by decide) ?_
    refine lv_aload_n hx hb dL_step_52 rfl (lv_at hl 1 rfl) ?_
    refine lv_aload_n hx hb dL_step_53 rfl (lv_at hl 2 rfl) ?_
    refine lv_aload_n hx hb dL_step_54 rfl (lv_at hl 3 rfl) ?_
    refine lv_iload hx hb dL_step_55 (lv_at hl 5 rfl) ?_
    refine lv_iload hx hb dL_step_57 (lv_at hl 6 rfl) ?_
    replace hq := ob hq
    obtain ⟨q3, eq3, hq⟩ := hq
    obtain ⟨z0, z1, z2, z3, z4, z5, z6, z7, z8, z9, z10, z11, z12, z13, z14, z15, z16, z17, z18, z19, z20, z21, z22, z23, z24, z25, z26⟩ := q3
    have hPc := hP.part (cx := [(qX, .inr (7, [.ref qB, .ref qH, .ref qK, .ref qV, .ref qS, .ref qW])), (qB, .inr (0, [.ref qBT, .ref qBC, .ref qBN, .ref qBW, .ref qBL, .int bn, .int bk, .int bs])), (qBT, .inl (G.2.1, 16, .inl bT)), (qBC, .inl (G.2.1, 16, .inl bC)), (qBN, .inl (G.2.1, 64, .inl bN)), (qBW, .inl (G.2.1, 64, .inl bW)), (qBL, .inl (G.2.1, 16, .inl bL)), (qH, .inr (2, [.ref qHM, .int hd, .int hk])), (qK, .inr (3, [.ref qB, .ref qKC, .ref qKS, .int kp, .int ku])), (qKC, .inl (G.2.1, 32, .inl kC)), (qKS, .inl (G.2.1, 32, .inl kS)), (qV, .inr (5, [.ref qB, .ref qVL, .ref qVS, .ref qVA, .ref qVT])), (qVL, .inl (G.2.1, 16, .inl vL)), (qVS, .inl (G.2.1, 16, .inl vS)), (qVA, .inl (G.2.1, 16, .inl vA)), (qVT, .inl (G.2.1, 16, .inl vT)), (qS, .inr (4, [.ref qB, .ref qV, .ref qSR, .ref qSI, .ref qSP, .ref qSF, .int so, .int sw])), (qSR, .inl (G.2.1, 16, .inl sR)), (qSI, .inl (G.2.1, 16, .inl sI)), (qSP, .inl (G.2.2.2.2, 17, .inr (.inr (.inr (.inr (outR qR)))))), (qSF, .inl (G.2.1, 16, .inl sF)), (qTT, .inl (G.2.1, 64, .inl tT)), (qTW, .inl (G.2.1, 16, .inl tW))]) [0, 1, 2, 3, 4, 5, 6, 7, 9, 10, 11, 12, 13, 14, 15, 16, 17, 18, 19, 20, 21, 22, 23] rfl
    have hDc := hD.part (cx := [(qX, .inr (7, [.ref qB, .ref qH, .ref qK, .ref qV, .ref qS, .ref qW])), (qB, .inr (0, [.ref qBT, .ref qBC, .ref qBN, .ref qBW, .ref qBL, .int bn, .int bk, .int bs])), (qBT, .inl (G.2.1, 16, .inl bT)), (qBC, .inl (G.2.1, 16, .inl bC)), (qBN, .inl (G.2.1, 64, .inl bN)), (qBW, .inl (G.2.1, 64, .inl bW)), (qBL, .inl (G.2.1, 16, .inl bL)), (qH, .inr (2, [.ref qHM, .int hd, .int hk])), (qK, .inr (3, [.ref qB, .ref qKC, .ref qKS, .int kp, .int ku])), (qKC, .inl (G.2.1, 32, .inl kC)), (qKS, .inl (G.2.1, 32, .inl kS)), (qV, .inr (5, [.ref qB, .ref qVL, .ref qVS, .ref qVA, .ref qVT])), (qVL, .inl (G.2.1, 16, .inl vL)), (qVS, .inl (G.2.1, 16, .inl vS)), (qVA, .inl (G.2.1, 16, .inl vA)), (qVT, .inl (G.2.1, 16, .inl vT)), (qS, .inr (4, [.ref qB, .ref qV, .ref qSR, .ref qSI, .ref qSP, .ref qSF, .int so, .int sw])), (qSR, .inl (G.2.1, 16, .inl sR)), (qSI, .inl (G.2.1, 16, .inl sI)), (qSP, .inl (G.2.2.2.2, 17, .inr (.inr (.inr (.inr (outR qR)))))), (qSF, .inl (G.2.1, 16, .inl sF)), (qTT, .inl (G.2.1, 64, .inl tT)), (qTW, .inl (G.2.1, 16, .inl tW))]) [0, 1, 2, 3, 4, 5, 6, 7, 9, 10, 11, 12, 13, 14, 15, 16, 17, 18, 19, 20, 21, 22, 23] (by decide) rfl
    have hFc := va_freeP (cx := [(qX, .inr (7, [.ref qB, .ref qH, .ref qK, .ref qV, .ref qS, .ref qW])), (qB, .inr (0, [.ref qBT, .ref qBC, .ref qBN, .ref qBW, .ref qBL, .int bn, .int bk, .int bs])), (qBT, .inl (G.2.1, 16, .inl bT)), (qBC, .inl (G.2.1, 16, .inl bC)), (qBN, .inl (G.2.1, 64, .inl bN)), (qBW, .inl (G.2.1, 64, .inl bW)), (qBL, .inl (G.2.1, 16, .inl bL)), (qH, .inr (2, [.ref qHM, .int hd, .int hk])), (qK, .inr (3, [.ref qB, .ref qKC, .ref qKS, .int kp, .int ku])), (qKC, .inl (G.2.1, 32, .inl kC)), (qKS, .inl (G.2.1, 32, .inl kS)), (qV, .inr (5, [.ref qB, .ref qVL, .ref qVS, .ref qVA, .ref qVT])), (qVL, .inl (G.2.1, 16, .inl vL)), (qVS, .inl (G.2.1, 16, .inl vS)), (qVA, .inl (G.2.1, 16, .inl vA)), (qVT, .inl (G.2.1, 16, .inl vT)), (qS, .inr (4, [.ref qB, .ref qV, .ref qSR, .ref qSI, .ref qSP, .ref qSF, .int so, .int sw])), (qSR, .inl (G.2.1, 16, .inl sR)), (qSI, .inl (G.2.1, 16, .inl sI)), (qSP, .inl (G.2.2.2.2, 17, .inr (.inr (.inr (.inr (outR qR)))))), (qSF, .inl (G.2.1, 16, .inl sF)), (qTT, .inl (G.2.1, 64, .inl tT)), (qTW, .inl (G.2.1, 16, .inl tW))]) hD hS hA [0, 1, 2, 3, 4, 5, 6, 7, 9, 10, 11, 12, 13, 14, 15, 16, 17, 18, 19, 20, 21, 22, 23] rfl
    refine va_calli (va_runS (As := [.ref qX, .ref qTT, .ref qTW, .int x4, .int x5]) (rest := []) ⟨hx, hb, hml, hown, hts⟩ (tL_begins G l eq3) (va_cwS 5 hts gL_step_L_begins rfl rfl rfl (by decide +kernel) ⟨Nat.le_of_ble_eq_true rfl, Nat.le_of_ble_eq_true rfl⟩) ⟨pcW_blind, pcW_pre hPc hKK hDc⟩ rfl rfl hl.1 rfl (lv_room (Nat.le_of_ble_eq_true rfl)) dL_step_59 ⟨Nat.zero_le _, Nat.zero_le _⟩) hS (fun q _ h => hFc q h) hFc (fun r0 u t H1 locs ht hvm hw hB hz1 hk1 hS => ?_)
    obtain rfl := hw
    have hB := va_Pto ht hB
    obtain ⟨hP, hD⟩ := jnR (X' := [(qX, .inr (7, [.ref qB, .ref qH, .ref qK, .ref qV, .ref qS, .ref qW])), (qB, .inr (0, [.ref qBT, .ref qBC, .ref qBN, .ref qBW, .ref qBL, .int z1, .int z2, .int z3])), (qBT, .inl (G.2.1, 16, .inl z4)), (qBC, .inl (G.2.1, 16, .inl z5)), (qBN, .inl (G.2.1, 64, .inl z6)), (qBW, .inl (G.2.1, 64, .inl z7)), (qBL, .inl (G.2.1, 16, .inl z8)), (qH, .inr (2, [.ref qHM, .int z9, .int z10])), (qHM, .inl (G.2.1, 512, .inl hM)), (qK, .inr (3, [.ref qB, .ref qKC, .ref qKS, .int z11, .int z12])), (qKC, .inl (G.2.1, 32, .inl z13)), (qKS, .inl (G.2.1, 32, .inl z14)), (qV, .inr (5, [.ref qB, .ref qVL, .ref qVS, .ref qVA, .ref qVT])), (qVL, .inl (G.2.1, 16, .inl z15)), (qVS, .inl (G.2.1, 16, .inl z16)), (qVA, .inl (G.2.1, 16, .inl z17)), (qVT, .inl (G.2.1, 16, .inl z18)), (qS, .inr (4, [.ref qB, .ref qV, .ref qSR, .ref qSI, .ref qSP, .ref qSF, .int z19, .int z20])), (qSR, .inl (G.2.1, 16, .inl z21)), (qSI, .inl (G.2.1, 16, .inl z22)), (qSP, .inl (G.2.2.2.2, 17, .inr (.inr (.inr (.inr (outR qR)))))), (qSF, .inl (G.2.1, 16, .inl z24)), (qTT, .inl (G.2.1, 64, .inl z25)), (qTW, .inl (G.2.1, 16, .inl z26))]) hP hD hk1 hB [0, 1, 2, 3, 4, 5, 6, 7, 9, 10, 11, 12, 13, 14, 15, 16, 17, 18, 19, 20, 21, 22, 23] rfl rfl (by simp only [setAll, List.set_cons_zero, List.set_cons_succ]) rfl
    generalize H1 = H at hP hS ⊢
    replace hq := k_g hq
    obtain ⟨hg, hq⟩ := hq
    obtain rfl := Option.some.inj hq
    rw [hQ]
    exact W.zret hx hb hr (isZ_n hg) (fun t ht hW => ⟨⟨_, (), rfl, rfl, va_Pat ht hP⟩, hS.F ht⟩) hS.2.2 dL_step_62
  · replace hq := k_f c_13_0 hq
    by_cases c_13_1 : x3 - x3 / 12 * 12 = 1
    · replace hq := k_t c_13_1 hq
      rw [c_13_1]
      refine lv_tableIn (tgt := 63) (off := 50) hx hb dL_step_13 (by decide +kernel) (by decide +kernel) (by decide +kernel) (by decide) ?_
      refine lv_aload_n hx hb dL_step_63 rfl (lv_at hl 2 rfl) ?_
      refine lv_iload hx hb dL_step_64 (lv_at hl 0 rfl) ?_
      replace hq := k_g hq
      obtain ⟨hg, hq⟩ := hq
      refine va_iald hx hb hK hP 22 0 rfl rfl (ix_in hg) dL_step_66 ?_
      refine lv_istore (lv' := [(7, .int (tT y2.toNatClampNeg)), (6, .int y2), (0, .ref qX), (1, .ref qTT), (2, .ref qTW), (3, .int x3), (4, .int x4), (5, .int x5)]) hx hb dL_step_67 hl (by decide) rfl (fun ls hl => ?_)
      replace hq := ob hq
      obtain ⟨y4, ey4, hq⟩ := hq
      have ey4 := Option.some.inj ey4
      have hl : lv_has ls 15 [(7, .int y4), (6, .int y2), (0, .ref qX), (1, .ref qTT), (2, .ref qTW), (3, .int x3), (4, .int x4), (5, .int x5)] := ey4 ▸ hl
      refine lv_aload_n hx hb dL_step_69 rfl (lv_at hl 3 rfl) ?_
      refine lv_iload hx hb dL_step_70 (lv_at hl 1 rfl) ?_
      refine lv_iload hx hb dL_step_72 (lv_at hl 7 rfl) ?_
      refine lv_bipush (v := 16) hx hb dL_step_74 (by decide) ?_
      refine lv_irem hx hb dL_step_76 (by decide) ?_
      replace hq := k_g hq
      obtain ⟨hg, hq⟩ := hq
      refine va_iast hx hb hK hP hD hS 22 0 rfl rfl (ix_in hg) dL_step_77 (fun H locs hP hD hS => ?_)
      have hP : va_P G.1 vwCl ([(qX, .inr (7, [.ref qB, .ref qH, .ref qK, .ref qV, .ref qS, .ref qW])), (qB, .inr (0, [.ref qBT, .ref qBC, .ref qBN, .ref qBW, .ref qBL, .int bn, .int bk, .int bs])), (qBT, .inl (G.2.1, 16, .inl bT)), (qBC, .inl (G.2.1, 16, .inl bC)), (qBN, .inl (G.2.1, 64, .inl bN)), (qBW, .inl (G.2.1, 64, .inl bW)), (qBL, .inl (G.2.1, 16, .inl bL)), (qH, .inr (2, [.ref qHM, .int hd, .int hk])), (qHM, .inl (G.2.1, 512, .inl hM)), (qK, .inr (3, [.ref qB, .ref qKC, .ref qKS, .int kp, .int ku])), (qKC, .inl (G.2.1, 32, .inl kC)), (qKS, .inl (G.2.1, 32, .inl kS)), (qV, .inr (5, [.ref qB, .ref qVL, .ref qVS, .ref qVA, .ref qVT])), (qVL, .inl (G.2.1, 16, .inl vL)), (qVS, .inl (G.2.1, 16, .inl vS)), (qVA, .inl (G.2.1, 16, .inl vA)), (qVT, .inl (G.2.1, 16, .inl vT)), (qS, .inr (4, [.ref qB, .ref qV, .ref qSR, .ref qSI, .ref qSP, .ref qSF, .int so, .int sw])), (qSR, .inl (G.2.1, 16, .inl sR)), (qSI, .inl (G.2.1, 16, .inl sI)), (qSP, .inl (G.2.2.2.2, 17, .inr (.inr (.inr (.inr (outR qR)))))), (qSF, .inl (G.2.1, 16, .inl sF)), (qTT, .inl (G.2.1, 64, .inl (upd tT y2.toNatClampNeg (x5 - x5 / 16 * 16)))), (qTW, .inl (G.2.1, 16, .inl tW))] ++ rws G qR sP) H := hP
      have hD : va_D A ([(qX, .inr (7, [.ref qB, .ref qH, .ref qK, .ref qV, .ref qS, .ref qW])), (qB, .inr (0, [.ref qBT, .ref qBC, .ref qBN, .ref qBW, .ref qBL, .int bn, .int bk, .int bs])), (qBT, .inl (G.2.1, 16, .inl bT)), (qBC, .inl (G.2.1, 16, .inl bC)), (qBN, .inl (G.2.1, 64, .inl bN)), (qBW, .inl (G.2.1, 64, .inl bW)), (qBL, .inl (G.2.1, 16, .inl bL)), (qH, .inr (2, [.ref qHM, .int hd, .int hk])), (qHM, .inl (G.2.1, 512, .inl hM)), (qK, .inr (3, [.ref qB, .ref qKC, .ref qKS, .int kp, .int ku])), (qKC, .inl (G.2.1, 32, .inl kC)), (qKS, .inl (G.2.1, 32, .inl kS)), (qV, .inr (5, [.ref qB, .ref qVL, .ref qVS, .ref qVA, .ref qVT])), (qVL, .inl (G.2.1, 16, .inl vL)), (qVS, .inl (G.2.1, 16, .inl vS)), (qVA, .inl (G.2.1, 16, .inl vA)), (qVT, .inl (G.2.1, 16, .inl vT)), (qS, .inr (4, [.ref qB, .ref qV, .ref qSR, .ref qSI, .ref qSP, .ref qSF, .int so, .int sw])), (qSR, .inl (G.2.1, 16, .inl sR)), (qSI, .inl (G.2.1, 16, .inl sI)), (qSP, .inl (G.2.2.2.2, 17, .inr (.inr (.inr (.inr (outR qR)))))), (qSF, .inl (G.2.1, 16, .inl sF)), (qTT, .inl (G.2.1, 64, .inl (upd tT y2.toNatClampNeg (x5 - x5 / 16 * 16)))), (qTW, .inl (G.2.1, 16, .inl tW))] ++ rws G qR sP) := hD
      replace hq := ob hq
      obtain ⟨y5, ey5, hq⟩ := hq
      have ey5 := Option.some.inj ey5
      have hP : va_P G.1 vwCl ([(qX, .inr (7, [.ref qB, .ref qH, .ref qK, .ref qV, .ref qS, .ref qW])), (qB, .inr (0, [.ref qBT, .ref qBC, .ref qBN, .ref qBW, .ref qBL, .int bn, .int bk, .int bs])), (qBT, .inl (G.2.1, 16, .inl bT)), (qBC, .inl (G.2.1, 16, .inl bC)), (qBN, .inl (G.2.1, 64, .inl bN)), (qBW, .inl (G.2.1, 64, .inl bW)), (qBL, .inl (G.2.1, 16, .inl bL)), (qH, .inr (2, [.ref qHM, .int hd, .int hk])), (qHM, .inl (G.2.1, 512, .inl hM)), (qK, .inr (3, [.ref qB, .ref qKC, .ref qKS, .int kp, .int ku])), (qKC, .inl (G.2.1, 32, .inl kC)), (qKS, .inl (G.2.1, 32, .inl kS)), (qV, .inr (5, [.ref qB, .ref qVL, .ref qVS, .ref qVA, .ref qVT])), (qVL, .inl (G.2.1, 16, .inl vL)), (qVS, .inl (G.2.1, 16, .inl vS)), (qVA, .inl (G.2.1, 16, .inl vA)), (qVT, .inl (G.2.1, 16, .inl vT)), (qS, .inr (4, [.ref qB, .ref qV, .ref qSR, .ref qSI, .ref qSP, .ref qSF, .int so, .int sw])), (qSR, .inl (G.2.1, 16, .inl sR)), (qSI, .inl (G.2.1, 16, .inl sI)), (qSP, .inl (G.2.2.2.2, 17, .inr (.inr (.inr (.inr (outR qR)))))), (qSF, .inl (G.2.1, 16, .inl sF)), (qTT, .inl (G.2.1, 64, .inl y5)), (qTW, .inl (G.2.1, 16, .inl tW))] ++ rws G qR sP) H := ey5 ▸ hP
      have hD : va_D A ([(qX, .inr (7, [.ref qB, .ref qH, .ref qK, .ref qV, .ref qS, .ref qW])), (qB, .inr (0, [.ref qBT, .ref qBC, .ref qBN, .ref qBW, .ref qBL, .int bn, .int bk, .int bs])), (qBT, .inl (G.2.1, 16, .inl bT)), (qBC, .inl (G.2.1, 16, .inl bC)), (qBN, .inl (G.2.1, 64, .inl bN)), (qBW, .inl (G.2.1, 64, .inl bW)), (qBL, .inl (G.2.1, 16, .inl bL)), (qH, .inr (2, [.ref qHM, .int hd, .int hk])), (qHM, .inl (G.2.1, 512, .inl hM)), (qK, .inr (3, [.ref qB, .ref qKC, .ref qKS, .int kp, .int ku])), (qKC, .inl (G.2.1, 32, .inl kC)), (qKS, .inl (G.2.1, 32, .inl kS)), (qV, .inr (5, [.ref qB, .ref qVL, .ref qVS, .ref qVA, .ref qVT])), (qVL, .inl (G.2.1, 16, .inl vL)), (qVS, .inl (G.2.1, 16, .inl vS)), (qVA, .inl (G.2.1, 16, .inl vA)), (qVT, .inl (G.2.1, 16, .inl vT)), (qS, .inr (4, [.ref qB, .ref qV, .ref qSR, .ref qSI, .ref qSP, .ref qSF, .int so, .int sw])), (qSR, .inl (G.2.1, 16, .inl sR)), (qSI, .inl (G.2.1, 16, .inl sI)), (qSP, .inl (G.2.2.2.2, 17, .inr (.inr (.inr (.inr (outR qR)))))), (qSF, .inl (G.2.1, 16, .inl sF)), (qTT, .inl (G.2.1, 64, .inl y5)), (qTW, .inl (G.2.1, 16, .inl tW))] ++ rws G qR sP) := ey5 ▸ hD
      refine lv_aload_n hx hb dL_step_78 rfl (lv_at hl 3 rfl) ?_
      refine lv_bipush (v := 62) hx hb dL_step_79 (by decide) ?_
      refine lv_iconst (v := 0) hx hb dL_step_81 (by decide) ?_
      replace hq := k_g hq
      obtain ⟨hg, hq⟩ := hq
      refine va_iast hx hb hK hP hD hS 22 0 rfl rfl (ix_in hg) dL_step_82 (fun H locs hP hD hS => ?_)
      have hP : va_P G.1 vwCl ([(qX, .inr (7, [.ref qB, .ref qH, .ref qK, .ref qV, .ref qS, .ref qW])), (qB, .inr (0, [.ref qBT, .ref qBC, .ref qBN, .ref qBW, .ref qBL, .int bn, .int bk, .int bs])), (qBT, .inl (G.2.1, 16, .inl bT)), (qBC, .inl (G.2.1, 16, .inl bC)), (qBN, .inl (G.2.1, 64, .inl bN)), (qBW, .inl (G.2.1, 64, .inl bW)), (qBL, .inl (G.2.1, 16, .inl bL)), (qH, .inr (2, [.ref qHM, .int hd, .int hk])), (qHM, .inl (G.2.1, 512, .inl hM)), (qK, .inr (3, [.ref qB, .ref qKC, .ref qKS, .int kp, .int ku])), (qKC, .inl (G.2.1, 32, .inl kC)), (qKS, .inl (G.2.1, 32, .inl kS)), (qV, .inr (5, [.ref qB, .ref qVL, .ref qVS, .ref qVA, .ref qVT])), (qVL, .inl (G.2.1, 16, .inl vL)), (qVS, .inl (G.2.1, 16, .inl vS)), (qVA, .inl (G.2.1, 16, .inl vA)), (qVT, .inl (G.2.1, 16, .inl vT)), (qS, .inr (4, [.ref qB, .ref qV, .ref qSR, .ref qSI, .ref qSP, .ref qSF, .int so, .int sw])), (qSR, .inl (G.2.1, 16, .inl sR)), (qSI, .inl (G.2.1, 16, .inl sI)), (qSP, .inl (G.2.2.2.2, 17, .inr (.inr (.inr (.inr (outR qR)))))), (qSF, .inl (G.2.1, 16, .inl sF)), (qTT, .inl (G.2.1, 64, .inl (upd y5 (62 : Int32).toNatClampNeg 0))), (qTW, .inl (G.2.1, 16, .inl tW))] ++ rws G qR sP) H := hP
      have hD : va_D A ([(qX, .inr (7, [.ref qB, .ref qH, .ref qK, .ref qV, .ref qS, .ref qW])), (qB, .inr (0, [.ref qBT, .ref qBC, .ref qBN, .ref qBW, .ref qBL, .int bn, .int bk, .int bs])), (qBT, .inl (G.2.1, 16, .inl bT)), (qBC, .inl (G.2.1, 16, .inl bC)), (qBN, .inl (G.2.1, 64, .inl bN)), (qBW, .inl (G.2.1, 64, .inl bW)), (qBL, .inl (G.2.1, 16, .inl bL)), (qH, .inr (2, [.ref qHM, .int hd, .int hk])), (qHM, .inl (G.2.1, 512, .inl hM)), (qK, .inr (3, [.ref qB, .ref qKC, .ref qKS, .int kp, .int ku])), (qKC, .inl (G.2.1, 32, .inl kC)), (qKS, .inl (G.2.1, 32, .inl kS)), (qV, .inr (5, [.ref qB, .ref qVL, .ref qVS, .ref qVA, .ref qVT])), (qVL, .inl (G.2.1, 16, .inl vL)), (qVS, .inl (G.2.1, 16, .inl vS)), (qVA, .inl (G.2.1, 16, .inl vA)), (qVT, .inl (G.2.1, 16, .inl vT)), (qS, .inr (4, [.ref qB, .ref qV, .ref qSR, .ref qSI, .ref qSP, .ref qSF, .int so, .int sw])), (qSR, .inl (G.2.1, 16, .inl sR)), (qSI, .inl (G.2.1, 16, .inl sI)), (qSP, .inl (G.2.2.2.2, 17, .inr (.inr (.inr (.inr (outR qR)))))), (qSF, .inl (G.2.1, 16, .inl sF)), (qTT, .inl (G.2.1, 64, .inl (upd y5 (62 : Int32).toNatClampNeg 0))), (qTW, .inl (G.2.1, 16, .inl tW))] ++ rws G qR sP) := hD
      replace hq := ob hq
      obtain ⟨y6, ey6, hq⟩ := hq
      have ey6 := Option.some.inj ey6
      have hP : va_P G.1 vwCl ([(qX, .inr (7, [.ref qB, .ref qH, .ref qK, .ref qV, .ref qS, .ref qW])), (qB, .inr (0, [.ref qBT, .ref qBC, .ref qBN, .ref qBW, .ref qBL, .int bn, .int bk, .int bs])), (qBT, .inl (G.2.1, 16, .inl bT)), (qBC, .inl (G.2.1, 16, .inl bC)), (qBN, .inl (G.2.1, 64, .inl bN)), (qBW, .inl (G.2.1, 64, .inl bW)), (qBL, .inl (G.2.1, 16, .inl bL)), (qH, .inr (2, [.ref qHM, .int hd, .int hk])), (qHM, .inl (G.2.1, 512, .inl hM)), (qK, .inr (3, [.ref qB, .ref qKC, .ref qKS, .int kp, .int ku])), (qKC, .inl (G.2.1, 32, .inl kC)), (qKS, .inl (G.2.1, 32, .inl kS)), (qV, .inr (5, [.ref qB, .ref qVL, .ref qVS, .ref qVA, .ref qVT])), (qVL, .inl (G.2.1, 16, .inl vL)), (qVS, .inl (G.2.1, 16, .inl vS)), (qVA, .inl (G.2.1, 16, .inl vA)), (qVT, .inl (G.2.1, 16, .inl vT)), (qS, .inr (4, [.ref qB, .ref qV, .ref qSR, .ref qSI, .ref qSP, .ref qSF, .int so, .int sw])), (qSR, .inl (G.2.1, 16, .inl sR)), (qSI, .inl (G.2.1, 16, .inl sI)), (qSP, .inl (G.2.2.2.2, 17, .inr (.inr (.inr (.inr (outR qR)))))), (qSF, .inl (G.2.1, 16, .inl sF)), (qTT, .inl (G.2.1, 64, .inl y6)), (qTW, .inl (G.2.1, 16, .inl tW))] ++ rws G qR sP) H := ey6 ▸ hP
      have hD : va_D A ([(qX, .inr (7, [.ref qB, .ref qH, .ref qK, .ref qV, .ref qS, .ref qW])), (qB, .inr (0, [.ref qBT, .ref qBC, .ref qBN, .ref qBW, .ref qBL, .int bn, .int bk, .int bs])), (qBT, .inl (G.2.1, 16, .inl bT)), (qBC, .inl (G.2.1, 16, .inl bC)), (qBN, .inl (G.2.1, 64, .inl bN)), (qBW, .inl (G.2.1, 64, .inl bW)), (qBL, .inl (G.2.1, 16, .inl bL)), (qH, .inr (2, [.ref qHM, .int hd, .int hk])), (qHM, .inl (G.2.1, 512, .inl hM)), (qK, .inr (3, [.ref qB, .ref qKC, .ref qKS, .int kp, .int ku])), (qKC, .inl (G.2.1, 32, .inl kC)), (qKS, .inl (G.2.1, 32, .inl kS)), (qV, .inr (5, [.ref qB, .ref qVL, .ref qVS, .ref qVA, .ref qVT])), (qVL, .inl (G.2.1, 16, .inl vL)), (qVS, .inl (G.2.1, 16, .inl vS)), (qVA, .inl (G.2.1, 16, .inl vA)), (qVT, .inl (G.2.1, 16, .inl vT)), (qS, .inr (4, [.ref qB, .ref qV, .ref qSR, .ref qSI, .ref qSP, .ref qSF, .int so, .int sw])), (qSR, .inl (G.2.1, 16, .inl sR)), (qSI, .inl (G.2.1, 16, .inl sI)), (qSP, .inl (G.2.2.2.2, 17, .inr (.inr (.inr (.inr (outR qR)))))), (qSF, .inl (G.2.1, 16, .inl sF)), (qTT, .inl (G.2.1, 64, .inl y6)), (qTW, .inl (G.2.1, 16, .inl tW))] ++ rws G qR sP) := ey6 ▸ hD
      refine lv_aload_n hx hb dL_step_83 rfl (lv_at hl 3 rfl) ?_
      refine lv_bipush (v := 63) hx hb dL_step_84 (by decide) ?_
      refine lv_iconst (v := 0) hx hb dL_step_86 (by decide) ?_
      replace hq := k_g hq
      obtain ⟨hg, hq⟩ := hq
      refine va_iast hx hb hK hP hD hS 22 0 rfl rfl (ix_in hg) dL_step_87 (fun H locs hP hD hS => ?_)
      have hP : va_P G.1 vwCl ([(qX, .inr (7, [.ref qB, .ref qH, .ref qK, .ref qV, .ref qS, .ref qW])), (qB, .inr (0, [.ref qBT, .ref qBC, .ref qBN, .ref qBW, .ref qBL, .int bn, .int bk, .int bs])), (qBT, .inl (G.2.1, 16, .inl bT)), (qBC, .inl (G.2.1, 16, .inl bC)), (qBN, .inl (G.2.1, 64, .inl bN)), (qBW, .inl (G.2.1, 64, .inl bW)), (qBL, .inl (G.2.1, 16, .inl bL)), (qH, .inr (2, [.ref qHM, .int hd, .int hk])), (qHM, .inl (G.2.1, 512, .inl hM)), (qK, .inr (3, [.ref qB, .ref qKC, .ref qKS, .int kp, .int ku])), (qKC, .inl (G.2.1, 32, .inl kC)), (qKS, .inl (G.2.1, 32, .inl kS)), (qV, .inr (5, [.ref qB, .ref qVL, .ref qVS, .ref qVA, .ref qVT])), (qVL, .inl (G.2.1, 16, .inl vL)), (qVS, .inl (G.2.1, 16, .inl vS)), (qVA, .inl (G.2.1, 16, .inl vA)), (qVT, .inl (G.2.1, 16, .inl vT)), (qS, .inr (4, [.ref qB, .ref qV, .ref qSR, .ref qSI, .ref qSP, .ref qSF, .int so, .int sw])), (qSR, .inl (G.2.1, 16, .inl sR)), (qSI, .inl (G.2.1, 16, .inl sI)), (qSP, .inl (G.2.2.2.2, 17, .inr (.inr (.inr (.inr (outR qR)))))), (qSF, .inl (G.2.1, 16, .inl sF)), (qTT, .inl (G.2.1, 64, .inl (upd y6 (63 : Int32).toNatClampNeg 0))), (qTW, .inl (G.2.1, 16, .inl tW))] ++ rws G qR sP) H := hP
      have hD : va_D A ([(qX, .inr (7, [.ref qB, .ref qH, .ref qK, .ref qV, .ref qS, .ref qW])), (qB, .inr (0, [.ref qBT, .ref qBC, .ref qBN, .ref qBW, .ref qBL, .int bn, .int bk, .int bs])), (qBT, .inl (G.2.1, 16, .inl bT)), (qBC, .inl (G.2.1, 16, .inl bC)), (qBN, .inl (G.2.1, 64, .inl bN)), (qBW, .inl (G.2.1, 64, .inl bW)), (qBL, .inl (G.2.1, 16, .inl bL)), (qH, .inr (2, [.ref qHM, .int hd, .int hk])), (qHM, .inl (G.2.1, 512, .inl hM)), (qK, .inr (3, [.ref qB, .ref qKC, .ref qKS, .int kp, .int ku])), (qKC, .inl (G.2.1, 32, .inl kC)), (qKS, .inl (G.2.1, 32, .inl kS)), (qV, .inr (5, [.ref qB, .ref qVL, .ref qVS, .ref qVA, .ref qVT])), (qVL, .inl (G.2.1, 16, .inl vL)), (qVS, .inl (G.2.1, 16, .inl vS)), (qVA, .inl (G.2.1, 16, .inl vA)), (qVT, .inl (G.2.1, 16, .inl vT)), (qS, .inr (4, [.ref qB, .ref qV, .ref qSR, .ref qSI, .ref qSP, .ref qSF, .int so, .int sw])), (qSR, .inl (G.2.1, 16, .inl sR)), (qSI, .inl (G.2.1, 16, .inl sI)), (qSP, .inl (G.2.2.2.2, 17, .inr (.inr (.inr (.inr (outR qR)))))), (qSF, .inl (G.2.1, 16, .inl sF)), (qTT, .inl (G.2.1, 64, .inl (upd y6 (63 : Int32).toNatClampNeg 0))), (qTW, .inl (G.2.1, 16, .inl tW))] ++ rws G qR sP) := hD
      replace hq := ob hq
      obtain ⟨y7, ey7, hq⟩ := hq
      have ey7 := Option.some.inj ey7
      have hP : va_P G.1 vwCl ([(qX, .inr (7, [.ref qB, .ref qH, .ref qK, .ref qV, .ref qS, .ref qW])), (qB, .inr (0, [.ref qBT, .ref qBC, .ref qBN, .ref qBW, .ref qBL, .int bn, .int bk, .int bs])), (qBT, .inl (G.2.1, 16, .inl bT)), (qBC, .inl (G.2.1, 16, .inl bC)), (qBN, .inl (G.2.1, 64, .inl bN)), (qBW, .inl (G.2.1, 64, .inl bW)), (qBL, .inl (G.2.1, 16, .inl bL)), (qH, .inr (2, [.ref qHM, .int hd, .int hk])), (qHM, .inl (G.2.1, 512, .inl hM)), (qK, .inr (3, [.ref qB, .ref qKC, .ref qKS, .int kp, .int ku])), (qKC, .inl (G.2.1, 32, .inl kC)), (qKS, .inl (G.2.1, 32, .inl kS)), (qV, .inr (5, [.ref qB, .ref qVL, .ref qVS, .ref qVA, .ref qVT])), (qVL, .inl (G.2.1, 16, .inl vL)), (qVS, .inl (G.2.1, 16, .inl vS)), (qVA, .inl (G.2.1, 16, .inl vA)), (qVT, .inl (G.2.1, 16, .inl vT)), (qS, .inr (4, [.ref qB, .ref qV, .ref qSR, .ref qSI, .ref qSP, .ref qSF, .int so, .int sw])), (qSR, .inl (G.2.1, 16, .inl sR)), (qSI, .inl (G.2.1, 16, .inl sI)), (qSP, .inl (G.2.2.2.2, 17, .inr (.inr (.inr (.inr (outR qR)))))), (qSF, .inl (G.2.1, 16, .inl sF)), (qTT, .inl (G.2.1, 64, .inl y7)), (qTW, .inl (G.2.1, 16, .inl tW))] ++ rws G qR sP) H := ey7 ▸ hP
      have hD : va_D A ([(qX, .inr (7, [.ref qB, .ref qH, .ref qK, .ref qV, .ref qS, .ref qW])), (qB, .inr (0, [.ref qBT, .ref qBC, .ref qBN, .ref qBW, .ref qBL, .int bn, .int bk, .int bs])), (qBT, .inl (G.2.1, 16, .inl bT)), (qBC, .inl (G.2.1, 16, .inl bC)), (qBN, .inl (G.2.1, 64, .inl bN)), (qBW, .inl (G.2.1, 64, .inl bW)), (qBL, .inl (G.2.1, 16, .inl bL)), (qH, .inr (2, [.ref qHM, .int hd, .int hk])), (qHM, .inl (G.2.1, 512, .inl hM)), (qK, .inr (3, [.ref qB, .ref qKC, .ref qKS, .int kp, .int ku])), (qKC, .inl (G.2.1, 32, .inl kC)), (qKS, .inl (G.2.1, 32, .inl kS)), (qV, .inr (5, [.ref qB, .ref qVL, .ref qVS, .ref qVA, .ref qVT])), (qVL, .inl (G.2.1, 16, .inl vL)), (qVS, .inl (G.2.1, 16, .inl vS)), (qVA, .inl (G.2.1, 16, .inl vA)), (qVT, .inl (G.2.1, 16, .inl vT)), (qS, .inr (4, [.ref qB, .ref qV, .ref qSR, .ref qSI, .ref qSP, .ref qSF, .int so, .int sw])), (qSR, .inl (G.2.1, 16, .inl sR)), (qSI, .inl (G.2.1, 16, .inl sI)), (qSP, .inl (G.2.2.2.2, 17, .inr (.inr (.inr (.inr (outR qR)))))), (qSF, .inl (G.2.1, 16, .inl sF)), (qTT, .inl (G.2.1, 64, .inl y7)), (qTW, .inl (G.2.1, 16, .inl tW))] ++ rws G qR sP) := ey7 ▸ hD
      refine lv_aload_n hx hb dL_step_88 rfl (lv_at hl 2 rfl) ?_
      refine lv_iload hx hb dL_step_89 (lv_at hl 1 rfl) ?_
      refine lv_iload hx hb dL_step_91 (lv_at hl 7 rfl) ?_
      refine lv_bipush (v := 16) hx hb dL_step_93 (by decide) ?_
      refine lv_irem hx hb dL_step_95 (by decide) ?_
      replace hq := ob hq
      obtain ⟨q8, eq8, hq⟩ := hq
      have hPc := hP.sub (ws' := [(qX, .inr (7, [.ref qB, .ref qH, .ref qK, .ref qV, .ref qS, .ref qW])), (qB, .inr (0, [.ref qBT, .ref qBC, .ref qBN, .ref qBW, .ref qBL, .int bn, .int bk, .int bs])), (qBT, .inl (G.2.1, 16, .inl bT)), (qH, .inr (2, [.ref qHM, .int hd, .int hk]))]) [0, 1, 2, 7] rfl
      have hKc := hK
      have hDc := hD.sub (ws' := [(qX, .inr (7, [.ref qB, .ref qH, .ref qK, .ref qV, .ref qS, .ref qW])), (qB, .inr (0, [.ref qBT, .ref qBC, .ref qBN, .ref qBW, .ref qBL, .int bn, .int bk, .int bs])), (qBT, .inl (G.2.1, 16, .inl bT)), (qH, .inr (2, [.ref qHM, .int hd, .int hk]))]) [0, 1, 2, 7] (by decide) rfl
      have hFc := va_free (wc := [(qX, .inr (7, [.ref qB, .ref qH, .ref qK, .ref qV, .ref qS, .ref qW])), (qB, .inr (0, [.ref qBT, .ref qBC, .ref qBN, .ref qBW, .ref qBL, .int bn, .int bk, .int bs])), (qBT, .inl (G.2.1, 16, .inl bT)), (qH, .inr (2, [.ref qHM, .int hd, .int hk]))]) hD hS hA [0, 1, 2, 7] rfl
      refine va_calli (va_runV (As := [.int y2, .int (x5 - x5 / 16 * 16)]) (rest := []) ⟨hx, hb, hml, hown, hts⟩ (tX7_setTile G l eq8) (cwV 2 hts gL_step_X7_setTile rfl rfl rfl (by decide +kernel) ⟨Nat.le_of_ble_eq_true rfl, Nat.le_of_ble_eq_true rfl⟩) ⟨pcW_blind, va_recv hKc hPc (ci := 7) (q0 := 0) rfl rfl, pcW_pre hPc hKK hDc⟩ rfl rfl hl.1 rfl (lv_room (Nat.le_of_ble_eq_true rfl)) dL_step_96 ⟨Nat.zero_le _, Nat.zero_le _⟩) hS (fun q _ h => hFc q h) hFc (fun r0 u t H1 locs ht hvm hw hB hz1 hk1 hS => ?_)
      obtain rfl := hw
      have hB := va_Pto ht hB
      obtain ⟨hP, hD⟩ := jnL (X' := [(qX, .inr (7, [.ref qB, .ref qH, .ref qK, .ref qV, .ref qS, .ref qW])), (qB, .inr (0, [.ref qBT, .ref qBC, .ref qBN, .ref qBW, .ref qBL, .int bn, .int bk, .int bs])), (qBT, .inl (G.2.1, 16, .inl q8.2.1)), (qBC, .inl (G.2.1, 16, .inl bC)), (qBN, .inl (G.2.1, 64, .inl bN)), (qBW, .inl (G.2.1, 64, .inl bW)), (qBL, .inl (G.2.1, 16, .inl bL)), (qH, .inr (2, [.ref qHM, .int q8.2.2.1, .int q8.2.2.2])), (qHM, .inl (G.2.1, 512, .inl hM)), (qK, .inr (3, [.ref qB, .ref qKC, .ref qKS, .int kp, .int ku])), (qKC, .inl (G.2.1, 32, .inl kC)), (qKS, .inl (G.2.1, 32, .inl kS)), (qV, .inr (5, [.ref qB, .ref qVL, .ref qVS, .ref qVA, .ref qVT])), (qVL, .inl (G.2.1, 16, .inl vL)), (qVS, .inl (G.2.1, 16, .inl vS)), (qVA, .inl (G.2.1, 16, .inl vA)), (qVT, .inl (G.2.1, 16, .inl vT)), (qS, .inr (4, [.ref qB, .ref qV, .ref qSR, .ref qSI, .ref qSP, .ref qSF, .int so, .int sw])), (qSR, .inl (G.2.1, 16, .inl sR)), (qSI, .inl (G.2.1, 16, .inl sI)), (qSP, .inl (G.2.2.2.2, 17, .inr (.inr (.inr (.inr (outR qR)))))), (qSF, .inl (G.2.1, 16, .inl sF)), (qTT, .inl (G.2.1, 64, .inl y7)), (qTW, .inl (G.2.1, 16, .inl tW))]) hP hD hk1 hB [0, 1, 2, 7] rfl rfl rfl rfl
      generalize H1 = H at hP hS ⊢
      refine lv_iload hx hb dL_step_99 (lv_at hl 0 rfl) ?_
      refine lv_icmp_ne (tgt := 115) hx hb dL_step_101 (by decide) (fun c_101 => ?_) (fun c_101 => ?_)
      · replace hq := k_f c_101 hq
        refine lv_iconst (v := 0) hx hb dL_step_115 (by decide) ?_
        obtain rfl := Option.some.inj hq
        rw [hQ]
        exact W.zret hx hb hr rfl (fun t ht hW => ⟨⟨_, (), rfl, rfl, va_Pat ht hP⟩, hS.F ht⟩) hS.2.2 dL_step_116
      · replace hq := k_t c_101 hq
        refine lv_aload_n hx hb dL_step_104 rfl (lv_at hl 2 rfl) ?_
        replace hq := ob hq
        obtain ⟨q11, eq11, hq⟩ := hq
        have hPc := hP.sub (ws' := [(qX, .inr (7, [.ref qB, .ref qH, .ref qK, .ref qV, .ref qS, .ref qW])), (qH, .inr (2, [.ref qHM, .int q8.2.2.1, .int q8.2.2.2]))]) [0, 7] rfl
        have hKc := hK
        refine vp_callSi (va_Run.run (va_runV (As := []) (rest := []) ⟨hx, hb, hml, hown, hts⟩ (tX7_moves G l eq11) (cwV 0 hts gL_step_X7_moves rfl rfl rfl (by decide +kernel) ⟨Nat.le_of_ble_eq_true rfl, Nat.le_of_ble_eq_true rfl⟩) ⟨pcP_blind, va_recv hKc hPc (ci := 7) (q0 := 0) rfl rfl, pcP_pre hPc hKK⟩ rfl rfl hl.1 rfl (lv_room (Nat.le_of_ble_eq_true rfl)) dL_step_105 ⟨Nat.zero_le _, Nat.zero_le _⟩)) (fun r0 hr0 => ?_)
        obtain rfl := hr0
        refine lv_if_ne (tgt := 115) hx hb dL_step_108 (by decide) (fun c_108 => ?_) (fun c_108 => ?_)
        · replace hq := k_f c_108 hq
          refine lv_iconst (v := 0) hx hb dL_step_115 (by decide) ?_
          obtain rfl := Option.some.inj hq
          rw [hQ]
          exact W.zret hx hb hr rfl (fun t ht hW => ⟨⟨_, (), rfl, rfl, va_Pat ht hP⟩, hS.F ht⟩) hS.2.2 dL_step_116
        · replace hq := k_t c_108 hq
          refine lv_iconst (v := 1) hx hb dL_step_111 (by decide) ?_
          refine lv_goto (tgt := 116) hx hb dL_step_112 (by decide) ?_
          obtain rfl := Option.some.inj hq
          rw [hQ]
          exact W.zret hx hb hr rfl (fun t ht hW => ⟨⟨_, (), rfl, rfl, va_Pat ht hP⟩, hS.F ht⟩) hS.2.2 dL_step_116
    · replace hq := k_f c_13_1 hq
      by_cases c_13_2 : x3 - x3 / 12 * 12 = 2
      · replace hq := k_t c_13_2 hq
        rw [c_13_2]
        refine lv_tableIn (tgt := 117) (off := 104) hx hb dL_step_13 (by decide +kernel) (by decide +kernel) (by decide +kernel) (by decide) ?_
        refine lv_iload hx hb dL_step_117 (lv_at hl 6 rfl) ?_
        refine lv_iconst (v := 4) hx hb dL_step_119 (by decide) ?_
        refine lv_irem hx hb dL_step_120 (by decide) ?_
        refine lv_istore (lv' := [(8, .int (x5 - x5 / 4 * 4)), (6, .int y2), (0, .ref qX), (1, .ref qTT), (2, .ref qTW), (3, .int x3), (4, .int x4), (5, .int x5)]) hx hb dL_step_121 hl (by decide) rfl (fun ls hl => ?_)
        replace hq := ob hq
        obtain ⟨y13, ey13, hq⟩ := hq
        have ey13 := Option.some.inj ey13
        have hl : lv_has ls 15 [(8, .int y13), (6, .int y2), (0, .ref qX), (1, .ref qTT), (2, .ref qTW), (3, .int x3), (4, .int x4), (5, .int x5)] := ey13 ▸ hl
        refine lv_iload hx hb dL_step_123 (lv_at hl 7 rfl) ?_
        refine lv_iconst (v := 4) hx hb dL_step_125 (by decide) ?_
        refine lv_idiv hx hb dL_step_126 (by decide) ?_
        refine lv_iconst (v := 3) hx hb dL_step_127 (by decide) ?_
        refine lv_irem hx hb dL_step_128 (by decide) ?_
        have J137 : ∀ (v14 : Int32) (ls : Array Slot) (H : Heap) (locs : List Loc), kL_step_j137 F bn bk bs bT bC bN bW bL hd hk hM kp ku kC kS vL vS vA vT so sw sR sI sP sF tT tW y2 y13 v14 = some r → lv_has ls 15 [(0, .ref qX), (2, .ref qTW), (6, .int y2), (8, .int y13)] → va_P G.1 vwCl ([(qX, .inr (7, [.ref qB, .ref qH, .ref qK, .ref qV, .ref qS, .ref qW])), (qB, .inr (0, [.ref qBT, .ref qBC, .ref qBN, .ref qBW, .ref qBL, .int bn, .int bk, .int bs])), (qBT, .inl (G.2.1, 16, .inl bT)), (qBC, .inl (G.2.1, 16, .inl bC)), (qBN, .inl (G.2.1, 64, .inl bN)), (qBW, .inl (G.2.1, 64, .inl bW)), (qBL, .inl (G.2.1, 16, .inl bL)), (qH, .inr (2, [.ref qHM, .int hd, .int hk])), (qHM, .inl (G.2.1, 512, .inl hM)), (qK, .inr (3, [.ref qB, .ref qKC, .ref qKS, .int kp, .int ku])), (qKC, .inl (G.2.1, 32, .inl kC)), (qKS, .inl (G.2.1, 32, .inl kS)), (qV, .inr (5, [.ref qB, .ref qVL, .ref qVS, .ref qVA, .ref qVT])), (qVL, .inl (G.2.1, 16, .inl vL)), (qVS, .inl (G.2.1, 16, .inl vS)), (qVA, .inl (G.2.1, 16, .inl vA)), (qVT, .inl (G.2.1, 16, .inl vT)), (qS, .inr (4, [.ref qB, .ref qV, .ref qSR, .ref qSI, .ref qSP, .ref qSF, .int so, .int sw])), (qSR, .inl (G.2.1, 16, .inl sR)), (qSI, .inl (G.2.1, 16, .inl sI)), (qSP, .inl (G.2.2.2.2, 17, .inr (.inr (.inr (.inr (outR qR)))))), (qSF, .inl (G.2.1, 16, .inl sF)), (qTT, .inl (G.2.1, 64, .inl tT)), (qTW, .inl (G.2.1, 16, .inl tW))] ++ rws G qR sP) H → va_D A ([(qX, .inr (7, [.ref qB, .ref qH, .ref qK, .ref qV, .ref qS, .ref qW])), (qB, .inr (0, [.ref qBT, .ref qBC, .ref qBN, .ref qBW, .ref qBL, .int bn, .int bk, .int bs])), (qBT, .inl (G.2.1, 16, .inl bT)), (qBC, .inl (G.2.1, 16, .inl bC)), (qBN, .inl (G.2.1, 64, .inl bN)), (qBW, .inl (G.2.1, 64, .inl bW)), (qBL, .inl (G.2.1, 16, .inl bL)), (qH, .inr (2, [.ref qHM, .int hd, .int hk])), (qHM, .inl (G.2.1, 512, .inl hM)), (qK, .inr (3, [.ref qB, .ref qKC, .ref qKS, .int kp, .int ku])), (qKC, .inl (G.2.1, 32, .inl kC)), (qKS, .inl (G.2.1, 32, .inl kS)), (qV, .inr (5, [.ref qB, .ref qVL, .ref qVS, .ref qVA, .ref qVT])), (qVL, .inl (G.2.1, 16, .inl vL)), (qVS, .inl (G.2.1, 16, .inl vS)), (qVA, .inl (G.2.1, 16, .inl vA)), (qVT, .inl (G.2.1, 16, .inl vT)), (qS, .inr (4, [.ref qB, .ref qV, .ref qSR, .ref qSI, .ref qSP, .ref qSF, .int so, .int sw])), (qSR, .inl (G.2.1, 16, .inl sR)), (qSI, .inl (G.2.1, 16, .inl sI)), (qSP, .inl (G.2.2.2.2, 17, .inr (.inr (.inr (.inr (outR qR)))))), (qSF, .inl (G.2.1, 16, .inl sF)), (qTT, .inl (G.2.1, 64, .inl tT)), (qTW, .inl (G.2.1, 16, .inl tW))] ++ rws G qR sP) → va_S A s.heap H locs → W p l e (headSpec wsL_step rmL_step).room s m ([.ref qX, .ref qTT, .ref qTW, .int x3, .int x4, .int x5] : List Value).toArray below meth c H locs 0 0 Q (F0 m 137 ls [.int v14]) := by
          intro v14 ls H locs hq hl hP hD hS
          unfold kL_step_j137 at hq
          refine lv_istore (lv' := [(9, .int v14), (0, .ref qX), (2, .ref qTW), (6, .int y2), (8, .int y13)]) hx hb dL_step_137 hl (by decide) rfl (fun ls hl => ?_)
          refine lv_aload_n hx hb dL_step_139 rfl (lv_at hl 1 rfl) ?_
          refine lv_iload hx hb dL_step_140 (lv_at hl 3 rfl) ?_
          refine lv_iload hx hb dL_step_142 (lv_at hl 4 rfl) ?_
          replace hq := ob hq
          obtain ⟨q15, eq15, hq⟩ := hq
          have hPc := hP.sub (ws' := [(qX, .inr (7, [.ref qB, .ref qH, .ref qK, .ref qV, .ref qS, .ref qW])), (qB, .inr (0, [.ref qBT, .ref qBC, .ref qBN, .ref qBW, .ref qBL, .int bn, .int bk, .int bs])), (qBN, .inl (G.2.1, 64, .inl bN))]) [0, 1, 4] rfl
          have hKc := hK
          have hDc := hD.sub (ws' := [(qX, .inr (7, [.ref qB, .ref qH, .ref qK, .ref qV, .ref qS, .ref qW])), (qB, .inr (0, [.ref qBT, .ref qBC, .ref qBN, .ref qBW, .ref qBL, .int bn, .int bk, .int bs])), (qBN, .inl (G.2.1, 64, .inl bN))]) [0, 1, 4] (by decide) rfl
          have hFc := va_free (wc := [(qX, .inr (7, [.ref qB, .ref qH, .ref qK, .ref qV, .ref qS, .ref qW])), (qB, .inr (0, [.ref qBT, .ref qBC, .ref qBN, .ref qBW, .ref qBL, .int bn, .int bk, .int bs])), (qBN, .inl (G.2.1, 64, .inl bN))]) hD hS hA [0, 1, 4] rfl
          refine va_calli (va_runV (As := [.int y2, .int y13]) (rest := []) ⟨hx, hb, hml, hown, hts⟩ (tX7_neighbour G l eq15) (cwV 2 hts gL_step_X7_neighbour rfl rfl rfl (by decide +kernel) ⟨Nat.le_of_ble_eq_true rfl, Nat.le_of_ble_eq_true rfl⟩) ⟨pcW_blind, va_recv hKc hPc (ci := 7) (q0 := 0) rfl rfl, pcW_pre hPc hKK hDc⟩ rfl rfl hl.1 rfl (lv_room (Nat.le_of_ble_eq_true rfl)) dL_step_144 ⟨Nat.zero_le _, Nat.zero_le _⟩) hS (fun q _ h => hFc q h) hFc (fun r0 u t H1 locs ht hvm hw hB hz1 hk1 hS => ?_)
          obtain rfl := hw
          have hB := va_Pto ht hB
          obtain ⟨hP, hD⟩ := jnL (X' := [(qX, .inr (7, [.ref qB, .ref qH, .ref qK, .ref qV, .ref qS, .ref qW])), (qB, .inr (0, [.ref qBT, .ref qBC, .ref qBN, .ref qBW, .ref qBL, .int bn, .int bk, .int bs])), (qBT, .inl (G.2.1, 16, .inl bT)), (qBC, .inl (G.2.1, 16, .inl bC)), (qBN, .inl (G.2.1, 64, .inl bN)), (qBW, .inl (G.2.1, 64, .inl bW)), (qBL, .inl (G.2.1, 16, .inl bL)), (qH, .inr (2, [.ref qHM, .int hd, .int hk])), (qHM, .inl (G.2.1, 512, .inl hM)), (qK, .inr (3, [.ref qB, .ref qKC, .ref qKS, .int kp, .int ku])), (qKC, .inl (G.2.1, 32, .inl kC)), (qKS, .inl (G.2.1, 32, .inl kS)), (qV, .inr (5, [.ref qB, .ref qVL, .ref qVS, .ref qVA, .ref qVT])), (qVL, .inl (G.2.1, 16, .inl vL)), (qVS, .inl (G.2.1, 16, .inl vS)), (qVA, .inl (G.2.1, 16, .inl vA)), (qVT, .inl (G.2.1, 16, .inl vT)), (qS, .inr (4, [.ref qB, .ref qV, .ref qSR, .ref qSI, .ref qSP, .ref qSF, .int so, .int sw])), (qSR, .inl (G.2.1, 16, .inl sR)), (qSI, .inl (G.2.1, 16, .inl sI)), (qSP, .inl (G.2.2.2.2, 17, .inr (.inr (.inr (.inr (outR qR)))))), (qSF, .inl (G.2.1, 16, .inl sF)), (qTT, .inl (G.2.1, 64, .inl tT)), (qTW, .inl (G.2.1, 16, .inl tW))]) hP hD hk1 hB [0, 1, 4] rfl rfl rfl rfl
          generalize H1 = H at hP hS ⊢
          refine lv_istore (lv' := [(10, .int q15), (9, .int v14), (0, .ref qX), (2, .ref qTW), (6, .int y2), (8, .int y13)]) hx hb dL_step_147 hl (by decide) rfl (fun ls hl => ?_)
          refine lv_iload hx hb dL_step_149 (lv_at hl 0 rfl) ?_
          refine lv_iconst (v := (-1)) hx hb dL_step_151 (by decide) ?_
          refine lv_icmp_ne (tgt := 172) hx hb dL_step_152 (by decide) (fun c_152 => ?_) (fun c_152 => ?_)
          · replace hq := k_f c_152 hq
            refine lv_aload_n hx hb dL_step_172 rfl (lv_at hl 3 rfl) ?_
            refine lv_iload hx hb dL_step_173 (lv_at hl 4 rfl) ?_
            replace hq := k_g hq
            obtain ⟨hg, hq⟩ := hq
            refine va_iald hx hb hK hP 23 0 rfl rfl (ix_in hg) dL_step_175 ?_
            refine lv_iload hx hb dL_step_176 (lv_at hl 5 rfl) ?_
            refine lv_ishr hx hb dL_step_178 ?_
            refine lv_iconst (v := 1) hx hb dL_step_179 (by decide) ?_
            refine lv_iand hx hb dL_step_180 ?_
            refine lv_iconst (v := 1) hx hb dL_step_181 (by decide) ?_
            have J190 : ∀ (v16 : Int32) (ls : Array Slot) (H : Heap) (locs : List Loc), kL_step_j190 F bn bk bs bT bC bN bW bL hd hk hM kp ku kC kS vL vS vA vT so sw sR sI sP sF tT tW y2 y13 v14 q15 v16 = some r → lv_has ls 15 [(0, .ref qX), (2, .ref qTW), (6, .int y2), (8, .int y13), (9, .int v14), (10, .int q15)] → va_P G.1 vwCl ([(qX, .inr (7, [.ref qB, .ref qH, .ref qK, .ref qV, .ref qS, .ref qW])), (qB, .inr (0, [.ref qBT, .ref qBC, .ref qBN, .ref qBW, .ref qBL, .int bn, .int bk, .int bs])), (qBT, .inl (G.2.1, 16, .inl bT)), (qBC, .inl (G.2.1, 16, .inl bC)), (qBN, .inl (G.2.1, 64, .inl bN)), (qBW, .inl (G.2.1, 64, .inl bW)), (qBL, .inl (G.2.1, 16, .inl bL)), (qH, .inr (2, [.ref qHM, .int hd, .int hk])), (qHM, .inl (G.2.1, 512, .inl hM)), (qK, .inr (3, [.ref qB, .ref qKC, .ref qKS, .int kp, .int ku])), (qKC, .inl (G.2.1, 32, .inl kC)), (qKS, .inl (G.2.1, 32, .inl kS)), (qV, .inr (5, [.ref qB, .ref qVL, .ref qVS, .ref qVA, .ref qVT])), (qVL, .inl (G.2.1, 16, .inl vL)), (qVS, .inl (G.2.1, 16, .inl vS)), (qVA, .inl (G.2.1, 16, .inl vA)), (qVT, .inl (G.2.1, 16, .inl vT)), (qS, .inr (4, [.ref qB, .ref qV, .ref qSR, .ref qSI, .ref qSP, .ref qSF, .int so, .int sw])), (qSR, .inl (G.2.1, 16, .inl sR)), (qSI, .inl (G.2.1, 16, .inl sI)), (qSP, .inl (G.2.2.2.2, 17, .inr (.inr (.inr (.inr (outR qR)))))), (qSF, .inl (G.2.1, 16, .inl sF)), (qTT, .inl (G.2.1, 64, .inl tT)), (qTW, .inl (G.2.1, 16, .inl tW))] ++ rws G qR sP) H → va_D A ([(qX, .inr (7, [.ref qB, .ref qH, .ref qK, .ref qV, .ref qS, .ref qW])), (qB, .inr (0, [.ref qBT, .ref qBC, .ref qBN, .ref qBW, .ref qBL, .int bn, .int bk, .int bs])), (qBT, .inl (G.2.1, 16, .inl bT)), (qBC, .inl (G.2.1, 16, .inl bC)), (qBN, .inl (G.2.1, 64, .inl bN)), (qBW, .inl (G.2.1, 64, .inl bW)), (qBL, .inl (G.2.1, 16, .inl bL)), (qH, .inr (2, [.ref qHM, .int hd, .int hk])), (qHM, .inl (G.2.1, 512, .inl hM)), (qK, .inr (3, [.ref qB, .ref qKC, .ref qKS, .int kp, .int ku])), (qKC, .inl (G.2.1, 32, .inl kC)), (qKS, .inl (G.2.1, 32, .inl kS)), (qV, .inr (5, [.ref qB, .ref qVL, .ref qVS, .ref qVA, .ref qVT])), (qVL, .inl (G.2.1, 16, .inl vL)), (qVS, .inl (G.2.1, 16, .inl vS)), (qVA, .inl (G.2.1, 16, .inl vA)), (qVT, .inl (G.2.1, 16, .inl vT)), (qS, .inr (4, [.ref qB, .ref qV, .ref qSR, .ref qSI, .ref qSP, .ref qSF, .int so, .int sw])), (qSR, .inl (G.2.1, 16, .inl sR)), (qSI, .inl (G.2.1, 16, .inl sI)), (qSP, .inl (G.2.2.2.2, 17, .inr (.inr (.inr (.inr (outR qR)))))), (qSF, .inl (G.2.1, 16, .inl sF)), (qTT, .inl (G.2.1, 64, .inl tT)), (qTW, .inl (G.2.1, 16, .inl tW))] ++ rws G qR sP) → va_S A s.heap H locs → W p l e (headSpec wsL_step rmL_step).room s m ([.ref qX, .ref qTT, .ref qTW, .int x3, .int x4, .int x5] : List Value).toArray below meth c H locs 0 0 Q (F0 m 190 ls [.int v16]) := by
              intro v16 ls H locs hq hl hP hD hS
              unfold kL_step_j190 at hq
              refine lv_istore (lv' := [(11, .int v16), (0, .ref qX), (2, .ref qTW), (6, .int y2), (8, .int y13), (9, .int v14), (10, .int q15)]) hx hb dL_step_190 hl (by decide) rfl (fun ls hl => ?_)
              refine lv_iload hx hb dL_step_192 (lv_at hl 4 rfl) ?_
              refine lv_iconst (v := 2) hx hb dL_step_194 (by decide) ?_
              refine lv_iadd hx hb dL_step_195 ?_
              refine lv_iconst (v := 4) hx hb dL_step_196 (by decide) ?_
              refine lv_irem hx hb dL_step_197 (by decide) ?_
              refine lv_istore (lv' := [(12, .int ((y13 + 2) - (y13 + 2) / 4 * 4)), (11, .int v16), (0, .ref qX), (2, .ref qTW), (6, .int y2), (8, .int y13), (9, .int v14), (10, .int q15)]) hx hb dL_step_198 hl (by decide) rfl (fun ls hl => ?_)
              replace hq := ob hq
              obtain ⟨y17, ey17, hq⟩ := hq
              have ey17 := Option.some.inj ey17
              have hl : lv_has ls 15 [(12, .int y17), (11, .int v16), (0, .ref qX), (2, .ref qTW), (6, .int y2), (8, .int y13), (9, .int v14), (10, .int q15)] := ey17 ▸ hl
              refine lv_aload_n hx hb dL_step_200 rfl (lv_at hl 3 rfl) ?_
              refine lv_iload hx hb dL_step_201 (lv_at hl 4 rfl) ?_
              refine lv_aload_n hx hb dL_step_203 rfl (lv_at hl 3 rfl) ?_
              refine lv_iload hx hb dL_step_204 (lv_at hl 4 rfl) ?_
              replace hq := k_g hq
              obtain ⟨hg, hq⟩ := hq
              refine va_iald hx hb hK hP 23 0 rfl rfl (ix_in hg) dL_step_206 ?_
              refine lv_iconst (v := 1) hx hb dL_step_207 (by decide) ?_
              refine lv_iload hx hb dL_step_208 (lv_at hl 5 rfl) ?_
              refine lv_ishl hx hb dL_step_210 ?_
              refine lv_iconst (v := (-1)) hx hb dL_step_211 (by decide) ?_
              refine lv_ixor hx hb dL_step_212 ?_
              refine lv_iand hx hb dL_step_213 ?_
              refine lv_iload hx hb dL_step_214 (lv_at hl 6 rfl) ?_
              have J227 : ∀ (v18 : Int32) (ls : Array Slot) (H : Heap) (locs : List Loc), kL_step_j227 F bn bk bs bT bC bN bW bL hd hk hM kp ku kC kS vL vS vA vT so sw sR sI sP sF tT tW y2 y13 v14 q15 v16 y17 v18 = some r → lv_has ls 15 [(0, .ref qX), (2, .ref qTW), (6, .int y2), (8, .int y13), (9, .int v14), (10, .int q15), (11, .int v16), (12, .int y17)] → va_P G.1 vwCl ([(qX, .inr (7, [.ref qB, .ref qH, .ref qK, .ref qV, .ref qS, .ref qW])), (qB, .inr (0, [.ref qBT, .ref qBC, .ref qBN, .ref qBW, .ref qBL, .int bn, .int bk, .int bs])), (qBT, .inl (G.2.1, 16, .inl bT)), (qBC, .inl (G.2.1, 16, .inl bC)), (qBN, .inl (G.2.1, 64, .inl bN)), (qBW, .inl (G.2.1, 64, .inl bW)), (qBL, .inl (G.2.1, 16, .inl bL)), (qH, .inr (2, [.ref qHM, .int hd, .int hk])), (qHM, .inl (G.2.1, 512, .inl hM)), (qK, .inr (3, [.ref qB, .ref qKC, .ref qKS, .int kp, .int ku])), (qKC, .inl (G.2.1, 32, .inl kC)), (qKS, .inl (G.2.1, 32, .inl kS)), (qV, .inr (5, [.ref qB, .ref qVL, .ref qVS, .ref qVA, .ref qVT])), (qVL, .inl (G.2.1, 16, .inl vL)), (qVS, .inl (G.2.1, 16, .inl vS)), (qVA, .inl (G.2.1, 16, .inl vA)), (qVT, .inl (G.2.1, 16, .inl vT)), (qS, .inr (4, [.ref qB, .ref qV, .ref qSR, .ref qSI, .ref qSP, .ref qSF, .int so, .int sw])), (qSR, .inl (G.2.1, 16, .inl sR)), (qSI, .inl (G.2.1, 16, .inl sI)), (qSP, .inl (G.2.2.2.2, 17, .inr (.inr (.inr (.inr (outR qR)))))), (qSF, .inl (G.2.1, 16, .inl sF)), (qTT, .inl (G.2.1, 64, .inl tT)), (qTW, .inl (G.2.1, 16, .inl tW))] ++ rws G qR sP) H → va_D A ([(qX, .inr (7, [.ref qB, .ref qH, .ref qK, .ref qV, .ref qS, .ref qW])), (qB, .inr (0, [.ref qBT, .ref qBC, .ref qBN, .ref qBW, .ref qBL, .int bn, .int bk, .int bs])), (qBT, .inl (G.2.1, 16, .inl bT)), (qBC, .inl (G.2.1, 16, .inl bC)), (qBN, .inl (G.2.1, 64, .inl bN)), (qBW, .inl (G.2.1, 64, .inl bW)), (qBL, .inl (G.2.1, 16, .inl bL)), (qH, .inr (2, [.ref qHM, .int hd, .int hk])), (qHM, .inl (G.2.1, 512, .inl hM)), (qK, .inr (3, [.ref qB, .ref qKC, .ref qKS, .int kp, .int ku])), (qKC, .inl (G.2.1, 32, .inl kC)), (qKS, .inl (G.2.1, 32, .inl kS)), (qV, .inr (5, [.ref qB, .ref qVL, .ref qVS, .ref qVA, .ref qVT])), (qVL, .inl (G.2.1, 16, .inl vL)), (qVS, .inl (G.2.1, 16, .inl vS)), (qVA, .inl (G.2.1, 16, .inl vA)), (qVT, .inl (G.2.1, 16, .inl vT)), (qS, .inr (4, [.ref qB, .ref qV, .ref qSR, .ref qSI, .ref qSP, .ref qSF, .int so, .int sw])), (qSR, .inl (G.2.1, 16, .inl sR)), (qSI, .inl (G.2.1, 16, .inl sI)), (qSP, .inl (G.2.2.2.2, 17, .inr (.inr (.inr (.inr (outR qR)))))), (qSF, .inl (G.2.1, 16, .inl sF)), (qTT, .inl (G.2.1, 64, .inl tT)), (qTW, .inl (G.2.1, 16, .inl tW))] ++ rws G qR sP) → va_S A s.heap H locs → W p l e (headSpec wsL_step rmL_step).room s m ([.ref qX, .ref qTT, .ref qTW, .int x3, .int x4, .int x5] : List Value).toArray below meth c H locs 0 0 Q (F0 m 227 ls [.int v18, .int ((tW y2.toNatClampNeg) &&& (((1 : Int32) <<< (y13 &&& 31)) ^^^ (-1))), .int y2, .ref qTW]) := by
                intro v18 ls H locs hq hl hP hD hS
                unfold kL_step_j227 at hq
                refine lv_ior hx hb dL_step_227 ?_
                replace hq := k_g hq
                obtain ⟨hg, hq⟩ := hq
                refine va_iast hx hb hK hP hD hS 23 0 rfl rfl (ix_in hg) dL_step_228 (fun H locs hP hD hS => ?_)
                have hP : va_P G.1 vwCl ([(qX, .inr (7, [.ref qB, .ref qH, .ref qK, .ref qV, .ref qS, .ref qW])), (qB, .inr (0, [.ref qBT, .ref qBC, .ref qBN, .ref qBW, .ref qBL, .int bn, .int bk, .int bs])), (qBT, .inl (G.2.1, 16, .inl bT)), (qBC, .inl (G.2.1, 16, .inl bC)), (qBN, .inl (G.2.1, 64, .inl bN)), (qBW, .inl (G.2.1, 64, .inl bW)), (qBL, .inl (G.2.1, 16, .inl bL)), (qH, .inr (2, [.ref qHM, .int hd, .int hk])), (qHM, .inl (G.2.1, 512, .inl hM)), (qK, .inr (3, [.ref qB, .ref qKC, .ref qKS, .int kp, .int ku])), (qKC, .inl (G.2.1, 32, .inl kC)), (qKS, .inl (G.2.1, 32, .inl kS)), (qV, .inr (5, [.ref qB, .ref qVL, .ref qVS, .ref qVA, .ref qVT])), (qVL, .inl (G.2.1, 16, .inl vL)), (qVS, .inl (G.2.1, 16, .inl vS)), (qVA, .inl (G.2.1, 16, .inl vA)), (qVT, .inl (G.2.1, 16, .inl vT)), (qS, .inr (4, [.ref qB, .ref qV, .ref qSR, .ref qSI, .ref qSP, .ref qSF, .int so, .int sw])), (qSR, .inl (G.2.1, 16, .inl sR)), (qSI, .inl (G.2.1, 16, .inl sI)), (qSP, .inl (G.2.2.2.2, 17, .inr (.inr (.inr (.inr (outR qR)))))), (qSF, .inl (G.2.1, 16, .inl sF)), (qTT, .inl (G.2.1, 64, .inl tT)), (qTW, .inl (G.2.1, 16, .inl (upd tW y2.toNatClampNeg (((tW y2.toNatClampNeg) &&& (((1 : Int32) <<< (y13 &&& 31)) ^^^ (-1))) ||| v18))))] ++ rws G qR sP) H := hP
                have hD : va_D A ([(qX, .inr (7, [.ref qB, .ref qH, .ref qK, .ref qV, .ref qS, .ref qW])), (qB, .inr (0, [.ref qBT, .ref qBC, .ref qBN, .ref qBW, .ref qBL, .int bn, .int bk, .int bs])), (qBT, .inl (G.2.1, 16, .inl bT)), (qBC, .inl (G.2.1, 16, .inl bC)), (qBN, .inl (G.2.1, 64, .inl bN)), (qBW, .inl (G.2.1, 64, .inl bW)), (qBL, .inl (G.2.1, 16, .inl bL)), (qH, .inr (2, [.ref qHM, .int hd, .int hk])), (qHM, .inl (G.2.1, 512, .inl hM)), (qK, .inr (3, [.ref qB, .ref qKC, .ref qKS, .int kp, .int ku])), (qKC, .inl (G.2.1, 32, .inl kC)), (qKS, .inl (G.2.1, 32, .inl kS)), (qV, .inr (5, [.ref qB, .ref qVL, .ref qVS, .ref qVA, .ref qVT])), (qVL, .inl (G.2.1, 16, .inl vL)), (qVS, .inl (G.2.1, 16, .inl vS)), (qVA, .inl (G.2.1, 16, .inl vA)), (qVT, .inl (G.2.1, 16, .inl vT)), (qS, .inr (4, [.ref qB, .ref qV, .ref qSR, .ref qSI, .ref qSP, .ref qSF, .int so, .int sw])), (qSR, .inl (G.2.1, 16, .inl sR)), (qSI, .inl (G.2.1, 16, .inl sI)), (qSP, .inl (G.2.2.2.2, 17, .inr (.inr (.inr (.inr (outR qR)))))), (qSF, .inl (G.2.1, 16, .inl sF)), (qTT, .inl (G.2.1, 64, .inl tT)), (qTW, .inl (G.2.1, 16, .inl (upd tW y2.toNatClampNeg (((tW y2.toNatClampNeg) &&& (((1 : Int32) <<< (y13 &&& 31)) ^^^ (-1))) ||| v18))))] ++ rws G qR sP) := hD
                replace hq := ob hq
                obtain ⟨y19, ey19, hq⟩ := hq
                have ey19 := Option.some.inj ey19
                have hP : va_P G.1 vwCl ([(qX, .inr (7, [.ref qB, .ref qH, .ref qK, .ref qV, .ref qS, .ref qW])), (qB, .inr (0, [.ref qBT, .ref qBC, .ref qBN, .ref qBW, .ref qBL, .int bn, .int bk, .int bs])), (qBT, .inl (G.2.1, 16, .inl bT)), (qBC, .inl (G.2.1, 16, .inl bC)), (qBN, .inl (G.2.1, 64, .inl bN)), (qBW, .inl (G.2.1, 64, .inl bW)), (qBL, .inl (G.2.1, 16, .inl bL)), (qH, .inr (2, [.ref qHM, .int hd, .int hk])), (qHM, .inl (G.2.1, 512, .inl hM)), (qK, .inr (3, [.ref qB, .ref qKC, .ref qKS, .int kp, .int ku])), (qKC, .inl (G.2.1, 32, .inl kC)), (qKS, .inl (G.2.1, 32, .inl kS)), (qV, .inr (5, [.ref qB, .ref qVL, .ref qVS, .ref qVA, .ref qVT])), (qVL, .inl (G.2.1, 16, .inl vL)), (qVS, .inl (G.2.1, 16, .inl vS)), (qVA, .inl (G.2.1, 16, .inl vA)), (qVT, .inl (G.2.1, 16, .inl vT)), (qS, .inr (4, [.ref qB, .ref qV, .ref qSR, .ref qSI, .ref qSP, .ref qSF, .int so, .int sw])), (qSR, .inl (G.2.1, 16, .inl sR)), (qSI, .inl (G.2.1, 16, .inl sI)), (qSP, .inl (G.2.2.2.2, 17, .inr (.inr (.inr (.inr (outR qR)))))), (qSF, .inl (G.2.1, 16, .inl sF)), (qTT, .inl (G.2.1, 64, .inl tT)), (qTW, .inl (G.2.1, 16, .inl y19))] ++ rws G qR sP) H := ey19 ▸ hP
                have hD : va_D A ([(qX, .inr (7, [.ref qB, .ref qH, .ref qK, .ref qV, .ref qS, .ref qW])), (qB, .inr (0, [.ref qBT, .ref qBC, .ref qBN, .ref qBW, .ref qBL, .int bn, .int bk, .int bs])), (qBT, .inl (G.2.1, 16, .inl bT)), (qBC, .inl (G.2.1, 16, .inl bC)), (qBN, .inl (G.2.1, 64, .inl bN)), (qBW, .inl (G.2.1, 64, .inl bW)), (qBL, .inl (G.2.1, 16, .inl bL)), (qH, .inr (2, [.ref qHM, .int hd, .int hk])), (qHM, .inl (G.2.1, 512, .inl hM)), (qK, .inr (3, [.ref qB, .ref qKC, .ref qKS, .int kp, .int ku])), (qKC, .inl (G.2.1, 32, .inl kC)), (qKS, .inl (G.2.1, 32, .inl kS)), (qV, .inr (5, [.ref qB, .ref qVL, .ref qVS, .ref qVA, .ref qVT])), (qVL, .inl (G.2.1, 16, .inl vL)), (qVS, .inl (G.2.1, 16, .inl vS)), (qVA, .inl (G.2.1, 16, .inl vA)), (qVT, .inl (G.2.1, 16, .inl vT)), (qS, .inr (4, [.ref qB, .ref qV, .ref qSR, .ref qSI, .ref qSP, .ref qSF, .int so, .int sw])), (qSR, .inl (G.2.1, 16, .inl sR)), (qSI, .inl (G.2.1, 16, .inl sI)), (qSP, .inl (G.2.2.2.2, 17, .inr (.inr (.inr (.inr (outR qR)))))), (qSF, .inl (G.2.1, 16, .inl sF)), (qTT, .inl (G.2.1, 64, .inl tT)), (qTW, .inl (G.2.1, 16, .inl y19))] ++ rws G qR sP) := ey19 ▸ hD
                refine lv_aload_n hx hb dL_step_229 rfl (lv_at hl 1 rfl) ?_
                refine lv_iload hx hb dL_step_230 (lv_at hl 5 rfl) ?_
                refine lv_aload_n hx hb dL_step_232 rfl (lv_at hl 1 rfl) ?_
                refine lv_iload hx hb dL_step_233 (lv_at hl 5 rfl) ?_
                replace hq := k_g hq
                obtain ⟨hg, hq⟩ := hq
                refine va_iald hx hb hK hP 23 0 rfl rfl (ix_in hg) dL_step_235 ?_
                refine lv_iconst (v := 1) hx hb dL_step_236 (by decide) ?_
                refine lv_iload hx hb dL_step_237 (lv_at hl 7 rfl) ?_
                refine lv_ishl hx hb dL_step_239 ?_
                refine lv_iconst (v := (-1)) hx hb dL_step_240 (by decide) ?_
                refine lv_ixor hx hb dL_step_241 ?_
                refine lv_iand hx hb dL_step_242 ?_
                refine lv_iload hx hb dL_step_243 (lv_at hl 4 rfl) ?_
                have J256 : ∀ (v20 : Int32) (ls : Array Slot) (H : Heap) (locs : List Loc), kL_step_j256 F bn bk bs bT bC bN bW bL hd hk hM kp ku kC kS vL vS vA vT so sw sR sI sP sF tT y2 y13 v14 q15 v16 y17 y19 v20 = some r → lv_has ls 15 [(0, .ref qX), (6, .int y2), (8, .int y13), (9, .int v14), (10, .int q15), (11, .int v16), (12, .int y17)] → va_P G.1 vwCl ([(qX, .inr (7, [.ref qB, .ref qH, .ref qK, .ref qV, .ref qS, .ref qW])), (qB, .inr (0, [.ref qBT, .ref qBC, .ref qBN, .ref qBW, .ref qBL, .int bn, .int bk, .int bs])), (qBT, .inl (G.2.1, 16, .inl bT)), (qBC, .inl (G.2.1, 16, .inl bC)), (qBN, .inl (G.2.1, 64, .inl bN)), (qBW, .inl (G.2.1, 64, .inl bW)), (qBL, .inl (G.2.1, 16, .inl bL)), (qH, .inr (2, [.ref qHM, .int hd, .int hk])), (qHM, .inl (G.2.1, 512, .inl hM)), (qK, .inr (3, [.ref qB, .ref qKC, .ref qKS, .int kp, .int ku])), (qKC, .inl (G.2.1, 32, .inl kC)), (qKS, .inl (G.2.1, 32, .inl kS)), (qV, .inr (5, [.ref qB, .ref qVL, .ref qVS, .ref qVA, .ref qVT])), (qVL, .inl (G.2.1, 16, .inl vL)), (qVS, .inl (G.2.1, 16, .inl vS)), (qVA, .inl (G.2.1, 16, .inl vA)), (qVT, .inl (G.2.1, 16, .inl vT)), (qS, .inr (4, [.ref qB, .ref qV, .ref qSR, .ref qSI, .ref qSP, .ref qSF, .int so, .int sw])), (qSR, .inl (G.2.1, 16, .inl sR)), (qSI, .inl (G.2.1, 16, .inl sI)), (qSP, .inl (G.2.2.2.2, 17, .inr (.inr (.inr (.inr (outR qR)))))), (qSF, .inl (G.2.1, 16, .inl sF)), (qTT, .inl (G.2.1, 64, .inl tT)), (qTW, .inl (G.2.1, 16, .inl y19))] ++ rws G qR sP) H → va_D A ([(qX, .inr (7, [.ref qB, .ref qH, .ref qK, .ref qV, .ref qS, .ref qW])), (qB, .inr (0, [.ref qBT, .ref qBC, .ref qBN, .ref qBW, .ref qBL, .int bn, .int bk, .int bs])), (qBT, .inl (G.2.1, 16, .inl bT)), (qBC, .inl (G.2.1, 16, .inl bC)), (qBN, .inl (G.2.1, 64, .inl bN)), (qBW, .inl (G.2.1, 64, .inl bW)), (qBL, .inl (G.2.1, 16, .inl bL)), (qH, .inr (2, [.ref qHM, .int hd, .int hk])), (qHM, .inl (G.2.1, 512, .inl hM)), (qK, .inr (3, [.ref qB, .ref qKC, .ref qKS, .int kp, .int ku])), (qKC, .inl (G.2.1, 32, .inl kC)), (qKS, .inl (G.2.1, 32, .inl kS)), (qV, .inr (5, [.ref qB, .ref qVL, .ref qVS, .ref qVA, .ref qVT])), (qVL, .inl (G.2.1, 16, .inl vL)), (qVS, .inl (G.2.1, 16, .inl vS)), (qVA, .inl (G.2.1, 16, .inl vA)), (qVT, .inl (G.2.1, 16, .inl vT)), (qS, .inr (4, [.ref qB, .ref qV, .ref qSR, .ref qSI, .ref qSP, .ref qSF, .int so, .int sw])), (qSR, .inl (G.2.1, 16, .inl sR)), (qSI, .inl (G.2.1, 16, .inl sI)), (qSP, .inl (G.2.2.2.2, 17, .inr (.inr (.inr (.inr (outR qR)))))), (qSF, .inl (G.2.1, 16, .inl sF)), (qTT, .inl (G.2.1, 64, .inl tT)), (qTW, .inl (G.2.1, 16, .inl y19))] ++ rws G qR sP) → va_S A s.heap H locs → W p l e (headSpec wsL_step rmL_step).room s m ([.ref qX, .ref qTT, .ref qTW, .int x3, .int x4, .int x5] : List Value).toArray below meth c H locs 0 0 Q (F0 m 256 ls [.int v20, .int ((y19 q15.toNatClampNeg) &&& (((1 : Int32) <<< (y17 &&& 31)) ^^^ (-1))), .int q15, .ref qTW]) := by
                  intro v20 ls H locs hq hl hP hD hS
                  unfold kL_step_j256 at hq
                  refine lv_ior hx hb dL_step_256 ?_
                  replace hq := k_g hq
                  obtain ⟨hg, hq⟩ := hq
                  refine va_iast hx hb hK hP hD hS 23 0 rfl rfl (ix_in hg) dL_step_257 (fun H locs hP hD hS => ?_)
                  have hP : va_P G.1 vwCl ([(qX, .inr (7, [.ref qB, .ref qH, .ref qK, .ref qV, .ref qS, .ref qW])), (qB, .inr (0, [.ref qBT, .ref qBC, .ref qBN, .ref qBW, .ref qBL, .int bn, .int bk, .int bs])), (qBT, .inl (G.2.1, 16, .inl bT)), (qBC, .inl (G.2.1, 16, .inl bC)), (qBN, .inl (G.2.1, 64, .inl bN)), (qBW, .inl (G.2.1, 64, .inl bW)), (qBL, .inl (G.2.1, 16, .inl bL)), (qH, .inr (2, [.ref qHM, .int hd, .int hk])), (qHM, .inl (G.2.1, 512, .inl hM)), (qK, .inr (3, [.ref qB, .ref qKC, .ref qKS, .int kp, .int ku])), (qKC, .inl (G.2.1, 32, .inl kC)), (qKS, .inl (G.2.1, 32, .inl kS)), (qV, .inr (5, [.ref qB, .ref qVL, .ref qVS, .ref qVA, .ref qVT])), (qVL, .inl (G.2.1, 16, .inl vL)), (qVS, .inl (G.2.1, 16, .inl vS)), (qVA, .inl (G.2.1, 16, .inl vA)), (qVT, .inl (G.2.1, 16, .inl vT)), (qS, .inr (4, [.ref qB, .ref qV, .ref qSR, .ref qSI, .ref qSP, .ref qSF, .int so, .int sw])), (qSR, .inl (G.2.1, 16, .inl sR)), (qSI, .inl (G.2.1, 16, .inl sI)), (qSP, .inl (G.2.2.2.2, 17, .inr (.inr (.inr (.inr (outR qR)))))), (qSF, .inl (G.2.1, 16, .inl sF)), (qTT, .inl (G.2.1, 64, .inl tT)), (qTW, .inl (G.2.1, 16, .inl (upd y19 q15.toNatClampNeg (((y19 q15.toNatClampNeg) &&& (((1 : Int32) <<< (y17 &&& 31)) ^^^ (-1))) ||| v20))))] ++ rws G qR sP) H := hP
                  have hD : va_D A ([(qX, .inr (7, [.ref qB, .ref qH, .ref qK, .ref qV, .ref qS, .ref qW])), (qB, .inr (0, [.ref qBT, .ref qBC, .ref qBN, .ref qBW, .ref qBL, .int bn, .int bk, .int bs])), (qBT, .inl (G.2.1, 16, .inl bT)), (qBC, .inl (G.2.1, 16, .inl bC)), (qBN, .inl (G.2.1, 64, .inl bN)), (qBW, .inl (G.2.1, 64, .inl bW)), (qBL, .inl (G.2.1, 16, .inl bL)), (qH, .inr (2, [.ref qHM, .int hd, .int hk])), (qHM, .inl (G.2.1, 512, .inl hM)), (qK, .inr (3, [.ref qB, .ref qKC, .ref qKS, .int kp, .int ku])), (qKC, .inl (G.2.1, 32, .inl kC)), (qKS, .inl (G.2.1, 32, .inl kS)), (qV, .inr (5, [.ref qB, .ref qVL, .ref qVS, .ref qVA, .ref qVT])), (qVL, .inl (G.2.1, 16, .inl vL)), (qVS, .inl (G.2.1, 16, .inl vS)), (qVA, .inl (G.2.1, 16, .inl vA)), (qVT, .inl (G.2.1, 16, .inl vT)), (qS, .inr (4, [.ref qB, .ref qV, .ref qSR, .ref qSI, .ref qSP, .ref qSF, .int so, .int sw])), (qSR, .inl (G.2.1, 16, .inl sR)), (qSI, .inl (G.2.1, 16, .inl sI)), (qSP, .inl (G.2.2.2.2, 17, .inr (.inr (.inr (.inr (outR qR)))))), (qSF, .inl (G.2.1, 16, .inl sF)), (qTT, .inl (G.2.1, 64, .inl tT)), (qTW, .inl (G.2.1, 16, .inl (upd y19 q15.toNatClampNeg (((y19 q15.toNatClampNeg) &&& (((1 : Int32) <<< (y17 &&& 31)) ^^^ (-1))) ||| v20))))] ++ rws G qR sP) := hD
                  replace hq := ob hq
                  obtain ⟨y21, ey21, hq⟩ := hq
                  have ey21 := Option.some.inj ey21
                  have hP : va_P G.1 vwCl ([(qX, .inr (7, [.ref qB, .ref qH, .ref qK, .ref qV, .ref qS, .ref qW])), (qB, .inr (0, [.ref qBT, .ref qBC, .ref qBN, .ref qBW, .ref qBL, .int bn, .int bk, .int bs])), (qBT, .inl (G.2.1, 16, .inl bT)), (qBC, .inl (G.2.1, 16, .inl bC)), (qBN, .inl (G.2.1, 64, .inl bN)), (qBW, .inl (G.2.1, 64, .inl bW)), (qBL, .inl (G.2.1, 16, .inl bL)), (qH, .inr (2, [.ref qHM, .int hd, .int hk])), (qHM, .inl (G.2.1, 512, .inl hM)), (qK, .inr (3, [.ref qB, .ref qKC, .ref qKS, .int kp, .int ku])), (qKC, .inl (G.2.1, 32, .inl kC)), (qKS, .inl (G.2.1, 32, .inl kS)), (qV, .inr (5, [.ref qB, .ref qVL, .ref qVS, .ref qVA, .ref qVT])), (qVL, .inl (G.2.1, 16, .inl vL)), (qVS, .inl (G.2.1, 16, .inl vS)), (qVA, .inl (G.2.1, 16, .inl vA)), (qVT, .inl (G.2.1, 16, .inl vT)), (qS, .inr (4, [.ref qB, .ref qV, .ref qSR, .ref qSI, .ref qSP, .ref qSF, .int so, .int sw])), (qSR, .inl (G.2.1, 16, .inl sR)), (qSI, .inl (G.2.1, 16, .inl sI)), (qSP, .inl (G.2.2.2.2, 17, .inr (.inr (.inr (.inr (outR qR)))))), (qSF, .inl (G.2.1, 16, .inl sF)), (qTT, .inl (G.2.1, 64, .inl tT)), (qTW, .inl (G.2.1, 16, .inl y21))] ++ rws G qR sP) H := ey21 ▸ hP
                  have hD : va_D A ([(qX, .inr (7, [.ref qB, .ref qH, .ref qK, .ref qV, .ref qS, .ref qW])), (qB, .inr (0, [.ref qBT, .ref qBC, .ref qBN, .ref qBW, .ref qBL, .int bn, .int bk, .int bs])), (qBT, .inl (G.2.1, 16, .inl bT)), (qBC, .inl (G.2.1, 16, .inl bC)), (qBN, .inl (G.2.1, 64, .inl bN)), (qBW, .inl (G.2.1, 64, .inl bW)), (qBL, .inl (G.2.1, 16, .inl bL)), (qH, .inr (2, [.ref qHM, .int hd, .int hk])), (qHM, .inl (G.2.1, 512, .inl hM)), (qK, .inr (3, [.ref qB, .ref qKC, .ref qKS, .int kp, .int ku])), (qKC, .inl (G.2.1, 32, .inl kC)), (qKS, .inl (G.2.1, 32, .inl kS)), (qV, .inr (5, [.ref qB, .ref qVL, .ref qVS, .ref qVA, .ref qVT])), (qVL, .inl (G.2.1, 16, .inl vL)), (qVS, .inl (G.2.1, 16, .inl vS)), (qVA, .inl (G.2.1, 16, .inl vA)), (qVT, .inl (G.2.1, 16, .inl vT)), (qS, .inr (4, [.ref qB, .ref qV, .ref qSR, .ref qSI, .ref qSP, .ref qSF, .int so, .int sw])), (qSR, .inl (G.2.1, 16, .inl sR)), (qSI, .inl (G.2.1, 16, .inl sI)), (qSP, .inl (G.2.2.2.2, 17, .inr (.inr (.inr (.inr (outR qR)))))), (qSF, .inl (G.2.1, 16, .inl sF)), (qTT, .inl (G.2.1, 64, .inl tT)), (qTW, .inl (G.2.1, 16, .inl y21))] ++ rws G qR sP) := ey21 ▸ hD
                  refine lv_aload_n hx hb dL_step_258 rfl (lv_at hl 0 rfl) ?_
                  refine lv_iload hx hb dL_step_259 (lv_at hl 1 rfl) ?_
                  refine lv_iload hx hb dL_step_261 (lv_at hl 2 rfl) ?_
                  refine lv_iload hx hb dL_step_263 (lv_at hl 3 rfl) ?_
                  replace hq := ob hq
                  obtain ⟨q22, eq22, hq⟩ := hq
                  have hPc := hP.sub (ws' := [(qX, .inr (7, [.ref qB, .ref qH, .ref qK, .ref qV, .ref qS, .ref qW])), (qB, .inr (0, [.ref qBT, .ref qBC, .ref qBN, .ref qBW, .ref qBL, .int bn, .int bk, .int bs])), (qBN, .inl (G.2.1, 64, .inl bN)), (qBW, .inl (G.2.1, 64, .inl bW))]) [0, 1, 4, 5] rfl
                  have hKc := hK
                  have hDc := hD.sub (ws' := [(qX, .inr (7, [.ref qB, .ref qH, .ref qK, .ref qV, .ref qS, .ref qW])), (qB, .inr (0, [.ref qBT, .ref qBC, .ref qBN, .ref qBW, .ref qBL, .int bn, .int bk, .int bs])), (qBN, .inl (G.2.1, 64, .inl bN)), (qBW, .inl (G.2.1, 64, .inl bW))]) [0, 1, 4, 5] (by decide) rfl
                  have hFc := va_free (wc := [(qX, .inr (7, [.ref qB, .ref qH, .ref qK, .ref qV, .ref qS, .ref qW])), (qB, .inr (0, [.ref qBT, .ref qBC, .ref qBN, .ref qBW, .ref qBL, .int bn, .int bk, .int bs])), (qBN, .inl (G.2.1, 64, .inl bN)), (qBW, .inl (G.2.1, 64, .inl bW))]) hD hS hA [0, 1, 4, 5] rfl
                  refine va_calli (va_runV (As := [.int y2, .int y13, .int v14]) (rest := []) ⟨hx, hb, hml, hown, hts⟩ (tX7_setWall G l eq22) (cwV 3 hts gL_step_X7_setWall rfl rfl rfl (by decide +kernel) ⟨Nat.le_of_ble_eq_true rfl, Nat.le_of_ble_eq_true rfl⟩) ⟨pcW_blind, va_recv hKc hPc (ci := 7) (q0 := 0) rfl rfl, pcW_pre hPc hKK hDc⟩ rfl rfl hl.1 rfl (lv_room (Nat.le_of_ble_eq_true rfl)) dL_step_265 ⟨Nat.zero_le _, Nat.zero_le _⟩) hS (fun q _ h => hFc q h) hFc (fun r0 u t H1 locs ht hvm hw hB hz1 hk1 hS => ?_)
                  obtain rfl := hw
                  have hB := va_Pto ht hB
                  obtain ⟨hP, hD⟩ := jnL (X' := [(qX, .inr (7, [.ref qB, .ref qH, .ref qK, .ref qV, .ref qS, .ref qW])), (qB, .inr (0, [.ref qBT, .ref qBC, .ref qBN, .ref qBW, .ref qBL, .int bn, .int bk, .int bs])), (qBT, .inl (G.2.1, 16, .inl bT)), (qBC, .inl (G.2.1, 16, .inl bC)), (qBN, .inl (G.2.1, 64, .inl bN)), (qBW, .inl (G.2.1, 64, .inl q22.2)), (qBL, .inl (G.2.1, 16, .inl bL)), (qH, .inr (2, [.ref qHM, .int hd, .int hk])), (qHM, .inl (G.2.1, 512, .inl hM)), (qK, .inr (3, [.ref qB, .ref qKC, .ref qKS, .int kp, .int ku])), (qKC, .inl (G.2.1, 32, .inl kC)), (qKS, .inl (G.2.1, 32, .inl kS)), (qV, .inr (5, [.ref qB, .ref qVL, .ref qVS, .ref qVA, .ref qVT])), (qVL, .inl (G.2.1, 16, .inl vL)), (qVS, .inl (G.2.1, 16, .inl vS)), (qVA, .inl (G.2.1, 16, .inl vA)), (qVT, .inl (G.2.1, 16, .inl vT)), (qS, .inr (4, [.ref qB, .ref qV, .ref qSR, .ref qSI, .ref qSP, .ref qSF, .int so, .int sw])), (qSR, .inl (G.2.1, 16, .inl sR)), (qSI, .inl (G.2.1, 16, .inl sI)), (qSP, .inl (G.2.2.2.2, 17, .inr (.inr (.inr (.inr (outR qR)))))), (qSF, .inl (G.2.1, 16, .inl sF)), (qTT, .inl (G.2.1, 64, .inl tT)), (qTW, .inl (G.2.1, 16, .inl y21))]) hP hD hk1 hB [0, 1, 4, 5] rfl rfl rfl rfl
                  generalize H1 = H at hP hS ⊢
                  refine lv_iload hx hb dL_step_268 (lv_at hl 5 rfl) ?_
                  refine lv_icmp_ne (tgt := 292) hx hb dL_step_270 (by decide) (fun c_270 => ?_) (fun c_270 => ?_)
                  · replace hq := k_f c_270 hq
                    refine lv_iconst (v := 0) hx hb dL_step_292 (by decide) ?_
                    obtain rfl := Option.some.inj hq
                    rw [hQ]
                    exact W.zret hx hb hr rfl (fun t ht hW => ⟨⟨_, (), rfl, rfl, va_Pat ht hP⟩, hS.F ht⟩) hS.2.2 dL_step_293
                  · replace hq := k_t c_270 hq
                    refine lv_aload_n hx hb dL_step_273 rfl (lv_at hl 0 rfl) ?_
                    refine lv_iload hx hb dL_step_274 (lv_at hl 4 rfl) ?_
                    refine lv_iload hx hb dL_step_276 (lv_at hl 6 rfl) ?_
                    refine lv_iload hx hb dL_step_278 (lv_at hl 3 rfl) ?_
                    replace hq := ob hq
                    obtain ⟨q26, eq26, hq⟩ := hq
                    have hPc := hP.sub (ws' := [(qX, .inr (7, [.ref qB, .ref qH, .ref qK, .ref qV, .ref qS, .ref qW])), (qB, .inr (0, [.ref qBT, .ref qBC, .ref qBN, .ref qBW, .ref qBL, .int bn, .int bk, .int bs])), (qBN, .inl (G.2.1, 64, .inl bN)), (qBW, .inl (G.2.1, 64, .inl q22.2))]) [0, 1, 4, 5] rfl
                    have hKc := hK
                    have hDc := hD.sub (ws' := [(qX, .inr (7, [.ref qB, .ref qH, .ref qK, .ref qV, .ref qS, .ref qW])), (qB, .inr (0, [.ref qBT, .ref qBC, .ref qBN, .ref qBW, .ref qBL, .int bn, .int bk, .int bs])), (qBN, .inl (G.2.1, 64, .inl bN)), (qBW, .inl (G.2.1, 64, .inl q22.2))]) [0, 1, 4, 5] (by decide) rfl
                    have hFc := va_free (wc := [(qX, .inr (7, [.ref qB, .ref qH, .ref qK, .ref qV, .ref qS, .ref qW])), (qB, .inr (0, [.ref qBT, .ref qBC, .ref qBN, .ref qBW, .ref qBL, .int bn, .int bk, .int bs])), (qBN, .inl (G.2.1, 64, .inl bN)), (qBW, .inl (G.2.1, 64, .inl q22.2))]) hD hS hA [0, 1, 4, 5] rfl
                    refine va_calli (va_runV (As := [.int q15, .int y17, .int v14]) (rest := []) ⟨hx, hb, hml, hown, hts⟩ (tX7_setWall G l eq26) (cwV 3 hts gL_step_X7_setWall rfl rfl rfl (by decide +kernel) ⟨Nat.le_of_ble_eq_true rfl, Nat.le_of_ble_eq_true rfl⟩) ⟨pcW_blind, va_recv hKc hPc (ci := 7) (q0 := 0) rfl rfl, pcW_pre hPc hKK hDc⟩ rfl rfl hl.1 rfl (lv_room (Nat.le_of_ble_eq_true rfl)) dL_step_280 ⟨Nat.zero_le _, Nat.zero_le _⟩) hS (fun q _ h => hFc q h) hFc (fun r0 u t H1 locs ht hvm hw hB hz1 hk1 hS => ?_)
                    obtain rfl := hw
                    have hB := va_Pto ht hB
                    obtain ⟨hP, hD⟩ := jnL (X' := [(qX, .inr (7, [.ref qB, .ref qH, .ref qK, .ref qV, .ref qS, .ref qW])), (qB, .inr (0, [.ref qBT, .ref qBC, .ref qBN, .ref qBW, .ref qBL, .int bn, .int bk, .int bs])), (qBT, .inl (G.2.1, 16, .inl bT)), (qBC, .inl (G.2.1, 16, .inl bC)), (qBN, .inl (G.2.1, 64, .inl bN)), (qBW, .inl (G.2.1, 64, .inl q26.2)), (qBL, .inl (G.2.1, 16, .inl bL)), (qH, .inr (2, [.ref qHM, .int hd, .int hk])), (qHM, .inl (G.2.1, 512, .inl hM)), (qK, .inr (3, [.ref qB, .ref qKC, .ref qKS, .int kp, .int ku])), (qKC, .inl (G.2.1, 32, .inl kC)), (qKS, .inl (G.2.1, 32, .inl kS)), (qV, .inr (5, [.ref qB, .ref qVL, .ref qVS, .ref qVA, .ref qVT])), (qVL, .inl (G.2.1, 16, .inl vL)), (qVS, .inl (G.2.1, 16, .inl vS)), (qVA, .inl (G.2.1, 16, .inl vA)), (qVT, .inl (G.2.1, 16, .inl vT)), (qS, .inr (4, [.ref qB, .ref qV, .ref qSR, .ref qSI, .ref qSP, .ref qSF, .int so, .int sw])), (qSR, .inl (G.2.1, 16, .inl sR)), (qSI, .inl (G.2.1, 16, .inl sI)), (qSP, .inl (G.2.2.2.2, 17, .inr (.inr (.inr (.inr (outR qR)))))), (qSF, .inl (G.2.1, 16, .inl sF)), (qTT, .inl (G.2.1, 64, .inl tT)), (qTW, .inl (G.2.1, 16, .inl y21))]) hP hD hk1 hB [0, 1, 4, 5] rfl rfl rfl rfl
                    generalize H1 = H at hP hS ⊢
                    refine lv_iload hx hb dL_step_283 (lv_at hl 3 rfl) ?_
                    refine lv_icmp_ne (tgt := 292) hx hb dL_step_285 (by decide) (fun c_285 => ?_) (fun c_285 => ?_)
                    · replace hq := k_f c_285 hq
                      refine lv_iconst (v := 0) hx hb dL_step_292 (by decide) ?_
                      obtain rfl := Option.some.inj hq
                      rw [hQ]
                      exact W.zret hx hb hr rfl (fun t ht hW => ⟨⟨_, (), rfl, rfl, va_Pat ht hP⟩, hS.F ht⟩) hS.2.2 dL_step_293
                    · replace hq := k_t c_285 hq
                      refine lv_iconst (v := 1) hx hb dL_step_288 (by decide) ?_
                      refine lv_goto (tgt := 293) hx hb dL_step_289 (by decide) ?_
                      obtain rfl := Option.some.inj hq
                      rw [hQ]
                      exact W.zret hx hb hr rfl (fun t ht hW => ⟨⟨_, (), rfl, rfl, va_Pat ht hP⟩, hS.F ht⟩) hS.2.2 dL_step_293
                refine lv_if_eq (tgt := 255) hx hb dL_step_245 (by decide) (fun c_245 => ?_) (fun c_245 => ?_)
                · replace hq := k_t c_245 hq
                  refine lv_iconst (v := 0) hx hb dL_step_255 (by decide) ?_
                  exact J256 0 ls _ _ hq (lv_sub hl [0, 2, 3, 4, 5, 6, 7] rfl) hP hD hS
                · replace hq := k_f c_245 hq
                  refine lv_iconst (v := 1) hx hb dL_step_248 (by decide) ?_
                  refine lv_iload hx hb dL_step_249 (lv_at hl 7 rfl) ?_
                  refine lv_ishl hx hb dL_step_251 ?_
                  refine lv_goto (tgt := 256) hx hb dL_step_252 (by decide) ?_
                  exact J256 ((1 : Int32) <<< (y17 &&& 31)) ls _ _ hq (lv_sub hl [0, 2, 3, 4, 5, 6, 7] rfl) hP hD hS
              refine lv_if_eq (tgt := 226) hx hb dL_step_216 (by decide) (fun c_216 => ?_) (fun c_216 => ?_)
              · replace hq := k_t c_216 hq
                refine lv_iconst (v := 0) hx hb dL_step_226 (by decide) ?_
                exact J227 0 ls _ _ hq (lv_sub hl [2, 3, 4, 5, 6, 7, 1, 0] rfl) hP hD hS
              · replace hq := k_f c_216 hq
                refine lv_iconst (v := 1) hx hb dL_step_219 (by decide) ?_
                refine lv_iload hx hb dL_step_220 (lv_at hl 5 rfl) ?_
                refine lv_ishl hx hb dL_step_222 ?_
                refine lv_goto (tgt := 227) hx hb dL_step_223 (by decide) ?_
                exact J227 ((1 : Int32) <<< (y13 &&& 31)) ls _ _ hq (lv_sub hl [2, 3, 4, 5, 6, 7, 1, 0] rfl) hP hD hS
            refine lv_icmp_ne (tgt := 189) hx hb dL_step_182 (by decide) (fun c_182 => ?_) (fun c_182 => ?_)
            · replace hq := k_f c_182 hq
              refine lv_iconst (v := 0) hx hb dL_step_189 (by decide) ?_
              exact J190 0 ls _ _ hq (lv_sub hl [2, 3, 4, 5, 1, 0] rfl) hP hD hS
            · replace hq := k_t c_182 hq
              refine lv_iconst (v := 1) hx hb dL_step_185 (by decide) ?_
              refine lv_goto (tgt := 190) hx hb dL_step_186 (by decide) ?_
              exact J190 1 ls _ _ hq (lv_sub hl [2, 3, 4, 5, 1, 0] rfl) hP hD hS
          · replace hq := k_t c_152 hq
            refine lv_aload_n hx hb dL_step_155 rfl (lv_at hl 2 rfl) ?_
            refine lv_iload hx hb dL_step_156 (lv_at hl 4 rfl) ?_
            refine lv_iload hx hb dL_step_158 (lv_at hl 5 rfl) ?_
            replace hq := ob hq
            obtain ⟨q28, eq28, hq⟩ := hq
            have hPc := hP.sub (ws' := [(qX, .inr (7, [.ref qB, .ref qH, .ref qK, .ref qV, .ref qS, .ref qW])), (qB, .inr (0, [.ref qBT, .ref qBC, .ref qBN, .ref qBW, .ref qBL, .int bn, .int bk, .int bs])), (qBT, .inl (G.2.1, 16, .inl bT)), (qBW, .inl (G.2.1, 64, .inl bW))]) [0, 1, 2, 5] rfl
            have hKc := hK
            have hDc := hD.sub (ws' := [(qX, .inr (7, [.ref qB, .ref qH, .ref qK, .ref qV, .ref qS, .ref qW])), (qB, .inr (0, [.ref qBT, .ref qBC, .ref qBN, .ref qBW, .ref qBL, .int bn, .int bk, .int bs])), (qBT, .inl (G.2.1, 16, .inl bT)), (qBW, .inl (G.2.1, 64, .inl bW))]) [0, 1, 2, 5] (by decide) rfl
            have hFc := va_free (wc := [(qX, .inr (7, [.ref qB, .ref qH, .ref qK, .ref qV, .ref qS, .ref qW])), (qB, .inr (0, [.ref qBT, .ref qBC, .ref qBN, .ref qBW, .ref qBL, .int bn, .int bk, .int bs])), (qBT, .inl (G.2.1, 16, .inl bT)), (qBW, .inl (G.2.1, 64, .inl bW))]) hD hS hA [0, 1, 2, 5] rfl
            refine va_calli (va_runV (As := [.int y2, .int y13]) (rest := []) ⟨hx, hb, hml, hown, hts⟩ (tX7_isJoined G l eq28) (cwV 2 hts gL_step_X7_isJoined rfl rfl rfl (by decide +kernel) ⟨Nat.le_of_ble_eq_true rfl, Nat.le_of_ble_eq_true rfl⟩) ⟨pcW_blind, va_recv hKc hPc (ci := 7) (q0 := 0) rfl rfl, pcW_pre hPc hKK hDc⟩ rfl rfl hl.1 rfl (lv_room (Nat.le_of_ble_eq_true rfl)) dL_step_160 ⟨Nat.zero_le _, Nat.zero_le _⟩) hS (fun q _ h => hFc q h) hFc (fun r0 u t H1 locs ht hvm hw hB hz1 hk1 hS => ?_)
            obtain rfl := hw
            have hB := va_Pto ht hB
            obtain ⟨hP, hD⟩ := jnL (X' := [(qX, .inr (7, [.ref qB, .ref qH, .ref qK, .ref qV, .ref qS, .ref qW])), (qB, .inr (0, [.ref qBT, .ref qBC, .ref qBN, .ref qBW, .ref qBL, .int bn, .int bk, .int bs])), (qBT, .inl (G.2.1, 16, .inl bT)), (qBC, .inl (G.2.1, 16, .inl bC)), (qBN, .inl (G.2.1, 64, .inl bN)), (qBW, .inl (G.2.1, 64, .inl bW)), (qBL, .inl (G.2.1, 16, .inl bL)), (qH, .inr (2, [.ref qHM, .int hd, .int hk])), (qHM, .inl (G.2.1, 512, .inl hM)), (qK, .inr (3, [.ref qB, .ref qKC, .ref qKS, .int kp, .int ku])), (qKC, .inl (G.2.1, 32, .inl kC)), (qKS, .inl (G.2.1, 32, .inl kS)), (qV, .inr (5, [.ref qB, .ref qVL, .ref qVS, .ref qVA, .ref qVT])), (qVL, .inl (G.2.1, 16, .inl vL)), (qVS, .inl (G.2.1, 16, .inl vS)), (qVA, .inl (G.2.1, 16, .inl vA)), (qVT, .inl (G.2.1, 16, .inl vT)), (qS, .inr (4, [.ref qB, .ref qV, .ref qSR, .ref qSI, .ref qSP, .ref qSF, .int so, .int sw])), (qSR, .inl (G.2.1, 16, .inl sR)), (qSI, .inl (G.2.1, 16, .inl sI)), (qSP, .inl (G.2.2.2.2, 17, .inr (.inr (.inr (.inr (outR qR)))))), (qSF, .inl (G.2.1, 16, .inl sF)), (qTT, .inl (G.2.1, 64, .inl tT)), (qTW, .inl (G.2.1, 16, .inl tW))]) hP hD hk1 hB [0, 1, 2, 5] rfl rfl rfl rfl
            generalize H1 = H at hP hS ⊢
            refine lv_if_ne (tgt := 170) hx hb dL_step_163 (by decide) (fun c_163 => ?_) (fun c_163 => ?_)
            · replace hq := k_f c_163 hq
              refine lv_iconst (v := 0) hx hb dL_step_170 (by decide) ?_
              obtain rfl := Option.some.inj hq
              rw [hQ]
              exact W.zret hx hb hr rfl (fun t ht hW => ⟨⟨_, (), rfl, rfl, va_Pat ht hP⟩, hS.F ht⟩) hS.2.2 dL_step_171
            · replace hq := k_t c_163 hq
              refine lv_iconst (v := 1) hx hb dL_step_166 (by decide) ?_
              refine lv_goto (tgt := 171) hx hb dL_step_167 (by decide) ?_
              obtain rfl := Option.some.inj hq
              rw [hQ]
              exact W.zret hx hb hr rfl (fun t ht hW => ⟨⟨_, (), rfl, rfl, va_Pat ht hP⟩, hS.F ht⟩) hS.2.2 dL_step_171
        refine lv_if_ne (tgt := 136) hx hb dL_step_129 (by decide) (fun c_129 => ?_) (fun c_129 => ?_)
        · replace hq := k_f c_129 hq
          refine lv_iconst (v := 0) hx hb dL_step_136 (by decide) ?_
          exact J137 0 ls _ _ hq (lv_sub hl [2, 4, 1, 0] rfl) hP hD hS
        · replace hq := k_t c_129 hq
          refine lv_iconst (v := 1) hx hb dL_step_132 (by decide) ?_
          refine lv_goto (tgt := 137) hx hb dL_step_133 (by decide) ?_
          exact J137 1 ls _ _ hq (lv_sub hl [2, 4, 1, 0] rfl) hP hD hS
      · replace hq := k_f c_13_2 hq
        by_cases c_13_3 : x3 - x3 / 12 * 12 = 3
        · replace hq := k_t c_13_3 hq
          rw [c_13_3]
          refine lv_tableIn (tgt := 294) (off := 281) hx hb dL_step_13 (by decide +kernel) (by decide +kernel) (by decide +kernel) (by decide) ?_
          refine lv_aload_n hx hb dL_step_294 rfl (lv_at hl 2 rfl) ?_
          refine lv_bipush (v := 16) hx hb dL_step_295 (by decide) ?_
          refine lv_iload hx hb dL_step_297 (lv_at hl 0 rfl) ?_
          refine lv_iadd hx hb dL_step_299 ?_
          replace hq := k_g hq
          obtain ⟨hg, hq⟩ := hq
          refine va_iald hx hb hK hP 22 0 rfl rfl (ix_in hg) dL_step_300 ?_
          refine lv_iconst (v := 1) hx hb dL_step_301 (by decide) ?_
          have J310 : ∀ (v30 : Int32) (ls : Array Slot) (H : Heap) (locs : List Loc), kL_step_j310 F bn bk bs bT bC bN bW bL hd hk hM kp ku kC kS vL vS vA vT so sw sR sI sP sF tT tW x5 y2 v30 = some r → lv_has ls 15 [(0, .ref qX), (1, .ref qTT), (5, .int x5), (6, .int y2)] → va_P G.1 vwCl ([(qX, .inr (7, [.ref qB, .ref qH, .ref qK, .ref qV, .ref qS, .ref qW])), (qB, .inr (0, [.ref qBT, .ref qBC, .ref qBN, .ref qBW, .ref qBL, .int bn, .int bk, .int bs])), (qBT, .inl (G.2.1, 16, .inl bT)), (qBC, .inl (G.2.1, 16, .inl bC)), (qBN, .inl (G.2.1, 64, .inl bN)), (qBW, .inl (G.2.1, 64, .inl bW)), (qBL, .inl (G.2.1, 16, .inl bL)), (qH, .inr (2, [.ref qHM, .int hd, .int hk])), (qHM, .inl (G.2.1, 512, .inl hM)), (qK, .inr (3, [.ref qB, .ref qKC, .ref qKS, .int kp, .int ku])), (qKC, .inl (G.2.1, 32, .inl kC)), (qKS, .inl (G.2.1, 32, .inl kS)), (qV, .inr (5, [.ref qB, .ref qVL, .ref qVS, .ref qVA, .ref qVT])), (qVL, .inl (G.2.1, 16, .inl vL)), (qVS, .inl (G.2.1, 16, .inl vS)), (qVA, .inl (G.2.1, 16, .inl vA)), (qVT, .inl (G.2.1, 16, .inl vT)), (qS, .inr (4, [.ref qB, .ref qV, .ref qSR, .ref qSI, .ref qSP, .ref qSF, .int so, .int sw])), (qSR, .inl (G.2.1, 16, .inl sR)), (qSI, .inl (G.2.1, 16, .inl sI)), (qSP, .inl (G.2.2.2.2, 17, .inr (.inr (.inr (.inr (outR qR)))))), (qSF, .inl (G.2.1, 16, .inl sF)), (qTT, .inl (G.2.1, 64, .inl tT)), (qTW, .inl (G.2.1, 16, .inl tW))] ++ rws G qR sP) H → va_D A ([(qX, .inr (7, [.ref qB, .ref qH, .ref qK, .ref qV, .ref qS, .ref qW])), (qB, .inr (0, [.ref qBT, .ref qBC, .ref qBN, .ref qBW, .ref qBL, .int bn, .int bk, .int bs])), (qBT, .inl (G.2.1, 16, .inl bT)), (qBC, .inl (G.2.1, 16, .inl bC)), (qBN, .inl (G.2.1, 64, .inl bN)), (qBW, .inl (G.2.1, 64, .inl bW)), (qBL, .inl (G.2.1, 16, .inl bL)), (qH, .inr (2, [.ref qHM, .int hd, .int hk])), (qHM, .inl (G.2.1, 512, .inl hM)), (qK, .inr (3, [.ref qB, .ref qKC, .ref qKS, .int kp, .int ku])), (qKC, .inl (G.2.1, 32, .inl kC)), (qKS, .inl (G.2.1, 32, .inl kS)), (qV, .inr (5, [.ref qB, .ref qVL, .ref qVS, .ref qVA, .ref qVT])), (qVL, .inl (G.2.1, 16, .inl vL)), (qVS, .inl (G.2.1, 16, .inl vS)), (qVA, .inl (G.2.1, 16, .inl vA)), (qVT, .inl (G.2.1, 16, .inl vT)), (qS, .inr (4, [.ref qB, .ref qV, .ref qSR, .ref qSI, .ref qSP, .ref qSF, .int so, .int sw])), (qSR, .inl (G.2.1, 16, .inl sR)), (qSI, .inl (G.2.1, 16, .inl sI)), (qSP, .inl (G.2.2.2.2, 17, .inr (.inr (.inr (.inr (outR qR)))))), (qSF, .inl (G.2.1, 16, .inl sF)), (qTT, .inl (G.2.1, 64, .inl tT)), (qTW, .inl (G.2.1, 16, .inl tW))] ++ rws G qR sP) → va_S A s.heap H locs → W p l e (headSpec wsL_step rmL_step).room s m ([.ref qX, .ref qTT, .ref qTW, .int x3, .int x4, .int x5] : List Value).toArray below meth c H locs 0 0 Q (F0 m 310 ls [.int v30]) := by
            intro v30 ls H locs hq hl hP hD hS
            unfold kL_step_j310 at hq
            refine lv_istore (lv' := [(13, .int v30), (0, .ref qX), (1, .ref qTT), (5, .int x5), (6, .int y2)]) hx hb dL_step_310 hl (by decide) rfl (fun ls hl => ?_)
            refine lv_aload_n hx hb dL_step_312 rfl (lv_at hl 2 rfl) ?_
            refine lv_bipush (v := 16) hx hb dL_step_313 (by decide) ?_
            refine lv_iload hx hb dL_step_315 (lv_at hl 4 rfl) ?_
            refine lv_iadd hx hb dL_step_317 ?_
            refine lv_iload hx hb dL_step_318 (lv_at hl 3 rfl) ?_
            refine lv_iconst (v := 3) hx hb dL_step_320 (by decide) ?_
            refine lv_irem hx hb dL_step_321 (by decide) ?_
            have J330 : ∀ (v31 : Int32) (ls : Array Slot) (H : Heap) (locs : List Loc), kL_step_j330 F bn bk bs bT bC bN bW bL hd hk hM kp ku kC kS vL vS vA vT so sw sR sI sP sF tT tW x5 y2 v30 v31 = some r → lv_has ls 15 [(0, .ref qX), (5, .int x5), (6, .int y2), (13, .int v30)] → va_P G.1 vwCl ([(qX, .inr (7, [.ref qB, .ref qH, .ref qK, .ref qV, .ref qS, .ref qW])), (qB, .inr (0, [.ref qBT, .ref qBC, .ref qBN, .ref qBW, .ref qBL, .int bn, .int bk, .int bs])), (qBT, .inl (G.2.1, 16, .inl bT)), (qBC, .inl (G.2.1, 16, .inl bC)), (qBN, .inl (G.2.1, 64, .inl bN)), (qBW, .inl (G.2.1, 64, .inl bW)), (qBL, .inl (G.2.1, 16, .inl bL)), (qH, .inr (2, [.ref qHM, .int hd, .int hk])), (qHM, .inl (G.2.1, 512, .inl hM)), (qK, .inr (3, [.ref qB, .ref qKC, .ref qKS, .int kp, .int ku])), (qKC, .inl (G.2.1, 32, .inl kC)), (qKS, .inl (G.2.1, 32, .inl kS)), (qV, .inr (5, [.ref qB, .ref qVL, .ref qVS, .ref qVA, .ref qVT])), (qVL, .inl (G.2.1, 16, .inl vL)), (qVS, .inl (G.2.1, 16, .inl vS)), (qVA, .inl (G.2.1, 16, .inl vA)), (qVT, .inl (G.2.1, 16, .inl vT)), (qS, .inr (4, [.ref qB, .ref qV, .ref qSR, .ref qSI, .ref qSP, .ref qSF, .int so, .int sw])), (qSR, .inl (G.2.1, 16, .inl sR)), (qSI, .inl (G.2.1, 16, .inl sI)), (qSP, .inl (G.2.2.2.2, 17, .inr (.inr (.inr (.inr (outR qR)))))), (qSF, .inl (G.2.1, 16, .inl sF)), (qTT, .inl (G.2.1, 64, .inl tT)), (qTW, .inl (G.2.1, 16, .inl tW))] ++ rws G qR sP) H → va_D A ([(qX, .inr (7, [.ref qB, .ref qH, .ref qK, .ref qV, .ref qS, .ref qW])), (qB, .inr (0, [.ref qBT, .ref qBC, .ref qBN, .ref qBW, .ref qBL, .int bn, .int bk, .int bs])), (qBT, .inl (G.2.1, 16, .inl bT)), (qBC, .inl (G.2.1, 16, .inl bC)), (qBN, .inl (G.2.1, 64, .inl bN)), (qBW, .inl (G.2.1, 64, .inl bW)), (qBL, .inl (G.2.1, 16, .inl bL)), (qH, .inr (2, [.ref qHM, .int hd, .int hk])), (qHM, .inl (G.2.1, 512, .inl hM)), (qK, .inr (3, [.ref qB, .ref qKC, .ref qKS, .int kp, .int ku])), (qKC, .inl (G.2.1, 32, .inl kC)), (qKS, .inl (G.2.1, 32, .inl kS)), (qV, .inr (5, [.ref qB, .ref qVL, .ref qVS, .ref qVA, .ref qVT])), (qVL, .inl (G.2.1, 16, .inl vL)), (qVS, .inl (G.2.1, 16, .inl vS)), (qVA, .inl (G.2.1, 16, .inl vA)), (qVT, .inl (G.2.1, 16, .inl vT)), (qS, .inr (4, [.ref qB, .ref qV, .ref qSR, .ref qSI, .ref qSP, .ref qSF, .int so, .int sw])), (qSR, .inl (G.2.1, 16, .inl sR)), (qSI, .inl (G.2.1, 16, .inl sI)), (qSP, .inl (G.2.2.2.2, 17, .inr (.inr (.inr (.inr (outR qR)))))), (qSF, .inl (G.2.1, 16, .inl sF)), (qTT, .inl (G.2.1, 64, .inl tT)), (qTW, .inl (G.2.1, 16, .inl tW))] ++ rws G qR sP) → va_S A s.heap H locs → W p l e (headSpec wsL_step rmL_step).room s m ([.ref qX, .ref qTT, .ref qTW, .int x3, .int x4, .int x5] : List Value).toArray below meth c H locs 0 0 Q (F0 m 330 ls [.int v31, .int (16 + y2), .ref qTT]) := by
              intro v31 ls H locs hq hl hP hD hS
              unfold kL_step_j330 at hq
              replace hq := k_g hq
              obtain ⟨hg, hq⟩ := hq
              refine va_iast hx hb hK hP hD hS 22 0 rfl rfl (ix_in hg) dL_step_330 (fun H locs hP hD hS => ?_)
              have hP : va_P G.1 vwCl ([(qX, .inr (7, [.ref qB, .ref qH, .ref qK, .ref qV, .ref qS, .ref qW])), (qB, .inr (0, [.ref qBT, .ref qBC, .ref qBN, .ref qBW, .ref qBL, .int bn, .int bk, .int bs])), (qBT, .inl (G.2.1, 16, .inl bT)), (qBC, .inl (G.2.1, 16, .inl bC)), (qBN, .inl (G.2.1, 64, .inl bN)), (qBW, .inl (G.2.1, 64, .inl bW)), (qBL, .inl (G.2.1, 16, .inl bL)), (qH, .inr (2, [.ref qHM, .int hd, .int hk])), (qHM, .inl (G.2.1, 512, .inl hM)), (qK, .inr (3, [.ref qB, .ref qKC, .ref qKS, .int kp, .int ku])), (qKC, .inl (G.2.1, 32, .inl kC)), (qKS, .inl (G.2.1, 32, .inl kS)), (qV, .inr (5, [.ref qB, .ref qVL, .ref qVS, .ref qVA, .ref qVT])), (qVL, .inl (G.2.1, 16, .inl vL)), (qVS, .inl (G.2.1, 16, .inl vS)), (qVA, .inl (G.2.1, 16, .inl vA)), (qVT, .inl (G.2.1, 16, .inl vT)), (qS, .inr (4, [.ref qB, .ref qV, .ref qSR, .ref qSI, .ref qSP, .ref qSF, .int so, .int sw])), (qSR, .inl (G.2.1, 16, .inl sR)), (qSI, .inl (G.2.1, 16, .inl sI)), (qSP, .inl (G.2.2.2.2, 17, .inr (.inr (.inr (.inr (outR qR)))))), (qSF, .inl (G.2.1, 16, .inl sF)), (qTT, .inl (G.2.1, 64, .inl (upd tT (16 + y2).toNatClampNeg v31))), (qTW, .inl (G.2.1, 16, .inl tW))] ++ rws G qR sP) H := hP
              have hD : va_D A ([(qX, .inr (7, [.ref qB, .ref qH, .ref qK, .ref qV, .ref qS, .ref qW])), (qB, .inr (0, [.ref qBT, .ref qBC, .ref qBN, .ref qBW, .ref qBL, .int bn, .int bk, .int bs])), (qBT, .inl (G.2.1, 16, .inl bT)), (qBC, .inl (G.2.1, 16, .inl bC)), (qBN, .inl (G.2.1, 64, .inl bN)), (qBW, .inl (G.2.1, 64, .inl bW)), (qBL, .inl (G.2.1, 16, .inl bL)), (qH, .inr (2, [.ref qHM, .int hd, .int hk])), (qHM, .inl (G.2.1, 512, .inl hM)), (qK, .inr (3, [.ref qB, .ref qKC, .ref qKS, .int kp, .int ku])), (qKC, .inl (G.2.1, 32, .inl kC)), (qKS, .inl (G.2.1, 32, .inl kS)), (qV, .inr (5, [.ref qB, .ref qVL, .ref qVS, .ref qVA, .ref qVT])), (qVL, .inl (G.2.1, 16, .inl vL)), (qVS, .inl (G.2.1, 16, .inl vS)), (qVA, .inl (G.2.1, 16, .inl vA)), (qVT, .inl (G.2.1, 16, .inl vT)), (qS, .inr (4, [.ref qB, .ref qV, .ref qSR, .ref qSI, .ref qSP, .ref qSF, .int so, .int sw])), (qSR, .inl (G.2.1, 16, .inl sR)), (qSI, .inl (G.2.1, 16, .inl sI)), (qSP, .inl (G.2.2.2.2, 17, .inr (.inr (.inr (.inr (outR qR)))))), (qSF, .inl (G.2.1, 16, .inl sF)), (qTT, .inl (G.2.1, 64, .inl (upd tT (16 + y2).toNatClampNeg v31))), (qTW, .inl (G.2.1, 16, .inl tW))] ++ rws G qR sP) := hD
              replace hq := ob hq
              obtain ⟨y32, ey32, hq⟩ := hq
              have ey32 := Option.some.inj ey32
              have hP : va_P G.1 vwCl ([(qX, .inr (7, [.ref qB, .ref qH, .ref qK, .ref qV, .ref qS, .ref qW])), (qB, .inr (0, [.ref qBT, .ref qBC, .ref qBN, .ref qBW, .ref qBL, .int bn, .int bk, .int bs])), (qBT, .inl (G.2.1, 16, .inl bT)), (qBC, .inl (G.2.1, 16, .inl bC)), (qBN, .inl (G.2.1, 64, .inl bN)), (qBW, .inl (G.2.1, 64, .inl bW)), (qBL, .inl (G.2.1, 16, .inl bL)), (qH, .inr (2, [.ref qHM, .int hd, .int hk])), (qHM, .inl (G.2.1, 512, .inl hM)), (qK, .inr (3, [.ref qB, .ref qKC, .ref qKS, .int kp, .int ku])), (qKC, .inl (G.2.1, 32, .inl kC)), (qKS, .inl (G.2.1, 32, .inl kS)), (qV, .inr (5, [.ref qB, .ref qVL, .ref qVS, .ref qVA, .ref qVT])), (qVL, .inl (G.2.1, 16, .inl vL)), (qVS, .inl (G.2.1, 16, .inl vS)), (qVA, .inl (G.2.1, 16, .inl vA)), (qVT, .inl (G.2.1, 16, .inl vT)), (qS, .inr (4, [.ref qB, .ref qV, .ref qSR, .ref qSI, .ref qSP, .ref qSF, .int so, .int sw])), (qSR, .inl (G.2.1, 16, .inl sR)), (qSI, .inl (G.2.1, 16, .inl sI)), (qSP, .inl (G.2.2.2.2, 17, .inr (.inr (.inr (.inr (outR qR)))))), (qSF, .inl (G.2.1, 16, .inl sF)), (qTT, .inl (G.2.1, 64, .inl y32)), (qTW, .inl (G.2.1, 16, .inl tW))] ++ rws G qR sP) H := ey32 ▸ hP
              have hD : va_D A ([(qX, .inr (7, [.ref qB, .ref qH, .ref qK, .ref qV, .ref qS, .ref qW])), (qB, .inr (0, [.ref qBT, .ref qBC, .ref qBN, .ref qBW, .ref qBL, .int bn, .int bk, .int bs])), (qBT, .inl (G.2.1, 16, .inl bT)), (qBC, .inl (G.2.1, 16, .inl bC)), (qBN, .inl (G.2.1, 64, .inl bN)), (qBW, .inl (G.2.1, 64, .inl bW)), (qBL, .inl (G.2.1, 16, .inl bL)), (qH, .inr (2, [.ref qHM, .int hd, .int hk])), (qHM, .inl (G.2.1, 512, .inl hM)), (qK, .inr (3, [.ref qB, .ref qKC, .ref qKS, .int kp, .int ku])), (qKC, .inl (G.2.1, 32, .inl kC)), (qKS, .inl (G.2.1, 32, .inl kS)), (qV, .inr (5, [.ref qB, .ref qVL, .ref qVS, .ref qVA, .ref qVT])), (qVL, .inl (G.2.1, 16, .inl vL)), (qVS, .inl (G.2.1, 16, .inl vS)), (qVA, .inl (G.2.1, 16, .inl vA)), (qVT, .inl (G.2.1, 16, .inl vT)), (qS, .inr (4, [.ref qB, .ref qV, .ref qSR, .ref qSI, .ref qSP, .ref qSF, .int so, .int sw])), (qSR, .inl (G.2.1, 16, .inl sR)), (qSI, .inl (G.2.1, 16, .inl sI)), (qSP, .inl (G.2.2.2.2, 17, .inr (.inr (.inr (.inr (outR qR)))))), (qSF, .inl (G.2.1, 16, .inl sF)), (qTT, .inl (G.2.1, 64, .inl y32)), (qTW, .inl (G.2.1, 16, .inl tW))] ++ rws G qR sP) := ey32 ▸ hD
              refine lv_aload_n hx hb dL_step_331 rfl (lv_at hl 0 rfl) ?_
              refine lv_iload hx hb dL_step_332 (lv_at hl 2 rfl) ?_
              refine lv_iload hx hb dL_step_334 (lv_at hl 1 rfl) ?_
              refine lv_iconst (v := 3) hx hb dL_step_336 (by decide) ?_
              refine lv_irem hx hb dL_step_337 (by decide) ?_
              have J346 : ∀ (v33 : Int32) (ls : Array Slot) (H : Heap) (locs : List Loc), kL_step_j346 F bn bk bs bT bC bN bW bL hd hk hM kp ku kC kS vL vS vA vT so sw sR sI sP sF tW y2 v30 y32 v33 = some r → lv_has ls 15 [(13, .int v30)] → va_P G.1 vwCl ([(qX, .inr (7, [.ref qB, .ref qH, .ref qK, .ref qV, .ref qS, .ref qW])), (qB, .inr (0, [.ref qBT, .ref qBC, .ref qBN, .ref qBW, .ref qBL, .int bn, .int bk, .int bs])), (qBT, .inl (G.2.1, 16, .inl bT)), (qBC, .inl (G.2.1, 16, .inl bC)), (qBN, .inl (G.2.1, 64, .inl bN)), (qBW, .inl (G.2.1, 64, .inl bW)), (qBL, .inl (G.2.1, 16, .inl bL)), (qH, .inr (2, [.ref qHM, .int hd, .int hk])), (qHM, .inl (G.2.1, 512, .inl hM)), (qK, .inr (3, [.ref qB, .ref qKC, .ref qKS, .int kp, .int ku])), (qKC, .inl (G.2.1, 32, .inl kC)), (qKS, .inl (G.2.1, 32, .inl kS)), (qV, .inr (5, [.ref qB, .ref qVL, .ref qVS, .ref qVA, .ref qVT])), (qVL, .inl (G.2.1, 16, .inl vL)), (qVS, .inl (G.2.1, 16, .inl vS)), (qVA, .inl (G.2.1, 16, .inl vA)), (qVT, .inl (G.2.1, 16, .inl vT)), (qS, .inr (4, [.ref qB, .ref qV, .ref qSR, .ref qSI, .ref qSP, .ref qSF, .int so, .int sw])), (qSR, .inl (G.2.1, 16, .inl sR)), (qSI, .inl (G.2.1, 16, .inl sI)), (qSP, .inl (G.2.2.2.2, 17, .inr (.inr (.inr (.inr (outR qR)))))), (qSF, .inl (G.2.1, 16, .inl sF)), (qTT, .inl (G.2.1, 64, .inl y32)), (qTW, .inl (G.2.1, 16, .inl tW))] ++ rws G qR sP) H → va_D A ([(qX, .inr (7, [.ref qB, .ref qH, .ref qK, .ref qV, .ref qS, .ref qW])), (qB, .inr (0, [.ref qBT, .ref qBC, .ref qBN, .ref qBW, .ref qBL, .int bn, .int bk, .int bs])), (qBT, .inl (G.2.1, 16, .inl bT)), (qBC, .inl (G.2.1, 16, .inl bC)), (qBN, .inl (G.2.1, 64, .inl bN)), (qBW, .inl (G.2.1, 64, .inl bW)), (qBL, .inl (G.2.1, 16, .inl bL)), (qH, .inr (2, [.ref qHM, .int hd, .int hk])), (qHM, .inl (G.2.1, 512, .inl hM)), (qK, .inr (3, [.ref qB, .ref qKC, .ref qKS, .int kp, .int ku])), (qKC, .inl (G.2.1, 32, .inl kC)), (qKS, .inl (G.2.1, 32, .inl kS)), (qV, .inr (5, [.ref qB, .ref qVL, .ref qVS, .ref qVA, .ref qVT])), (qVL, .inl (G.2.1, 16, .inl vL)), (qVS, .inl (G.2.1, 16, .inl vS)), (qVA, .inl (G.2.1, 16, .inl vA)), (qVT, .inl (G.2.1, 16, .inl vT)), (qS, .inr (4, [.ref qB, .ref qV, .ref qSR, .ref qSI, .ref qSP, .ref qSF, .int so, .int sw])), (qSR, .inl (G.2.1, 16, .inl sR)), (qSI, .inl (G.2.1, 16, .inl sI)), (qSP, .inl (G.2.2.2.2, 17, .inr (.inr (.inr (.inr (outR qR)))))), (qSF, .inl (G.2.1, 16, .inl sF)), (qTT, .inl (G.2.1, 64, .inl y32)), (qTW, .inl (G.2.1, 16, .inl tW))] ++ rws G qR sP) → va_S A s.heap H locs → W p l e (headSpec wsL_step rmL_step).room s m ([.ref qX, .ref qTT, .ref qTW, .int x3, .int x4, .int x5] : List Value).toArray below meth c H locs 0 0 Q (F0 m 346 ls [.int v33, .int y2, .ref qX]) := by
                intro v33 ls H locs hq hl hP hD hS
                unfold kL_step_j346 at hq
                replace hq := ob hq
                obtain ⟨q34, eq34, hq⟩ := hq
                have hPc := hP.sub (ws' := [(qX, .inr (7, [.ref qB, .ref qH, .ref qK, .ref qV, .ref qS, .ref qW])), (qB, .inr (0, [.ref qBT, .ref qBC, .ref qBN, .ref qBW, .ref qBL, .int bn, .int bk, .int bs]))]) [0, 1] rfl
                have hKc := hK
                have hDc := hD.sub (ws' := [(qX, .inr (7, [.ref qB, .ref qH, .ref qK, .ref qV, .ref qS, .ref qW])), (qB, .inr (0, [.ref qBT, .ref qBC, .ref qBN, .ref qBW, .ref qBL, .int bn, .int bk, .int bs]))]) [0, 1] (by decide) rfl
                have hFc := va_free (wc := [(qX, .inr (7, [.ref qB, .ref qH, .ref qK, .ref qV, .ref qS, .ref qW])), (qB, .inr (0, [.ref qBT, .ref qBC, .ref qBN, .ref qBW, .ref qBL, .int bn, .int bk, .int bs]))]) hD hS hA [0, 1] rfl
                refine va_calli (va_runV (As := [.int y2, .int v33]) (rest := []) ⟨hx, hb, hml, hown, hts⟩ (tX7_setLock G l eq34) (cwV 2 hts gL_step_X7_setLock rfl rfl rfl (by decide +kernel) ⟨Nat.le_of_ble_eq_true rfl, Nat.le_of_ble_eq_true rfl⟩) ⟨pcW_blind, va_recv hKc hPc (ci := 7) (q0 := 0) rfl rfl, pcW_pre hPc hKK hDc⟩ rfl rfl hl.1 rfl (lv_room (Nat.le_of_ble_eq_true rfl)) dL_step_346 ⟨Nat.zero_le _, Nat.zero_le _⟩) hS (fun q _ h => hFc q h) hFc (fun r0 u t H1 locs ht hvm hw hB hz1 hk1 hS => ?_)
                obtain rfl := hw
                have hB := va_Pto ht hB
                obtain ⟨hP, hD⟩ := jnL (X' := [(qX, .inr (7, [.ref qB, .ref qH, .ref qK, .ref qV, .ref qS, .ref qW])), (qB, .inr (0, [.ref qBT, .ref qBC, .ref qBN, .ref qBW, .ref qBL, .int bn, .int q34.2, .int bs])), (qBT, .inl (G.2.1, 16, .inl bT)), (qBC, .inl (G.2.1, 16, .inl bC)), (qBN, .inl (G.2.1, 64, .inl bN)), (qBW, .inl (G.2.1, 64, .inl bW)), (qBL, .inl (G.2.1, 16, .inl bL)), (qH, .inr (2, [.ref qHM, .int hd, .int hk])), (qHM, .inl (G.2.1, 512, .inl hM)), (qK, .inr (3, [.ref qB, .ref qKC, .ref qKS, .int kp, .int ku])), (qKC, .inl (G.2.1, 32, .inl kC)), (qKS, .inl (G.2.1, 32, .inl kS)), (qV, .inr (5, [.ref qB, .ref qVL, .ref qVS, .ref qVA, .ref qVT])), (qVL, .inl (G.2.1, 16, .inl vL)), (qVS, .inl (G.2.1, 16, .inl vS)), (qVA, .inl (G.2.1, 16, .inl vA)), (qVT, .inl (G.2.1, 16, .inl vT)), (qS, .inr (4, [.ref qB, .ref qV, .ref qSR, .ref qSI, .ref qSP, .ref qSF, .int so, .int sw])), (qSR, .inl (G.2.1, 16, .inl sR)), (qSI, .inl (G.2.1, 16, .inl sI)), (qSP, .inl (G.2.2.2.2, 17, .inr (.inr (.inr (.inr (outR qR)))))), (qSF, .inl (G.2.1, 16, .inl sF)), (qTT, .inl (G.2.1, 64, .inl y32)), (qTW, .inl (G.2.1, 16, .inl tW))]) hP hD hk1 hB [0, 1] rfl rfl rfl rfl
                generalize H1 = H at hP hS ⊢
                refine lv_iload hx hb dL_step_349 (lv_at hl 0 rfl) ?_
                refine lv_icmp_ne (tgt := 358) hx hb dL_step_351 (by decide) (fun c_351 => ?_) (fun c_351 => ?_)
                · replace hq := k_f c_351 hq
                  refine lv_iconst (v := 0) hx hb dL_step_358 (by decide) ?_
                  obtain rfl := Option.some.inj hq
                  rw [hQ]
                  exact W.zret hx hb hr rfl (fun t ht hW => ⟨⟨_, (), rfl, rfl, va_Pat ht hP⟩, hS.F ht⟩) hS.2.2 dL_step_359
                · replace hq := k_t c_351 hq
                  refine lv_iconst (v := 1) hx hb dL_step_354 (by decide) ?_
                  refine lv_goto (tgt := 359) hx hb dL_step_355 (by decide) ?_
                  obtain rfl := Option.some.inj hq
                  rw [hQ]
                  exact W.zret hx hb hr rfl (fun t ht hW => ⟨⟨_, (), rfl, rfl, va_Pat ht hP⟩, hS.F ht⟩) hS.2.2 dL_step_359
              refine lv_if_ne (tgt := 345) hx hb dL_step_338 (by decide) (fun c_338 => ?_) (fun c_338 => ?_)
              · replace hq := k_f c_338 hq
                refine lv_iconst (v := 0) hx hb dL_step_345 (by decide) ?_
                exact J346 0 ls _ _ hq (lv_sub hl [3] rfl) hP hD hS
              · replace hq := k_t c_338 hq
                refine lv_iconst (v := 1) hx hb dL_step_341 (by decide) ?_
                refine lv_goto (tgt := 346) hx hb dL_step_342 (by decide) ?_
                exact J346 1 ls _ _ hq (lv_sub hl [3] rfl) hP hD hS
            refine lv_if_ne (tgt := 329) hx hb dL_step_322 (by decide) (fun c_322 => ?_) (fun c_322 => ?_)
            · replace hq := k_f c_322 hq
              refine lv_iconst (v := 0) hx hb dL_step_329 (by decide) ?_
              exact J330 0 ls _ _ hq (lv_sub hl [1, 3, 4, 0] rfl) hP hD hS
            · replace hq := k_t c_322 hq
              refine lv_iconst (v := 1) hx hb dL_step_325 (by decide) ?_
              refine lv_goto (tgt := 330) hx hb dL_step_326 (by decide) ?_
              exact J330 1 ls _ _ hq (lv_sub hl [1, 3, 4, 0] rfl) hP hD hS
          refine lv_icmp_ne (tgt := 309) hx hb dL_step_302 (by decide) (fun c_302 => ?_) (fun c_302 => ?_)
          · replace hq := k_f c_302 hq
            refine lv_iconst (v := 0) hx hb dL_step_309 (by decide) ?_
            exact J310 0 ls _ _ hq (lv_sub hl [1, 2, 6, 0] rfl) hP hD hS
          · replace hq := k_t c_302 hq
            refine lv_iconst (v := 1) hx hb dL_step_305 (by decide) ?_
            refine lv_goto (tgt := 310) hx hb dL_step_306 (by decide) ?_
            exact J310 1 ls _ _ hq (lv_sub hl [1, 2, 6, 0] rfl) hP hD hS
        · replace hq := k_f c_13_3 hq
          by_cases c_13_4 : x3 - x3 / 12 * 12 = 4
          · replace hq := k_t c_13_4 hq
            rw [c_13_4]
            refine lv_tableIn (tgt := 360) (off := 347) hx hb dL_step_13 (by decide +kernel) (by decide +kernel) (by decide +kernel) (by decide) ?_
            refine lv_aload_n hx hb dL_step_360 rfl (lv_at hl 1 rfl) ?_
            refine lv_iload hx hb dL_step_361 (lv_at hl 0 rfl) ?_
            replace hq := ob hq
            obtain ⟨q36, eq36, hq⟩ := hq
            have hPc := hP.sub (ws' := [(qX, .inr (7, [.ref qB, .ref qH, .ref qK, .ref qV, .ref qS, .ref qW])), (qB, .inr (0, [.ref qBT, .ref qBC, .ref qBN, .ref qBW, .ref qBL, .int bn, .int bk, .int bs]))]) [0, 1] rfl
            have hKc := hK
            have hDc := hD.sub (ws' := [(qX, .inr (7, [.ref qB, .ref qH, .ref qK, .ref qV, .ref qS, .ref qW])), (qB, .inr (0, [.ref qBT, .ref qBC, .ref qBN, .ref qBW, .ref qBL, .int bn, .int bk, .int bs]))]) [0, 1] (by decide) rfl
            have hFc := va_free (wc := [(qX, .inr (7, [.ref qB, .ref qH, .ref qK, .ref qV, .ref qS, .ref qW])), (qB, .inr (0, [.ref qBT, .ref qBC, .ref qBN, .ref qBW, .ref qBL, .int bn, .int bk, .int bs]))]) hD hS hA [0, 1] rfl
            refine va_calli (va_runV (As := [.int y2]) (rest := []) ⟨hx, hb, hml, hown, hts⟩ (tX7_setSource G l eq36) (cwV 1 hts gL_step_X7_setSource rfl rfl rfl (by decide +kernel) ⟨Nat.le_of_ble_eq_true rfl, Nat.le_of_ble_eq_true rfl⟩) ⟨pcW_blind, va_recv hKc hPc (ci := 7) (q0 := 0) rfl rfl, pcW_pre hPc hKK hDc⟩ rfl rfl hl.1 rfl (lv_room (Nat.le_of_ble_eq_true rfl)) dL_step_363 ⟨Nat.zero_le _, Nat.zero_le _⟩) hS (fun q _ h => hFc q h) hFc (fun r0 u t H1 locs ht hvm hw hB hz1 hk1 hS => ?_)
            obtain rfl := hw
            have hB := va_Pto ht hB
            obtain ⟨hP, hD⟩ := jnL (X' := [(qX, .inr (7, [.ref qB, .ref qH, .ref qK, .ref qV, .ref qS, .ref qW])), (qB, .inr (0, [.ref qBT, .ref qBC, .ref qBN, .ref qBW, .ref qBL, .int bn, .int bk, .int q36.2])), (qBT, .inl (G.2.1, 16, .inl bT)), (qBC, .inl (G.2.1, 16, .inl bC)), (qBN, .inl (G.2.1, 64, .inl bN)), (qBW, .inl (G.2.1, 64, .inl bW)), (qBL, .inl (G.2.1, 16, .inl bL)), (qH, .inr (2, [.ref qHM, .int hd, .int hk])), (qHM, .inl (G.2.1, 512, .inl hM)), (qK, .inr (3, [.ref qB, .ref qKC, .ref qKS, .int kp, .int ku])), (qKC, .inl (G.2.1, 32, .inl kC)), (qKS, .inl (G.2.1, 32, .inl kS)), (qV, .inr (5, [.ref qB, .ref qVL, .ref qVS, .ref qVA, .ref qVT])), (qVL, .inl (G.2.1, 16, .inl vL)), (qVS, .inl (G.2.1, 16, .inl vS)), (qVA, .inl (G.2.1, 16, .inl vA)), (qVT, .inl (G.2.1, 16, .inl vT)), (qS, .inr (4, [.ref qB, .ref qV, .ref qSR, .ref qSI, .ref qSP, .ref qSF, .int so, .int sw])), (qSR, .inl (G.2.1, 16, .inl sR)), (qSI, .inl (G.2.1, 16, .inl sI)), (qSP, .inl (G.2.2.2.2, 17, .inr (.inr (.inr (.inr (outR qR)))))), (qSF, .inl (G.2.1, 16, .inl sF)), (qTT, .inl (G.2.1, 64, .inl tT)), (qTW, .inl (G.2.1, 16, .inl tW))]) hP hD hk1 hB [0, 1] rfl rfl rfl rfl
            generalize H1 = H at hP hS ⊢
            refine lv_istore (lv' := [(14, .int q36.1), (6, .int y2), (0, .ref qX), (1, .ref qTT), (2, .ref qTW), (3, .int x3), (4, .int x4), (5, .int x5)]) hx hb dL_step_366 hl (by decide) rfl (fun ls hl => ?_)
            refine lv_iload hx hb dL_step_368 (lv_at hl 0 rfl) ?_
            have J407 : ∀ (v40 : Int32) (w41 : Int32) (w42 : Nat → Int32) (ls : Array Slot) (H : Heap) (locs : List Loc), kL_step_j407 F bn bk bT bC bN bW hd hk hM kp ku kC kS vL vS vA vT so sw sR sI sP sF tT tW v40 w41 w42 = some r → lv_has ls 15 [] → va_P G.1 vwCl ([(qX, .inr (7, [.ref qB, .ref qH, .ref qK, .ref qV, .ref qS, .ref qW])), (qB, .inr (0, [.ref qBT, .ref qBC, .ref qBN, .ref qBW, .ref qBL, .int bn, .int bk, .int w41])), (qBT, .inl (G.2.1, 16, .inl bT)), (qBC, .inl (G.2.1, 16, .inl bC)), (qBN, .inl (G.2.1, 64, .inl bN)), (qBW, .inl (G.2.1, 64, .inl bW)), (qBL, .inl (G.2.1, 16, .inl w42)), (qH, .inr (2, [.ref qHM, .int hd, .int hk])), (qHM, .inl (G.2.1, 512, .inl hM)), (qK, .inr (3, [.ref qB, .ref qKC, .ref qKS, .int kp, .int ku])), (qKC, .inl (G.2.1, 32, .inl kC)), (qKS, .inl (G.2.1, 32, .inl kS)), (qV, .inr (5, [.ref qB, .ref qVL, .ref qVS, .ref qVA, .ref qVT])), (qVL, .inl (G.2.1, 16, .inl vL)), (qVS, .inl (G.2.1, 16, .inl vS)), (qVA, .inl (G.2.1, 16, .inl vA)), (qVT, .inl (G.2.1, 16, .inl vT)), (qS, .inr (4, [.ref qB, .ref qV, .ref qSR, .ref qSI, .ref qSP, .ref qSF, .int so, .int sw])), (qSR, .inl (G.2.1, 16, .inl sR)), (qSI, .inl (G.2.1, 16, .inl sI)), (qSP, .inl (G.2.2.2.2, 17, .inr (.inr (.inr (.inr (outR qR)))))), (qSF, .inl (G.2.1, 16, .inl sF)), (qTT, .inl (G.2.1, 64, .inl tT)), (qTW, .inl (G.2.1, 16, .inl tW))] ++ rws G qR sP) H → va_D A ([(qX, .inr (7, [.ref qB, .ref qH, .ref qK, .ref qV, .ref qS, .ref qW])), (qB, .inr (0, [.ref qBT, .ref qBC, .ref qBN, .ref qBW, .ref qBL, .int bn, .int bk, .int w41])), (qBT, .inl (G.2.1, 16, .inl bT)), (qBC, .inl (G.2.1, 16, .inl bC)), (qBN, .inl (G.2.1, 64, .inl bN)), (qBW, .inl (G.2.1, 64, .inl bW)), (qBL, .inl (G.2.1, 16, .inl w42)), (qH, .inr (2, [.ref qHM, .int hd, .int hk])), (qHM, .inl (G.2.1, 512, .inl hM)), (qK, .inr (3, [.ref qB, .ref qKC, .ref qKS, .int kp, .int ku])), (qKC, .inl (G.2.1, 32, .inl kC)), (qKS, .inl (G.2.1, 32, .inl kS)), (qV, .inr (5, [.ref qB, .ref qVL, .ref qVS, .ref qVA, .ref qVT])), (qVL, .inl (G.2.1, 16, .inl vL)), (qVS, .inl (G.2.1, 16, .inl vS)), (qVA, .inl (G.2.1, 16, .inl vA)), (qVT, .inl (G.2.1, 16, .inl vT)), (qS, .inr (4, [.ref qB, .ref qV, .ref qSR, .ref qSI, .ref qSP, .ref qSF, .int so, .int sw])), (qSR, .inl (G.2.1, 16, .inl sR)), (qSI, .inl (G.2.1, 16, .inl sI)), (qSP, .inl (G.2.2.2.2, 17, .inr (.inr (.inr (.inr (outR qR)))))), (qSF, .inl (G.2.1, 16, .inl sF)), (qTT, .inl (G.2.1, 64, .inl tT)), (qTW, .inl (G.2.1, 16, .inl tW))] ++ rws G qR sP) → va_S A s.heap H locs → W p l e (headSpec wsL_step rmL_step).room s m ([.ref qX, .ref qTT, .ref qTW, .int x3, .int x4, .int x5] : List Value).toArray below meth c H locs 0 0 Q (F0 m 407 ls [.int v40]) := by
              intro v40 w41 w42 ls H locs hq hl hP hD hS
              unfold kL_step_j407 at hq
              replace hq := k_g hq
              obtain ⟨hg, hq⟩ := hq
              obtain rfl := Option.some.inj hq
              rw [hQ]
              exact W.zret hx hb hr (isZ_n hg) (fun t ht hW => ⟨⟨_, (), rfl, rfl, va_Pat ht hP⟩, hS.F ht⟩) hS.2.2 dL_step_407
            refine lv_if_lt (tgt := 406) hx hb dL_step_370 (by decide) (fun c_370 => ?_) (fun c_370 => ?_)
            · replace hq := k_t c_370 hq
              refine lv_iconst (v := 0) hx hb dL_step_406 (by decide) ?_
              exact J407 0 q36.2 bL ls _ _ hq (lv_sub hl [] rfl) hP hD hS
            · replace hq := k_f c_370 hq
              refine lv_iload hx hb dL_step_373 (lv_at hl 0 rfl) ?_
              refine lv_aload_n hx hb dL_step_375 rfl (lv_at hl 2 rfl) ?_
              replace hq := ob hq
              obtain ⟨q43, eq43, hq⟩ := hq
              have hPc := hP.sub (ws' := [(qX, .inr (7, [.ref qB, .ref qH, .ref qK, .ref qV, .ref qS, .ref qW])), (qB, .inr (0, [.ref qBT, .ref qBC, .ref qBN, .ref qBW, .ref qBL, .int bn, .int bk, .int q36.2]))]) [0, 1] rfl
              have hKc := hK
              refine vp_callSi (va_Run.run (va_runV (As := []) (rest := [.int q36.1]) ⟨hx, hb, hml, hown, hts⟩ (tX7_size G l eq43) (cwV 0 hts gL_step_X7_size rfl rfl rfl (by decide +kernel) ⟨Nat.le_of_ble_eq_true rfl, Nat.le_of_ble_eq_true rfl⟩) ⟨pcP_blind, va_recv hKc hPc (ci := 7) (q0 := 0) rfl rfl, pcP_pre hPc hKK⟩ rfl rfl hl.1 rfl (lv_room (Nat.le_of_ble_eq_true rfl)) dL_step_376 ⟨Nat.zero_le _, Nat.zero_le _⟩)) (fun r0 hr0 => ?_)
              obtain rfl := hr0
              refine lv_icmp_ge (tgt := 406) hx hb dL_step_379 (by decide) (fun c_379 => ?_) (fun c_379 => ?_)
              · replace hq := k_t c_379 hq
                refine lv_iconst (v := 0) hx hb dL_step_406 (by decide) ?_
                exact J407 0 q36.2 bL ls _ _ hq (lv_sub hl [] rfl) hP hD hS
              · replace hq := k_f c_379 hq
                refine lv_aload_n hx hb dL_step_382 rfl (lv_at hl 2 rfl) ?_
                refine lv_iload hx hb dL_step_383 (lv_at hl 1 rfl) ?_
                replace hq := ob hq
                obtain ⟨q44, eq44, hq⟩ := hq
                have hPc := hP.sub (ws' := [(qX, .inr (7, [.ref qB, .ref qH, .ref qK, .ref qV, .ref qS, .ref qW])), (qB, .inr (0, [.ref qBT, .ref qBC, .ref qBN, .ref qBW, .ref qBL, .int bn, .int bk, .int q36.2])), (qBT, .inl (G.2.1, 16, .inl bT)), (qBW, .inl (G.2.1, 64, .inl bW)), (qBL, .inl (G.2.1, 16, .inl bL))]) [0, 1, 2, 5, 6] rfl
                have hKc := hK
                have hDc := hD.sub (ws' := [(qX, .inr (7, [.ref qB, .ref qH, .ref qK, .ref qV, .ref qS, .ref qW])), (qB, .inr (0, [.ref qBT, .ref qBC, .ref qBN, .ref qBW, .ref qBL, .int bn, .int bk, .int q36.2])), (qBT, .inl (G.2.1, 16, .inl bT)), (qBW, .inl (G.2.1, 64, .inl bW)), (qBL, .inl (G.2.1, 16, .inl bL))]) [0, 1, 2, 5, 6] (by decide) rfl
                have hFc := va_free (wc := [(qX, .inr (7, [.ref qB, .ref qH, .ref qK, .ref qV, .ref qS, .ref qW])), (qB, .inr (0, [.ref qBT, .ref qBC, .ref qBN, .ref qBW, .ref qBL, .int bn, .int bk, .int q36.2])), (qBT, .inl (G.2.1, 16, .inl bT)), (qBW, .inl (G.2.1, 64, .inl bW)), (qBL, .inl (G.2.1, 16, .inl bL))]) hD hS hA [0, 1, 2, 5, 6] rfl
                refine va_calli (va_runV (As := [.int y2]) (rest := []) ⟨hx, hb, hml, hown, hts⟩ (tX7_isWatered G l eq44) (cwV 1 hts gL_step_X7_isWatered rfl rfl rfl (by decide +kernel) ⟨Nat.le_of_ble_eq_true rfl, Nat.le_of_ble_eq_true rfl⟩) ⟨pcW_blind, va_recv hKc hPc (ci := 7) (q0 := 0) rfl rfl, pcW_pre hPc hKK hDc⟩ rfl rfl hl.1 rfl (lv_room (Nat.le_of_ble_eq_true rfl)) dL_step_385 ⟨Nat.zero_le _, Nat.zero_le _⟩) hS (fun q _ h => hFc q h) hFc (fun r0 u t H1 locs ht hvm hw hB hz1 hk1 hS => ?_)
                obtain rfl := hw
                have hB := va_Pto ht hB
                obtain ⟨hP, hD⟩ := jnL (X' := [(qX, .inr (7, [.ref qB, .ref qH, .ref qK, .ref qV, .ref qS, .ref qW])), (qB, .inr (0, [.ref qBT, .ref qBC, .ref qBN, .ref qBW, .ref qBL, .int bn, .int bk, .int q36.2])), (qBT, .inl (G.2.1, 16, .inl bT)), (qBC, .inl (G.2.1, 16, .inl bC)), (qBN, .inl (G.2.1, 64, .inl bN)), (qBW, .inl (G.2.1, 64, .inl bW)), (qBL, .inl (G.2.1, 16, .inl q44.2)), (qH, .inr (2, [.ref qHM, .int hd, .int hk])), (qHM, .inl (G.2.1, 512, .inl hM)), (qK, .inr (3, [.ref qB, .ref qKC, .ref qKS, .int kp, .int ku])), (qKC, .inl (G.2.1, 32, .inl kC)), (qKS, .inl (G.2.1, 32, .inl kS)), (qV, .inr (5, [.ref qB, .ref qVL, .ref qVS, .ref qVA, .ref qVT])), (qVL, .inl (G.2.1, 16, .inl vL)), (qVS, .inl (G.2.1, 16, .inl vS)), (qVA, .inl (G.2.1, 16, .inl vA)), (qVT, .inl (G.2.1, 16, .inl vT)), (qS, .inr (4, [.ref qB, .ref qV, .ref qSR, .ref qSI, .ref qSP, .ref qSF, .int so, .int sw])), (qSR, .inl (G.2.1, 16, .inl sR)), (qSI, .inl (G.2.1, 16, .inl sI)), (qSP, .inl (G.2.2.2.2, 17, .inr (.inr (.inr (.inr (outR qR)))))), (qSF, .inl (G.2.1, 16, .inl sF)), (qTT, .inl (G.2.1, 64, .inl tT)), (qTW, .inl (G.2.1, 16, .inl tW))]) hP hD hk1 hB [0, 1, 2, 5, 6] rfl rfl rfl rfl
                generalize H1 = H at hP hS ⊢
                refine lv_if_eq (tgt := 406) hx hb dL_step_388 (by decide) (fun c_388 => ?_) (fun c_388 => ?_)
                · replace hq := k_t c_388 hq
                  refine lv_iconst (v := 0) hx hb dL_step_406 (by decide) ?_
                  exact J407 0 q36.2 q44.2 ls _ _ hq (lv_sub hl [] rfl) hP hD hS
                · replace hq := k_f c_388 hq
                  refine lv_aload_n hx hb dL_step_391 rfl (lv_at hl 2 rfl) ?_
                  refine lv_iload hx hb dL_step_392 (lv_at hl 1 rfl) ?_
                  replace hq := ob hq
                  obtain ⟨q45, eq45, hq⟩ := hq
                  have hPc := hP.sub (ws' := [(qX, .inr (7, [.ref qB, .ref qH, .ref qK, .ref qV, .ref qS, .ref qW])), (qB, .inr (0, [.ref qBT, .ref qBC, .ref qBN, .ref qBW, .ref qBL, .int bn, .int bk, .int q36.2]))]) [0, 1] rfl
                  have hKc := hK
                  have hDc := hD.sub (ws' := [(qX, .inr (7, [.ref qB, .ref qH, .ref qK, .ref qV, .ref qS, .ref qW])), (qB, .inr (0, [.ref qBT, .ref qBC, .ref qBN, .ref qBW, .ref qBL, .int bn, .int bk, .int q36.2]))]) [0, 1] (by decide) rfl
                  have hFc := va_free (wc := [(qX, .inr (7, [.ref qB, .ref qH, .ref qK, .ref qV, .ref qS, .ref qW])), (qB, .inr (0, [.ref qBT, .ref qBC, .ref qBN, .ref qBW, .ref qBL, .int bn, .int bk, .int q36.2]))]) hD hS hA [0, 1] rfl
                  refine va_calli (va_runV (As := [.int y2]) (rest := []) ⟨hx, hb, hml, hown, hts⟩ (tX7_setSource G l eq45) (cwV 1 hts gL_step_X7_setSource rfl rfl rfl (by decide +kernel) ⟨Nat.le_of_ble_eq_true rfl, Nat.le_of_ble_eq_true rfl⟩) ⟨pcW_blind, va_recv hKc hPc (ci := 7) (q0 := 0) rfl rfl, pcW_pre hPc hKK hDc⟩ rfl rfl hl.1 rfl (lv_room (Nat.le_of_ble_eq_true rfl)) dL_step_394 ⟨Nat.zero_le _, Nat.zero_le _⟩) hS (fun q _ h => hFc q h) hFc (fun r0 u t H1 locs ht hvm hw hB hz1 hk1 hS => ?_)
                  obtain rfl := hw
                  have hB := va_Pto ht hB
                  obtain ⟨hP, hD⟩ := jnL (X' := [(qX, .inr (7, [.ref qB, .ref qH, .ref qK, .ref qV, .ref qS, .ref qW])), (qB, .inr (0, [.ref qBT, .ref qBC, .ref qBN, .ref qBW, .ref qBL, .int bn, .int bk, .int q45.2])), (qBT, .inl (G.2.1, 16, .inl bT)), (qBC, .inl (G.2.1, 16, .inl bC)), (qBN, .inl (G.2.1, 64, .inl bN)), (qBW, .inl (G.2.1, 64, .inl bW)), (qBL, .inl (G.2.1, 16, .inl q44.2)), (qH, .inr (2, [.ref qHM, .int hd, .int hk])), (qHM, .inl (G.2.1, 512, .inl hM)), (qK, .inr (3, [.ref qB, .ref qKC, .ref qKS, .int kp, .int ku])), (qKC, .inl (G.2.1, 32, .inl kC)), (qKS, .inl (G.2.1, 32, .inl kS)), (qV, .inr (5, [.ref qB, .ref qVL, .ref qVS, .ref qVA, .ref qVT])), (qVL, .inl (G.2.1, 16, .inl vL)), (qVS, .inl (G.2.1, 16, .inl vS)), (qVA, .inl (G.2.1, 16, .inl vA)), (qVT, .inl (G.2.1, 16, .inl vT)), (qS, .inr (4, [.ref qB, .ref qV, .ref qSR, .ref qSI, .ref qSP, .ref qSF, .int so, .int sw])), (qSR, .inl (G.2.1, 16, .inl sR)), (qSI, .inl (G.2.1, 16, .inl sI)), (qSP, .inl (G.2.2.2.2, 17, .inr (.inr (.inr (.inr (outR qR)))))), (qSF, .inl (G.2.1, 16, .inl sF)), (qTT, .inl (G.2.1, 64, .inl tT)), (qTW, .inl (G.2.1, 16, .inl tW))]) hP hD hk1 hB [0, 1] rfl rfl rfl rfl
                  generalize H1 = H at hP hS ⊢
                  refine lv_iload hx hb dL_step_397 (lv_at hl 1 rfl) ?_
                  refine lv_icmp_ne (tgt := 406) hx hb dL_step_399 (by decide) (fun c_399 => ?_) (fun c_399 => ?_)
                  · replace hq := k_f c_399 hq
                    refine lv_iconst (v := 0) hx hb dL_step_406 (by decide) ?_
                    exact J407 0 q45.2 q44.2 ls _ _ hq (lv_sub hl [] rfl) hP hD hS
                  · replace hq := k_t c_399 hq
                    refine lv_iconst (v := 1) hx hb dL_step_402 (by decide) ?_
                    refine lv_goto (tgt := 407) hx hb dL_step_403 (by decide) ?_
                    exact J407 1 q45.2 q44.2 ls _ _ hq (lv_sub hl [] rfl) hP hD hS
          · replace hq := k_f c_13_4 hq
            by_cases c_13_5 : x3 - x3 / 12 * 12 = 5
            · replace hq := k_t c_13_5 hq
              rw [c_13_5]
              refine lv_tableIn (tgt := 408) (off := 395) hx hb dL_step_13 (by decide +kernel) (by decide +kernel) (by decide +kernel) (by decide) ?_
              refine lv_aload_n hx hb dL_step_408 rfl (lv_at hl 1 rfl) ?_
              refine lv_aload_n hx hb dL_step_409 rfl (lv_at hl 2 rfl) ?_
              refine lv_iload hx hb dL_step_410 (lv_at hl 6 rfl) ?_
              refine lv_iconst (v := 2) hx hb dL_step_412 (by decide) ?_
              refine lv_irem hx hb dL_step_413 (by decide) ?_
              refine lv_if_ne (tgt := 421) hx hb dL_step_414 (by decide) (fun c_414 => ?_) (fun c_414 => ?_)
              · replace hq := k_f c_414 hq
                refine lv_iconst (v := 0) hx hb dL_step_421 (by decide) ?_
                replace hq := ob hq
                obtain ⟨q48, eq48, hq⟩ := hq
                have hPc := hP.sub (ws' := [(qX, .inr (7, [.ref qB, .ref qH, .ref qK, .ref qV, .ref qS, .ref qW])), (qB, .inr (0, [.ref qBT, .ref qBC, .ref qBN, .ref qBW, .ref qBL, .int bn, .int bk, .int bs])), (qBT, .inl (G.2.1, 16, .inl bT)), (qH, .inr (2, [.ref qHM, .int hd, .int hk])), (qHM, .inl (G.2.1, 512, .inl hM)), (qTT, .inl (G.2.1, 64, .inl tT))]) [0, 1, 2, 7, 8, 22] rfl
                have hDc := hD.sub (ws' := [(qX, .inr (7, [.ref qB, .ref qH, .ref qK, .ref qV, .ref qS, .ref qW])), (qB, .inr (0, [.ref qBT, .ref qBC, .ref qBN, .ref qBW, .ref qBL, .int bn, .int bk, .int bs])), (qBT, .inl (G.2.1, 16, .inl bT)), (qH, .inr (2, [.ref qHM, .int hd, .int hk])), (qHM, .inl (G.2.1, 512, .inl hM)), (qTT, .inl (G.2.1, 64, .inl tT))]) [0, 1, 2, 7, 8, 22] (by decide) rfl
                have hFc := va_free (wc := [(qX, .inr (7, [.ref qB, .ref qH, .ref qK, .ref qV, .ref qS, .ref qW])), (qB, .inr (0, [.ref qBT, .ref qBC, .ref qBN, .ref qBW, .ref qBL, .int bn, .int bk, .int bs])), (qBT, .inl (G.2.1, 16, .inl bT)), (qH, .inr (2, [.ref qHM, .int hd, .int hk])), (qHM, .inl (G.2.1, 512, .inl hM)), (qTT, .inl (G.2.1, 64, .inl tT))]) hD hS hA [0, 1, 2, 7, 8, 22] rfl
                refine va_calli (va_runS (As := [.ref qX, .ref qTT, .int 0]) (rest := []) ⟨hx, hb, hml, hown, hts⟩ (tL_undoes G l eq48) (va_cwS 3 hts gL_step_L_undoes rfl rfl rfl (by decide +kernel) ⟨Nat.le_of_ble_eq_true rfl, Nat.le_of_ble_eq_true rfl⟩) ⟨pcW_blind, pcW_pre hPc hKK hDc⟩ rfl rfl hl.1 rfl (lv_room (Nat.le_of_ble_eq_true rfl)) dL_step_422 ⟨Nat.zero_le _, Nat.zero_le _⟩) hS (fun q _ h => hFc q h) hFc (fun r0 u t H1 locs ht hvm hw hB hz1 hk1 hS => ?_)
                obtain rfl := hw
                have hB := va_Pto ht hB
                obtain ⟨hP, hD⟩ := jnL (X' := [(qX, .inr (7, [.ref qB, .ref qH, .ref qK, .ref qV, .ref qS, .ref qW])), (qB, .inr (0, [.ref qBT, .ref qBC, .ref qBN, .ref qBW, .ref qBL, .int bn, .int bk, .int bs])), (qBT, .inl (G.2.1, 16, .inl q48.2.1)), (qBC, .inl (G.2.1, 16, .inl bC)), (qBN, .inl (G.2.1, 64, .inl bN)), (qBW, .inl (G.2.1, 64, .inl bW)), (qBL, .inl (G.2.1, 16, .inl bL)), (qH, .inr (2, [.ref qHM, .int q48.2.2.1, .int hk])), (qHM, .inl (G.2.1, 512, .inl hM)), (qK, .inr (3, [.ref qB, .ref qKC, .ref qKS, .int kp, .int ku])), (qKC, .inl (G.2.1, 32, .inl kC)), (qKS, .inl (G.2.1, 32, .inl kS)), (qV, .inr (5, [.ref qB, .ref qVL, .ref qVS, .ref qVA, .ref qVT])), (qVL, .inl (G.2.1, 16, .inl vL)), (qVS, .inl (G.2.1, 16, .inl vS)), (qVA, .inl (G.2.1, 16, .inl vA)), (qVT, .inl (G.2.1, 16, .inl vT)), (qS, .inr (4, [.ref qB, .ref qV, .ref qSR, .ref qSI, .ref qSP, .ref qSF, .int so, .int sw])), (qSR, .inl (G.2.1, 16, .inl sR)), (qSI, .inl (G.2.1, 16, .inl sI)), (qSP, .inl (G.2.2.2.2, 17, .inr (.inr (.inr (.inr (outR qR)))))), (qSF, .inl (G.2.1, 16, .inl sF)), (qTT, .inl (G.2.1, 64, .inl q48.2.2.2)), (qTW, .inl (G.2.1, 16, .inl tW))]) hP hD hk1 hB [0, 1, 2, 7, 8, 22] rfl rfl rfl rfl
                generalize H1 = H at hP hS ⊢
                replace hq := k_g hq
                obtain ⟨hg, hq⟩ := hq
                obtain rfl := Option.some.inj hq
                rw [hQ]
                exact W.zret hx hb hr (isZ_n hg) (fun t ht hW => ⟨⟨_, (), rfl, rfl, va_Pat ht hP⟩, hS.F ht⟩) hS.2.2 dL_step_425
              · replace hq := k_t c_414 hq
                refine lv_iconst (v := 1) hx hb dL_step_417 (by decide) ?_
                refine lv_goto (tgt := 422) hx hb dL_step_418 (by decide) ?_
                replace hq := ob hq
                obtain ⟨q49, eq49, hq⟩ := hq
                have hPc := hP.sub (ws' := [(qX, .inr (7, [.ref qB, .ref qH, .ref qK, .ref qV, .ref qS, .ref qW])), (qB, .inr (0, [.ref qBT, .ref qBC, .ref qBN, .ref qBW, .ref qBL, .int bn, .int bk, .int bs])), (qBT, .inl (G.2.1, 16, .inl bT)), (qH, .inr (2, [.ref qHM, .int hd, .int hk])), (qHM, .inl (G.2.1, 512, .inl hM)), (qTT, .inl (G.2.1, 64, .inl tT))]) [0, 1, 2, 7, 8, 22] rfl
                have hDc := hD.sub (ws' := [(qX, .inr (7, [.ref qB, .ref qH, .ref qK, .ref qV, .ref qS, .ref qW])), (qB, .inr (0, [.ref qBT, .ref qBC, .ref qBN, .ref qBW, .ref qBL, .int bn, .int bk, .int bs])), (qBT, .inl (G.2.1, 16, .inl bT)), (qH, .inr (2, [.ref qHM, .int hd, .int hk])), (qHM, .inl (G.2.1, 512, .inl hM)), (qTT, .inl (G.2.1, 64, .inl tT))]) [0, 1, 2, 7, 8, 22] (by decide) rfl
                have hFc := va_free (wc := [(qX, .inr (7, [.ref qB, .ref qH, .ref qK, .ref qV, .ref qS, .ref qW])), (qB, .inr (0, [.ref qBT, .ref qBC, .ref qBN, .ref qBW, .ref qBL, .int bn, .int bk, .int bs])), (qBT, .inl (G.2.1, 16, .inl bT)), (qH, .inr (2, [.ref qHM, .int hd, .int hk])), (qHM, .inl (G.2.1, 512, .inl hM)), (qTT, .inl (G.2.1, 64, .inl tT))]) hD hS hA [0, 1, 2, 7, 8, 22] rfl
                refine va_calli (va_runS (As := [.ref qX, .ref qTT, .int 1]) (rest := []) ⟨hx, hb, hml, hown, hts⟩ (tL_undoes G l eq49) (va_cwS 3 hts gL_step_L_undoes rfl rfl rfl (by decide +kernel) ⟨Nat.le_of_ble_eq_true rfl, Nat.le_of_ble_eq_true rfl⟩) ⟨pcW_blind, pcW_pre hPc hKK hDc⟩ rfl rfl hl.1 rfl (lv_room (Nat.le_of_ble_eq_true rfl)) dL_step_422 ⟨Nat.zero_le _, Nat.zero_le _⟩) hS (fun q _ h => hFc q h) hFc (fun r0 u t H1 locs ht hvm hw hB hz1 hk1 hS => ?_)
                obtain rfl := hw
                have hB := va_Pto ht hB
                obtain ⟨hP, hD⟩ := jnL (X' := [(qX, .inr (7, [.ref qB, .ref qH, .ref qK, .ref qV, .ref qS, .ref qW])), (qB, .inr (0, [.ref qBT, .ref qBC, .ref qBN, .ref qBW, .ref qBL, .int bn, .int bk, .int bs])), (qBT, .inl (G.2.1, 16, .inl q49.2.1)), (qBC, .inl (G.2.1, 16, .inl bC)), (qBN, .inl (G.2.1, 64, .inl bN)), (qBW, .inl (G.2.1, 64, .inl bW)), (qBL, .inl (G.2.1, 16, .inl bL)), (qH, .inr (2, [.ref qHM, .int q49.2.2.1, .int hk])), (qHM, .inl (G.2.1, 512, .inl hM)), (qK, .inr (3, [.ref qB, .ref qKC, .ref qKS, .int kp, .int ku])), (qKC, .inl (G.2.1, 32, .inl kC)), (qKS, .inl (G.2.1, 32, .inl kS)), (qV, .inr (5, [.ref qB, .ref qVL, .ref qVS, .ref qVA, .ref qVT])), (qVL, .inl (G.2.1, 16, .inl vL)), (qVS, .inl (G.2.1, 16, .inl vS)), (qVA, .inl (G.2.1, 16, .inl vA)), (qVT, .inl (G.2.1, 16, .inl vT)), (qS, .inr (4, [.ref qB, .ref qV, .ref qSR, .ref qSI, .ref qSP, .ref qSF, .int so, .int sw])), (qSR, .inl (G.2.1, 16, .inl sR)), (qSI, .inl (G.2.1, 16, .inl sI)), (qSP, .inl (G.2.2.2.2, 17, .inr (.inr (.inr (.inr (outR qR)))))), (qSF, .inl (G.2.1, 16, .inl sF)), (qTT, .inl (G.2.1, 64, .inl q49.2.2.2)), (qTW, .inl (G.2.1, 16, .inl tW))]) hP hD hk1 hB [0, 1, 2, 7, 8, 22] rfl rfl rfl rfl
                generalize H1 = H at hP hS ⊢
                replace hq := k_g hq
                obtain ⟨hg, hq⟩ := hq
                obtain rfl := Option.some.inj hq
                rw [hQ]
                exact W.zret hx hb hr (isZ_n hg) (fun t ht hW => ⟨⟨_, (), rfl, rfl, va_Pat ht hP⟩, hS.F ht⟩) hS.2.2 dL_step_425
            · replace hq := k_f c_13_5 hq
              refine lv_tableOut (tgt := 426) hx hb dL_step_13 (tb_out5 c_13_0 c_13_1 c_13_2 c_13_3 c_13_4 c_13_5) (by decide) ?_
              refine lv_aload_n hx hb dL_step_426 rfl (lv_at hl 2 rfl) ?_
              refine lv_bipush (v := 16) hx hb dL_step_427 (by decide) ?_
              refine lv_iload hx hb dL_step_429 (lv_at hl 0 rfl) ?_
              refine lv_iadd hx hb dL_step_431 ?_
              replace hq := k_g hq
              obtain ⟨hg, hq⟩ := hq
              refine va_iald hx hb hK hP 22 0 rfl rfl (ix_in hg) dL_step_432 ?_
              refine lv_iconst (v := 1) hx hb dL_step_433 (by decide) ?_
              refine lv_icmp_eq (tgt := 446) hx hb dL_step_434 (by decide) (fun c_434 => ?_) (fun c_434 => ?_)
              · replace hq := k_t c_434 hq
                refine lv_aload_n hx hb dL_step_446 rfl (lv_at hl 1 rfl) ?_
                replace hq := ob hq
                obtain ⟨q50, eq50, hq⟩ := hq
                have hPc := hP.sub (ws' := [(qX, .inr (7, [.ref qB, .ref qH, .ref qK, .ref qV, .ref qS, .ref qW])), (qH, .inr (2, [.ref qHM, .int hd, .int hk]))]) [0, 7] rfl
                have hKc := hK
                refine vp_callSi (va_Run.run (va_runV (As := []) (rest := []) ⟨hx, hb, hml, hown, hts⟩ (tX7_moves G l eq50) (cwV 0 hts gL_step_X7_moves rfl rfl rfl (by decide +kernel) ⟨Nat.le_of_ble_eq_true rfl, Nat.le_of_ble_eq_true rfl⟩) ⟨pcP_blind, va_recv hKc hPc (ci := 7) (q0 := 0) rfl rfl, pcP_pre hPc hKK⟩ rfl rfl hl.1 rfl (lv_room (Nat.le_of_ble_eq_true rfl)) dL_step_447 ⟨Nat.zero_le _, Nat.zero_le _⟩)) (fun r0 hr0 => ?_)
                obtain rfl := hr0
                refine lv_aload_n hx hb dL_step_450 rfl (lv_at hl 2 rfl) ?_
                refine lv_bipush (v := 62) hx hb dL_step_451 (by decide) ?_
                replace hq := k_g hq
                obtain ⟨hg, hq⟩ := hq
                refine va_iald hx hb hK hP 22 0 rfl rfl (ix_in hg) dL_step_453 ?_
                refine lv_icmp_ne (tgt := 461) hx hb dL_step_454 (by decide) (fun c_454 => ?_) (fun c_454 => ?_)
                · replace hq := k_f c_454 hq
                  refine lv_iconst (v := 0) hx hb dL_step_461 (by decide) ?_
                  obtain rfl := Option.some.inj hq
                  rw [hQ]
                  exact W.zret hx hb hr rfl (fun t ht hW => ⟨⟨_, (), rfl, rfl, va_Pat ht hP⟩, hS.F ht⟩) hS.2.2 dL_step_462
                · replace hq := k_t c_454 hq
                  refine lv_iconst (v := 1) hx hb dL_step_457 (by decide) ?_
                  refine lv_goto (tgt := 462) hx hb dL_step_458 (by decide) ?_
                  obtain rfl := Option.some.inj hq
                  rw [hQ]
                  exact W.zret hx hb hr rfl (fun t ht hW => ⟨⟨_, (), rfl, rfl, va_Pat ht hP⟩, hS.F ht⟩) hS.2.2 dL_step_462
              · replace hq := k_f c_434 hq
                refine lv_aload_n hx hb dL_step_437 rfl (lv_at hl 2 rfl) ?_
                refine lv_bipush (v := 62) hx hb dL_step_438 (by decide) ?_
                replace hq := k_g hq
                obtain ⟨hg, hq⟩ := hq
                refine va_iald hx hb hK hP 22 0 rfl rfl (ix_in hg) dL_step_440 ?_
                refine lv_bipush (v := 30) hx hb dL_step_441 (by decide) ?_
                refine lv_icmp_ne (tgt := 463) hx hb dL_step_443 (by decide) (fun c_443 => ?_) (fun c_443 => ?_)
                · replace hq := k_f c_443 hq
                  refine lv_aload_n hx hb dL_step_463 rfl (lv_at hl 2 rfl) ?_
                  refine lv_bipush (v := 32) hx hb dL_step_464 (by decide) ?_
                  refine lv_aload_n hx hb dL_step_466 rfl (lv_at hl 2 rfl) ?_
                  refine lv_bipush (v := 62) hx hb dL_step_467 (by decide) ?_
                  replace hq := k_g hq
                  obtain ⟨hg, hq⟩ := hq
                  refine va_iald hx hb hK hP 22 0 rfl rfl (ix_in hg) dL_step_469 ?_
                  refine lv_iadd hx hb dL_step_470 ?_
                  refine lv_iload hx hb dL_step_471 (lv_at hl 0 rfl) ?_
                  replace hq := k_g hq
                  obtain ⟨hg, hq⟩ := hq
                  refine va_iast hx hb hK hP hD hS 22 0 rfl rfl (ix_in hg) dL_step_473 (fun H locs hP hD hS => ?_)
                  have hP : va_P G.1 vwCl ([(qX, .inr (7, [.ref qB, .ref qH, .ref qK, .ref qV, .ref qS, .ref qW])), (qB, .inr (0, [.ref qBT, .ref qBC, .ref qBN, .ref qBW, .ref qBL, .int bn, .int bk, .int bs])), (qBT, .inl (G.2.1, 16, .inl bT)), (qBC, .inl (G.2.1, 16, .inl bC)), (qBN, .inl (G.2.1, 64, .inl bN)), (qBW, .inl (G.2.1, 64, .inl bW)), (qBL, .inl (G.2.1, 16, .inl bL)), (qH, .inr (2, [.ref qHM, .int hd, .int hk])), (qHM, .inl (G.2.1, 512, .inl hM)), (qK, .inr (3, [.ref qB, .ref qKC, .ref qKS, .int kp, .int ku])), (qKC, .inl (G.2.1, 32, .inl kC)), (qKS, .inl (G.2.1, 32, .inl kS)), (qV, .inr (5, [.ref qB, .ref qVL, .ref qVS, .ref qVA, .ref qVT])), (qVL, .inl (G.2.1, 16, .inl vL)), (qVS, .inl (G.2.1, 16, .inl vS)), (qVA, .inl (G.2.1, 16, .inl vA)), (qVT, .inl (G.2.1, 16, .inl vT)), (qS, .inr (4, [.ref qB, .ref qV, .ref qSR, .ref qSI, .ref qSP, .ref qSF, .int so, .int sw])), (qSR, .inl (G.2.1, 16, .inl sR)), (qSI, .inl (G.2.1, 16, .inl sI)), (qSP, .inl (G.2.2.2.2, 17, .inr (.inr (.inr (.inr (outR qR)))))), (qSF, .inl (G.2.1, 16, .inl sF)), (qTT, .inl (G.2.1, 64, .inl (upd tT (32 + (tT (62 : Int32).toNatClampNeg)).toNatClampNeg y2))), (qTW, .inl (G.2.1, 16, .inl tW))] ++ rws G qR sP) H := hP
                  have hD : va_D A ([(qX, .inr (7, [.ref qB, .ref qH, .ref qK, .ref qV, .ref qS, .ref qW])), (qB, .inr (0, [.ref qBT, .ref qBC, .ref qBN, .ref qBW, .ref qBL, .int bn, .int bk, .int bs])), (qBT, .inl (G.2.1, 16, .inl bT)), (qBC, .inl (G.2.1, 16, .inl bC)), (qBN, .inl (G.2.1, 64, .inl bN)), (qBW, .inl (G.2.1, 64, .inl bW)), (qBL, .inl (G.2.1, 16, .inl bL)), (qH, .inr (2, [.ref qHM, .int hd, .int hk])), (qHM, .inl (G.2.1, 512, .inl hM)), (qK, .inr (3, [.ref qB, .ref qKC, .ref qKS, .int kp, .int ku])), (qKC, .inl (G.2.1, 32, .inl kC)), (qKS, .inl (G.2.1, 32, .inl kS)), (qV, .inr (5, [.ref qB, .ref qVL, .ref qVS, .ref qVA, .ref qVT])), (qVL, .inl (G.2.1, 16, .inl vL)), (qVS, .inl (G.2.1, 16, .inl vS)), (qVA, .inl (G.2.1, 16, .inl vA)), (qVT, .inl (G.2.1, 16, .inl vT)), (qS, .inr (4, [.ref qB, .ref qV, .ref qSR, .ref qSI, .ref qSP, .ref qSF, .int so, .int sw])), (qSR, .inl (G.2.1, 16, .inl sR)), (qSI, .inl (G.2.1, 16, .inl sI)), (qSP, .inl (G.2.2.2.2, 17, .inr (.inr (.inr (.inr (outR qR)))))), (qSF, .inl (G.2.1, 16, .inl sF)), (qTT, .inl (G.2.1, 64, .inl (upd tT (32 + (tT (62 : Int32).toNatClampNeg)).toNatClampNeg y2))), (qTW, .inl (G.2.1, 16, .inl tW))] ++ rws G qR sP) := hD
                  replace hq := ob hq
                  obtain ⟨y52, ey52, hq⟩ := hq
                  have ey52 := Option.some.inj ey52
                  have hP : va_P G.1 vwCl ([(qX, .inr (7, [.ref qB, .ref qH, .ref qK, .ref qV, .ref qS, .ref qW])), (qB, .inr (0, [.ref qBT, .ref qBC, .ref qBN, .ref qBW, .ref qBL, .int bn, .int bk, .int bs])), (qBT, .inl (G.2.1, 16, .inl bT)), (qBC, .inl (G.2.1, 16, .inl bC)), (qBN, .inl (G.2.1, 64, .inl bN)), (qBW, .inl (G.2.1, 64, .inl bW)), (qBL, .inl (G.2.1, 16, .inl bL)), (qH, .inr (2, [.ref qHM, .int hd, .int hk])), (qHM, .inl (G.2.1, 512, .inl hM)), (qK, .inr (3, [.ref qB, .ref qKC, .ref qKS, .int kp, .int ku])), (qKC, .inl (G.2.1, 32, .inl kC)), (qKS, .inl (G.2.1, 32, .inl kS)), (qV, .inr (5, [.ref qB, .ref qVL, .ref qVS, .ref qVA, .ref qVT])), (qVL, .inl (G.2.1, 16, .inl vL)), (qVS, .inl (G.2.1, 16, .inl vS)), (qVA, .inl (G.2.1, 16, .inl vA)), (qVT, .inl (G.2.1, 16, .inl vT)), (qS, .inr (4, [.ref qB, .ref qV, .ref qSR, .ref qSI, .ref qSP, .ref qSF, .int so, .int sw])), (qSR, .inl (G.2.1, 16, .inl sR)), (qSI, .inl (G.2.1, 16, .inl sI)), (qSP, .inl (G.2.2.2.2, 17, .inr (.inr (.inr (.inr (outR qR)))))), (qSF, .inl (G.2.1, 16, .inl sF)), (qTT, .inl (G.2.1, 64, .inl y52)), (qTW, .inl (G.2.1, 16, .inl tW))] ++ rws G qR sP) H := ey52 ▸ hP
                  have hD : va_D A ([(qX, .inr (7, [.ref qB, .ref qH, .ref qK, .ref qV, .ref qS, .ref qW])), (qB, .inr (0, [.ref qBT, .ref qBC, .ref qBN, .ref qBW, .ref qBL, .int bn, .int bk, .int bs])), (qBT, .inl (G.2.1, 16, .inl bT)), (qBC, .inl (G.2.1, 16, .inl bC)), (qBN, .inl (G.2.1, 64, .inl bN)), (qBW, .inl (G.2.1, 64, .inl bW)), (qBL, .inl (G.2.1, 16, .inl bL)), (qH, .inr (2, [.ref qHM, .int hd, .int hk])), (qHM, .inl (G.2.1, 512, .inl hM)), (qK, .inr (3, [.ref qB, .ref qKC, .ref qKS, .int kp, .int ku])), (qKC, .inl (G.2.1, 32, .inl kC)), (qKS, .inl (G.2.1, 32, .inl kS)), (qV, .inr (5, [.ref qB, .ref qVL, .ref qVS, .ref qVA, .ref qVT])), (qVL, .inl (G.2.1, 16, .inl vL)), (qVS, .inl (G.2.1, 16, .inl vS)), (qVA, .inl (G.2.1, 16, .inl vA)), (qVT, .inl (G.2.1, 16, .inl vT)), (qS, .inr (4, [.ref qB, .ref qV, .ref qSR, .ref qSI, .ref qSP, .ref qSF, .int so, .int sw])), (qSR, .inl (G.2.1, 16, .inl sR)), (qSI, .inl (G.2.1, 16, .inl sI)), (qSP, .inl (G.2.2.2.2, 17, .inr (.inr (.inr (.inr (outR qR)))))), (qSF, .inl (G.2.1, 16, .inl sF)), (qTT, .inl (G.2.1, 64, .inl y52)), (qTW, .inl (G.2.1, 16, .inl tW))] ++ rws G qR sP) := ey52 ▸ hD
                  refine lv_aload_n hx hb dL_step_474 rfl (lv_at hl 2 rfl) ?_
                  refine lv_bipush (v := 62) hx hb dL_step_475 (by decide) ?_
                  refine lv_dup2_11 hx hb dL_step_477 rfl rfl ?_
                  replace hq := k_g hq
                  obtain ⟨hg, hq⟩ := hq
                  refine va_iald hx hb hK hP 22 0 rfl rfl (ix_in hg) dL_step_478 ?_
                  refine lv_iconst (v := 1) hx hb dL_step_479 (by decide) ?_
                  refine lv_iadd hx hb dL_step_480 ?_
                  replace hq := k_g hq
                  obtain ⟨hg, hq⟩ := hq
                  refine va_iast hx hb hK hP hD hS 22 0 rfl rfl (ix_in hg) dL_step_481 (fun H locs hP hD hS => ?_)
                  have hP : va_P G.1 vwCl ([(qX, .inr (7, [.ref qB, .ref qH, .ref qK, .ref qV, .ref qS, .ref qW])), (qB, .inr (0, [.ref qBT, .ref qBC, .ref qBN, .ref qBW, .ref qBL, .int bn, .int bk, .int bs])), (qBT, .inl (G.2.1, 16, .inl bT)), (qBC, .inl (G.2.1, 16, .inl bC)), (qBN, .inl (G.2.1, 64, .inl bN)), (qBW, .inl (G.2.1, 64, .inl bW)), (qBL, .inl (G.2.1, 16, .inl bL)), (qH, .inr (2, [.ref qHM, .int hd, .int hk])), (qHM, .inl (G.2.1, 512, .inl hM)), (qK, .inr (3, [.ref qB, .ref qKC, .ref qKS, .int kp, .int ku])), (qKC, .inl (G.2.1, 32, .inl kC)), (qKS, .inl (G.2.1, 32, .inl kS)), (qV, .inr (5, [.ref qB, .ref qVL, .ref qVS, .ref qVA, .ref qVT])), (qVL, .inl (G.2.1, 16, .inl vL)), (qVS, .inl (G.2.1, 16, .inl vS)), (qVA, .inl (G.2.1, 16, .inl vA)), (qVT, .inl (G.2.1, 16, .inl vT)), (qS, .inr (4, [.ref qB, .ref qV, .ref qSR, .ref qSI, .ref qSP, .ref qSF, .int so, .int sw])), (qSR, .inl (G.2.1, 16, .inl sR)), (qSI, .inl (G.2.1, 16, .inl sI)), (qSP, .inl (G.2.2.2.2, 17, .inr (.inr (.inr (.inr (outR qR)))))), (qSF, .inl (G.2.1, 16, .inl sF)), (qTT, .inl (G.2.1, 64, .inl (upd y52 (62 : Int32).toNatClampNeg ((y52 (62 : Int32).toNatClampNeg) + 1)))), (qTW, .inl (G.2.1, 16, .inl tW))] ++ rws G qR sP) H := hP
                  have hD : va_D A ([(qX, .inr (7, [.ref qB, .ref qH, .ref qK, .ref qV, .ref qS, .ref qW])), (qB, .inr (0, [.ref qBT, .ref qBC, .ref qBN, .ref qBW, .ref qBL, .int bn, .int bk, .int bs])), (qBT, .inl (G.2.1, 16, .inl bT)), (qBC, .inl (G.2.1, 16, .inl bC)), (qBN, .inl (G.2.1, 64, .inl bN)), (qBW, .inl (G.2.1, 64, .inl bW)), (qBL, .inl (G.2.1, 16, .inl bL)), (qH, .inr (2, [.ref qHM, .int hd, .int hk])), (qHM, .inl (G.2.1, 512, .inl hM)), (qK, .inr (3, [.ref qB, .ref qKC, .ref qKS, .int kp, .int ku])), (qKC, .inl (G.2.1, 32, .inl kC)), (qKS, .inl (G.2.1, 32, .inl kS)), (qV, .inr (5, [.ref qB, .ref qVL, .ref qVS, .ref qVA, .ref qVT])), (qVL, .inl (G.2.1, 16, .inl vL)), (qVS, .inl (G.2.1, 16, .inl vS)), (qVA, .inl (G.2.1, 16, .inl vA)), (qVT, .inl (G.2.1, 16, .inl vT)), (qS, .inr (4, [.ref qB, .ref qV, .ref qSR, .ref qSI, .ref qSP, .ref qSF, .int so, .int sw])), (qSR, .inl (G.2.1, 16, .inl sR)), (qSI, .inl (G.2.1, 16, .inl sI)), (qSP, .inl (G.2.2.2.2, 17, .inr (.inr (.inr (.inr (outR qR)))))), (qSF, .inl (G.2.1, 16, .inl sF)), (qTT, .inl (G.2.1, 64, .inl (upd y52 (62 : Int32).toNatClampNeg ((y52 (62 : Int32).toNatClampNeg) + 1)))), (qTW, .inl (G.2.1, 16, .inl tW))] ++ rws G qR sP) := hD
                  replace hq := ob hq
                  obtain ⟨y53, ey53, hq⟩ := hq
                  have ey53 := Option.some.inj ey53
                  have hP : va_P G.1 vwCl ([(qX, .inr (7, [.ref qB, .ref qH, .ref qK, .ref qV, .ref qS, .ref qW])), (qB, .inr (0, [.ref qBT, .ref qBC, .ref qBN, .ref qBW, .ref qBL, .int bn, .int bk, .int bs])), (qBT, .inl (G.2.1, 16, .inl bT)), (qBC, .inl (G.2.1, 16, .inl bC)), (qBN, .inl (G.2.1, 64, .inl bN)), (qBW, .inl (G.2.1, 64, .inl bW)), (qBL, .inl (G.2.1, 16, .inl bL)), (qH, .inr (2, [.ref qHM, .int hd, .int hk])), (qHM, .inl (G.2.1, 512, .inl hM)), (qK, .inr (3, [.ref qB, .ref qKC, .ref qKS, .int kp, .int ku])), (qKC, .inl (G.2.1, 32, .inl kC)), (qKS, .inl (G.2.1, 32, .inl kS)), (qV, .inr (5, [.ref qB, .ref qVL, .ref qVS, .ref qVA, .ref qVT])), (qVL, .inl (G.2.1, 16, .inl vL)), (qVS, .inl (G.2.1, 16, .inl vS)), (qVA, .inl (G.2.1, 16, .inl vA)), (qVT, .inl (G.2.1, 16, .inl vT)), (qS, .inr (4, [.ref qB, .ref qV, .ref qSR, .ref qSI, .ref qSP, .ref qSF, .int so, .int sw])), (qSR, .inl (G.2.1, 16, .inl sR)), (qSI, .inl (G.2.1, 16, .inl sI)), (qSP, .inl (G.2.2.2.2, 17, .inr (.inr (.inr (.inr (outR qR)))))), (qSF, .inl (G.2.1, 16, .inl sF)), (qTT, .inl (G.2.1, 64, .inl y53)), (qTW, .inl (G.2.1, 16, .inl tW))] ++ rws G qR sP) H := ey53 ▸ hP
                  have hD : va_D A ([(qX, .inr (7, [.ref qB, .ref qH, .ref qK, .ref qV, .ref qS, .ref qW])), (qB, .inr (0, [.ref qBT, .ref qBC, .ref qBN, .ref qBW, .ref qBL, .int bn, .int bk, .int bs])), (qBT, .inl (G.2.1, 16, .inl bT)), (qBC, .inl (G.2.1, 16, .inl bC)), (qBN, .inl (G.2.1, 64, .inl bN)), (qBW, .inl (G.2.1, 64, .inl bW)), (qBL, .inl (G.2.1, 16, .inl bL)), (qH, .inr (2, [.ref qHM, .int hd, .int hk])), (qHM, .inl (G.2.1, 512, .inl hM)), (qK, .inr (3, [.ref qB, .ref qKC, .ref qKS, .int kp, .int ku])), (qKC, .inl (G.2.1, 32, .inl kC)), (qKS, .inl (G.2.1, 32, .inl kS)), (qV, .inr (5, [.ref qB, .ref qVL, .ref qVS, .ref qVA, .ref qVT])), (qVL, .inl (G.2.1, 16, .inl vL)), (qVS, .inl (G.2.1, 16, .inl vS)), (qVA, .inl (G.2.1, 16, .inl vA)), (qVT, .inl (G.2.1, 16, .inl vT)), (qS, .inr (4, [.ref qB, .ref qV, .ref qSR, .ref qSI, .ref qSP, .ref qSF, .int so, .int sw])), (qSR, .inl (G.2.1, 16, .inl sR)), (qSI, .inl (G.2.1, 16, .inl sI)), (qSP, .inl (G.2.2.2.2, 17, .inr (.inr (.inr (.inr (outR qR)))))), (qSF, .inl (G.2.1, 16, .inl sF)), (qTT, .inl (G.2.1, 64, .inl y53)), (qTW, .inl (G.2.1, 16, .inl tW))] ++ rws G qR sP) := ey53 ▸ hD
                  refine lv_aload_n hx hb dL_step_482 rfl (lv_at hl 2 rfl) ?_
                  refine lv_bipush (v := 63) hx hb dL_step_483 (by decide) ?_
                  refine lv_aload_n hx hb dL_step_485 rfl (lv_at hl 2 rfl) ?_
                  refine lv_bipush (v := 62) hx hb dL_step_486 (by decide) ?_
                  replace hq := k_g hq
                  obtain ⟨hg, hq⟩ := hq
                  refine va_iald hx hb hK hP 22 0 rfl rfl (ix_in hg) dL_step_488 ?_
                  replace hq := k_g hq
                  obtain ⟨hg, hq⟩ := hq
                  refine va_iast hx hb hK hP hD hS 22 0 rfl rfl (ix_in hg) dL_step_489 (fun H locs hP hD hS => ?_)
                  have hP : va_P G.1 vwCl ([(qX, .inr (7, [.ref qB, .ref qH, .ref qK, .ref qV, .ref qS, .ref qW])), (qB, .inr (0, [.ref qBT, .ref qBC, .ref qBN, .ref qBW, .ref qBL, .int bn, .int bk, .int bs])), (qBT, .inl (G.2.1, 16, .inl bT)), (qBC, .inl (G.2.1, 16, .inl bC)), (qBN, .inl (G.2.1, 64, .inl bN)), (qBW, .inl (G.2.1, 64, .inl bW)), (qBL, .inl (G.2.1, 16, .inl bL)), (qH, .inr (2, [.ref qHM, .int hd, .int hk])), (qHM, .inl (G.2.1, 512, .inl hM)), (qK, .inr (3, [.ref qB, .ref qKC, .ref qKS, .int kp, .int ku])), (qKC, .inl (G.2.1, 32, .inl kC)), (qKS, .inl (G.2.1, 32, .inl kS)), (qV, .inr (5, [.ref qB, .ref qVL, .ref qVS, .ref qVA, .ref qVT])), (qVL, .inl (G.2.1, 16, .inl vL)), (qVS, .inl (G.2.1, 16, .inl vS)), (qVA, .inl (G.2.1, 16, .inl vA)), (qVT, .inl (G.2.1, 16, .inl vT)), (qS, .inr (4, [.ref qB, .ref qV, .ref qSR, .ref qSI, .ref qSP, .ref qSF, .int so, .int sw])), (qSR, .inl (G.2.1, 16, .inl sR)), (qSI, .inl (G.2.1, 16, .inl sI)), (qSP, .inl (G.2.2.2.2, 17, .inr (.inr (.inr (.inr (outR qR)))))), (qSF, .inl (G.2.1, 16, .inl sF)), (qTT, .inl (G.2.1, 64, .inl (upd y53 (63 : Int32).toNatClampNeg (y53 (62 : Int32).toNatClampNeg)))), (qTW, .inl (G.2.1, 16, .inl tW))] ++ rws G qR sP) H := hP
                  have hD : va_D A ([(qX, .inr (7, [.ref qB, .ref qH, .ref qK, .ref qV, .ref qS, .ref qW])), (qB, .inr (0, [.ref qBT, .ref qBC, .ref qBN, .ref qBW, .ref qBL, .int bn, .int bk, .int bs])), (qBT, .inl (G.2.1, 16, .inl bT)), (qBC, .inl (G.2.1, 16, .inl bC)), (qBN, .inl (G.2.1, 64, .inl bN)), (qBW, .inl (G.2.1, 64, .inl bW)), (qBL, .inl (G.2.1, 16, .inl bL)), (qH, .inr (2, [.ref qHM, .int hd, .int hk])), (qHM, .inl (G.2.1, 512, .inl hM)), (qK, .inr (3, [.ref qB, .ref qKC, .ref qKS, .int kp, .int ku])), (qKC, .inl (G.2.1, 32, .inl kC)), (qKS, .inl (G.2.1, 32, .inl kS)), (qV, .inr (5, [.ref qB, .ref qVL, .ref qVS, .ref qVA, .ref qVT])), (qVL, .inl (G.2.1, 16, .inl vL)), (qVS, .inl (G.2.1, 16, .inl vS)), (qVA, .inl (G.2.1, 16, .inl vA)), (qVT, .inl (G.2.1, 16, .inl vT)), (qS, .inr (4, [.ref qB, .ref qV, .ref qSR, .ref qSI, .ref qSP, .ref qSF, .int so, .int sw])), (qSR, .inl (G.2.1, 16, .inl sR)), (qSI, .inl (G.2.1, 16, .inl sI)), (qSP, .inl (G.2.2.2.2, 17, .inr (.inr (.inr (.inr (outR qR)))))), (qSF, .inl (G.2.1, 16, .inl sF)), (qTT, .inl (G.2.1, 64, .inl (upd y53 (63 : Int32).toNatClampNeg (y53 (62 : Int32).toNatClampNeg)))), (qTW, .inl (G.2.1, 16, .inl tW))] ++ rws G qR sP) := hD
                  replace hq := ob hq
                  obtain ⟨y54, ey54, hq⟩ := hq
                  have ey54 := Option.some.inj ey54
                  have hP : va_P G.1 vwCl ([(qX, .inr (7, [.ref qB, .ref qH, .ref qK, .ref qV, .ref qS, .ref qW])), (qB, .inr (0, [.ref qBT, .ref qBC, .ref qBN, .ref qBW, .ref qBL, .int bn, .int bk, .int bs])), (qBT, .inl (G.2.1, 16, .inl bT)), (qBC, .inl (G.2.1, 16, .inl bC)), (qBN, .inl (G.2.1, 64, .inl bN)), (qBW, .inl (G.2.1, 64, .inl bW)), (qBL, .inl (G.2.1, 16, .inl bL)), (qH, .inr (2, [.ref qHM, .int hd, .int hk])), (qHM, .inl (G.2.1, 512, .inl hM)), (qK, .inr (3, [.ref qB, .ref qKC, .ref qKS, .int kp, .int ku])), (qKC, .inl (G.2.1, 32, .inl kC)), (qKS, .inl (G.2.1, 32, .inl kS)), (qV, .inr (5, [.ref qB, .ref qVL, .ref qVS, .ref qVA, .ref qVT])), (qVL, .inl (G.2.1, 16, .inl vL)), (qVS, .inl (G.2.1, 16, .inl vS)), (qVA, .inl (G.2.1, 16, .inl vA)), (qVT, .inl (G.2.1, 16, .inl vT)), (qS, .inr (4, [.ref qB, .ref qV, .ref qSR, .ref qSI, .ref qSP, .ref qSF, .int so, .int sw])), (qSR, .inl (G.2.1, 16, .inl sR)), (qSI, .inl (G.2.1, 16, .inl sI)), (qSP, .inl (G.2.2.2.2, 17, .inr (.inr (.inr (.inr (outR qR)))))), (qSF, .inl (G.2.1, 16, .inl sF)), (qTT, .inl (G.2.1, 64, .inl y54)), (qTW, .inl (G.2.1, 16, .inl tW))] ++ rws G qR sP) H := ey54 ▸ hP
                  have hD : va_D A ([(qX, .inr (7, [.ref qB, .ref qH, .ref qK, .ref qV, .ref qS, .ref qW])), (qB, .inr (0, [.ref qBT, .ref qBC, .ref qBN, .ref qBW, .ref qBL, .int bn, .int bk, .int bs])), (qBT, .inl (G.2.1, 16, .inl bT)), (qBC, .inl (G.2.1, 16, .inl bC)), (qBN, .inl (G.2.1, 64, .inl bN)), (qBW, .inl (G.2.1, 64, .inl bW)), (qBL, .inl (G.2.1, 16, .inl bL)), (qH, .inr (2, [.ref qHM, .int hd, .int hk])), (qHM, .inl (G.2.1, 512, .inl hM)), (qK, .inr (3, [.ref qB, .ref qKC, .ref qKS, .int kp, .int ku])), (qKC, .inl (G.2.1, 32, .inl kC)), (qKS, .inl (G.2.1, 32, .inl kS)), (qV, .inr (5, [.ref qB, .ref qVL, .ref qVS, .ref qVA, .ref qVT])), (qVL, .inl (G.2.1, 16, .inl vL)), (qVS, .inl (G.2.1, 16, .inl vS)), (qVA, .inl (G.2.1, 16, .inl vA)), (qVT, .inl (G.2.1, 16, .inl vT)), (qS, .inr (4, [.ref qB, .ref qV, .ref qSR, .ref qSI, .ref qSP, .ref qSF, .int so, .int sw])), (qSR, .inl (G.2.1, 16, .inl sR)), (qSI, .inl (G.2.1, 16, .inl sI)), (qSP, .inl (G.2.2.2.2, 17, .inr (.inr (.inr (.inr (outR qR)))))), (qSF, .inl (G.2.1, 16, .inl sF)), (qTT, .inl (G.2.1, 64, .inl y54)), (qTW, .inl (G.2.1, 16, .inl tW))] ++ rws G qR sP) := ey54 ▸ hD
                  refine lv_aload_n hx hb dL_step_490 rfl (lv_at hl 2 rfl) ?_
                  refine lv_iload hx hb dL_step_491 (lv_at hl 0 rfl) ?_
                  refine lv_aload_n hx hb dL_step_493 rfl (lv_at hl 2 rfl) ?_
                  refine lv_iload hx hb dL_step_494 (lv_at hl 0 rfl) ?_
                  replace hq := k_g hq
                  obtain ⟨hg, hq⟩ := hq
                  refine va_iald hx hb hK hP 22 0 rfl rfl (ix_in hg) dL_step_496 ?_
                  replace hq := ob hq
                  obtain ⟨q55, eq55, hq⟩ := hq
                  have hPc := hP.sub (ws' := []) [] rfl
                  refine vp_callSi (va_Run.run (va_runS (As := [.int (y54 y2.toNatClampNeg)]) (rest := [.int y2, .ref qTT]) ⟨hx, hb, hml, hown, hts⟩ (tL_turned G l eq55) (va_cwS 1 hts gL_step_L_turned rfl rfl rfl (by decide +kernel) ⟨Nat.le_of_ble_eq_true rfl, Nat.le_of_ble_eq_true rfl⟩) ⟨pcP_blind, pcP_pre hPc hKK⟩ rfl rfl hl.1 rfl (lv_room (Nat.le_of_ble_eq_true rfl)) dL_step_497 ⟨Nat.zero_le _, Nat.zero_le _⟩)) (fun r0 hr0 => ?_)
                  obtain rfl := hr0
                  replace hq := k_g hq
                  obtain ⟨hg, hq⟩ := hq
                  refine va_iast hx hb hK hP hD hS 22 0 rfl rfl (ix_in hg) dL_step_500 (fun H locs hP hD hS => ?_)
                  have hP : va_P G.1 vwCl ([(qX, .inr (7, [.ref qB, .ref qH, .ref qK, .ref qV, .ref qS, .ref qW])), (qB, .inr (0, [.ref qBT, .ref qBC, .ref qBN, .ref qBW, .ref qBL, .int bn, .int bk, .int bs])), (qBT, .inl (G.2.1, 16, .inl bT)), (qBC, .inl (G.2.1, 16, .inl bC)), (qBN, .inl (G.2.1, 64, .inl bN)), (qBW, .inl (G.2.1, 64, .inl bW)), (qBL, .inl (G.2.1, 16, .inl bL)), (qH, .inr (2, [.ref qHM, .int hd, .int hk])), (qHM, .inl (G.2.1, 512, .inl hM)), (qK, .inr (3, [.ref qB, .ref qKC, .ref qKS, .int kp, .int ku])), (qKC, .inl (G.2.1, 32, .inl kC)), (qKS, .inl (G.2.1, 32, .inl kS)), (qV, .inr (5, [.ref qB, .ref qVL, .ref qVS, .ref qVA, .ref qVT])), (qVL, .inl (G.2.1, 16, .inl vL)), (qVS, .inl (G.2.1, 16, .inl vS)), (qVA, .inl (G.2.1, 16, .inl vA)), (qVT, .inl (G.2.1, 16, .inl vT)), (qS, .inr (4, [.ref qB, .ref qV, .ref qSR, .ref qSI, .ref qSP, .ref qSF, .int so, .int sw])), (qSR, .inl (G.2.1, 16, .inl sR)), (qSI, .inl (G.2.1, 16, .inl sI)), (qSP, .inl (G.2.2.2.2, 17, .inr (.inr (.inr (.inr (outR qR)))))), (qSF, .inl (G.2.1, 16, .inl sF)), (qTT, .inl (G.2.1, 64, .inl (upd y54 y2.toNatClampNeg q55))), (qTW, .inl (G.2.1, 16, .inl tW))] ++ rws G qR sP) H := hP
                  have hD : va_D A ([(qX, .inr (7, [.ref qB, .ref qH, .ref qK, .ref qV, .ref qS, .ref qW])), (qB, .inr (0, [.ref qBT, .ref qBC, .ref qBN, .ref qBW, .ref qBL, .int bn, .int bk, .int bs])), (qBT, .inl (G.2.1, 16, .inl bT)), (qBC, .inl (G.2.1, 16, .inl bC)), (qBN, .inl (G.2.1, 64, .inl bN)), (qBW, .inl (G.2.1, 64, .inl bW)), (qBL, .inl (G.2.1, 16, .inl bL)), (qH, .inr (2, [.ref qHM, .int hd, .int hk])), (qHM, .inl (G.2.1, 512, .inl hM)), (qK, .inr (3, [.ref qB, .ref qKC, .ref qKS, .int kp, .int ku])), (qKC, .inl (G.2.1, 32, .inl kC)), (qKS, .inl (G.2.1, 32, .inl kS)), (qV, .inr (5, [.ref qB, .ref qVL, .ref qVS, .ref qVA, .ref qVT])), (qVL, .inl (G.2.1, 16, .inl vL)), (qVS, .inl (G.2.1, 16, .inl vS)), (qVA, .inl (G.2.1, 16, .inl vA)), (qVT, .inl (G.2.1, 16, .inl vT)), (qS, .inr (4, [.ref qB, .ref qV, .ref qSR, .ref qSI, .ref qSP, .ref qSF, .int so, .int sw])), (qSR, .inl (G.2.1, 16, .inl sR)), (qSI, .inl (G.2.1, 16, .inl sI)), (qSP, .inl (G.2.2.2.2, 17, .inr (.inr (.inr (.inr (outR qR)))))), (qSF, .inl (G.2.1, 16, .inl sF)), (qTT, .inl (G.2.1, 64, .inl (upd y54 y2.toNatClampNeg q55))), (qTW, .inl (G.2.1, 16, .inl tW))] ++ rws G qR sP) := hD
                  replace hq := ob hq
                  obtain ⟨y56, ey56, hq⟩ := hq
                  have ey56 := Option.some.inj ey56
                  have hP : va_P G.1 vwCl ([(qX, .inr (7, [.ref qB, .ref qH, .ref qK, .ref qV, .ref qS, .ref qW])), (qB, .inr (0, [.ref qBT, .ref qBC, .ref qBN, .ref qBW, .ref qBL, .int bn, .int bk, .int bs])), (qBT, .inl (G.2.1, 16, .inl bT)), (qBC, .inl (G.2.1, 16, .inl bC)), (qBN, .inl (G.2.1, 64, .inl bN)), (qBW, .inl (G.2.1, 64, .inl bW)), (qBL, .inl (G.2.1, 16, .inl bL)), (qH, .inr (2, [.ref qHM, .int hd, .int hk])), (qHM, .inl (G.2.1, 512, .inl hM)), (qK, .inr (3, [.ref qB, .ref qKC, .ref qKS, .int kp, .int ku])), (qKC, .inl (G.2.1, 32, .inl kC)), (qKS, .inl (G.2.1, 32, .inl kS)), (qV, .inr (5, [.ref qB, .ref qVL, .ref qVS, .ref qVA, .ref qVT])), (qVL, .inl (G.2.1, 16, .inl vL)), (qVS, .inl (G.2.1, 16, .inl vS)), (qVA, .inl (G.2.1, 16, .inl vA)), (qVT, .inl (G.2.1, 16, .inl vT)), (qS, .inr (4, [.ref qB, .ref qV, .ref qSR, .ref qSI, .ref qSP, .ref qSF, .int so, .int sw])), (qSR, .inl (G.2.1, 16, .inl sR)), (qSI, .inl (G.2.1, 16, .inl sI)), (qSP, .inl (G.2.2.2.2, 17, .inr (.inr (.inr (.inr (outR qR)))))), (qSF, .inl (G.2.1, 16, .inl sF)), (qTT, .inl (G.2.1, 64, .inl y56)), (qTW, .inl (G.2.1, 16, .inl tW))] ++ rws G qR sP) H := ey56 ▸ hP
                  have hD : va_D A ([(qX, .inr (7, [.ref qB, .ref qH, .ref qK, .ref qV, .ref qS, .ref qW])), (qB, .inr (0, [.ref qBT, .ref qBC, .ref qBN, .ref qBW, .ref qBL, .int bn, .int bk, .int bs])), (qBT, .inl (G.2.1, 16, .inl bT)), (qBC, .inl (G.2.1, 16, .inl bC)), (qBN, .inl (G.2.1, 64, .inl bN)), (qBW, .inl (G.2.1, 64, .inl bW)), (qBL, .inl (G.2.1, 16, .inl bL)), (qH, .inr (2, [.ref qHM, .int hd, .int hk])), (qHM, .inl (G.2.1, 512, .inl hM)), (qK, .inr (3, [.ref qB, .ref qKC, .ref qKS, .int kp, .int ku])), (qKC, .inl (G.2.1, 32, .inl kC)), (qKS, .inl (G.2.1, 32, .inl kS)), (qV, .inr (5, [.ref qB, .ref qVL, .ref qVS, .ref qVA, .ref qVT])), (qVL, .inl (G.2.1, 16, .inl vL)), (qVS, .inl (G.2.1, 16, .inl vS)), (qVA, .inl (G.2.1, 16, .inl vA)), (qVT, .inl (G.2.1, 16, .inl vT)), (qS, .inr (4, [.ref qB, .ref qV, .ref qSR, .ref qSI, .ref qSP, .ref qSF, .int so, .int sw])), (qSR, .inl (G.2.1, 16, .inl sR)), (qSI, .inl (G.2.1, 16, .inl sI)), (qSP, .inl (G.2.2.2.2, 17, .inr (.inr (.inr (.inr (outR qR)))))), (qSF, .inl (G.2.1, 16, .inl sF)), (qTT, .inl (G.2.1, 64, .inl y56)), (qTW, .inl (G.2.1, 16, .inl tW))] ++ rws G qR sP) := ey56 ▸ hD
                  refine lv_aload_n hx hb dL_step_501 rfl (lv_at hl 1 rfl) ?_
                  refine lv_iload hx hb dL_step_502 (lv_at hl 0 rfl) ?_
                  replace hq := ob hq
                  obtain ⟨q57, eq57, hq⟩ := hq
                  have hPc := hP.sub (ws' := [(qX, .inr (7, [.ref qB, .ref qH, .ref qK, .ref qV, .ref qS, .ref qW])), (qB, .inr (0, [.ref qBT, .ref qBC, .ref qBN, .ref qBW, .ref qBL, .int bn, .int bk, .int bs])), (qBT, .inl (G.2.1, 16, .inl bT)), (qH, .inr (2, [.ref qHM, .int hd, .int hk])), (qHM, .inl (G.2.1, 512, .inl hM))]) [0, 1, 2, 7, 8] rfl
                  have hKc := hK
                  have hDc := hD.sub (ws' := [(qX, .inr (7, [.ref qB, .ref qH, .ref qK, .ref qV, .ref qS, .ref qW])), (qB, .inr (0, [.ref qBT, .ref qBC, .ref qBN, .ref qBW, .ref qBL, .int bn, .int bk, .int bs])), (qBT, .inl (G.2.1, 16, .inl bT)), (qH, .inr (2, [.ref qHM, .int hd, .int hk])), (qHM, .inl (G.2.1, 512, .inl hM))]) [0, 1, 2, 7, 8] (by decide) rfl
                  have hFc := va_free (wc := [(qX, .inr (7, [.ref qB, .ref qH, .ref qK, .ref qV, .ref qS, .ref qW])), (qB, .inr (0, [.ref qBT, .ref qBC, .ref qBN, .ref qBW, .ref qBL, .int bn, .int bk, .int bs])), (qBT, .inl (G.2.1, 16, .inl bT)), (qH, .inr (2, [.ref qHM, .int hd, .int hk])), (qHM, .inl (G.2.1, 512, .inl hM))]) hD hS hA [0, 1, 2, 7, 8] rfl
                  refine va_calli (va_runV (As := [.int y2]) (rest := []) ⟨hx, hb, hml, hown, hts⟩ (tX7_turn G l eq57) (cwV 1 hts gL_step_X7_turn rfl rfl rfl (by decide +kernel) ⟨Nat.le_of_ble_eq_true rfl, Nat.le_of_ble_eq_true rfl⟩) ⟨pcW_blind, va_recv hKc hPc (ci := 7) (q0 := 0) rfl rfl, pcW_pre hPc hKK hDc⟩ rfl rfl hl.1 rfl (lv_room (Nat.le_of_ble_eq_true rfl)) dL_step_504 ⟨Nat.zero_le _, Nat.zero_le _⟩) hS (fun q _ h => hFc q h) hFc (fun r0 u t H1 locs ht hvm hw hB hz1 hk1 hS => ?_)
                  obtain rfl := hw
                  have hB := va_Pto ht hB
                  obtain ⟨hP, hD⟩ := jnL (X' := [(qX, .inr (7, [.ref qB, .ref qH, .ref qK, .ref qV, .ref qS, .ref qW])), (qB, .inr (0, [.ref qBT, .ref qBC, .ref qBN, .ref qBW, .ref qBL, .int bn, .int bk, .int bs])), (qBT, .inl (G.2.1, 16, .inl q57.2.1)), (qBC, .inl (G.2.1, 16, .inl bC)), (qBN, .inl (G.2.1, 64, .inl bN)), (qBW, .inl (G.2.1, 64, .inl bW)), (qBL, .inl (G.2.1, 16, .inl bL)), (qH, .inr (2, [.ref qHM, .int q57.2.2.1, .int q57.2.2.2.1])), (qHM, .inl (G.2.1, 512, .inl q57.2.2.2.2)), (qK, .inr (3, [.ref qB, .ref qKC, .ref qKS, .int kp, .int ku])), (qKC, .inl (G.2.1, 32, .inl kC)), (qKS, .inl (G.2.1, 32, .inl kS)), (qV, .inr (5, [.ref qB, .ref qVL, .ref qVS, .ref qVA, .ref qVT])), (qVL, .inl (G.2.1, 16, .inl vL)), (qVS, .inl (G.2.1, 16, .inl vS)), (qVA, .inl (G.2.1, 16, .inl vA)), (qVT, .inl (G.2.1, 16, .inl vT)), (qS, .inr (4, [.ref qB, .ref qV, .ref qSR, .ref qSI, .ref qSP, .ref qSF, .int so, .int sw])), (qSR, .inl (G.2.1, 16, .inl sR)), (qSI, .inl (G.2.1, 16, .inl sI)), (qSP, .inl (G.2.2.2.2, 17, .inr (.inr (.inr (.inr (outR qR)))))), (qSF, .inl (G.2.1, 16, .inl sF)), (qTT, .inl (G.2.1, 64, .inl y56)), (qTW, .inl (G.2.1, 16, .inl tW))]) hP hD hk1 hB [0, 1, 2, 7, 8] rfl rfl rfl rfl
                  generalize H1 = H at hP hS ⊢
                  refine lv_aload_n hx hb dL_step_507 rfl (lv_at hl 2 rfl) ?_
                  refine lv_iload hx hb dL_step_508 (lv_at hl 0 rfl) ?_
                  replace hq := k_g hq
                  obtain ⟨hg, hq⟩ := hq
                  refine va_iald hx hb hK hP 22 0 rfl rfl (ix_in hg) dL_step_510 ?_
                  refine lv_icmp_ne (tgt := 529) hx hb dL_step_511 (by decide) (fun c_511 => ?_) (fun c_511 => ?_)
                  · replace hq := k_f c_511 hq
                    refine lv_iconst (v := 0) hx hb dL_step_529 (by decide) ?_
                    obtain rfl := Option.some.inj hq
                    rw [hQ]
                    exact W.zret hx hb hr rfl (fun t ht hW => ⟨⟨_, (), rfl, rfl, va_Pat ht hP⟩, hS.F ht⟩) hS.2.2 dL_step_530
                  · replace hq := k_t c_511 hq
                    refine lv_aload_n hx hb dL_step_514 rfl (lv_at hl 1 rfl) ?_
                    replace hq := ob hq
                    obtain ⟨q60, eq60, hq⟩ := hq
                    have hPc := hP.sub (ws' := [(qX, .inr (7, [.ref qB, .ref qH, .ref qK, .ref qV, .ref qS, .ref qW])), (qH, .inr (2, [.ref qHM, .int q57.2.2.1, .int q57.2.2.2.1]))]) [0, 7] rfl
                    have hKc := hK
                    refine vp_callSi (va_Run.run (va_runV (As := []) (rest := []) ⟨hx, hb, hml, hown, hts⟩ (tX7_moves G l eq60) (cwV 0 hts gL_step_X7_moves rfl rfl rfl (by decide +kernel) ⟨Nat.le_of_ble_eq_true rfl, Nat.le_of_ble_eq_true rfl⟩) ⟨pcP_blind, va_recv hKc hPc (ci := 7) (q0 := 0) rfl rfl, pcP_pre hPc hKK⟩ rfl rfl hl.1 rfl (lv_room (Nat.le_of_ble_eq_true rfl)) dL_step_515 ⟨Nat.zero_le _, Nat.zero_le _⟩)) (fun r0 hr0 => ?_)
                    obtain rfl := hr0
                    refine lv_aload_n hx hb dL_step_518 rfl (lv_at hl 2 rfl) ?_
                    refine lv_bipush (v := 62) hx hb dL_step_519 (by decide) ?_
                    replace hq := k_g hq
                    obtain ⟨hg, hq⟩ := hq
                    refine va_iald hx hb hK hP 22 0 rfl rfl (ix_in hg) dL_step_521 ?_
                    refine lv_icmp_ne (tgt := 529) hx hb dL_step_522 (by decide) (fun c_522 => ?_) (fun c_522 => ?_)
                    · replace hq := k_f c_522 hq
                      refine lv_iconst (v := 0) hx hb dL_step_529 (by decide) ?_
                      obtain rfl := Option.some.inj hq
                      rw [hQ]
                      exact W.zret hx hb hr rfl (fun t ht hW => ⟨⟨_, (), rfl, rfl, va_Pat ht hP⟩, hS.F ht⟩) hS.2.2 dL_step_530
                    · replace hq := k_t c_522 hq
                      refine lv_iconst (v := 1) hx hb dL_step_525 (by decide) ?_
                      refine lv_goto (tgt := 530) hx hb dL_step_526 (by decide) ?_
                      obtain rfl := Option.some.inj hq
                      rw [hQ]
                      exact W.zret hx hb hr rfl (fun t ht hW => ⟨⟨_, (), rfl, rfl, va_Pat ht hP⟩, hS.F ht⟩) hS.2.2 dL_step_530
                · replace hq := k_t c_443 hq
                  refine lv_aload_n hx hb dL_step_446 rfl (lv_at hl 1 rfl) ?_
                  replace hq := ob hq
                  obtain ⟨q62, eq62, hq⟩ := hq
                  have hPc := hP.sub (ws' := [(qX, .inr (7, [.ref qB, .ref qH, .ref qK, .ref qV, .ref qS, .ref qW])), (qH, .inr (2, [.ref qHM, .int hd, .int hk]))]) [0, 7] rfl
                  have hKc := hK
                  refine vp_callSi (va_Run.run (va_runV (As := []) (rest := []) ⟨hx, hb, hml, hown, hts⟩ (tX7_moves G l eq62) (cwV 0 hts gL_step_X7_moves rfl rfl rfl (by decide +kernel) ⟨Nat.le_of_ble_eq_true rfl, Nat.le_of_ble_eq_true rfl⟩) ⟨pcP_blind, va_recv hKc hPc (ci := 7) (q0 := 0) rfl rfl, pcP_pre hPc hKK⟩ rfl rfl hl.1 rfl (lv_room (Nat.le_of_ble_eq_true rfl)) dL_step_447 ⟨Nat.zero_le _, Nat.zero_le _⟩)) (fun r0 hr0 => ?_)
                  obtain rfl := hr0
                  refine lv_aload_n hx hb dL_step_450 rfl (lv_at hl 2 rfl) ?_
                  refine lv_bipush (v := 62) hx hb dL_step_451 (by decide) ?_
                  replace hq := k_g hq
                  obtain ⟨hg, hq⟩ := hq
                  refine va_iald hx hb hK hP 22 0 rfl rfl (ix_in hg) dL_step_453 ?_
                  refine lv_icmp_ne (tgt := 461) hx hb dL_step_454 (by decide) (fun c_454 => ?_) (fun c_454 => ?_)
                  · replace hq := k_f c_454 hq
                    refine lv_iconst (v := 0) hx hb dL_step_461 (by decide) ?_
                    obtain rfl := Option.some.inj hq
                    rw [hQ]
                    exact W.zret hx hb hr rfl (fun t ht hW => ⟨⟨_, (), rfl, rfl, va_Pat ht hP⟩, hS.F ht⟩) hS.2.2 dL_step_462
                  · replace hq := k_t c_454 hq
                    refine lv_iconst (v := 1) hx hb dL_step_457 (by decide) ?_
                    refine lv_goto (tgt := 462) hx hb dL_step_458 (by decide) ?_
                    obtain rfl := Option.some.inj hq
                    rw [hQ]
                    exact W.zret hx hb hr rfl (fun t ht hW => ⟨⟨_, (), rfl, rfl, va_Pat ht hP⟩, hS.F ht⟩) hS.2.2 dL_step_462
