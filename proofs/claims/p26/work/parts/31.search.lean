/-! the search: what it answers, its contracts (laid by wip/whole/gen.py) -/
def kX4_noteSolution_j56 (F : Nat) (so : Int32) (x2 : Int32) (w2 : Int32) (w3 : Nat → Int32) : Option (Int32 × Int32 × (Nat → Int32)) :=
  some (so + 1, (if x2 < w2 then x2 else w2), w3)
def kX4_noteSolution (F : Nat) (bn : Int32) (so : Int32) (sw : Int32) (sR : Nat → Int32) (sP : Nat → Nat → Int32) (sF : Nat → Int32) (x1 : Int32) (x2 : Int32) : Option (Int32 × Int32 × (Nat → Int32)) :=
  (if x1 < 0 then some (so, sw, sF) else (if 16 < x1 then some (so, sw, sF) else (if ix x1 17 = true then (if ix 0 16 = true then ((kX0_allCells F bn).bind fun q1 => (if (sP x1.toNatClampNeg (0 : Int32).toNatClampNeg) = q1 then (if so = 0 then (if cpok 0 0 16 16 16 = true then kX4_noteSolution_j56 F so x2 x2 (va_cpy sR sF (0 : Int32).toNatClampNeg (0 : Int32).toNatClampNeg (16 : Int32).toNatClampNeg) else none) else kX4_noteSolution_j56 F so x2 sw sF) else some (so, sw, sF))) else none) else none)))
abbrev rmX4_noteSolution : Room := { frames := 1, cells := 0, slots := 0, locals := 80 }
set_option maxHeartbeats 40000000 in
set_option maxRecDepth 100000 in
theorem tX4_noteSolution (G : GG) (l : Launch) {qB qBT qBC qBN qBW qBL qS qV qSR qSI qSP qSF : Nat} {qR : Nat → Nat} {bn : Int32} {bk : Int32} {bs : Int32} {so : Int32} {sw : Int32} {sR : Nat → Int32} {sP : Nat → Nat → Int32} {sF : Nat → Int32} {x1 : Int32} {x2 : Int32} {sz : Nat} {F : Nat} {r : Int32 × Int32 × (Nat → Int32)} (hq : kX4_noteSolution F bn so sw sR sP sF x1 x2 = some r) : Met l yX4_noteSolution wsX4_noteSolution rmX4_noteSolution (pcW G ([(qB, .inr (0, [.ref qBT, .ref qBC, .ref qBN, .ref qBW, .ref qBL, .int bn, .int bk, .int bs])), (qS, .inr (4, [.ref qB, .ref qV, .ref qSR, .ref qSI, .ref qSP, .ref qSF, .int so, .int sw])), (qSR, .inl (G.2.1, 16, .inl sR)), (qSP, .inl (G.2.2.2.2, 17, .inr (.inr (.inr (.inr (outR qR)))))), (qSF, .inl (G.2.1, 16, .inl sF))] ++ rws G qR sP) sz [.ref qS, .int x1, .int x2]) (qcV G ([(qB, .inr (0, [.ref qBT, .ref qBC, .ref qBN, .ref qBW, .ref qBL, .int bn, .int bk, .int bs])), (qS, .inr (4, [.ref qB, .ref qV, .ref qSR, .ref qSI, .ref qSP, .ref qSF, .int r.1, .int r.2.1])), (qSR, .inl (G.2.1, 16, .inl sR)), (qSP, .inl (G.2.2.2.2, 17, .inr (.inr (.inr (.inr (outR qR)))))), (qSF, .inl (G.2.1, 16, .inl r.2.2))] ++ rws G qR sP) (va_A ([(qB, .inr (0, [.ref qBT, .ref qBC, .ref qBN, .ref qBW, .ref qBL, .int bn, .int bk, .int bs])), (qS, .inr (4, [.ref qB, .ref qV, .ref qSR, .ref qSI, .ref qSP, .ref qSF, .int so, .int sw])), (qSR, .inl (G.2.1, 16, .inl sR)), (qSP, .inl (G.2.2.2.2, 17, .inr (.inr (.inr (.inr (outR qR)))))), (qSF, .inl (G.2.1, 16, .inl sF))] ++ rws G qR sP) sz)) 0 0 (va_A ([(qB, .inr (0, [.ref qBT, .ref qBC, .ref qBN, .ref qBW, .ref qBL, .int bn, .int bk, .int bs])), (qS, .inr (4, [.ref qB, .ref qV, .ref qSR, .ref qSI, .ref qSP, .ref qSF, .int so, .int sw])), (qSR, .inl (G.2.1, 16, .inl sR)), (qSP, .inl (G.2.2.2.2, 17, .inr (.inr (.inr (.inr (outR qR)))))), (qSF, .inl (G.2.1, 16, .inl sF))] ++ rws G qR sP) sz) := by
  refine Met.ofW (cc := cX4_noteSolution) (maxL := 3) (ret := none) (by decide) rfl ?_
  intro p e s m args below meth c s₁ B hml hv
  obtain ⟨rfl, hsz, hP, hKK, hD0⟩ := hv
  have hK := hKK.1
  have hx := B.exec
  have hb := B.bytes
  have hr := B.returns
  have hts := atoms_spec (ws := wsX4_noteSolution) B.pre
  have hown : s.vm.findClass RX4 = some m.cls := findClass_of_methodNamed B.named
  have hlocks := B.notSynchronized
  subst hsz
  have hD := hD0.self (sz := s.heap.size)
  generalize hAe : va_A ([(qB, .inr (0, [.ref qBT, .ref qBC, .ref qBN, .ref qBW, .ref qBL, .int bn, .int bk, .int bs])), (qS, .inr (4, [.ref qB, .ref qV, .ref qSR, .ref qSI, .ref qSP, .ref qSF, .int so, .int sw])), (qSR, .inl (G.2.1, 16, .inl sR)), (qSP, .inl (G.2.2.2.2, 17, .inr (.inr (.inr (.inr (outR qR)))))), (qSF, .inl (G.2.1, 16, .inl sF))] ++ rws G qR sP) s.heap.size = A at hD ⊢
  have hA : ∀ q : Nat, s.heap.size ≤ q → A q := fun q h => by rw [← hAe]; exact Or.inr h
  have hS : va_S A s.heap s.heap [] := va_S.rf
  have hl := lv_entry ([.ref qS, .int x1, .int x2] : List Value) (n := 3) (Nat.le_of_ble_eq_true rfl)
  rw [lg_entry_eq]
  generalize (lg_sl ([.ref qS, .int x1, .int x2] : List Value) ++ List.replicate (3 - (lg_sl ([.ref qS, .int x1, .int x2] : List Value)).length) Slot.unset).toArray = ls at hl ⊢
  have hl : lv_has ls 3 [(0, .ref qS), (1, .int x1), (2, .int x2)] := hl
  have hi4 : ∀ w ∈ u_ws RX4 TX4 8, w ∈ wsX4_noteSolution := by decide +kernel
  have hw0 : (Cond.fieldLink RX4 20 "NetPlumber$Search" "parts" "[[I").before #[Value.ref qS, Value.int x1, Value.int x2] s = true := hts _ (by decide +kernel)
  have hw1 : (Cond.fieldLink RX4 26 "NetPlumber$Search" "board" "LNetPlumber$Board;").before #[Value.ref qS, Value.int x1, Value.int x2] s = true := hts _ (by decide +kernel)
  have hw2 : (Cond.fieldLink RX4 34 "NetPlumber$Search" "found" "I").before #[Value.ref qS, Value.int x1, Value.int x2] s = true := hts _ (by decide +kernel)
  have hw3 : (Cond.fieldLink RX4 9 "NetPlumber$Search" "tried" "[I").before #[Value.ref qS, Value.int x1, Value.int x2] s = true := hts _ (by decide +kernel)
  have hw4 : (Cond.fieldLink RX4 23 "NetPlumber$Search" "firstLays" "[I").before #[Value.ref qS, Value.int x1, Value.int x2] s = true := hts _ (by decide +kernel)
  have hw5 : (Cond.methodLink RX4 91 arraycopyName).before #[Value.ref qS, Value.int x1, Value.int x2] s = true := hts _ (by decide +kernel)
  have hw6 : (Cond.native arraycopyName).before #[Value.ref qS, Value.int x1, Value.int x2] s = true := hts _ (by decide +kernel)
  have hw7 : (Cond.static arraycopyName).before #[Value.ref qS, Value.int x1, Value.int x2] s = true := hts _ (by decide +kernel)
  have hw8 : (Cond.initialized "java/lang/System").before #[Value.ref qS, Value.int x1, Value.int x2] s = true := hts _ (by decide +kernel)
  have hw9 : (Cond.fieldLink RX4 38 "NetPlumber$Search" "fewest" "I").before #[Value.ref qS, Value.int x1, Value.int x2] s = true := hts _ (by decide +kernel)
  have hw10 : (Cond.methodLink RX4 105 Lib.Math.min.name).before #[Value.ref qS, Value.int x1, Value.int x2] s = true := hts _ (by decide +kernel)
  have hw11 : (Cond.static Lib.Math.min.name).before #[Value.ref qS, Value.int x1, Value.int x2] s = true := hts _ (by decide +kernel)
  have hw12 : (Cond.initialized "java/lang/Math").before #[Value.ref qS, Value.int x1, Value.int x2] s = true := hts _ (by decide +kernel)
  have hw13 : (Cond.code Lib.Math.min.name Lib.Math.min.code 2 (some .int)).before #[Value.ref qS, Value.int x1, Value.int x2] s = true := hts _ (by decide +kernel)
  refine wq (fun Q hQ => ?_)
  unfold kX4_noteSolution at hq
  refine lv_iload_n hx hb dX4_noteSolution_0 rfl (lv_at hl 1 rfl) ?_
  refine lv_if_lt (tgt := 28) hx hb dX4_noteSolution_1 (by decide) (fun c_1 => ?_) (fun c_1 => ?_)
  · have hq := k_t c_1 hq
    obtain rfl := Option.some.inj hq
    rw [hQ]
    exact W.vret hx hb hr (fun t ht hW => ⟨⟨(), rfl, trivial, va_Pat ht hP⟩, hS.F ht⟩) hS.2.2 dX4_noteSolution_28
  · have hq := k_f c_1 hq
    refine lv_iload_n hx hb dX4_noteSolution_4 rfl (lv_at hl 1 rfl) ?_
    refine lv_bipush (v := 16) hx hb dX4_noteSolution_5 (by decide) ?_
    refine lv_icmp_gt (tgt := 28) hx hb dX4_noteSolution_7 (by decide) (fun c_7 => ?_) (fun c_7 => ?_)
    · have hq := k_t c_7 hq
      obtain rfl := Option.some.inj hq
      rw [hQ]
      exact W.vret hx hb hr (fun t ht hW => ⟨⟨(), rfl, trivial, va_Pat ht hP⟩, hS.F ht⟩) hS.2.2 dX4_noteSolution_28
    · have hq := k_f c_7 hq
      refine lv_aload_n hx hb dX4_noteSolution_10 rfl (lv_at hl 0 rfl) ?_
      refine va_get (D := G.1) (ci := 4) (v := .ref qSP) (C := RX4) (T := TX4) (N := 8) hx hb hts hi4 hown hK hP 1 rfl rfl 4 (by decide) hw0 (fun _ h9 => h9) rfl dX4_noteSolution_11 ?_
      refine lv_iload_n hx hb dX4_noteSolution_14 rfl (lv_at hl 1 rfl) ?_
      obtain ⟨hg, hq⟩ := k_g hq
      have hj15 := ix_lt hg
      refine rw_ld hx hb hK hP 3 rfl hg dX4_noteSolution_15 ?_
      refine lv_iconst (v := 0) hx hb dX4_noteSolution_16 (by decide) ?_
      obtain ⟨hg, hq⟩ := k_g hq
      refine va_iald hx hb hK hP (5 + x1.toNatClampNeg) 0 (rws_get rfl hj15) rfl (ix_in hg) dX4_noteSolution_17 ?_
      refine lv_aload_n hx hb dX4_noteSolution_18 rfl (lv_at hl 0 rfl) ?_
      refine va_get (D := G.1) (ci := 4) (v := .ref qB) (C := RX4) (T := TX4) (N := 8) hx hb hts hi4 hown hK hP 1 rfl rfl 0 (by decide) hw1 (fun _ h9 => h9) rfl dX4_noteSolution_19 ?_
      obtain ⟨q1, eq1, hq⟩ := ob hq
      have hPc := hP.sub (ws' := [(qB, .inr (0, [.ref qBT, .ref qBC, .ref qBN, .ref qBW, .ref qBL, .int bn, .int bk, .int bs]))]) [0] rfl
      have hKc := hK
      refine vp_callSi (va_Run.run (va_runV (As := []) (rest := [.int (sP x1.toNatClampNeg (0 : Int32).toNatClampNeg)]) ⟨hx, hb, hml, hown, hts⟩ (tX0_allCells G l eq1) (cwV 0 hts gX4_noteSolution_X0_allCells rfl rfl rfl (by decide +kernel) ⟨Nat.le_of_ble_eq_true rfl, Nat.le_of_ble_eq_true rfl⟩) ⟨pcP_blind, va_recv hKc hPc (ci := 0) (q0 := 0) rfl rfl, pcP_pre hPc hKK⟩ rfl rfl hl.1 rfl (lv_room (Nat.le_of_ble_eq_true rfl)) dX4_noteSolution_22 ⟨Nat.zero_le _, Nat.zero_le _⟩)) (fun r0 hr0 => ?_)
      obtain rfl := hr0
      refine lv_icmp_eq (tgt := 29) hx hb dX4_noteSolution_25 (by decide) (fun c_25 => ?_) (fun c_25 => ?_)
      · have hq := k_t c_25 hq
        refine lv_aload_n hx hb dX4_noteSolution_29 rfl (lv_at hl 0 rfl) ?_
        refine va_get (D := G.1) (ci := 4) (v := .int so) (C := RX4) (T := TX4) (N := 8) hx hb hts hi4 hown hK hP 1 rfl rfl 6 (by decide) hw2 (fun _ h9 => h9) rfl dX4_noteSolution_30 ?_
        have J56 : ∀ (w2 : Int32) (w3 : Nat → Int32) (ls : Array Slot) (H : Heap) (locs : List Loc), kX4_noteSolution_j56 F so x2 w2 w3 = some r → lv_has ls 3 [(0, .ref qS), (2, .int x2)] → va_P G.1 vwCl ([(qB, .inr (0, [.ref qBT, .ref qBC, .ref qBN, .ref qBW, .ref qBL, .int bn, .int bk, .int bs])), (qS, .inr (4, [.ref qB, .ref qV, .ref qSR, .ref qSI, .ref qSP, .ref qSF, .int so, .int w2])), (qSR, .inl (G.2.1, 16, .inl sR)), (qSP, .inl (G.2.2.2.2, 17, .inr (.inr (.inr (.inr (outR qR)))))), (qSF, .inl (G.2.1, 16, .inl w3))] ++ rws G qR sP) H → va_D A ([(qB, .inr (0, [.ref qBT, .ref qBC, .ref qBN, .ref qBW, .ref qBL, .int bn, .int bk, .int bs])), (qS, .inr (4, [.ref qB, .ref qV, .ref qSR, .ref qSI, .ref qSP, .ref qSF, .int so, .int w2])), (qSR, .inl (G.2.1, 16, .inl sR)), (qSP, .inl (G.2.2.2.2, 17, .inr (.inr (.inr (.inr (outR qR)))))), (qSF, .inl (G.2.1, 16, .inl w3))] ++ rws G qR sP) → va_S A s.heap H locs → W p l e (headSpec wsX4_noteSolution rmX4_noteSolution).room s m ([.ref qS, .int x1, .int x2] : List Value).toArray below meth c H locs 0 0 Q (F0 m 56 ls []) := by
          intro w2 w3 ls H locs hq hl hP hD hS
          unfold kX4_noteSolution_j56 at hq
          refine lv_aload_n hx hb dX4_noteSolution_56 rfl (lv_at hl 0 rfl) ?_
          refine lv_aload_n hx hb dX4_noteSolution_57 rfl (lv_at hl 0 rfl) ?_
          refine va_get (D := G.1) (ci := 4) (v := .int w2) (C := RX4) (T := TX4) (N := 8) hx hb hts hi4 hown hK hP 1 rfl rfl 7 (by decide) hw9 (fun _ h9 => h9) rfl dX4_noteSolution_58 ?_
          refine lv_iload_n hx hb dX4_noteSolution_61 rfl (lv_at hl 1 rfl) ?_
          refine va_mmin hx hb (hml.trans hl.1.symm) hown hw10 hw11 hw12 hw13 (Nat.le_of_ble_eq_true rfl) (Nat.le_of_ble_eq_true rfl) (Nat.zero_le _) (Nat.zero_le _) dX4_noteSolution_62 ?_
          refine va_put (D := G.1) (ci := 4) (v := .int (if x2 < w2 then x2 else w2)) (ty := .int) (C := RX4) (T := TX4) (N := 8) hx hb hts hi4 tyX4 tyX4_ok nmX4 hown hK hP hD hS 1 rfl rfl 7 (by decide) hw9 (fun _ h9 => h9) rfl (by decide +kernel) rfl rfl (Nat.le_of_ble_eq_true rfl) dX4_noteSolution_65 (fun H locs hP hD hS => ?_)
          have hP : va_P G.1 vwCl ([(qB, .inr (0, [.ref qBT, .ref qBC, .ref qBN, .ref qBW, .ref qBL, .int bn, .int bk, .int bs])), (qS, .inr (4, [.ref qB, .ref qV, .ref qSR, .ref qSI, .ref qSP, .ref qSF, .int so, .int (if x2 < w2 then x2 else w2)])), (qSR, .inl (G.2.1, 16, .inl sR)), (qSP, .inl (G.2.2.2.2, 17, .inr (.inr (.inr (.inr (outR qR)))))), (qSF, .inl (G.2.1, 16, .inl w3))] ++ rws G qR sP) H := hP
          have hD : va_D A ([(qB, .inr (0, [.ref qBT, .ref qBC, .ref qBN, .ref qBW, .ref qBL, .int bn, .int bk, .int bs])), (qS, .inr (4, [.ref qB, .ref qV, .ref qSR, .ref qSI, .ref qSP, .ref qSF, .int so, .int (if x2 < w2 then x2 else w2)])), (qSR, .inl (G.2.1, 16, .inl sR)), (qSP, .inl (G.2.2.2.2, 17, .inr (.inr (.inr (.inr (outR qR)))))), (qSF, .inl (G.2.1, 16, .inl w3))] ++ rws G qR sP) := hD
          refine lv_aload_n hx hb dX4_noteSolution_68 rfl (lv_at hl 0 rfl) ?_
          refine lv_dup hx hb dX4_noteSolution_69 rfl ?_
          refine va_get (D := G.1) (ci := 4) (v := .int so) (C := RX4) (T := TX4) (N := 8) hx hb hts hi4 hown hK hP 1 rfl rfl 6 (by decide) hw2 (fun _ h9 => h9) rfl dX4_noteSolution_70 ?_
          refine lv_iconst (v := 1) hx hb dX4_noteSolution_73 (by decide) ?_
          refine lv_iadd hx hb dX4_noteSolution_74 ?_
          refine va_put (D := G.1) (ci := 4) (v := .int (so + 1)) (ty := .int) (C := RX4) (T := TX4) (N := 8) hx hb hts hi4 tyX4 tyX4_ok nmX4 hown hK hP hD hS 1 rfl rfl 6 (by decide) hw2 (fun _ h9 => h9) rfl (by decide +kernel) rfl rfl (Nat.le_of_ble_eq_true rfl) dX4_noteSolution_75 (fun H locs hP hD hS => ?_)
          have hP : va_P G.1 vwCl ([(qB, .inr (0, [.ref qBT, .ref qBC, .ref qBN, .ref qBW, .ref qBL, .int bn, .int bk, .int bs])), (qS, .inr (4, [.ref qB, .ref qV, .ref qSR, .ref qSI, .ref qSP, .ref qSF, .int (so + 1), .int (if x2 < w2 then x2 else w2)])), (qSR, .inl (G.2.1, 16, .inl sR)), (qSP, .inl (G.2.2.2.2, 17, .inr (.inr (.inr (.inr (outR qR)))))), (qSF, .inl (G.2.1, 16, .inl w3))] ++ rws G qR sP) H := hP
          have hD : va_D A ([(qB, .inr (0, [.ref qBT, .ref qBC, .ref qBN, .ref qBW, .ref qBL, .int bn, .int bk, .int bs])), (qS, .inr (4, [.ref qB, .ref qV, .ref qSR, .ref qSI, .ref qSP, .ref qSF, .int (so + 1), .int (if x2 < w2 then x2 else w2)])), (qSR, .inl (G.2.1, 16, .inl sR)), (qSP, .inl (G.2.2.2.2, 17, .inr (.inr (.inr (.inr (outR qR)))))), (qSF, .inl (G.2.1, 16, .inl w3))] ++ rws G qR sP) := hD
          obtain rfl := Option.some.inj hq
          rw [hQ]
          exact W.vret hx hb hr (fun t ht hW => ⟨⟨(), rfl, trivial, va_Pat ht hP⟩, hS.F ht⟩) hS.2.2 dX4_noteSolution_78
        refine lv_if_ne (tgt := 56) hx hb dX4_noteSolution_33 (by decide) (fun c_33 => ?_) (fun c_33 => ?_)
        · have hq := k_f c_33 hq
          exact J56 sw sF ls _ _ hq (lv_sub hl [0, 2] rfl) hP hD hS
        · have hq := k_t c_33 hq
          refine lv_aload_n hx hb dX4_noteSolution_36 rfl (lv_at hl 0 rfl) ?_
          refine va_get (D := G.1) (ci := 4) (v := .ref qSR) (C := RX4) (T := TX4) (N := 8) hx hb hts hi4 hown hK hP 1 rfl rfl 2 (by decide) hw3 (fun _ h9 => h9) rfl dX4_noteSolution_37 ?_
          refine lv_iconst (v := 0) hx hb dX4_noteSolution_40 (by decide) ?_
          refine lv_aload_n hx hb dX4_noteSolution_41 rfl (lv_at hl 0 rfl) ?_
          refine va_get (D := G.1) (ci := 4) (v := .ref qSF) (C := RX4) (T := TX4) (N := 8) hx hb hts hi4 hown hK hP 1 rfl rfl 5 (by decide) hw4 (fun _ h9 => h9) rfl dX4_noteSolution_42 ?_
          refine lv_iconst (v := 0) hx hb dX4_noteSolution_45 (by decide) ?_
          refine lv_bipush (v := 16) hx hb dX4_noteSolution_46 (by decide) ?_
          obtain ⟨hg, hq⟩ := k_g hq
          refine va_copyi hx hb (hml.trans hl.1.symm) hown hw5 hw6 hw7 hw8 hK hP hD hS 2 4 0 0 rfl rfl rfl rfl rfl (cp_1 hg) (cp_2 hg) (cp_3 hg) (cp_4 hg) (cp_5 hg) (fun _ _ => rfl) (Nat.le_of_ble_eq_true rfl) (Nat.le_of_ble_eq_true rfl) dX4_noteSolution_48 (fun H locs hP hD hS => ?_)
          have hP : va_P G.1 vwCl ([(qB, .inr (0, [.ref qBT, .ref qBC, .ref qBN, .ref qBW, .ref qBL, .int bn, .int bk, .int bs])), (qS, .inr (4, [.ref qB, .ref qV, .ref qSR, .ref qSI, .ref qSP, .ref qSF, .int so, .int sw])), (qSR, .inl (G.2.1, 16, .inl sR)), (qSP, .inl (G.2.2.2.2, 17, .inr (.inr (.inr (.inr (outR qR)))))), (qSF, .inl (G.2.1, 16, .inl (va_cpy sR sF (0 : Int32).toNatClampNeg (0 : Int32).toNatClampNeg (16 : Int32).toNatClampNeg)))] ++ rws G qR sP) H := hP
          have hD : va_D A ([(qB, .inr (0, [.ref qBT, .ref qBC, .ref qBN, .ref qBW, .ref qBL, .int bn, .int bk, .int bs])), (qS, .inr (4, [.ref qB, .ref qV, .ref qSR, .ref qSI, .ref qSP, .ref qSF, .int so, .int sw])), (qSR, .inl (G.2.1, 16, .inl sR)), (qSP, .inl (G.2.2.2.2, 17, .inr (.inr (.inr (.inr (outR qR)))))), (qSF, .inl (G.2.1, 16, .inl (va_cpy sR sF (0 : Int32).toNatClampNeg (0 : Int32).toNatClampNeg (16 : Int32).toNatClampNeg)))] ++ rws G qR sP) := hD
          refine lv_aload_n hx hb dX4_noteSolution_51 rfl (lv_at hl 0 rfl) ?_
          refine lv_iload_n hx hb dX4_noteSolution_52 rfl (lv_at hl 2 rfl) ?_
          refine va_put (D := G.1) (ci := 4) (v := .int x2) (ty := .int) (C := RX4) (T := TX4) (N := 8) hx hb hts hi4 tyX4 tyX4_ok nmX4 hown hK hP hD hS 1 rfl rfl 7 (by decide) hw9 (fun _ h9 => h9) rfl (by decide +kernel) rfl rfl (Nat.le_of_ble_eq_true rfl) dX4_noteSolution_53 (fun H locs hP hD hS => ?_)
          have hP : va_P G.1 vwCl ([(qB, .inr (0, [.ref qBT, .ref qBC, .ref qBN, .ref qBW, .ref qBL, .int bn, .int bk, .int bs])), (qS, .inr (4, [.ref qB, .ref qV, .ref qSR, .ref qSI, .ref qSP, .ref qSF, .int so, .int x2])), (qSR, .inl (G.2.1, 16, .inl sR)), (qSP, .inl (G.2.2.2.2, 17, .inr (.inr (.inr (.inr (outR qR)))))), (qSF, .inl (G.2.1, 16, .inl (va_cpy sR sF (0 : Int32).toNatClampNeg (0 : Int32).toNatClampNeg (16 : Int32).toNatClampNeg)))] ++ rws G qR sP) H := hP
          have hD : va_D A ([(qB, .inr (0, [.ref qBT, .ref qBC, .ref qBN, .ref qBW, .ref qBL, .int bn, .int bk, .int bs])), (qS, .inr (4, [.ref qB, .ref qV, .ref qSR, .ref qSI, .ref qSP, .ref qSF, .int so, .int x2])), (qSR, .inl (G.2.1, 16, .inl sR)), (qSP, .inl (G.2.2.2.2, 17, .inr (.inr (.inr (.inr (outR qR)))))), (qSF, .inl (G.2.1, 16, .inl (va_cpy sR sF (0 : Int32).toNatClampNeg (0 : Int32).toNatClampNeg (16 : Int32).toNatClampNeg)))] ++ rws G qR sP) := hD
          exact J56 x2 (va_cpy sR sF (0 : Int32).toNatClampNeg (0 : Int32).toNatClampNeg (16 : Int32).toNatClampNeg) ls _ _ hq (lv_sub hl [0, 2] rfl) hP hD hS
      · have hq := k_f c_25 hq
        obtain rfl := Option.some.inj hq
        rw [hQ]
        exact W.vret hx hb hr (fun t ht hW => ⟨⟨(), rfl, trivial, va_Pat ht hP⟩, hS.F ht⟩) hS.2.2 dX4_noteSolution_28

def kX4_connect_s44 (F : Nat) (bW : Nat → Int32) (sI : Nat → Int32) (x1 : Int32) (s11 : Int32) (s12 : Nat → Nat → Int32) : Option ((Int32 × (Nat → Nat → Int32)) ⊕ (Nat × (Nat → Nat → Int32))) :=
  (if 3 < s11 then some (.inr (1, s12)) else ((kX0_across F bW x1 s11).bind fun q13 => (if q13 = (-1) then some (.inl (s11 + 1, s12)) else (if x1 ≤ q13 then some (.inl (s11 + 1, s12)) else ((kX7_at F 16 sI x1).bind fun q14 => ((kX7_holds F q14 s11).bind fun q15 => (if q15 = 0 then some (.inl (s11 + 1, s12)) else (if ix x1 16 = true then ((kX7_holds F (s12 ((x1 + 1).toNatClampNeg) x1.toNatClampNeg) q13).bind fun q16 => (if q16 = 0 then (if ix x1 16 = true then ((kX7_at F 16 (s12 ((x1 + 1).toNatClampNeg)) q13).bind fun q17 => ((kX4_merge F 16 (s12 ((x1 + 1).toNatClampNeg)) ((s12 ((x1 + 1).toNatClampNeg) x1.toNatClampNeg) ||| q17)).bind fun q18 => some (.inl (s11 + 1, upR s12 ((x1 + 1).toNatClampNeg) q18)))) else none) else some (.inr (0, s12)))) else none))))))))
def kX4_connect (F : Nat) (bn : Int32) (bW : Nat → Int32) (sI : Nat → Int32) (sP : Nat → Nat → Int32) (x1 : Int32) : Option (Int32 × (Nat → Nat → Int32)) :=
  ((kX0_has F bn x1).bind fun q1 => (if q1 = 0 then some (0, sP) else (if ix (x1 + 1) 17 = true then (if ix x1 17 = true then (if cpok 0 0 16 16 16 = true then (if ix x1 16 = true then ((kloop F (fun s_ => kX4_connect_s44 F bW sI x1 s_.1 s_.2) (0, upR (upR sP ((x1 + 1).toNatClampNeg) (va_cpy (sP x1.toNatClampNeg) (sP ((x1 + 1).toNatClampNeg)) (0 : Int32).toNatClampNeg (0 : Int32).toNatClampNeg (16 : Int32).toNatClampNeg)) ((x1 + 1).toNatClampNeg) (upd ((upR sP ((x1 + 1).toNatClampNeg) (va_cpy (sP x1.toNatClampNeg) (sP ((x1 + 1).toNatClampNeg)) (0 : Int32).toNatClampNeg (0 : Int32).toNatClampNeg (16 : Int32).toNatClampNeg)) ((x1 + 1).toNatClampNeg)) x1.toNatClampNeg ((1 : Int32) <<< (x1 &&& 31))))).bind fun q19 => (if q19.1 = 0 then some (0, q19.2) else some (1, q19.2))) else none) else none) else none) else none)))
abbrev rmX4_connect : Room := { frames := 2, cells := 0, slots := 0, locals := 80 }
set_option maxHeartbeats 40000000 in
set_option maxRecDepth 100000 in
theorem tX4_connect (G : GG) (l : Launch) {qB qBT qBC qBN qBW qBL qS qV qSR qSI qSP qSF : Nat} {qR : Nat → Nat} {bn : Int32} {bk : Int32} {bs : Int32} {bW : Nat → Int32} {so : Int32} {sw : Int32} {sI : Nat → Int32} {sP : Nat → Nat → Int32} {x1 : Int32} {sz : Nat} {F : Nat} {r : Int32 × (Nat → Nat → Int32)} (hq : kX4_connect F bn bW sI sP x1 = some r) : Met l yX4_connect wsX4_connect rmX4_connect (pcW G ([(qB, .inr (0, [.ref qBT, .ref qBC, .ref qBN, .ref qBW, .ref qBL, .int bn, .int bk, .int bs])), (qBW, .inl (G.2.1, 64, .inl bW)), (qS, .inr (4, [.ref qB, .ref qV, .ref qSR, .ref qSI, .ref qSP, .ref qSF, .int so, .int sw])), (qSI, .inl (G.2.1, 16, .inl sI)), (qSP, .inl (G.2.2.2.2, 17, .inr (.inr (.inr (.inr (outR qR))))))] ++ rws G qR sP) sz [.ref qS, .int x1]) (qcI G r.1 ([(qB, .inr (0, [.ref qBT, .ref qBC, .ref qBN, .ref qBW, .ref qBL, .int bn, .int bk, .int bs])), (qBW, .inl (G.2.1, 64, .inl bW)), (qS, .inr (4, [.ref qB, .ref qV, .ref qSR, .ref qSI, .ref qSP, .ref qSF, .int so, .int sw])), (qSI, .inl (G.2.1, 16, .inl sI)), (qSP, .inl (G.2.2.2.2, 17, .inr (.inr (.inr (.inr (outR qR))))))] ++ rws G qR r.2) (va_A ([(qB, .inr (0, [.ref qBT, .ref qBC, .ref qBN, .ref qBW, .ref qBL, .int bn, .int bk, .int bs])), (qBW, .inl (G.2.1, 64, .inl bW)), (qS, .inr (4, [.ref qB, .ref qV, .ref qSR, .ref qSI, .ref qSP, .ref qSF, .int so, .int sw])), (qSI, .inl (G.2.1, 16, .inl sI)), (qSP, .inl (G.2.2.2.2, 17, .inr (.inr (.inr (.inr (outR qR))))))] ++ rws G qR sP) sz)) 0 0 (va_A ([(qB, .inr (0, [.ref qBT, .ref qBC, .ref qBN, .ref qBW, .ref qBL, .int bn, .int bk, .int bs])), (qBW, .inl (G.2.1, 64, .inl bW)), (qS, .inr (4, [.ref qB, .ref qV, .ref qSR, .ref qSI, .ref qSP, .ref qSF, .int so, .int sw])), (qSI, .inl (G.2.1, 16, .inl sI)), (qSP, .inl (G.2.2.2.2, 17, .inr (.inr (.inr (.inr (outR qR))))))] ++ rws G qR sP) sz) := by
  refine Met.ofW (cc := cX4_connect) (maxL := 5) (ret := (some .boolean)) (by decide) rfl ?_
  intro p e s m args below meth c s₁ B hml hv
  obtain ⟨rfl, hsz, hP, hKK, hD0⟩ := hv
  have hK := hKK.1
  have hx := B.exec
  have hb := B.bytes
  have hr := B.returns
  have hts := atoms_spec (ws := wsX4_connect) B.pre
  have hown : s.vm.findClass RX4 = some m.cls := findClass_of_methodNamed B.named
  have hlocks := B.notSynchronized
  subst hsz
  have hD := hD0.self (sz := s.heap.size)
  generalize hAe : va_A ([(qB, .inr (0, [.ref qBT, .ref qBC, .ref qBN, .ref qBW, .ref qBL, .int bn, .int bk, .int bs])), (qBW, .inl (G.2.1, 64, .inl bW)), (qS, .inr (4, [.ref qB, .ref qV, .ref qSR, .ref qSI, .ref qSP, .ref qSF, .int so, .int sw])), (qSI, .inl (G.2.1, 16, .inl sI)), (qSP, .inl (G.2.2.2.2, 17, .inr (.inr (.inr (.inr (outR qR))))))] ++ rws G qR sP) s.heap.size = A at hD ⊢
  have hA : ∀ q : Nat, s.heap.size ≤ q → A q := fun q h => by rw [← hAe]; exact Or.inr h
  have hS : va_S A s.heap s.heap [] := va_S.rf
  have hl := lv_entry ([.ref qS, .int x1] : List Value) (n := 5) (Nat.le_of_ble_eq_true rfl)
  rw [lg_entry_eq]
  generalize (lg_sl ([.ref qS, .int x1] : List Value) ++ List.replicate (5 - (lg_sl ([.ref qS, .int x1] : List Value)).length) Slot.unset).toArray = ls at hl ⊢
  have hl : lv_has ls 5 [(0, .ref qS), (1, .int x1)] := hl
  have hi4 : ∀ w ∈ u_ws RX4 TX4 8, w ∈ wsX4_connect := by decide +kernel
  have hw0 : (Cond.fieldLink RX4 26 "NetPlumber$Search" "board" "LNetPlumber$Board;").before #[Value.ref qS, Value.int x1] s = true := hts _ (by decide +kernel)
  have hw1 : (Cond.fieldLink RX4 20 "NetPlumber$Search" "parts" "[[I").before #[Value.ref qS, Value.int x1] s = true := hts _ (by decide +kernel)
  have hw2 : (Cond.methodLink RX4 91 arraycopyName).before #[Value.ref qS, Value.int x1] s = true := hts _ (by decide +kernel)
  have hw3 : (Cond.native arraycopyName).before #[Value.ref qS, Value.int x1] s = true := hts _ (by decide +kernel)
  have hw4 : (Cond.static arraycopyName).before #[Value.ref qS, Value.int x1] s = true := hts _ (by decide +kernel)
  have hw5 : (Cond.initialized "java/lang/System").before #[Value.ref qS, Value.int x1] s = true := hts _ (by decide +kernel)
  have hw6 : (Cond.fieldLink RX4 15 "NetPlumber$Search" "tiles" "[I").before #[Value.ref qS, Value.int x1] s = true := hts _ (by decide +kernel)
  have hw7 : (Cond.initialized RX7).before #[Value.ref qS, Value.int x1] s = true := hts _ (by decide +kernel)
  have hw8 : (Cond.static yX7_at).before #[Value.ref qS, Value.int x1] s = true := hts _ (by decide +kernel)
  have hw9 : (Cond.static yX7_holds).before #[Value.ref qS, Value.int x1] s = true := hts _ (by decide +kernel)
  refine wq (fun Q hQ => ?_)
  unfold kX4_connect at hq
  refine lv_aload_n hx hb dX4_connect_0 rfl (lv_at hl 0 rfl) ?_
  refine va_get (D := G.1) (ci := 4) (v := .ref qB) (C := RX4) (T := TX4) (N := 8) hx hb hts hi4 hown hK hP 2 rfl rfl 0 (by decide) hw0 (fun _ h9 => h9) rfl dX4_connect_1 ?_
  refine lv_iload_n hx hb dX4_connect_4 rfl (lv_at hl 1 rfl) ?_
  obtain ⟨q1, eq1, hq⟩ := ob hq
  have hPc := hP.sub (ws' := [(qB, .inr (0, [.ref qBT, .ref qBC, .ref qBN, .ref qBW, .ref qBL, .int bn, .int bk, .int bs]))]) [0] rfl
  have hKc := hK
  refine vp_callSi (va_Run.run (va_runV (As := [.int x1]) (rest := []) ⟨hx, hb, hml, hown, hts⟩ (tX0_has G l eq1) (cwV 1 hts gX4_connect_X0_has rfl rfl rfl (by decide +kernel) ⟨Nat.le_of_ble_eq_true rfl, Nat.le_of_ble_eq_true rfl⟩) ⟨pcP_blind, va_recv hKc hPc (ci := 0) (q0 := 0) rfl rfl, pcP_pre hPc hKK⟩ rfl rfl hl.1 rfl (lv_room (Nat.le_of_ble_eq_true rfl)) dX4_connect_5 ⟨Nat.zero_le _, Nat.zero_le _⟩)) (fun r0 hr0 => ?_)
  obtain rfl := hr0
  refine lv_if_ne (tgt := 13) hx hb dX4_connect_8 (by decide) (fun c_8 => ?_) (fun c_8 => ?_)
  · have hq := k_f c_8 hq
    refine lv_aload_n hx hb dX4_connect_13 rfl (lv_at hl 0 rfl) ?_
    refine va_get (D := G.1) (ci := 4) (v := .ref qSP) (C := RX4) (T := TX4) (N := 8) hx hb hts hi4 hown hK hP 2 rfl rfl 4 (by decide) hw1 (fun _ h9 => h9) rfl dX4_connect_14 ?_
    refine lv_iload_n hx hb dX4_connect_17 rfl (lv_at hl 1 rfl) ?_
    refine lv_iconst (v := 1) hx hb dX4_connect_18 (by decide) ?_
    refine lv_iadd hx hb dX4_connect_19 ?_
    obtain ⟨hg, hq⟩ := k_g hq
    have hj20 := ix_lt hg
    refine rw_ld hx hb hK hP 4 rfl hg dX4_connect_20 ?_
    refine lv_astore_n (lv' := [(2, .ref (qR ((x1 + 1).toNatClampNeg))), (0, .ref qS), (1, .int x1)]) hx hb dX4_connect_21 rfl hl (by decide) rfl (fun ls hl => ?_)
    refine lv_aload_n hx hb dX4_connect_22 rfl (lv_at hl 1 rfl) ?_
    refine va_get (D := G.1) (ci := 4) (v := .ref qSP) (C := RX4) (T := TX4) (N := 8) hx hb hts hi4 hown hK hP 2 rfl rfl 4 (by decide) hw1 (fun _ h9 => h9) rfl dX4_connect_23 ?_
    refine lv_iload_n hx hb dX4_connect_26 rfl (lv_at hl 2 rfl) ?_
    obtain ⟨hg, hq⟩ := k_g hq
    have hj27 := ix_lt hg
    refine rw_ld hx hb hK hP 4 rfl hg dX4_connect_27 ?_
    refine lv_iconst (v := 0) hx hb dX4_connect_28 (by decide) ?_
    refine lv_aload_n hx hb dX4_connect_29 rfl (lv_at hl 0 rfl) ?_
    refine lv_iconst (v := 0) hx hb dX4_connect_30 (by decide) ?_
    refine lv_bipush (v := 16) hx hb dX4_connect_31 (by decide) ?_
    obtain ⟨hg, hq⟩ := k_g hq
    refine va_copyi hx hb (hml.trans hl.1.symm) hown hw2 hw3 hw4 hw5 hK hP hD hS (5 + x1.toNatClampNeg) (5 + ((x1 + 1).toNatClampNeg)) 0 0 (rws_get rfl hj27) (rws_get rfl hj20) rfl rfl rfl (cp_1 hg) (cp_2 hg) (cp_3 hg) (cp_4 hg) (cp_5 hg) (fun _ _ => rfl) (Nat.le_of_ble_eq_true rfl) (Nat.le_of_ble_eq_true rfl) dX4_connect_33 (fun H locs hP hD hS => ?_)
    have hP : va_P G.1 vwCl ([(qB, .inr (0, [.ref qBT, .ref qBC, .ref qBN, .ref qBW, .ref qBL, .int bn, .int bk, .int bs])), (qBW, .inl (G.2.1, 64, .inl bW)), (qS, .inr (4, [.ref qB, .ref qV, .ref qSR, .ref qSI, .ref qSP, .ref qSF, .int so, .int sw])), (qSI, .inl (G.2.1, 16, .inl sI)), (qSP, .inl (G.2.2.2.2, 17, .inr (.inr (.inr (.inr (outR qR))))))] ++ rws G qR (upR sP ((x1 + 1).toNatClampNeg) (va_cpy (sP x1.toNatClampNeg) (sP ((x1 + 1).toNatClampNeg)) (0 : Int32).toNatClampNeg (0 : Int32).toNatClampNeg (16 : Int32).toNatClampNeg))) H := set_P (rws_set rfl hj20) hP
    have hD : va_D A ([(qB, .inr (0, [.ref qBT, .ref qBC, .ref qBN, .ref qBW, .ref qBL, .int bn, .int bk, .int bs])), (qBW, .inl (G.2.1, 64, .inl bW)), (qS, .inr (4, [.ref qB, .ref qV, .ref qSR, .ref qSI, .ref qSP, .ref qSF, .int so, .int sw])), (qSI, .inl (G.2.1, 16, .inl sI)), (qSP, .inl (G.2.2.2.2, 17, .inr (.inr (.inr (.inr (outR qR))))))] ++ rws G qR (upR sP ((x1 + 1).toNatClampNeg) (va_cpy (sP x1.toNatClampNeg) (sP ((x1 + 1).toNatClampNeg)) (0 : Int32).toNatClampNeg (0 : Int32).toNatClampNeg (16 : Int32).toNatClampNeg))) := set_D (rws_set rfl hj20) hD
    refine lv_aload_n hx hb dX4_connect_36 rfl (lv_at hl 0 rfl) ?_
    refine lv_iload_n hx hb dX4_connect_37 rfl (lv_at hl 2 rfl) ?_
    refine lv_iconst (v := 1) hx hb dX4_connect_38 (by decide) ?_
    refine lv_iload_n hx hb dX4_connect_39 rfl (lv_at hl 2 rfl) ?_
    refine lv_ishl hx hb dX4_connect_40 ?_
    obtain ⟨hg, hq⟩ := k_g hq
    refine va_iast hx hb hK hP hD hS (5 + ((x1 + 1).toNatClampNeg)) 0 (rws_get rfl hj20) rfl (ix_in hg) dX4_connect_41 (fun H locs hP hD hS => ?_)
    have hP : va_P G.1 vwCl ([(qB, .inr (0, [.ref qBT, .ref qBC, .ref qBN, .ref qBW, .ref qBL, .int bn, .int bk, .int bs])), (qBW, .inl (G.2.1, 64, .inl bW)), (qS, .inr (4, [.ref qB, .ref qV, .ref qSR, .ref qSI, .ref qSP, .ref qSF, .int so, .int sw])), (qSI, .inl (G.2.1, 16, .inl sI)), (qSP, .inl (G.2.2.2.2, 17, .inr (.inr (.inr (.inr (outR qR))))))] ++ rws G qR (upR (upR sP ((x1 + 1).toNatClampNeg) (va_cpy (sP x1.toNatClampNeg) (sP ((x1 + 1).toNatClampNeg)) (0 : Int32).toNatClampNeg (0 : Int32).toNatClampNeg (16 : Int32).toNatClampNeg)) ((x1 + 1).toNatClampNeg) (upd ((upR sP ((x1 + 1).toNatClampNeg) (va_cpy (sP x1.toNatClampNeg) (sP ((x1 + 1).toNatClampNeg)) (0 : Int32).toNatClampNeg (0 : Int32).toNatClampNeg (16 : Int32).toNatClampNeg)) ((x1 + 1).toNatClampNeg)) x1.toNatClampNeg ((1 : Int32) <<< (x1 &&& 31))))) H := set_P (rws_set rfl hj20) hP
    have hD : va_D A ([(qB, .inr (0, [.ref qBT, .ref qBC, .ref qBN, .ref qBW, .ref qBL, .int bn, .int bk, .int bs])), (qBW, .inl (G.2.1, 64, .inl bW)), (qS, .inr (4, [.ref qB, .ref qV, .ref qSR, .ref qSI, .ref qSP, .ref qSF, .int so, .int sw])), (qSI, .inl (G.2.1, 16, .inl sI)), (qSP, .inl (G.2.2.2.2, 17, .inr (.inr (.inr (.inr (outR qR))))))] ++ rws G qR (upR (upR sP ((x1 + 1).toNatClampNeg) (va_cpy (sP x1.toNatClampNeg) (sP ((x1 + 1).toNatClampNeg)) (0 : Int32).toNatClampNeg (0 : Int32).toNatClampNeg (16 : Int32).toNatClampNeg)) ((x1 + 1).toNatClampNeg) (upd ((upR sP ((x1 + 1).toNatClampNeg) (va_cpy (sP x1.toNatClampNeg) (sP ((x1 + 1).toNatClampNeg)) (0 : Int32).toNatClampNeg (0 : Int32).toNatClampNeg (16 : Int32).toNatClampNeg)) ((x1 + 1).toNatClampNeg)) x1.toNatClampNeg ((1 : Int32) <<< (x1 &&& 31))))) := set_D (rws_set rfl hj20) hD
    refine lv_iconst (v := 0) hx hb dX4_connect_42 (by decide) ?_
    refine lv_istore_n (lv' := [(3, .int 0), (2, .ref (qR ((x1 + 1).toNatClampNeg))), (0, .ref qS), (1, .int x1)]) hx hb dX4_connect_43 rfl hl (by decide) rfl (fun ls hl => ?_)
    have L44 : ∀ (n : Nat) (s11 : Int32) (s12 : Nat → Nat → Int32) (t_44 : Nat × (Nat → Nat → Int32)) (ls : Array Slot) (H : Heap) (locs : List Loc), kloop n (fun s_ => kX4_connect_s44 F bW sI x1 s_.1 s_.2) (s11, s12) = some t_44 → lv_has ls 5 [(0, .ref qS), (1, .int x1), (2, .ref (qR ((x1 + 1).toNatClampNeg))), (3, .int s11)] → va_P G.1 vwCl ([(qB, .inr (0, [.ref qBT, .ref qBC, .ref qBN, .ref qBW, .ref qBL, .int bn, .int bk, .int bs])), (qBW, .inl (G.2.1, 64, .inl bW)), (qS, .inr (4, [.ref qB, .ref qV, .ref qSR, .ref qSI, .ref qSP, .ref qSF, .int so, .int sw])), (qSI, .inl (G.2.1, 16, .inl sI)), (qSP, .inl (G.2.2.2.2, 17, .inr (.inr (.inr (.inr (outR qR))))))] ++ rws G qR s12) H → va_D A ([(qB, .inr (0, [.ref qBT, .ref qBC, .ref qBN, .ref qBW, .ref qBL, .int bn, .int bk, .int bs])), (qBW, .inl (G.2.1, 64, .inl bW)), (qS, .inr (4, [.ref qB, .ref qV, .ref qSR, .ref qSI, .ref qSP, .ref qSF, .int so, .int sw])), (qSI, .inl (G.2.1, 16, .inl sI)), (qSP, .inl (G.2.2.2.2, 17, .inr (.inr (.inr (.inr (outR qR))))))] ++ rws G qR s12) → va_S A s.heap H locs → (∀ (_ : t_44.1 = 0) (ls : Array Slot) (H : Heap) (locs : List Loc), lv_has ls 5 [] → va_P G.1 vwCl ([(qB, .inr (0, [.ref qBT, .ref qBC, .ref qBN, .ref qBW, .ref qBL, .int bn, .int bk, .int bs])), (qBW, .inl (G.2.1, 64, .inl bW)), (qS, .inr (4, [.ref qB, .ref qV, .ref qSR, .ref qSI, .ref qSP, .ref qSF, .int so, .int sw])), (qSI, .inl (G.2.1, 16, .inl sI)), (qSP, .inl (G.2.2.2.2, 17, .inr (.inr (.inr (.inr (outR qR))))))] ++ rws G qR t_44.2) H → va_D A ([(qB, .inr (0, [.ref qBT, .ref qBC, .ref qBN, .ref qBW, .ref qBL, .int bn, .int bk, .int bs])), (qBW, .inl (G.2.1, 64, .inl bW)), (qS, .inr (4, [.ref qB, .ref qV, .ref qSR, .ref qSI, .ref qSP, .ref qSF, .int so, .int sw])), (qSI, .inl (G.2.1, 16, .inl sI)), (qSP, .inl (G.2.2.2.2, 17, .inr (.inr (.inr (.inr (outR qR))))))] ++ rws G qR t_44.2) → va_S A s.heap H locs → W p l e (headSpec wsX4_connect rmX4_connect).room s m ([.ref qS, .int x1] : List Value).toArray below meth c H locs 0 0 Q (F0 m 98 ls [])) → (∀ (_ : t_44.1 = 1) (ls : Array Slot) (H : Heap) (locs : List Loc), lv_has ls 5 [] → va_P G.1 vwCl ([(qB, .inr (0, [.ref qBT, .ref qBC, .ref qBN, .ref qBW, .ref qBL, .int bn, .int bk, .int bs])), (qBW, .inl (G.2.1, 64, .inl bW)), (qS, .inr (4, [.ref qB, .ref qV, .ref qSR, .ref qSI, .ref qSP, .ref qSF, .int so, .int sw])), (qSI, .inl (G.2.1, 16, .inl sI)), (qSP, .inl (G.2.2.2.2, 17, .inr (.inr (.inr (.inr (outR qR))))))] ++ rws G qR t_44.2) H → va_D A ([(qB, .inr (0, [.ref qBT, .ref qBC, .ref qBN, .ref qBW, .ref qBL, .int bn, .int bk, .int bs])), (qBW, .inl (G.2.1, 64, .inl bW)), (qS, .inr (4, [.ref qB, .ref qV, .ref qSR, .ref qSI, .ref qSP, .ref qSF, .int so, .int sw])), (qSI, .inl (G.2.1, 16, .inl sI)), (qSP, .inl (G.2.2.2.2, 17, .inr (.inr (.inr (.inr (outR qR))))))] ++ rws G qR t_44.2) → va_S A s.heap H locs → W p l e (headSpec wsX4_connect rmX4_connect).room s m ([.ref qS, .int x1] : List Value).toArray below meth c H locs 0 0 Q (F0 m 120 ls [])) → W p l e (headSpec wsX4_connect rmX4_connect).room s m ([.ref qS, .int x1] : List Value).toArray below meth c H locs 0 0 Q (F0 m 44 ls []) := by
      intro n
      induction n with
      | zero => 
        intro s11 s12 t_44 ls H locs hq hl hP hD hS kk44_98 kk44_120
        exact absurd hq kl_0
      | succ n ih44 =>
        intro s11 s12 t_44 ls H locs hq hl hP hD hS kk44_98 kk44_120
        obtain ⟨y_44, hq, hx44⟩ := kl_s hq
        have hq : kX4_connect_s44 F bW sI x1 s11 s12 = some y_44 := hq
        unfold kX4_connect_s44 at hq
        refine lv_iload_n hx hb dX4_connect_44 rfl (lv_at hl 3 rfl) ?_
        refine lv_iconst (v := 3) hx hb dX4_connect_45 (by decide) ?_
        refine lv_icmp_gt (tgt := 120) hx hb dX4_connect_46 (by decide) (fun c_46 => ?_) (fun c_46 => ?_)
        · have hq := k_t c_46 hq
          have et := kl_exit hq hx44
          subst et
          exact kk44_120 rfl ls _ _ (lv_sub hl [] rfl) hP hD hS
        · have hq := k_f c_46 hq
          refine lv_aload_n hx hb dX4_connect_49 rfl (lv_at hl 0 rfl) ?_
          refine va_get (D := G.1) (ci := 4) (v := .ref qB) (C := RX4) (T := TX4) (N := 8) hx hb hts hi4 hown hK hP 2 rfl rfl 0 (by decide) hw0 (fun _ h9 => h9) rfl dX4_connect_50 ?_
          refine lv_iload_n hx hb dX4_connect_53 rfl (lv_at hl 1 rfl) ?_
          refine lv_iload_n hx hb dX4_connect_54 rfl (lv_at hl 3 rfl) ?_
          obtain ⟨q13, eq13, hq⟩ := ob hq
          have hPc := hP.sub (ws' := [(qB, .inr (0, [.ref qBT, .ref qBC, .ref qBN, .ref qBW, .ref qBL, .int bn, .int bk, .int bs])), (qBW, .inl (G.2.1, 64, .inl bW))]) [0, 1] rfl
          have hKc := hK
          refine vp_callSi (va_Run.run (va_runV (As := [.int x1, .int s11]) (rest := []) ⟨hx, hb, hml, hown, hts⟩ (tX0_across G l eq13) (cwV 2 hts gX4_connect_X0_across rfl rfl rfl (by decide +kernel) ⟨Nat.le_of_ble_eq_true rfl, Nat.le_of_ble_eq_true rfl⟩) ⟨pcP_blind, va_recv hKc hPc (ci := 0) (q0 := 0) rfl rfl, pcP_pre hPc hKK⟩ rfl rfl hl.1 rfl (lv_room (Nat.le_of_ble_eq_true rfl)) dX4_connect_55 ⟨Nat.zero_le _, Nat.zero_le _⟩)) (fun r0 hr0 => ?_)
          obtain rfl := hr0
          refine lv_istore (lv' := [(4, .int q13), (0, .ref qS), (1, .int x1), (2, .ref (qR ((x1 + 1).toNatClampNeg))), (3, .int s11)]) hx hb dX4_connect_58 hl (by decide) rfl (fun ls hl => ?_)
          refine lv_iload hx hb dX4_connect_60 (lv_at hl 0 rfl) ?_
          refine lv_iconst (v := (-1)) hx hb dX4_connect_62 (by decide) ?_
          refine lv_icmp_eq (tgt := 114) hx hb dX4_connect_63 (by decide) (fun c_63 => ?_) (fun c_63 => ?_)
          · have hq := k_t c_63 hq
            refine lv_iinc (v := (s11 + 1)) (lv' := [(3, .int (s11 + 1)), (4, .int q13), (0, .ref qS), (1, .int x1), (2, .ref (qR ((x1 + 1).toNatClampNeg)))]) hx hb dX4_connect_114 hl (k := 4) rfl rfl (by decide) rfl (fun ls hl => ?_)
            refine lv_goto (tgt := 44) hx hb dX4_connect_117 (by decide) ?_
            exact ih44 (s11 + 1) s12 t_44 ls _ _ (kl_back hq hx44) (lv_sub hl [2, 3, 4, 0] rfl) hP hD hS kk44_98 kk44_120
          · have hq := k_f c_63 hq
            refine lv_iload hx hb dX4_connect_66 (lv_at hl 0 rfl) ?_
            refine lv_iload_n hx hb dX4_connect_68 rfl (lv_at hl 2 rfl) ?_
            refine lv_icmp_ge (tgt := 114) hx hb dX4_connect_69 (by decide) (fun c_69 => ?_) (fun c_69 => ?_)
            · have hq := k_t c_69 hq
              refine lv_iinc (v := (s11 + 1)) (lv' := [(3, .int (s11 + 1)), (4, .int q13), (0, .ref qS), (1, .int x1), (2, .ref (qR ((x1 + 1).toNatClampNeg)))]) hx hb dX4_connect_114 hl (k := 4) rfl rfl (by decide) rfl (fun ls hl => ?_)
              refine lv_goto (tgt := 44) hx hb dX4_connect_117 (by decide) ?_
              exact ih44 (s11 + 1) s12 t_44 ls _ _ (kl_back hq hx44) (lv_sub hl [2, 3, 4, 0] rfl) hP hD hS kk44_98 kk44_120
            · have hq := k_f c_69 hq
              refine lv_aload_n hx hb dX4_connect_72 rfl (lv_at hl 1 rfl) ?_
              refine va_get (D := G.1) (ci := 4) (v := .ref qSI) (C := RX4) (T := TX4) (N := 8) hx hb hts hi4 hown hK hP 2 rfl rfl 3 (by decide) hw6 (fun _ h9 => h9) rfl dX4_connect_73 ?_
              refine lv_iload_n hx hb dX4_connect_76 rfl (lv_at hl 2 rfl) ?_
              obtain ⟨q14, eq14, hq⟩ := ob hq
              have hPc := hP.sub (ws' := [(qSI, .inl (G.2.1, 16, .inl sI))]) [3] rfl
              refine vp_callSi (va_Run.run (va_runSN (As := [.ref qSI, .int x1]) (rest := []) ⟨hx, hb, hml, hown, hts⟩ (tX7_at G l eq14) ⟨va_cnB 2 hts gX4_connect_X7_at_n45 rfl rfl rfl (hKK.2 _ (List.mem_of_getElem? (i := 15) rfl)) hw7 (by decide +kernel) ⟨Nat.le_of_ble_eq_true rfl, Nat.le_of_ble_eq_true rfl⟩, hw8, trivial⟩ ⟨pcP_blind, pcP_pre hPc hKK⟩ rfl rfl hl.1 rfl (lv_room (Nat.le_of_ble_eq_true rfl)) dX4_connect_77 ⟨Nat.zero_le _, Nat.zero_le _⟩)) (fun r0 hr0 => ?_)
              obtain rfl := hr0
              refine lv_iload_n hx hb dX4_connect_80 rfl (lv_at hl 4 rfl) ?_
              obtain ⟨q15, eq15, hq⟩ := ob hq
              have hPc := hP.sub (ws' := []) [] rfl
              refine vp_callSi (va_Run.run (va_runSN (As := [.int q14, .int s11]) (rest := []) ⟨hx, hb, hml, hown, hts⟩ (tX7_holds G l eq15) ⟨va_cnB 2 hts gX4_connect_X7_holds_n64 rfl rfl rfl (hKK.2 _ (List.mem_of_getElem? (i := 13) rfl)) hw7 (by decide +kernel) ⟨Nat.le_of_ble_eq_true rfl, Nat.le_of_ble_eq_true rfl⟩, hw9, trivial⟩ ⟨pcP_blind, pcP_pre hPc hKK⟩ rfl rfl hl.1 rfl (lv_room (Nat.le_of_ble_eq_true rfl)) dX4_connect_81 ⟨Nat.zero_le _, Nat.zero_le _⟩)) (fun r0 hr0 => ?_)
              obtain rfl := hr0
              refine lv_if_eq (tgt := 114) hx hb dX4_connect_84 (by decide) (fun c_84 => ?_) (fun c_84 => ?_)
              · have hq := k_t c_84 hq
                refine lv_iinc (v := (s11 + 1)) (lv' := [(3, .int (s11 + 1)), (4, .int q13), (0, .ref qS), (1, .int x1), (2, .ref (qR ((x1 + 1).toNatClampNeg)))]) hx hb dX4_connect_114 hl (k := 4) rfl rfl (by decide) rfl (fun ls hl => ?_)
                refine lv_goto (tgt := 44) hx hb dX4_connect_117 (by decide) ?_
                exact ih44 (s11 + 1) s12 t_44 ls _ _ (kl_back hq hx44) (lv_sub hl [2, 3, 4, 0] rfl) hP hD hS kk44_98 kk44_120
              · have hq := k_f c_84 hq
                refine lv_aload_n hx hb dX4_connect_87 rfl (lv_at hl 3 rfl) ?_
                refine lv_iload_n hx hb dX4_connect_88 rfl (lv_at hl 2 rfl) ?_
                obtain ⟨hg, hq⟩ := k_g hq
                refine va_iald hx hb hK hP (5 + ((x1 + 1).toNatClampNeg)) 0 (rws_get rfl hj20) rfl (ix_in hg) dX4_connect_89 ?_
                refine lv_iload hx hb dX4_connect_90 (lv_at hl 0 rfl) ?_
                obtain ⟨q16, eq16, hq⟩ := ob hq
                have hPc := hP.sub (ws' := []) [] rfl
                refine vp_callSi (va_Run.run (va_runSN (As := [.int (s12 ((x1 + 1).toNatClampNeg) x1.toNatClampNeg), .int q13]) (rest := []) ⟨hx, hb, hml, hown, hts⟩ (tX7_holds G l eq16) ⟨va_cnB 2 hts gX4_connect_X7_holds_n64 rfl rfl rfl (hKK.2 _ (List.mem_of_getElem? (i := 13) rfl)) hw7 (by decide +kernel) ⟨Nat.le_of_ble_eq_true rfl, Nat.le_of_ble_eq_true rfl⟩, hw9, trivial⟩ ⟨pcP_blind, pcP_pre hPc hKK⟩ rfl rfl hl.1 rfl (lv_room (Nat.le_of_ble_eq_true rfl)) dX4_connect_92 ⟨Nat.zero_le _, Nat.zero_le _⟩)) (fun r0 hr0 => ?_)
                obtain rfl := hr0
                refine lv_if_eq (tgt := 100) hx hb dX4_connect_95 (by decide) (fun c_95 => ?_) (fun c_95 => ?_)
                · have hq := k_t c_95 hq
                  refine lv_aload_n hx hb dX4_connect_100 rfl (lv_at hl 3 rfl) ?_
                  refine lv_aload_n hx hb dX4_connect_101 rfl (lv_at hl 3 rfl) ?_
                  refine lv_iload_n hx hb dX4_connect_102 rfl (lv_at hl 2 rfl) ?_
                  obtain ⟨hg, hq⟩ := k_g hq
                  refine va_iald hx hb hK hP (5 + ((x1 + 1).toNatClampNeg)) 0 (rws_get rfl hj20) rfl (ix_in hg) dX4_connect_103 ?_
                  refine lv_aload_n hx hb dX4_connect_104 rfl (lv_at hl 3 rfl) ?_
                  refine lv_iload hx hb dX4_connect_105 (lv_at hl 0 rfl) ?_
                  obtain ⟨q17, eq17, hq⟩ := ob hq
                  have hPc := hP.sub (ws' := [(qR ((x1 + 1).toNatClampNeg), .inl (G.2.1, 16, .inl (s12 ((x1 + 1).toNatClampNeg))))]) [5 + ((x1 + 1).toNatClampNeg)] (sub1 (rws_get rfl hj20))
                  refine vp_callSi (va_Run.run (va_runSN (As := [.ref (qR ((x1 + 1).toNatClampNeg)), .int q13]) (rest := [.int (s12 ((x1 + 1).toNatClampNeg) x1.toNatClampNeg), .ref (qR ((x1 + 1).toNatClampNeg))]) ⟨hx, hb, hml, hown, hts⟩ (tX7_at G l eq17) ⟨va_cnB 2 hts gX4_connect_X7_at_n45 rfl rfl rfl (hKK.2 _ (List.mem_of_getElem? (i := 15) rfl)) hw7 (by decide +kernel) ⟨Nat.le_of_ble_eq_true rfl, Nat.le_of_ble_eq_true rfl⟩, hw8, trivial⟩ ⟨pcP_blind, pcP_pre hPc hKK⟩ rfl rfl hl.1 rfl (lv_room (Nat.le_of_ble_eq_true rfl)) dX4_connect_107 ⟨Nat.zero_le _, Nat.zero_le _⟩)) (fun r0 hr0 => ?_)
                  obtain rfl := hr0
                  refine lv_ior hx hb dX4_connect_110 ?_
                  obtain ⟨q18, eq18, hq⟩ := ob hq
                  have hPc := hP.sub (ws' := [(qR ((x1 + 1).toNatClampNeg), .inl (G.2.1, 16, .inl (s12 ((x1 + 1).toNatClampNeg))))]) [5 + ((x1 + 1).toNatClampNeg)] (sub1 (rws_get rfl hj20))
                  have hDc := hD.sub (ws' := [(qR ((x1 + 1).toNatClampNeg), .inl (G.2.1, 16, .inl (s12 ((x1 + 1).toNatClampNeg))))]) [5 + ((x1 + 1).toNatClampNeg)] rfl (map1 (rws_get rfl hj20))
                  have hFc := va_free (wc := [(qR ((x1 + 1).toNatClampNeg), .inl (G.2.1, 16, .inl (s12 ((x1 + 1).toNatClampNeg))))]) hD hS hA [5 + ((x1 + 1).toNatClampNeg)] (map1 (rws_get rfl hj20))
                  refine va_callv (va_runS (As := [.ref (qR ((x1 + 1).toNatClampNeg)), .int ((s12 ((x1 + 1).toNatClampNeg) x1.toNatClampNeg) ||| q17)]) (rest := []) ⟨hx, hb, hml, hown, hts⟩ (tX4_merge G l eq18) (va_cwS 2 hts gX4_connect_X4_merge rfl rfl rfl (by decide +kernel) ⟨Nat.le_of_ble_eq_true rfl, Nat.le_of_ble_eq_true rfl⟩) ⟨pcW_blind, pcW_pre hPc hKK hDc⟩ rfl rfl hl.1 rfl (lv_room (Nat.le_of_ble_eq_true rfl)) dX4_connect_111 ⟨Nat.zero_le _, Nat.zero_le _⟩) hS (fun q _ h => hFc q h) hFc (fun u t H1 locs ht hvm hw hB hz1 hk1 hS => ?_)
                  have hB := va_Pto ht hB
                  obtain ⟨hP, hD⟩ := jn (ws' := ([(qB, .inr (0, [.ref qBT, .ref qBC, .ref qBN, .ref qBW, .ref qBL, .int bn, .int bk, .int bs])), (qBW, .inl (G.2.1, 64, .inl bW)), (qS, .inr (4, [.ref qB, .ref qV, .ref qSR, .ref qSI, .ref qSP, .ref qSF, .int so, .int sw])), (qSI, .inl (G.2.1, 16, .inl sI)), (qSP, .inl (G.2.2.2.2, 17, .inr (.inr (.inr (.inr (outR qR))))))] ++ rws G qR (upR s12 ((x1 + 1).toNatClampNeg) q18))) hP hD hk1 hB [5 + ((x1 + 1).toNatClampNeg)] (map1 (rws_get rfl hj20)) rfl (rws_set rfl hj20).symm rfl
                  generalize H1 = H at hP hS ⊢
                  refine lv_iinc (v := (s11 + 1)) (lv' := [(3, .int (s11 + 1)), (4, .int q13), (0, .ref qS), (1, .int x1), (2, .ref (qR ((x1 + 1).toNatClampNeg)))]) hx hb dX4_connect_114 hl (k := 4) rfl rfl (by decide) rfl (fun ls hl => ?_)
                  refine lv_goto (tgt := 44) hx hb dX4_connect_117 (by decide) ?_
                  exact ih44 (s11 + 1) (upR s12 ((x1 + 1).toNatClampNeg) q18) t_44 ls _ _ (kl_back hq hx44) (lv_sub hl [2, 3, 4, 0] rfl) hP hD hS kk44_98 kk44_120
                · have hq := k_f c_95 hq
                  have et := kl_exit hq hx44
                  subst et
                  exact kk44_98 rfl ls _ _ (lv_sub hl [] rfl) hP hD hS
    obtain ⟨q19, eq19, hq⟩ := ob hq
    refine L44 F 0 (upR (upR sP ((x1 + 1).toNatClampNeg) (va_cpy (sP x1.toNatClampNeg) (sP ((x1 + 1).toNatClampNeg)) (0 : Int32).toNatClampNeg (0 : Int32).toNatClampNeg (16 : Int32).toNatClampNeg)) ((x1 + 1).toNatClampNeg) (upd ((upR sP ((x1 + 1).toNatClampNeg) (va_cpy (sP x1.toNatClampNeg) (sP ((x1 + 1).toNatClampNeg)) (0 : Int32).toNatClampNeg (0 : Int32).toNatClampNeg (16 : Int32).toNatClampNeg)) ((x1 + 1).toNatClampNeg)) x1.toNatClampNeg ((1 : Int32) <<< (x1 &&& 31)))) q19 ls _ _ (eq19) (lv_sub hl [2, 3, 1, 0] rfl) hP hD hS (fun he ls H locs hl hP hD hS => ?_) (fun he ls H locs hl hP hD hS => ?_)
    · have hq := k_t he hq
      refine lv_iconst (v := 0) hx hb dX4_connect_98 (by decide) ?_
      obtain rfl := Option.some.inj hq
      rw [hQ]
      exact W.zret hx hb hr rfl (fun t ht hW => ⟨⟨_, (), rfl, rfl, va_Pat ht hP⟩, hS.F ht⟩) hS.2.2 dX4_connect_99
    · have hq := k_f (show ¬ q19.1 = 0 by rw [he]; decide) hq
      refine lv_iconst (v := 1) hx hb dX4_connect_120 (by decide) ?_
      obtain rfl := Option.some.inj hq
      rw [hQ]
      exact W.zret hx hb hr rfl (fun t ht hW => ⟨⟨_, (), rfl, rfl, va_Pat ht hP⟩, hS.F ht⟩) hS.2.2 dX4_connect_121
  · have hq := k_t c_8 hq
    refine lv_iconst (v := 0) hx hb dX4_connect_11 (by decide) ?_
    obtain rfl := Option.some.inj hq
    rw [hQ]
    exact W.zret hx hb hr rfl (fun t ht hW => ⟨⟨_, (), rfl, rfl, va_Pat ht hP⟩, hS.F ht⟩) hS.2.2 dX4_connect_12

def kX4_tryLay (F : Nat) (rec : (Int32) → (Nat → Int32) → (Nat → Int32) → (Nat → Int32) → (Int32) → (Int32) → (Nat → Int32) → (Nat → Int32) → (Nat → Nat → Int32) → (Nat → Int32) → (Int32) → (Int32) → Option (Int32 × Int32 × (Nat → Int32) × (Nat → Int32) × (Nat → Nat → Int32) × (Nat → Int32))) (bn : Int32) (bT : Nat → Int32) (bW : Nat → Int32) (vL : Nat → Int32) (so : Int32) (sw : Int32) (sR : Nat → Int32) (sI : Nat → Int32) (sP : Nat → Nat → Int32) (sF : Nat → Int32) (x1 : Int32) (x2 : Int32) (x3 : Int32) : Option (Int32 × Int32 × (Nat → Int32) × (Nat → Int32) × (Nat → Nat → Int32) × (Nat → Int32)) :=
  ((kX0_has F bn x1).bind fun q1 => (if q1 = 0 then some (so, sw, sR, sI, sP, sF) else (if ix x1 16 = true then ((kX0_sidesOf F bT x1).bind fun q2 => ((kX7_turned F q2 x2).bind fun q3 => (if ix x1 16 = true then ((kX4_fits F bW (upd sI x1.toNatClampNeg q3) x1).bind fun q4 => (if q4 = 0 then some (so, sw, upd sR x1.toNatClampNeg x2, upd sI x1.toNatClampNeg q3, sP, sF) else ((kX4_connect F bn bW (upd sI x1.toNatClampNeg q3) sP x1).bind fun q13 => (if q13.1 = 0 then some (so, sw, upd sR x1.toNatClampNeg x2, upd sI x1.toNatClampNeg q3, q13.2, sF) else ((rec bn bT bW vL so sw (upd sR x1.toNatClampNeg x2) (upd sI x1.toNatClampNeg q3) q13.2 sF (x1 + 1) x3).bind fun q21 => some (q21.1, q21.2.1, q21.2.2.1, q21.2.2.2.1, q21.2.2.2.2.1, q21.2.2.2.2.2)))))) else none))) else none)))
abbrev rmX4_tryCell (d : Nat) : Room := { frames := 3 + 2 * d, cells := 0, slots := 0, locals := 104 + 46 * d }
abbrev rmX4_tryLay (d : Nat) : Room := { frames := 3 + 2 * d + 1, cells := 0, slots := 0, locals := 104 + 23 + 46 * d }
set_option maxHeartbeats 40000000 in
set_option maxRecDepth 100000 in
theorem tX4_tryLay (G : GG) (l : Launch) {qB qBT qBC qBN qBW qBL qV qVL qVS qVA qVT qS qSR qSI qSP qSF : Nat} {qR : Nat → Nat} {F : Nat} {d : Nat} {rec : (Int32) → (Nat → Int32) → (Nat → Int32) → (Nat → Int32) → (Int32) → (Int32) → (Nat → Int32) → (Nat → Int32) → (Nat → Nat → Int32) → (Nat → Int32) → (Int32) → (Int32) → Option (Int32 × Int32 × (Nat → Int32) × (Nat → Int32) × (Nat → Nat → Int32) × (Nat → Int32))} (ihd : ∀ {bn : Int32} {bk : Int32} {bs : Int32} {bT : Nat → Int32} {bW : Nat → Int32} {vL : Nat → Int32} {so : Int32} {sw : Int32} {sR : Nat → Int32} {sI : Nat → Int32} {sP : Nat → Nat → Int32} {sF : Nat → Int32} {x1 : Int32} {x2 : Int32} {sz : Nat} {r : Int32 × Int32 × (Nat → Int32) × (Nat → Int32) × (Nat → Nat → Int32) × (Nat → Int32)}, rec bn bT bW vL so sw sR sI sP sF x1 x2 = some r → Met l yX4_tryCell wsX4_tryCell (rmX4_tryCell d) (pcW G ([(qB, .inr (0, [.ref qBT, .ref qBC, .ref qBN, .ref qBW, .ref qBL, .int bn, .int bk, .int bs])), (qBT, .inl (G.2.1, 16, .inl bT)), (qBW, .inl (G.2.1, 64, .inl bW)), (qV, .inr (5, [.ref qB, .ref qVL, .ref qVS, .ref qVA, .ref qVT])), (qVL, .inl (G.2.1, 16, .inl vL)), (qS, .inr (4, [.ref qB, .ref qV, .ref qSR, .ref qSI, .ref qSP, .ref qSF, .int so, .int sw])), (qSR, .inl (G.2.1, 16, .inl sR)), (qSI, .inl (G.2.1, 16, .inl sI)), (qSP, .inl (G.2.2.2.2, 17, .inr (.inr (.inr (.inr (outR qR)))))), (qSF, .inl (G.2.1, 16, .inl sF))] ++ rws G qR sP) sz [.ref qS, .int x1, .int x2]) (qcV G ([(qB, .inr (0, [.ref qBT, .ref qBC, .ref qBN, .ref qBW, .ref qBL, .int bn, .int bk, .int bs])), (qBT, .inl (G.2.1, 16, .inl bT)), (qBW, .inl (G.2.1, 64, .inl bW)), (qV, .inr (5, [.ref qB, .ref qVL, .ref qVS, .ref qVA, .ref qVT])), (qVL, .inl (G.2.1, 16, .inl vL)), (qS, .inr (4, [.ref qB, .ref qV, .ref qSR, .ref qSI, .ref qSP, .ref qSF, .int r.1, .int r.2.1])), (qSR, .inl (G.2.1, 16, .inl r.2.2.1)), (qSI, .inl (G.2.1, 16, .inl r.2.2.2.1)), (qSP, .inl (G.2.2.2.2, 17, .inr (.inr (.inr (.inr (outR qR)))))), (qSF, .inl (G.2.1, 16, .inl r.2.2.2.2.2))] ++ rws G qR r.2.2.2.2.1) (va_A ([(qB, .inr (0, [.ref qBT, .ref qBC, .ref qBN, .ref qBW, .ref qBL, .int bn, .int bk, .int bs])), (qBT, .inl (G.2.1, 16, .inl bT)), (qBW, .inl (G.2.1, 64, .inl bW)), (qV, .inr (5, [.ref qB, .ref qVL, .ref qVS, .ref qVA, .ref qVT])), (qVL, .inl (G.2.1, 16, .inl vL)), (qS, .inr (4, [.ref qB, .ref qV, .ref qSR, .ref qSI, .ref qSP, .ref qSF, .int so, .int sw])), (qSR, .inl (G.2.1, 16, .inl sR)), (qSI, .inl (G.2.1, 16, .inl sI)), (qSP, .inl (G.2.2.2.2, 17, .inr (.inr (.inr (.inr (outR qR)))))), (qSF, .inl (G.2.1, 16, .inl sF))] ++ rws G qR sP) sz)) 0 0 (va_A ([(qB, .inr (0, [.ref qBT, .ref qBC, .ref qBN, .ref qBW, .ref qBL, .int bn, .int bk, .int bs])), (qBT, .inl (G.2.1, 16, .inl bT)), (qBW, .inl (G.2.1, 64, .inl bW)), (qV, .inr (5, [.ref qB, .ref qVL, .ref qVS, .ref qVA, .ref qVT])), (qVL, .inl (G.2.1, 16, .inl vL)), (qS, .inr (4, [.ref qB, .ref qV, .ref qSR, .ref qSI, .ref qSP, .ref qSF, .int so, .int sw])), (qSR, .inl (G.2.1, 16, .inl sR)), (qSI, .inl (G.2.1, 16, .inl sI)), (qSP, .inl (G.2.2.2.2, 17, .inr (.inr (.inr (.inr (outR qR)))))), (qSF, .inl (G.2.1, 16, .inl sF))] ++ rws G qR sP) sz)) {bn : Int32} {bk : Int32} {bs : Int32} {bT : Nat → Int32} {bW : Nat → Int32} {vL : Nat → Int32} {so : Int32} {sw : Int32} {sR : Nat → Int32} {sI : Nat → Int32} {sP : Nat → Nat → Int32} {sF : Nat → Int32} {x1 : Int32} {x2 : Int32} {x3 : Int32} {sz : Nat} {r : Int32 × Int32 × (Nat → Int32) × (Nat → Int32) × (Nat → Nat → Int32) × (Nat → Int32)} (hq : kX4_tryLay F rec bn bT bW vL so sw sR sI sP sF x1 x2 x3 = some r) : Met l yX4_tryLay wsX4_tryLay (rmX4_tryLay d) (pcW G ([(qB, .inr (0, [.ref qBT, .ref qBC, .ref qBN, .ref qBW, .ref qBL, .int bn, .int bk, .int bs])), (qBT, .inl (G.2.1, 16, .inl bT)), (qBW, .inl (G.2.1, 64, .inl bW)), (qV, .inr (5, [.ref qB, .ref qVL, .ref qVS, .ref qVA, .ref qVT])), (qVL, .inl (G.2.1, 16, .inl vL)), (qS, .inr (4, [.ref qB, .ref qV, .ref qSR, .ref qSI, .ref qSP, .ref qSF, .int so, .int sw])), (qSR, .inl (G.2.1, 16, .inl sR)), (qSI, .inl (G.2.1, 16, .inl sI)), (qSP, .inl (G.2.2.2.2, 17, .inr (.inr (.inr (.inr (outR qR)))))), (qSF, .inl (G.2.1, 16, .inl sF))] ++ rws G qR sP) sz [.ref qS, .int x1, .int x2, .int x3]) (qcV G ([(qB, .inr (0, [.ref qBT, .ref qBC, .ref qBN, .ref qBW, .ref qBL, .int bn, .int bk, .int bs])), (qBT, .inl (G.2.1, 16, .inl bT)), (qBW, .inl (G.2.1, 64, .inl bW)), (qV, .inr (5, [.ref qB, .ref qVL, .ref qVS, .ref qVA, .ref qVT])), (qVL, .inl (G.2.1, 16, .inl vL)), (qS, .inr (4, [.ref qB, .ref qV, .ref qSR, .ref qSI, .ref qSP, .ref qSF, .int r.1, .int r.2.1])), (qSR, .inl (G.2.1, 16, .inl r.2.2.1)), (qSI, .inl (G.2.1, 16, .inl r.2.2.2.1)), (qSP, .inl (G.2.2.2.2, 17, .inr (.inr (.inr (.inr (outR qR)))))), (qSF, .inl (G.2.1, 16, .inl r.2.2.2.2.2))] ++ rws G qR r.2.2.2.2.1) (va_A ([(qB, .inr (0, [.ref qBT, .ref qBC, .ref qBN, .ref qBW, .ref qBL, .int bn, .int bk, .int bs])), (qBT, .inl (G.2.1, 16, .inl bT)), (qBW, .inl (G.2.1, 64, .inl bW)), (qV, .inr (5, [.ref qB, .ref qVL, .ref qVS, .ref qVA, .ref qVT])), (qVL, .inl (G.2.1, 16, .inl vL)), (qS, .inr (4, [.ref qB, .ref qV, .ref qSR, .ref qSI, .ref qSP, .ref qSF, .int so, .int sw])), (qSR, .inl (G.2.1, 16, .inl sR)), (qSI, .inl (G.2.1, 16, .inl sI)), (qSP, .inl (G.2.2.2.2, 17, .inr (.inr (.inr (.inr (outR qR)))))), (qSF, .inl (G.2.1, 16, .inl sF))] ++ rws G qR sP) sz)) 0 0 (va_A ([(qB, .inr (0, [.ref qBT, .ref qBC, .ref qBN, .ref qBW, .ref qBL, .int bn, .int bk, .int bs])), (qBT, .inl (G.2.1, 16, .inl bT)), (qBW, .inl (G.2.1, 64, .inl bW)), (qV, .inr (5, [.ref qB, .ref qVL, .ref qVS, .ref qVA, .ref qVT])), (qVL, .inl (G.2.1, 16, .inl vL)), (qS, .inr (4, [.ref qB, .ref qV, .ref qSR, .ref qSI, .ref qSP, .ref qSF, .int so, .int sw])), (qSR, .inl (G.2.1, 16, .inl sR)), (qSI, .inl (G.2.1, 16, .inl sI)), (qSP, .inl (G.2.2.2.2, 17, .inr (.inr (.inr (.inr (outR qR)))))), (qSF, .inl (G.2.1, 16, .inl sF))] ++ rws G qR sP) sz) := by
  refine Met.ofW (cc := cX4_tryLay) (maxL := 4) (ret := none) (by decide) rfl ?_
  intro p e s m args below meth c s₁ B hml hv
  obtain ⟨rfl, hsz, hP, hKK, hD0⟩ := hv
  have hK := hKK.1
  have hx := B.exec
  have hb := B.bytes
  have hr := B.returns
  have hts := atoms_spec (ws := wsX4_tryLay) B.pre
  have hown : s.vm.findClass RX4 = some m.cls := findClass_of_methodNamed B.named
  have hlocks := B.notSynchronized
  subst hsz
  have hD := hD0.self (sz := s.heap.size)
  generalize hAe : va_A ([(qB, .inr (0, [.ref qBT, .ref qBC, .ref qBN, .ref qBW, .ref qBL, .int bn, .int bk, .int bs])), (qBT, .inl (G.2.1, 16, .inl bT)), (qBW, .inl (G.2.1, 64, .inl bW)), (qV, .inr (5, [.ref qB, .ref qVL, .ref qVS, .ref qVA, .ref qVT])), (qVL, .inl (G.2.1, 16, .inl vL)), (qS, .inr (4, [.ref qB, .ref qV, .ref qSR, .ref qSI, .ref qSP, .ref qSF, .int so, .int sw])), (qSR, .inl (G.2.1, 16, .inl sR)), (qSI, .inl (G.2.1, 16, .inl sI)), (qSP, .inl (G.2.2.2.2, 17, .inr (.inr (.inr (.inr (outR qR)))))), (qSF, .inl (G.2.1, 16, .inl sF))] ++ rws G qR sP) s.heap.size = A at hD ⊢
  have hA : ∀ q : Nat, s.heap.size ≤ q → A q := fun q h => by rw [← hAe]; exact Or.inr h
  have hS : va_S A s.heap s.heap [] := va_S.rf
  have hl := lv_entry ([.ref qS, .int x1, .int x2, .int x3] : List Value) (n := 4) (Nat.le_of_ble_eq_true rfl)
  rw [lg_entry_eq]
  generalize (lg_sl ([.ref qS, .int x1, .int x2, .int x3] : List Value) ++ List.replicate (4 - (lg_sl ([.ref qS, .int x1, .int x2, .int x3] : List Value)).length) Slot.unset).toArray = ls at hl ⊢
  have hl : lv_has ls 4 [(0, .ref qS), (1, .int x1), (2, .int x2), (3, .int x3)] := hl
  have hi4 : ∀ w ∈ u_ws RX4 TX4 8, w ∈ wsX4_tryLay := by decide +kernel
  have hw0 : (Cond.fieldLink RX4 26 "NetPlumber$Search" "board" "LNetPlumber$Board;").before #[Value.ref qS, Value.int x1, Value.int x2, Value.int x3] s = true := hts _ (by decide +kernel)
  have hw1 : (Cond.fieldLink RX4 9 "NetPlumber$Search" "tried" "[I").before #[Value.ref qS, Value.int x1, Value.int x2, Value.int x3] s = true := hts _ (by decide +kernel)
  have hw2 : (Cond.fieldLink RX4 15 "NetPlumber$Search" "tiles" "[I").before #[Value.ref qS, Value.int x1, Value.int x2, Value.int x3] s = true := hts _ (by decide +kernel)
  have hw3 : (Cond.initialized RX7).before #[Value.ref qS, Value.int x1, Value.int x2, Value.int x3] s = true := hts _ (by decide +kernel)
  have hw4 : (Cond.static yX7_turned).before #[Value.ref qS, Value.int x1, Value.int x2, Value.int x3] s = true := hts _ (by decide +kernel)
  refine wq (fun Q hQ => ?_)
  unfold kX4_tryLay at hq
  refine lv_aload_n hx hb dX4_tryLay_0 rfl (lv_at hl 0 rfl) ?_
  refine va_get (D := G.1) (ci := 4) (v := .ref qB) (C := RX4) (T := TX4) (N := 8) hx hb hts hi4 hown hK hP 5 rfl rfl 0 (by decide) hw0 (fun _ h9 => h9) rfl dX4_tryLay_1 ?_
  refine lv_iload_n hx hb dX4_tryLay_4 rfl (lv_at hl 1 rfl) ?_
  obtain ⟨q1, eq1, hq⟩ := ob hq
  have hPc := hP.sub (ws' := [(qB, .inr (0, [.ref qBT, .ref qBC, .ref qBN, .ref qBW, .ref qBL, .int bn, .int bk, .int bs]))]) [0] rfl
  have hKc := hK
  refine vp_callSi (va_Run.run (va_runV (As := [.int x1]) (rest := []) ⟨hx, hb, hml, hown, hts⟩ (tX0_has G l eq1) (cwV 1 hts gX4_tryLay_X0_has rfl rfl rfl (by decide +kernel) ⟨(by show 1 ≤ 3 + 2 * d + 1; omega), (by show 21 ≤ 104 + 23 + 46 * d; omega)⟩) ⟨pcP_blind, va_recv hKc hPc (ci := 0) (q0 := 0) rfl rfl, pcP_pre hPc hKK⟩ rfl rfl hl.1 rfl (lv_room (Nat.le_of_ble_eq_true rfl)) dX4_tryLay_5 ⟨Nat.zero_le _, Nat.zero_le _⟩)) (fun r0 hr0 => ?_)
  obtain rfl := hr0
  refine lv_if_ne (tgt := 12) hx hb dX4_tryLay_8 (by decide) (fun c_8 => ?_) (fun c_8 => ?_)
  · have hq := k_f c_8 hq
    refine lv_aload_n hx hb dX4_tryLay_12 rfl (lv_at hl 0 rfl) ?_
    refine va_get (D := G.1) (ci := 4) (v := .ref qSR) (C := RX4) (T := TX4) (N := 8) hx hb hts hi4 hown hK hP 5 rfl rfl 2 (by decide) hw1 (fun _ h9 => h9) rfl dX4_tryLay_13 ?_
    refine lv_iload_n hx hb dX4_tryLay_16 rfl (lv_at hl 1 rfl) ?_
    refine lv_iload_n hx hb dX4_tryLay_17 rfl (lv_at hl 2 rfl) ?_
    obtain ⟨hg, hq⟩ := k_g hq
    refine va_iast hx hb hK hP hD hS 6 0 rfl rfl (ix_in hg) dX4_tryLay_18 (fun H locs hP hD hS => ?_)
    have hP : va_P G.1 vwCl ([(qB, .inr (0, [.ref qBT, .ref qBC, .ref qBN, .ref qBW, .ref qBL, .int bn, .int bk, .int bs])), (qBT, .inl (G.2.1, 16, .inl bT)), (qBW, .inl (G.2.1, 64, .inl bW)), (qV, .inr (5, [.ref qB, .ref qVL, .ref qVS, .ref qVA, .ref qVT])), (qVL, .inl (G.2.1, 16, .inl vL)), (qS, .inr (4, [.ref qB, .ref qV, .ref qSR, .ref qSI, .ref qSP, .ref qSF, .int so, .int sw])), (qSR, .inl (G.2.1, 16, .inl (upd sR x1.toNatClampNeg x2))), (qSI, .inl (G.2.1, 16, .inl sI)), (qSP, .inl (G.2.2.2.2, 17, .inr (.inr (.inr (.inr (outR qR)))))), (qSF, .inl (G.2.1, 16, .inl sF))] ++ rws G qR sP) H := hP
    have hD : va_D A ([(qB, .inr (0, [.ref qBT, .ref qBC, .ref qBN, .ref qBW, .ref qBL, .int bn, .int bk, .int bs])), (qBT, .inl (G.2.1, 16, .inl bT)), (qBW, .inl (G.2.1, 64, .inl bW)), (qV, .inr (5, [.ref qB, .ref qVL, .ref qVS, .ref qVA, .ref qVT])), (qVL, .inl (G.2.1, 16, .inl vL)), (qS, .inr (4, [.ref qB, .ref qV, .ref qSR, .ref qSI, .ref qSP, .ref qSF, .int so, .int sw])), (qSR, .inl (G.2.1, 16, .inl (upd sR x1.toNatClampNeg x2))), (qSI, .inl (G.2.1, 16, .inl sI)), (qSP, .inl (G.2.2.2.2, 17, .inr (.inr (.inr (.inr (outR qR)))))), (qSF, .inl (G.2.1, 16, .inl sF))] ++ rws G qR sP) := hD
    refine lv_aload_n hx hb dX4_tryLay_19 rfl (lv_at hl 0 rfl) ?_
    refine va_get (D := G.1) (ci := 4) (v := .ref qSI) (C := RX4) (T := TX4) (N := 8) hx hb hts hi4 hown hK hP 5 rfl rfl 3 (by decide) hw2 (fun _ h9 => h9) rfl dX4_tryLay_20 ?_
    refine lv_iload_n hx hb dX4_tryLay_23 rfl (lv_at hl 1 rfl) ?_
    refine lv_aload_n hx hb dX4_tryLay_24 rfl (lv_at hl 0 rfl) ?_
    refine va_get (D := G.1) (ci := 4) (v := .ref qB) (C := RX4) (T := TX4) (N := 8) hx hb hts hi4 hown hK hP 5 rfl rfl 0 (by decide) hw0 (fun _ h9 => h9) rfl dX4_tryLay_25 ?_
    refine lv_iload_n hx hb dX4_tryLay_28 rfl (lv_at hl 1 rfl) ?_
    obtain ⟨q2, eq2, hq⟩ := ob hq
    have hPc := hP.sub (ws' := [(qB, .inr (0, [.ref qBT, .ref qBC, .ref qBN, .ref qBW, .ref qBL, .int bn, .int bk, .int bs])), (qBT, .inl (G.2.1, 16, .inl bT))]) [0, 1] rfl
    have hKc := hK
    refine vp_callSi (va_Run.run (va_runV (As := [.int x1]) (rest := [.int x1, .ref qSI]) ⟨hx, hb, hml, hown, hts⟩ (tX0_sidesOf G l eq2) (cwV 1 hts gX4_tryLay_X0_sidesOf rfl rfl rfl (by decide +kernel) ⟨(by show 2 ≤ 3 + 2 * d + 1; omega), (by show 42 ≤ 104 + 23 + 46 * d; omega)⟩) ⟨pcP_blind, va_recv hKc hPc (ci := 0) (q0 := 0) rfl rfl, pcP_pre hPc hKK⟩ rfl rfl hl.1 rfl (lv_room (Nat.le_of_ble_eq_true rfl)) dX4_tryLay_29 ⟨Nat.zero_le _, Nat.zero_le _⟩)) (fun r0 hr0 => ?_)
    obtain rfl := hr0
    refine lv_iload_n hx hb dX4_tryLay_32 rfl (lv_at hl 2 rfl) ?_
    obtain ⟨q3, eq3, hq⟩ := ob hq
    have hPc := hP.sub (ws' := []) [] rfl
    refine vp_callSi (va_Run.run (va_runSN (As := [.int q2, .int x2]) (rest := [.int x1, .ref qSI]) ⟨hx, hb, hml, hown, hts⟩ (tX7_turned G l eq3) ⟨va_cnB 2 hts gX4_tryLay_X7_turned_n75 rfl rfl rfl (hKK.2 _ (List.mem_of_getElem? (i := 14) rfl)) hw3 (by decide +kernel) ⟨(by show 1 ≤ 3 + 2 * d + 1; omega), (by show 21 ≤ 104 + 23 + 46 * d; omega)⟩, hw4, trivial⟩ ⟨pcP_blind, pcP_pre hPc hKK⟩ rfl rfl hl.1 rfl (lv_room (Nat.le_of_ble_eq_true rfl)) dX4_tryLay_33 ⟨Nat.zero_le _, Nat.zero_le _⟩)) (fun r0 hr0 => ?_)
    obtain rfl := hr0
    obtain ⟨hg, hq⟩ := k_g hq
    refine va_iast hx hb hK hP hD hS 7 0 rfl rfl (ix_in hg) dX4_tryLay_36 (fun H locs hP hD hS => ?_)
    have hP : va_P G.1 vwCl ([(qB, .inr (0, [.ref qBT, .ref qBC, .ref qBN, .ref qBW, .ref qBL, .int bn, .int bk, .int bs])), (qBT, .inl (G.2.1, 16, .inl bT)), (qBW, .inl (G.2.1, 64, .inl bW)), (qV, .inr (5, [.ref qB, .ref qVL, .ref qVS, .ref qVA, .ref qVT])), (qVL, .inl (G.2.1, 16, .inl vL)), (qS, .inr (4, [.ref qB, .ref qV, .ref qSR, .ref qSI, .ref qSP, .ref qSF, .int so, .int sw])), (qSR, .inl (G.2.1, 16, .inl (upd sR x1.toNatClampNeg x2))), (qSI, .inl (G.2.1, 16, .inl (upd sI x1.toNatClampNeg q3))), (qSP, .inl (G.2.2.2.2, 17, .inr (.inr (.inr (.inr (outR qR)))))), (qSF, .inl (G.2.1, 16, .inl sF))] ++ rws G qR sP) H := hP
    have hD : va_D A ([(qB, .inr (0, [.ref qBT, .ref qBC, .ref qBN, .ref qBW, .ref qBL, .int bn, .int bk, .int bs])), (qBT, .inl (G.2.1, 16, .inl bT)), (qBW, .inl (G.2.1, 64, .inl bW)), (qV, .inr (5, [.ref qB, .ref qVL, .ref qVS, .ref qVA, .ref qVT])), (qVL, .inl (G.2.1, 16, .inl vL)), (qS, .inr (4, [.ref qB, .ref qV, .ref qSR, .ref qSI, .ref qSP, .ref qSF, .int so, .int sw])), (qSR, .inl (G.2.1, 16, .inl (upd sR x1.toNatClampNeg x2))), (qSI, .inl (G.2.1, 16, .inl (upd sI x1.toNatClampNeg q3))), (qSP, .inl (G.2.2.2.2, 17, .inr (.inr (.inr (.inr (outR qR)))))), (qSF, .inl (G.2.1, 16, .inl sF))] ++ rws G qR sP) := hD
    refine lv_aload_n hx hb dX4_tryLay_37 rfl (lv_at hl 0 rfl) ?_
    refine lv_iload_n hx hb dX4_tryLay_38 rfl (lv_at hl 1 rfl) ?_
    obtain ⟨q4, eq4, hq⟩ := ob hq
    have hPc := hP.sub (ws' := [(qB, .inr (0, [.ref qBT, .ref qBC, .ref qBN, .ref qBW, .ref qBL, .int bn, .int bk, .int bs])), (qBW, .inl (G.2.1, 64, .inl bW)), (qS, .inr (4, [.ref qB, .ref qV, .ref qSR, .ref qSI, .ref qSP, .ref qSF, .int so, .int sw])), (qSI, .inl (G.2.1, 16, .inl (upd sI x1.toNatClampNeg q3)))]) [0, 2, 5, 7] rfl
    have hKc := hK
    refine vp_callSi (va_Run.run (va_runV (As := [.int x1]) (rest := []) ⟨hx, hb, hml, hown, hts⟩ (tX4_fits G l eq4) (cwV 1 hts gX4_tryLay_X4_fits rfl rfl rfl (by decide +kernel) ⟨(by show 2 ≤ 3 + 2 * d + 1; omega), (by show 47 ≤ 104 + 23 + 46 * d; omega)⟩) ⟨pcP_blind, va_recv hKc hPc (ci := 4) (q0 := 2) rfl rfl, pcP_pre hPc hKK⟩ rfl rfl hl.1 rfl (lv_room (Nat.le_of_ble_eq_true rfl)) dX4_tryLay_39 ⟨Nat.zero_le _, Nat.zero_le _⟩)) (fun r0 hr0 => ?_)
    obtain rfl := hr0
    refine lv_if_eq (tgt := 61) hx hb dX4_tryLay_42 (by decide) (fun c_42 => ?_) (fun c_42 => ?_)
    · have hq := k_t c_42 hq
      obtain rfl := Option.some.inj hq
      rw [hQ]
      exact W.vret hx hb hr (fun t ht hW => ⟨⟨(), rfl, trivial, va_Pat ht hP⟩, hS.F ht⟩) hS.2.2 dX4_tryLay_61
    · have hq := k_f c_42 hq
      refine lv_aload_n hx hb dX4_tryLay_45 rfl (lv_at hl 0 rfl) ?_
      refine lv_iload_n hx hb dX4_tryLay_46 rfl (lv_at hl 1 rfl) ?_
      obtain ⟨q13, eq13, hq⟩ := ob hq
      have hPc := hP.part (cx := [(qB, .inr (0, [.ref qBT, .ref qBC, .ref qBN, .ref qBW, .ref qBL, .int bn, .int bk, .int bs])), (qBW, .inl (G.2.1, 64, .inl bW)), (qS, .inr (4, [.ref qB, .ref qV, .ref qSR, .ref qSI, .ref qSP, .ref qSF, .int so, .int sw])), (qSI, .inl (G.2.1, 16, .inl (upd sI x1.toNatClampNeg q3))), (qSP, .inl (G.2.2.2.2, 17, .inr (.inr (.inr (.inr (outR qR))))))]) [0, 2, 5, 7, 8] rfl
      have hKc := hK
      have hDc := hD.part (cx := [(qB, .inr (0, [.ref qBT, .ref qBC, .ref qBN, .ref qBW, .ref qBL, .int bn, .int bk, .int bs])), (qBW, .inl (G.2.1, 64, .inl bW)), (qS, .inr (4, [.ref qB, .ref qV, .ref qSR, .ref qSI, .ref qSP, .ref qSF, .int so, .int sw])), (qSI, .inl (G.2.1, 16, .inl (upd sI x1.toNatClampNeg q3))), (qSP, .inl (G.2.2.2.2, 17, .inr (.inr (.inr (.inr (outR qR))))))]) [0, 2, 5, 7, 8] (by decide) rfl
      have hFc := va_freeP (cx := [(qB, .inr (0, [.ref qBT, .ref qBC, .ref qBN, .ref qBW, .ref qBL, .int bn, .int bk, .int bs])), (qBW, .inl (G.2.1, 64, .inl bW)), (qS, .inr (4, [.ref qB, .ref qV, .ref qSR, .ref qSI, .ref qSP, .ref qSF, .int so, .int sw])), (qSI, .inl (G.2.1, 16, .inl (upd sI x1.toNatClampNeg q3))), (qSP, .inl (G.2.2.2.2, 17, .inr (.inr (.inr (.inr (outR qR))))))]) hD hS hA [0, 2, 5, 7, 8] rfl
      refine va_calli (va_runV (As := [.int x1]) (rest := []) ⟨hx, hb, hml, hown, hts⟩ (tX4_connect G l eq13) (cwV 1 hts gX4_tryLay_X4_connect rfl rfl rfl (by decide +kernel) ⟨(by show 3 ≤ 3 + 2 * d + 1; omega), (by show 104 ≤ 104 + 23 + 46 * d; omega)⟩) ⟨pcW_blind, va_recv hKc hPc (ci := 4) (q0 := 2) rfl rfl, pcW_pre hPc hKK hDc⟩ rfl rfl hl.1 rfl (lv_room (Nat.le_of_ble_eq_true rfl)) dX4_tryLay_47 ⟨Nat.zero_le _, Nat.zero_le _⟩) hS (fun q _ h => hFc q h) hFc (fun r0 u t H1 locs ht hvm hw hB hz1 hk1 hS => ?_)
      obtain rfl := hw
      have hB := va_Pto ht hB
      obtain ⟨hP, hD⟩ := jnR (X' := [(qB, .inr (0, [.ref qBT, .ref qBC, .ref qBN, .ref qBW, .ref qBL, .int bn, .int bk, .int bs])), (qBT, .inl (G.2.1, 16, .inl bT)), (qBW, .inl (G.2.1, 64, .inl bW)), (qV, .inr (5, [.ref qB, .ref qVL, .ref qVS, .ref qVA, .ref qVT])), (qVL, .inl (G.2.1, 16, .inl vL)), (qS, .inr (4, [.ref qB, .ref qV, .ref qSR, .ref qSI, .ref qSP, .ref qSF, .int so, .int sw])), (qSR, .inl (G.2.1, 16, .inl (upd sR x1.toNatClampNeg x2))), (qSI, .inl (G.2.1, 16, .inl (upd sI x1.toNatClampNeg q3))), (qSP, .inl (G.2.2.2.2, 17, .inr (.inr (.inr (.inr (outR qR)))))), (qSF, .inl (G.2.1, 16, .inl sF))]) hP hD hk1 hB [0, 2, 5, 7, 8] rfl rfl rfl rfl
      generalize H1 = H at hP hS ⊢
      refine lv_if_eq (tgt := 61) hx hb dX4_tryLay_50 (by decide) (fun c_50 => ?_) (fun c_50 => ?_)
      · have hq := k_t c_50 hq
        obtain rfl := Option.some.inj hq
        rw [hQ]
        exact W.vret hx hb hr (fun t ht hW => ⟨⟨(), rfl, trivial, va_Pat ht hP⟩, hS.F ht⟩) hS.2.2 dX4_tryLay_61
      · have hq := k_f c_50 hq
        refine lv_aload_n hx hb dX4_tryLay_53 rfl (lv_at hl 0 rfl) ?_
        refine lv_iload_n hx hb dX4_tryLay_54 rfl (lv_at hl 1 rfl) ?_
        refine lv_iconst (v := 1) hx hb dX4_tryLay_55 (by decide) ?_
        refine lv_iadd hx hb dX4_tryLay_56 ?_
        refine lv_iload_n hx hb dX4_tryLay_57 rfl (lv_at hl 3 rfl) ?_
        obtain ⟨q21, eq21, hq⟩ := ob hq
        have hPc := hP.part (cx := [(qB, .inr (0, [.ref qBT, .ref qBC, .ref qBN, .ref qBW, .ref qBL, .int bn, .int bk, .int bs])), (qBT, .inl (G.2.1, 16, .inl bT)), (qBW, .inl (G.2.1, 64, .inl bW)), (qV, .inr (5, [.ref qB, .ref qVL, .ref qVS, .ref qVA, .ref qVT])), (qVL, .inl (G.2.1, 16, .inl vL)), (qS, .inr (4, [.ref qB, .ref qV, .ref qSR, .ref qSI, .ref qSP, .ref qSF, .int so, .int sw])), (qSR, .inl (G.2.1, 16, .inl (upd sR x1.toNatClampNeg x2))), (qSI, .inl (G.2.1, 16, .inl (upd sI x1.toNatClampNeg q3))), (qSP, .inl (G.2.2.2.2, 17, .inr (.inr (.inr (.inr (outR qR)))))), (qSF, .inl (G.2.1, 16, .inl sF))]) [0, 1, 2, 3, 4, 5, 6, 7, 8, 9] rfl
        have hKc := hK
        have hDc := hD.part (cx := [(qB, .inr (0, [.ref qBT, .ref qBC, .ref qBN, .ref qBW, .ref qBL, .int bn, .int bk, .int bs])), (qBT, .inl (G.2.1, 16, .inl bT)), (qBW, .inl (G.2.1, 64, .inl bW)), (qV, .inr (5, [.ref qB, .ref qVL, .ref qVS, .ref qVA, .ref qVT])), (qVL, .inl (G.2.1, 16, .inl vL)), (qS, .inr (4, [.ref qB, .ref qV, .ref qSR, .ref qSI, .ref qSP, .ref qSF, .int so, .int sw])), (qSR, .inl (G.2.1, 16, .inl (upd sR x1.toNatClampNeg x2))), (qSI, .inl (G.2.1, 16, .inl (upd sI x1.toNatClampNeg q3))), (qSP, .inl (G.2.2.2.2, 17, .inr (.inr (.inr (.inr (outR qR)))))), (qSF, .inl (G.2.1, 16, .inl sF))]) [0, 1, 2, 3, 4, 5, 6, 7, 8, 9] (by decide) rfl
        have hFc := va_freeP (cx := [(qB, .inr (0, [.ref qBT, .ref qBC, .ref qBN, .ref qBW, .ref qBL, .int bn, .int bk, .int bs])), (qBT, .inl (G.2.1, 16, .inl bT)), (qBW, .inl (G.2.1, 64, .inl bW)), (qV, .inr (5, [.ref qB, .ref qVL, .ref qVS, .ref qVA, .ref qVT])), (qVL, .inl (G.2.1, 16, .inl vL)), (qS, .inr (4, [.ref qB, .ref qV, .ref qSR, .ref qSI, .ref qSP, .ref qSF, .int so, .int sw])), (qSR, .inl (G.2.1, 16, .inl (upd sR x1.toNatClampNeg x2))), (qSI, .inl (G.2.1, 16, .inl (upd sI x1.toNatClampNeg q3))), (qSP, .inl (G.2.2.2.2, 17, .inr (.inr (.inr (.inr (outR qR)))))), (qSF, .inl (G.2.1, 16, .inl sF))]) hD hS hA [0, 1, 2, 3, 4, 5, 6, 7, 8, 9] rfl
        refine va_callv (va_runV (As := [.int (x1 + 1), .int x3]) (rest := []) ⟨hx, hb, hml, hown, hts⟩ (ihd eq21) (cwV 2 hts gX4_tryLay_X4_tryCell rfl rfl rfl (by decide +kernel) ⟨(by show (3 + 2 * d) + 1 ≤ 3 + 2 * d + 1; omega), (by show 8 + (4 + 11) + (104 + 46 * d) ≤ 104 + 23 + 46 * d; omega)⟩) ⟨pcW_blind, va_recv hKc hPc (ci := 4) (q0 := 5) rfl rfl, pcW_pre hPc hKK hDc⟩ rfl rfl hl.1 rfl (lv_room (Nat.le_of_ble_eq_true rfl)) dX4_tryLay_58 ⟨Nat.zero_le _, Nat.zero_le _⟩) hS (fun q _ h => hFc q h) hFc (fun u t H1 locs ht hvm hw hB hz1 hk1 hS => ?_)
        have hB := va_Pto ht hB
        obtain ⟨hP, hD⟩ := jnR (X' := [(qB, .inr (0, [.ref qBT, .ref qBC, .ref qBN, .ref qBW, .ref qBL, .int bn, .int bk, .int bs])), (qBT, .inl (G.2.1, 16, .inl bT)), (qBW, .inl (G.2.1, 64, .inl bW)), (qV, .inr (5, [.ref qB, .ref qVL, .ref qVS, .ref qVA, .ref qVT])), (qVL, .inl (G.2.1, 16, .inl vL)), (qS, .inr (4, [.ref qB, .ref qV, .ref qSR, .ref qSI, .ref qSP, .ref qSF, .int q21.1, .int q21.2.1])), (qSR, .inl (G.2.1, 16, .inl q21.2.2.1)), (qSI, .inl (G.2.1, 16, .inl q21.2.2.2.1)), (qSP, .inl (G.2.2.2.2, 17, .inr (.inr (.inr (.inr (outR qR)))))), (qSF, .inl (G.2.1, 16, .inl q21.2.2.2.2.2))]) hP hD hk1 hB [0, 1, 2, 3, 4, 5, 6, 7, 8, 9] rfl rfl rfl rfl
        generalize H1 = H at hP hS ⊢
        obtain rfl := Option.some.inj hq
        rw [hQ]
        exact W.vret hx hb hr (fun t ht hW => ⟨⟨(), rfl, trivial, va_Pat ht hP⟩, hS.F ht⟩) hS.2.2 dX4_tryLay_61
  · have hq := k_t c_8 hq
    obtain rfl := Option.some.inj hq
    rw [hQ]
    exact W.vret hx hb hr (fun t ht hW => ⟨⟨(), rfl, trivial, va_Pat ht hP⟩, hS.F ht⟩) hS.2.2 dX4_tryLay_11

def kX4_tryCell_s20 (F : Nat) (bn : Int32) (bT : Nat → Int32) (bW : Nat → Int32) (vL : Nat → Int32) (x1 : Int32) (x2 : Int32) (rec : (Int32) → (Nat → Int32) → (Nat → Int32) → (Nat → Int32) → (Int32) → (Int32) → (Nat → Int32) → (Nat → Int32) → (Nat → Nat → Int32) → (Nat → Int32) → (Int32) → (Int32) → Option (Int32 × Int32 × (Nat → Int32) × (Nat → Int32) × (Nat → Nat → Int32) × (Nat → Int32))) (s21 : Int32) (s22 : Int32) (s23 : Int32) (s24 : Nat → Int32) (s25 : Nat → Int32) (s26 : Nat → Nat → Int32) (s27 : Nat → Int32) : Option ((Int32 × Int32 × Int32 × (Nat → Int32) × (Nat → Int32) × (Nat → Nat → Int32) × (Nat → Int32)) ⊕ (Int32 × Int32 × (Nat → Int32) × (Nat → Int32) × (Nat → Nat → Int32) × (Nat → Int32))) :=
  (if 4 ≤ s21 then some (.inr (s22, s23, s24, s25, s26, s27)) else ((kX5_leftAt F vL x1).bind fun q28 => ((kX7_holds F q28 s21).bind fun q29 => (if q29 = 0 then some (.inl (s21 + 1, s22, s23, s24, s25, s26, s27)) else ((kX4_tryLay F rec bn bT bW vL s22 s23 s24 s25 s26 s27 x1 s21 (x2 + s21)).bind fun q37 => some (.inl (s21 + 1, q37.1, q37.2.1, q37.2.2.1, q37.2.2.2.1, q37.2.2.2.2.1, q37.2.2.2.2.2)))))))
def kX4_tryCell (F : Nat) : Nat → (Int32) → (Nat → Int32) → (Nat → Int32) → (Nat → Int32) → (Int32) → (Int32) → (Nat → Int32) → (Nat → Int32) → (Nat → Nat → Int32) → (Nat → Int32) → (Int32) → (Int32) → Option (Int32 × Int32 × (Nat → Int32) × (Nat → Int32) × (Nat → Nat → Int32) × (Nat → Int32))
  | 0, _, _, _, _, _, _, _, _, _, _, _, _ => none
  | d + 1, bn, bT, bW, vL, so, sw, sR, sI, sP, sF, x1, x2 =>
  ((kX0_has F bn x1).bind fun q1 => (if q1 = 0 then ((kX4_noteSolution F bn so sw sR sP sF x1 x2).bind fun q39 => some (q39.1, q39.2.1, sR, sI, sP, q39.2.2)) else ((kloop F (fun s_ => kX4_tryCell_s20 F bn bT bW vL x1 x2 (kX4_tryCell F d) s_.1 s_.2.1 s_.2.2.1 s_.2.2.2.1 s_.2.2.2.2.1 s_.2.2.2.2.2.1 s_.2.2.2.2.2.2) (0, so, sw, sR, sI, sP, sF)).bind fun q38 => some (q38.1, q38.2.1, q38.2.2.1, q38.2.2.2.1, q38.2.2.2.2.1, q38.2.2.2.2.2))))
def kX4_tryCellT (F : Nat) (bn : Int32) (bT : Nat → Int32) (bW : Nat → Int32) (vL : Nat → Int32) (so : Int32) (sw : Int32) (sR : Nat → Int32) (sI : Nat → Int32) (sP : Nat → Nat → Int32) (sF : Nat → Int32) (x1 : Int32) (x2 : Int32) : Option (Int32 × Int32 × (Nat → Int32) × (Nat → Int32) × (Nat → Nat → Int32) × (Nat → Int32)) := kX4_tryCell F 20 bn bT bW vL so sw sR sI sP sF x1 x2
set_option maxHeartbeats 40000000 in
set_option maxRecDepth 100000 in
theorem tX4_tryCell (G : GG) (l : Launch) {qB qBT qBC qBN qBW qBL qV qVL qVS qVA qVT qS qSR qSI qSP qSF : Nat} {qR : Nat → Nat} {F : Nat} : ∀ (d : Nat) {bn : Int32} {bk : Int32} {bs : Int32} {bT : Nat → Int32} {bW : Nat → Int32} {vL : Nat → Int32} {so : Int32} {sw : Int32} {sR : Nat → Int32} {sI : Nat → Int32} {sP : Nat → Nat → Int32} {sF : Nat → Int32} {x1 : Int32} {x2 : Int32} {sz : Nat} {r : Int32 × Int32 × (Nat → Int32) × (Nat → Int32) × (Nat → Nat → Int32) × (Nat → Int32)}, kX4_tryCell F d bn bT bW vL so sw sR sI sP sF x1 x2 = some r → Met l yX4_tryCell wsX4_tryCell (rmX4_tryCell d) (pcW G ([(qB, .inr (0, [.ref qBT, .ref qBC, .ref qBN, .ref qBW, .ref qBL, .int bn, .int bk, .int bs])), (qBT, .inl (G.2.1, 16, .inl bT)), (qBW, .inl (G.2.1, 64, .inl bW)), (qV, .inr (5, [.ref qB, .ref qVL, .ref qVS, .ref qVA, .ref qVT])), (qVL, .inl (G.2.1, 16, .inl vL)), (qS, .inr (4, [.ref qB, .ref qV, .ref qSR, .ref qSI, .ref qSP, .ref qSF, .int so, .int sw])), (qSR, .inl (G.2.1, 16, .inl sR)), (qSI, .inl (G.2.1, 16, .inl sI)), (qSP, .inl (G.2.2.2.2, 17, .inr (.inr (.inr (.inr (outR qR)))))), (qSF, .inl (G.2.1, 16, .inl sF))] ++ rws G qR sP) sz [.ref qS, .int x1, .int x2]) (qcV G ([(qB, .inr (0, [.ref qBT, .ref qBC, .ref qBN, .ref qBW, .ref qBL, .int bn, .int bk, .int bs])), (qBT, .inl (G.2.1, 16, .inl bT)), (qBW, .inl (G.2.1, 64, .inl bW)), (qV, .inr (5, [.ref qB, .ref qVL, .ref qVS, .ref qVA, .ref qVT])), (qVL, .inl (G.2.1, 16, .inl vL)), (qS, .inr (4, [.ref qB, .ref qV, .ref qSR, .ref qSI, .ref qSP, .ref qSF, .int r.1, .int r.2.1])), (qSR, .inl (G.2.1, 16, .inl r.2.2.1)), (qSI, .inl (G.2.1, 16, .inl r.2.2.2.1)), (qSP, .inl (G.2.2.2.2, 17, .inr (.inr (.inr (.inr (outR qR)))))), (qSF, .inl (G.2.1, 16, .inl r.2.2.2.2.2))] ++ rws G qR r.2.2.2.2.1) (va_A ([(qB, .inr (0, [.ref qBT, .ref qBC, .ref qBN, .ref qBW, .ref qBL, .int bn, .int bk, .int bs])), (qBT, .inl (G.2.1, 16, .inl bT)), (qBW, .inl (G.2.1, 64, .inl bW)), (qV, .inr (5, [.ref qB, .ref qVL, .ref qVS, .ref qVA, .ref qVT])), (qVL, .inl (G.2.1, 16, .inl vL)), (qS, .inr (4, [.ref qB, .ref qV, .ref qSR, .ref qSI, .ref qSP, .ref qSF, .int so, .int sw])), (qSR, .inl (G.2.1, 16, .inl sR)), (qSI, .inl (G.2.1, 16, .inl sI)), (qSP, .inl (G.2.2.2.2, 17, .inr (.inr (.inr (.inr (outR qR)))))), (qSF, .inl (G.2.1, 16, .inl sF))] ++ rws G qR sP) sz)) 0 0 (va_A ([(qB, .inr (0, [.ref qBT, .ref qBC, .ref qBN, .ref qBW, .ref qBL, .int bn, .int bk, .int bs])), (qBT, .inl (G.2.1, 16, .inl bT)), (qBW, .inl (G.2.1, 64, .inl bW)), (qV, .inr (5, [.ref qB, .ref qVL, .ref qVS, .ref qVA, .ref qVT])), (qVL, .inl (G.2.1, 16, .inl vL)), (qS, .inr (4, [.ref qB, .ref qV, .ref qSR, .ref qSI, .ref qSP, .ref qSF, .int so, .int sw])), (qSR, .inl (G.2.1, 16, .inl sR)), (qSI, .inl (G.2.1, 16, .inl sI)), (qSP, .inl (G.2.2.2.2, 17, .inr (.inr (.inr (.inr (outR qR)))))), (qSF, .inl (G.2.1, 16, .inl sF))] ++ rws G qR sP) sz) := by
  intro d
  induction d with
  | zero =>
    intro bn bk bs bT bW vL so sw sR sI sP sF x1 x2 sz r hq
    unfold kX4_tryCell at hq
    cases hq
  | succ d ihd =>
    intro bn bk bs bT bW vL so sw sR sI sP sF x1 x2 sz r hq
    unfold kX4_tryCell at hq
    refine Met.ofW (cc := cX4_tryCell) (maxL := 4) (ret := none) (by decide) rfl ?_
    intro p e s m args below meth c s₁ B hml hv
    obtain ⟨rfl, hsz, hP, hKK, hD0⟩ := hv
    have hK := hKK.1
    have hx := B.exec
    have hb := B.bytes
    have hr := B.returns
    have hts := atoms_spec (ws := wsX4_tryCell) B.pre
    have hown : s.vm.findClass RX4 = some m.cls := findClass_of_methodNamed B.named
    have hlocks := B.notSynchronized
    subst hsz
    have hD := hD0.self (sz := s.heap.size)
    generalize hAe : va_A ([(qB, .inr (0, [.ref qBT, .ref qBC, .ref qBN, .ref qBW, .ref qBL, .int bn, .int bk, .int bs])), (qBT, .inl (G.2.1, 16, .inl bT)), (qBW, .inl (G.2.1, 64, .inl bW)), (qV, .inr (5, [.ref qB, .ref qVL, .ref qVS, .ref qVA, .ref qVT])), (qVL, .inl (G.2.1, 16, .inl vL)), (qS, .inr (4, [.ref qB, .ref qV, .ref qSR, .ref qSI, .ref qSP, .ref qSF, .int so, .int sw])), (qSR, .inl (G.2.1, 16, .inl sR)), (qSI, .inl (G.2.1, 16, .inl sI)), (qSP, .inl (G.2.2.2.2, 17, .inr (.inr (.inr (.inr (outR qR)))))), (qSF, .inl (G.2.1, 16, .inl sF))] ++ rws G qR sP) s.heap.size = A at hD ⊢
    have hA : ∀ q : Nat, s.heap.size ≤ q → A q := fun q h => by rw [← hAe]; exact Or.inr h
    have hS : va_S A s.heap s.heap [] := va_S.rf
    have hl := lv_entry ([.ref qS, .int x1, .int x2] : List Value) (n := 4) (Nat.le_of_ble_eq_true rfl)
    rw [lg_entry_eq]
    generalize (lg_sl ([.ref qS, .int x1, .int x2] : List Value) ++ List.replicate (4 - (lg_sl ([.ref qS, .int x1, .int x2] : List Value)).length) Slot.unset).toArray = ls at hl ⊢
    have hl : lv_has ls 4 [(0, .ref qS), (1, .int x1), (2, .int x2)] := hl
    have hi4 : ∀ w ∈ u_ws RX4 TX4 8, w ∈ wsX4_tryCell := by decide +kernel
    have hw0 : (Cond.fieldLink RX4 26 "NetPlumber$Search" "board" "LNetPlumber$Board;").before #[Value.ref qS, Value.int x1, Value.int x2] s = true := hts _ (by decide +kernel)
    have hw1 : (Cond.fieldLink RX4 30 "NetPlumber$Search" "sieve" "LNetPlumber$Sieve;").before #[Value.ref qS, Value.int x1, Value.int x2] s = true := hts _ (by decide +kernel)
    have hw2 : (Cond.initialized RX7).before #[Value.ref qS, Value.int x1, Value.int x2] s = true := hts _ (by decide +kernel)
    have hw3 : (Cond.static yX7_holds).before #[Value.ref qS, Value.int x1, Value.int x2] s = true := hts _ (by decide +kernel)
    refine wq (fun Q hQ => ?_)
    refine lv_aload_n hx hb dX4_tryCell_0 rfl (lv_at hl 0 rfl) ?_
    refine va_get (D := G.1) (ci := 4) (v := .ref qB) (C := RX4) (T := TX4) (N := 8) hx hb hts hi4 hown hK hP 5 rfl rfl 0 (by decide) hw0 (fun _ h9 => h9) rfl dX4_tryCell_1 ?_
    refine lv_iload_n hx hb dX4_tryCell_4 rfl (lv_at hl 1 rfl) ?_
    obtain ⟨q1, eq1, hq⟩ := ob hq
    have hPc := hP.sub (ws' := [(qB, .inr (0, [.ref qBT, .ref qBC, .ref qBN, .ref qBW, .ref qBL, .int bn, .int bk, .int bs]))]) [0] rfl
    have hKc := hK
    refine vp_callSi (va_Run.run (va_runV (As := [.int x1]) (rest := []) ⟨hx, hb, hml, hown, hts⟩ (tX0_has G l eq1) (cwV 1 hts gX4_tryCell_X0_has rfl rfl rfl (by decide +kernel) ⟨(by show 1 ≤ 3 + 2 * (d + 1); omega), (by show 21 ≤ 104 + 46 * (d + 1); omega)⟩) ⟨pcP_blind, va_recv hKc hPc (ci := 0) (q0 := 0) rfl rfl, pcP_pre hPc hKK⟩ rfl rfl hl.1 rfl (lv_room (Nat.le_of_ble_eq_true rfl)) dX4_tryCell_5 ⟨Nat.zero_le _, Nat.zero_le _⟩)) (fun r0 hr0 => ?_)
    obtain rfl := hr0
    refine lv_if_ne (tgt := 18) hx hb dX4_tryCell_8 (by decide) (fun c_8 => ?_) (fun c_8 => ?_)
    · have hq := k_f c_8 hq
      refine lv_iconst (v := 0) hx hb dX4_tryCell_18 (by decide) ?_
      refine lv_istore_n (lv' := [(3, .int 0), (0, .ref qS), (1, .int x1), (2, .int x2)]) hx hb dX4_tryCell_19 rfl hl (by decide) rfl (fun ls hl => ?_)
      have L20 : ∀ (n : Nat) (s21 : Int32) (s22 : Int32) (s23 : Int32) (s24 : Nat → Int32) (s25 : Nat → Int32) (s26 : Nat → Nat → Int32) (s27 : Nat → Int32) (t_20 : Int32 × Int32 × (Nat → Int32) × (Nat → Int32) × (Nat → Nat → Int32) × (Nat → Int32)) (ls : Array Slot) (H : Heap) (locs : List Loc), kloop n (fun s_ => kX4_tryCell_s20 F bn bT bW vL x1 x2 (kX4_tryCell F d) s_.1 s_.2.1 s_.2.2.1 s_.2.2.2.1 s_.2.2.2.2.1 s_.2.2.2.2.2.1 s_.2.2.2.2.2.2) (s21, s22, s23, s24, s25, s26, s27) = some t_20 → lv_has ls 4 [(0, .ref qS), (1, .int x1), (2, .int x2), (3, .int s21)] → va_P G.1 vwCl ([(qB, .inr (0, [.ref qBT, .ref qBC, .ref qBN, .ref qBW, .ref qBL, .int bn, .int bk, .int bs])), (qBT, .inl (G.2.1, 16, .inl bT)), (qBW, .inl (G.2.1, 64, .inl bW)), (qV, .inr (5, [.ref qB, .ref qVL, .ref qVS, .ref qVA, .ref qVT])), (qVL, .inl (G.2.1, 16, .inl vL)), (qS, .inr (4, [.ref qB, .ref qV, .ref qSR, .ref qSI, .ref qSP, .ref qSF, .int s22, .int s23])), (qSR, .inl (G.2.1, 16, .inl s24)), (qSI, .inl (G.2.1, 16, .inl s25)), (qSP, .inl (G.2.2.2.2, 17, .inr (.inr (.inr (.inr (outR qR)))))), (qSF, .inl (G.2.1, 16, .inl s27))] ++ rws G qR s26) H → va_D A ([(qB, .inr (0, [.ref qBT, .ref qBC, .ref qBN, .ref qBW, .ref qBL, .int bn, .int bk, .int bs])), (qBT, .inl (G.2.1, 16, .inl bT)), (qBW, .inl (G.2.1, 64, .inl bW)), (qV, .inr (5, [.ref qB, .ref qVL, .ref qVS, .ref qVA, .ref qVT])), (qVL, .inl (G.2.1, 16, .inl vL)), (qS, .inr (4, [.ref qB, .ref qV, .ref qSR, .ref qSI, .ref qSP, .ref qSF, .int s22, .int s23])), (qSR, .inl (G.2.1, 16, .inl s24)), (qSI, .inl (G.2.1, 16, .inl s25)), (qSP, .inl (G.2.2.2.2, 17, .inr (.inr (.inr (.inr (outR qR)))))), (qSF, .inl (G.2.1, 16, .inl s27))] ++ rws G qR s26) → va_S A s.heap H locs → (∀ (ls : Array Slot) (H : Heap) (locs : List Loc), lv_has ls 4 [] → va_P G.1 vwCl ([(qB, .inr (0, [.ref qBT, .ref qBC, .ref qBN, .ref qBW, .ref qBL, .int bn, .int bk, .int bs])), (qBT, .inl (G.2.1, 16, .inl bT)), (qBW, .inl (G.2.1, 64, .inl bW)), (qV, .inr (5, [.ref qB, .ref qVL, .ref qVS, .ref qVA, .ref qVT])), (qVL, .inl (G.2.1, 16, .inl vL)), (qS, .inr (4, [.ref qB, .ref qV, .ref qSR, .ref qSI, .ref qSP, .ref qSF, .int t_20.1, .int t_20.2.1])), (qSR, .inl (G.2.1, 16, .inl t_20.2.2.1)), (qSI, .inl (G.2.1, 16, .inl t_20.2.2.2.1)), (qSP, .inl (G.2.2.2.2, 17, .inr (.inr (.inr (.inr (outR qR)))))), (qSF, .inl (G.2.1, 16, .inl t_20.2.2.2.2.2))] ++ rws G qR t_20.2.2.2.2.1) H → va_D A ([(qB, .inr (0, [.ref qBT, .ref qBC, .ref qBN, .ref qBW, .ref qBL, .int bn, .int bk, .int bs])), (qBT, .inl (G.2.1, 16, .inl bT)), (qBW, .inl (G.2.1, 64, .inl bW)), (qV, .inr (5, [.ref qB, .ref qVL, .ref qVS, .ref qVA, .ref qVT])), (qVL, .inl (G.2.1, 16, .inl vL)), (qS, .inr (4, [.ref qB, .ref qV, .ref qSR, .ref qSI, .ref qSP, .ref qSF, .int t_20.1, .int t_20.2.1])), (qSR, .inl (G.2.1, 16, .inl t_20.2.2.1)), (qSI, .inl (G.2.1, 16, .inl t_20.2.2.2.1)), (qSP, .inl (G.2.2.2.2, 17, .inr (.inr (.inr (.inr (outR qR)))))), (qSF, .inl (G.2.1, 16, .inl t_20.2.2.2.2.2))] ++ rws G qR t_20.2.2.2.2.1) → va_S A s.heap H locs → W p l e (headSpec wsX4_tryCell (rmX4_tryCell (d + 1))).room s m ([.ref qS, .int x1, .int x2] : List Value).toArray below meth c H locs 0 0 Q (F0 m 55 ls [])) → W p l e (headSpec wsX4_tryCell (rmX4_tryCell (d + 1))).room s m ([.ref qS, .int x1, .int x2] : List Value).toArray below meth c H locs 0 0 Q (F0 m 20 ls []) := by
        intro n
        induction n with
        | zero => 
          intro s21 s22 s23 s24 s25 s26 s27 t_20 ls H locs hq hl hP hD hS kk20_55
          exact absurd hq kl_0
        | succ n ih20 =>
          intro s21 s22 s23 s24 s25 s26 s27 t_20 ls H locs hq hl hP hD hS kk20_55
          obtain ⟨y_20, hq, hx20⟩ := kl_s hq
          have hq : kX4_tryCell_s20 F bn bT bW vL x1 x2 (kX4_tryCell F d) s21 s22 s23 s24 s25 s26 s27 = some y_20 := hq
          unfold kX4_tryCell_s20 at hq
          refine lv_iload_n hx hb dX4_tryCell_20 rfl (lv_at hl 3 rfl) ?_
          refine lv_iconst (v := 4) hx hb dX4_tryCell_21 (by decide) ?_
          refine lv_icmp_ge (tgt := 55) hx hb dX4_tryCell_22 (by decide) (fun c_22 => ?_) (fun c_22 => ?_)
          · have hq := k_t c_22 hq
            have et := kl_exit hq hx20
            subst et
            exact kk20_55 ls _ _ (lv_sub hl [] rfl) hP hD hS
          · have hq := k_f c_22 hq
            refine lv_aload_n hx hb dX4_tryCell_25 rfl (lv_at hl 0 rfl) ?_
            refine va_get (D := G.1) (ci := 4) (v := .ref qV) (C := RX4) (T := TX4) (N := 8) hx hb hts hi4 hown hK hP 5 rfl rfl 1 (by decide) hw1 (fun _ h9 => h9) rfl dX4_tryCell_26 ?_
            refine lv_iload_n hx hb dX4_tryCell_29 rfl (lv_at hl 1 rfl) ?_
            obtain ⟨q28, eq28, hq⟩ := ob hq
            have hPc := hP.sub (ws' := [(qV, .inr (5, [.ref qB, .ref qVL, .ref qVS, .ref qVA, .ref qVT])), (qVL, .inl (G.2.1, 16, .inl vL))]) [3, 4] rfl
            have hKc := hK
            refine vp_callSi (va_Run.run (va_runV (As := [.int x1]) (rest := []) ⟨hx, hb, hml, hown, hts⟩ (tX5_leftAt G l eq28) (cwV 1 hts gX4_tryCell_X5_leftAt rfl rfl rfl (by decide +kernel) ⟨(by show 2 ≤ 3 + 2 * (d + 1); omega), (by show 42 ≤ 104 + 46 * (d + 1); omega)⟩) ⟨pcP_blind, va_recv hKc hPc (ci := 5) (q0 := 0) rfl rfl, pcP_pre hPc hKK⟩ rfl rfl hl.1 rfl (lv_room (Nat.le_of_ble_eq_true rfl)) dX4_tryCell_30 ⟨Nat.zero_le _, Nat.zero_le _⟩)) (fun r0 hr0 => ?_)
            obtain rfl := hr0
            refine lv_iload_n hx hb dX4_tryCell_33 rfl (lv_at hl 3 rfl) ?_
            obtain ⟨q29, eq29, hq⟩ := ob hq
            have hPc := hP.sub (ws' := []) [] rfl
            refine vp_callSi (va_Run.run (va_runSN (As := [.int q28, .int s21]) (rest := []) ⟨hx, hb, hml, hown, hts⟩ (tX7_holds G l eq29) ⟨va_cnB 2 hts gX4_tryCell_X7_holds_n64 rfl rfl rfl (hKK.2 _ (List.mem_of_getElem? (i := 13) rfl)) hw2 (by decide +kernel) ⟨(by show 1 ≤ 3 + 2 * (d + 1); omega), (by show 21 ≤ 104 + 46 * (d + 1); omega)⟩, hw3, trivial⟩ ⟨pcP_blind, pcP_pre hPc hKK⟩ rfl rfl hl.1 rfl (lv_room (Nat.le_of_ble_eq_true rfl)) dX4_tryCell_34 ⟨Nat.zero_le _, Nat.zero_le _⟩)) (fun r0 hr0 => ?_)
            obtain rfl := hr0
            refine lv_if_eq (tgt := 49) hx hb dX4_tryCell_37 (by decide) (fun c_37 => ?_) (fun c_37 => ?_)
            · have hq := k_t c_37 hq
              refine lv_iinc (v := (s21 + 1)) (lv' := [(3, .int (s21 + 1)), (0, .ref qS), (1, .int x1), (2, .int x2)]) hx hb dX4_tryCell_49 hl (k := 3) rfl rfl (by decide) rfl (fun ls hl => ?_)
              refine lv_goto (tgt := 20) hx hb dX4_tryCell_52 (by decide) ?_
              exact ih20 (s21 + 1) s22 s23 s24 s25 s26 s27 t_20 ls _ _ (kl_back hq hx20) (lv_sub hl [1, 2, 3, 0] rfl) hP hD hS kk20_55
            · have hq := k_f c_37 hq
              refine lv_aload_n hx hb dX4_tryCell_40 rfl (lv_at hl 0 rfl) ?_
              refine lv_iload_n hx hb dX4_tryCell_41 rfl (lv_at hl 1 rfl) ?_
              refine lv_iload_n hx hb dX4_tryCell_42 rfl (lv_at hl 3 rfl) ?_
              refine lv_iload_n hx hb dX4_tryCell_43 rfl (lv_at hl 2 rfl) ?_
              refine lv_iload_n hx hb dX4_tryCell_44 rfl (lv_at hl 3 rfl) ?_
              refine lv_iadd hx hb dX4_tryCell_45 ?_
              obtain ⟨q37, eq37, hq⟩ := ob hq
              have hPc := hP.part (cx := [(qB, .inr (0, [.ref qBT, .ref qBC, .ref qBN, .ref qBW, .ref qBL, .int bn, .int bk, .int bs])), (qBT, .inl (G.2.1, 16, .inl bT)), (qBW, .inl (G.2.1, 64, .inl bW)), (qV, .inr (5, [.ref qB, .ref qVL, .ref qVS, .ref qVA, .ref qVT])), (qVL, .inl (G.2.1, 16, .inl vL)), (qS, .inr (4, [.ref qB, .ref qV, .ref qSR, .ref qSI, .ref qSP, .ref qSF, .int s22, .int s23])), (qSR, .inl (G.2.1, 16, .inl s24)), (qSI, .inl (G.2.1, 16, .inl s25)), (qSP, .inl (G.2.2.2.2, 17, .inr (.inr (.inr (.inr (outR qR)))))), (qSF, .inl (G.2.1, 16, .inl s27))]) [0, 1, 2, 3, 4, 5, 6, 7, 8, 9] rfl
              have hKc := hK
              have hDc := hD.part (cx := [(qB, .inr (0, [.ref qBT, .ref qBC, .ref qBN, .ref qBW, .ref qBL, .int bn, .int bk, .int bs])), (qBT, .inl (G.2.1, 16, .inl bT)), (qBW, .inl (G.2.1, 64, .inl bW)), (qV, .inr (5, [.ref qB, .ref qVL, .ref qVS, .ref qVA, .ref qVT])), (qVL, .inl (G.2.1, 16, .inl vL)), (qS, .inr (4, [.ref qB, .ref qV, .ref qSR, .ref qSI, .ref qSP, .ref qSF, .int s22, .int s23])), (qSR, .inl (G.2.1, 16, .inl s24)), (qSI, .inl (G.2.1, 16, .inl s25)), (qSP, .inl (G.2.2.2.2, 17, .inr (.inr (.inr (.inr (outR qR)))))), (qSF, .inl (G.2.1, 16, .inl s27))]) [0, 1, 2, 3, 4, 5, 6, 7, 8, 9] (by decide) rfl
              have hFc := va_freeP (cx := [(qB, .inr (0, [.ref qBT, .ref qBC, .ref qBN, .ref qBW, .ref qBL, .int bn, .int bk, .int bs])), (qBT, .inl (G.2.1, 16, .inl bT)), (qBW, .inl (G.2.1, 64, .inl bW)), (qV, .inr (5, [.ref qB, .ref qVL, .ref qVS, .ref qVA, .ref qVT])), (qVL, .inl (G.2.1, 16, .inl vL)), (qS, .inr (4, [.ref qB, .ref qV, .ref qSR, .ref qSI, .ref qSP, .ref qSF, .int s22, .int s23])), (qSR, .inl (G.2.1, 16, .inl s24)), (qSI, .inl (G.2.1, 16, .inl s25)), (qSP, .inl (G.2.2.2.2, 17, .inr (.inr (.inr (.inr (outR qR)))))), (qSF, .inl (G.2.1, 16, .inl s27))]) hD hS hA [0, 1, 2, 3, 4, 5, 6, 7, 8, 9] rfl
              refine va_callv (va_runV (As := [.int x1, .int s21, .int (x2 + s21)]) (rest := []) ⟨hx, hb, hml, hown, hts⟩ (tX4_tryLay G l ihd eq37) (cwV 3 hts gX4_tryCell_X4_tryLay rfl rfl rfl (by decide +kernel) ⟨(by show (3 + 2 * d + 1) + 1 ≤ 3 + 2 * (d + 1); omega), (by show 8 + (4 + 11) + (104 + 23 + 46 * d) ≤ 104 + 46 * (d + 1); omega)⟩) ⟨pcW_blind, va_recv hKc hPc (ci := 4) (q0 := 5) rfl rfl, pcW_pre hPc hKK hDc⟩ rfl rfl hl.1 rfl (lv_room (Nat.le_of_ble_eq_true rfl)) dX4_tryCell_46 ⟨Nat.zero_le _, Nat.zero_le _⟩) hS (fun q _ h => hFc q h) hFc (fun u t H1 locs ht hvm hw hB hz1 hk1 hS => ?_)
              have hB := va_Pto ht hB
              obtain ⟨hP, hD⟩ := jnR (X' := [(qB, .inr (0, [.ref qBT, .ref qBC, .ref qBN, .ref qBW, .ref qBL, .int bn, .int bk, .int bs])), (qBT, .inl (G.2.1, 16, .inl bT)), (qBW, .inl (G.2.1, 64, .inl bW)), (qV, .inr (5, [.ref qB, .ref qVL, .ref qVS, .ref qVA, .ref qVT])), (qVL, .inl (G.2.1, 16, .inl vL)), (qS, .inr (4, [.ref qB, .ref qV, .ref qSR, .ref qSI, .ref qSP, .ref qSF, .int q37.1, .int q37.2.1])), (qSR, .inl (G.2.1, 16, .inl q37.2.2.1)), (qSI, .inl (G.2.1, 16, .inl q37.2.2.2.1)), (qSP, .inl (G.2.2.2.2, 17, .inr (.inr (.inr (.inr (outR qR)))))), (qSF, .inl (G.2.1, 16, .inl q37.2.2.2.2.2))]) hP hD hk1 hB [0, 1, 2, 3, 4, 5, 6, 7, 8, 9] rfl rfl rfl rfl
              generalize H1 = H at hP hS ⊢
              refine lv_iinc (v := (s21 + 1)) (lv' := [(3, .int (s21 + 1)), (0, .ref qS), (1, .int x1), (2, .int x2)]) hx hb dX4_tryCell_49 hl (k := 3) rfl rfl (by decide) rfl (fun ls hl => ?_)
              refine lv_goto (tgt := 20) hx hb dX4_tryCell_52 (by decide) ?_
              exact ih20 (s21 + 1) q37.1 q37.2.1 q37.2.2.1 q37.2.2.2.1 q37.2.2.2.2.1 q37.2.2.2.2.2 t_20 ls _ _ (kl_back hq hx20) (lv_sub hl [1, 2, 3, 0] rfl) hP hD hS kk20_55
      obtain ⟨q38, eq38, hq⟩ := ob hq
      refine L20 F 0 so sw sR sI sP sF q38 ls _ _ (eq38) (lv_sub hl [1, 2, 3, 0] rfl) hP hD hS (fun ls H locs hl hP hD hS => ?_)
      · obtain rfl := Option.some.inj hq
        rw [hQ]
        exact W.vret hx hb hr (fun t ht hW => ⟨⟨(), rfl, trivial, va_Pat ht hP⟩, hS.F ht⟩) hS.2.2 dX4_tryCell_55
    · have hq := k_t c_8 hq
      refine lv_aload_n hx hb dX4_tryCell_11 rfl (lv_at hl 0 rfl) ?_
      refine lv_iload_n hx hb dX4_tryCell_12 rfl (lv_at hl 1 rfl) ?_
      refine lv_iload_n hx hb dX4_tryCell_13 rfl (lv_at hl 2 rfl) ?_
      obtain ⟨q39, eq39, hq⟩ := ob hq
      have hPc := hP.part (cx := [(qB, .inr (0, [.ref qBT, .ref qBC, .ref qBN, .ref qBW, .ref qBL, .int bn, .int bk, .int bs])), (qS, .inr (4, [.ref qB, .ref qV, .ref qSR, .ref qSI, .ref qSP, .ref qSF, .int so, .int sw])), (qSR, .inl (G.2.1, 16, .inl sR)), (qSP, .inl (G.2.2.2.2, 17, .inr (.inr (.inr (.inr (outR qR)))))), (qSF, .inl (G.2.1, 16, .inl sF))]) [0, 5, 6, 8, 9] rfl
      have hKc := hK
      have hDc := hD.part (cx := [(qB, .inr (0, [.ref qBT, .ref qBC, .ref qBN, .ref qBW, .ref qBL, .int bn, .int bk, .int bs])), (qS, .inr (4, [.ref qB, .ref qV, .ref qSR, .ref qSI, .ref qSP, .ref qSF, .int so, .int sw])), (qSR, .inl (G.2.1, 16, .inl sR)), (qSP, .inl (G.2.2.2.2, 17, .inr (.inr (.inr (.inr (outR qR)))))), (qSF, .inl (G.2.1, 16, .inl sF))]) [0, 5, 6, 8, 9] (by decide) rfl
      have hFc := va_freeP (cx := [(qB, .inr (0, [.ref qBT, .ref qBC, .ref qBN, .ref qBW, .ref qBL, .int bn, .int bk, .int bs])), (qS, .inr (4, [.ref qB, .ref qV, .ref qSR, .ref qSI, .ref qSP, .ref qSF, .int so, .int sw])), (qSR, .inl (G.2.1, 16, .inl sR)), (qSP, .inl (G.2.2.2.2, 17, .inr (.inr (.inr (.inr (outR qR)))))), (qSF, .inl (G.2.1, 16, .inl sF))]) hD hS hA [0, 5, 6, 8, 9] rfl
      refine va_callv (va_runV (As := [.int x1, .int x2]) (rest := []) ⟨hx, hb, hml, hown, hts⟩ (tX4_noteSolution G l eq39) (cwV 2 hts gX4_tryCell_X4_noteSolution rfl rfl rfl (by decide +kernel) ⟨(by show 2 ≤ 3 + 2 * (d + 1); omega), (by show 102 ≤ 104 + 46 * (d + 1); omega)⟩) ⟨pcW_blind, va_recv hKc hPc (ci := 4) (q0 := 1) rfl rfl, pcW_pre hPc hKK hDc⟩ rfl rfl hl.1 rfl (lv_room (Nat.le_of_ble_eq_true rfl)) dX4_tryCell_14 ⟨Nat.zero_le _, Nat.zero_le _⟩) hS (fun q _ h => hFc q h) hFc (fun u t H1 locs ht hvm hw hB hz1 hk1 hS => ?_)
      have hB := va_Pto ht hB
      obtain ⟨hP, hD⟩ := jnR (X' := [(qB, .inr (0, [.ref qBT, .ref qBC, .ref qBN, .ref qBW, .ref qBL, .int bn, .int bk, .int bs])), (qBT, .inl (G.2.1, 16, .inl bT)), (qBW, .inl (G.2.1, 64, .inl bW)), (qV, .inr (5, [.ref qB, .ref qVL, .ref qVS, .ref qVA, .ref qVT])), (qVL, .inl (G.2.1, 16, .inl vL)), (qS, .inr (4, [.ref qB, .ref qV, .ref qSR, .ref qSI, .ref qSP, .ref qSF, .int q39.1, .int q39.2.1])), (qSR, .inl (G.2.1, 16, .inl sR)), (qSI, .inl (G.2.1, 16, .inl sI)), (qSP, .inl (G.2.2.2.2, 17, .inr (.inr (.inr (.inr (outR qR)))))), (qSF, .inl (G.2.1, 16, .inl q39.2.2))]) hP hD hk1 hB [0, 5, 6, 8, 9] rfl rfl rfl rfl
      generalize H1 = H at hP hS ⊢
      obtain rfl := Option.some.inj hq
      rw [hQ]
      exact W.vret hx hb hr (fun t ht hW => ⟨⟨(), rfl, trivial, va_Pat ht hP⟩, hS.F ht⟩) hS.2.2 dX4_tryCell_17
abbrev rmX4_tryCellT : Room := { frames := 43, cells := 0, slots := 0, locals := 1024 }
theorem tX4_tryCellT (G : GG) (l : Launch) {qB qBT qBC qBN qBW qBL qV qVL qVS qVA qVT qS qSR qSI qSP qSF : Nat} {qR : Nat → Nat} {F : Nat} {bn : Int32} {bk : Int32} {bs : Int32} {bT : Nat → Int32} {bW : Nat → Int32} {vL : Nat → Int32} {so : Int32} {sw : Int32} {sR : Nat → Int32} {sI : Nat → Int32} {sP : Nat → Nat → Int32} {sF : Nat → Int32} {x1 : Int32} {x2 : Int32} {sz : Nat} {r : Int32 × Int32 × (Nat → Int32) × (Nat → Int32) × (Nat → Nat → Int32) × (Nat → Int32)} (hq : kX4_tryCellT F bn bT bW vL so sw sR sI sP sF x1 x2 = some r) : Met l yX4_tryCell wsX4_tryCell rmX4_tryCellT (pcW G ([(qB, .inr (0, [.ref qBT, .ref qBC, .ref qBN, .ref qBW, .ref qBL, .int bn, .int bk, .int bs])), (qBT, .inl (G.2.1, 16, .inl bT)), (qBW, .inl (G.2.1, 64, .inl bW)), (qV, .inr (5, [.ref qB, .ref qVL, .ref qVS, .ref qVA, .ref qVT])), (qVL, .inl (G.2.1, 16, .inl vL)), (qS, .inr (4, [.ref qB, .ref qV, .ref qSR, .ref qSI, .ref qSP, .ref qSF, .int so, .int sw])), (qSR, .inl (G.2.1, 16, .inl sR)), (qSI, .inl (G.2.1, 16, .inl sI)), (qSP, .inl (G.2.2.2.2, 17, .inr (.inr (.inr (.inr (outR qR)))))), (qSF, .inl (G.2.1, 16, .inl sF))] ++ rws G qR sP) sz [.ref qS, .int x1, .int x2]) (qcV G ([(qB, .inr (0, [.ref qBT, .ref qBC, .ref qBN, .ref qBW, .ref qBL, .int bn, .int bk, .int bs])), (qBT, .inl (G.2.1, 16, .inl bT)), (qBW, .inl (G.2.1, 64, .inl bW)), (qV, .inr (5, [.ref qB, .ref qVL, .ref qVS, .ref qVA, .ref qVT])), (qVL, .inl (G.2.1, 16, .inl vL)), (qS, .inr (4, [.ref qB, .ref qV, .ref qSR, .ref qSI, .ref qSP, .ref qSF, .int r.1, .int r.2.1])), (qSR, .inl (G.2.1, 16, .inl r.2.2.1)), (qSI, .inl (G.2.1, 16, .inl r.2.2.2.1)), (qSP, .inl (G.2.2.2.2, 17, .inr (.inr (.inr (.inr (outR qR)))))), (qSF, .inl (G.2.1, 16, .inl r.2.2.2.2.2))] ++ rws G qR r.2.2.2.2.1) (va_A ([(qB, .inr (0, [.ref qBT, .ref qBC, .ref qBN, .ref qBW, .ref qBL, .int bn, .int bk, .int bs])), (qBT, .inl (G.2.1, 16, .inl bT)), (qBW, .inl (G.2.1, 64, .inl bW)), (qV, .inr (5, [.ref qB, .ref qVL, .ref qVS, .ref qVA, .ref qVT])), (qVL, .inl (G.2.1, 16, .inl vL)), (qS, .inr (4, [.ref qB, .ref qV, .ref qSR, .ref qSI, .ref qSP, .ref qSF, .int so, .int sw])), (qSR, .inl (G.2.1, 16, .inl sR)), (qSI, .inl (G.2.1, 16, .inl sI)), (qSP, .inl (G.2.2.2.2, 17, .inr (.inr (.inr (.inr (outR qR)))))), (qSF, .inl (G.2.1, 16, .inl sF))] ++ rws G qR sP) sz)) 0 0 (va_A ([(qB, .inr (0, [.ref qBT, .ref qBC, .ref qBN, .ref qBW, .ref qBL, .int bn, .int bk, .int bs])), (qBT, .inl (G.2.1, 16, .inl bT)), (qBW, .inl (G.2.1, 64, .inl bW)), (qV, .inr (5, [.ref qB, .ref qVL, .ref qVS, .ref qVA, .ref qVT])), (qVL, .inl (G.2.1, 16, .inl vL)), (qS, .inr (4, [.ref qB, .ref qV, .ref qSR, .ref qSI, .ref qSP, .ref qSF, .int so, .int sw])), (qSR, .inl (G.2.1, 16, .inl sR)), (qSI, .inl (G.2.1, 16, .inl sI)), (qSP, .inl (G.2.2.2.2, 17, .inr (.inr (.inr (.inr (outR qR)))))), (qSF, .inl (G.2.1, 16, .inl sF))] ++ rws G qR sP) sz) := tX4_tryCell G l 20 hq

def kX4_countAll (F : Nat) (bn : Int32) (bT : Nat → Int32) (bW : Nat → Int32) (vL : Nat → Int32) (so : Int32) (sw : Int32) (sR : Nat → Int32) (sI : Nat → Int32) (sP : Nat → Nat → Int32) (sF : Nat → Int32) : Option (Int32 × Int32 × Int32 × (Nat → Int32) × (Nat → Int32) × (Nat → Nat → Int32) × (Nat → Int32)) :=
  ((kX4_tryCellT F bn bT bW vL 0 0 sR sI sP sF 0 0).bind fun q1 => some (q1.1, q1.1, q1.2.1, q1.2.2.1, q1.2.2.2.1, q1.2.2.2.2.1, q1.2.2.2.2.2))
abbrev rmX4_countAll : Room := { frames := 44, cells := 0, slots := 0, locals := 1047 }
set_option maxHeartbeats 40000000 in
set_option maxRecDepth 100000 in
theorem tX4_countAll (G : GG) (l : Launch) {qB qBT qBC qBN qBW qBL qV qVL qVS qVA qVT qS qSR qSI qSP qSF : Nat} {qR : Nat → Nat} {bn : Int32} {bk : Int32} {bs : Int32} {bT : Nat → Int32} {bW : Nat → Int32} {vL : Nat → Int32} {so : Int32} {sw : Int32} {sR : Nat → Int32} {sI : Nat → Int32} {sP : Nat → Nat → Int32} {sF : Nat → Int32} {sz : Nat} {F : Nat} {r : Int32 × Int32 × Int32 × (Nat → Int32) × (Nat → Int32) × (Nat → Nat → Int32) × (Nat → Int32)} (hq : kX4_countAll F bn bT bW vL so sw sR sI sP sF = some r) : Met l yX4_countAll wsX4_countAll rmX4_countAll (pcW G ([(qB, .inr (0, [.ref qBT, .ref qBC, .ref qBN, .ref qBW, .ref qBL, .int bn, .int bk, .int bs])), (qBT, .inl (G.2.1, 16, .inl bT)), (qBW, .inl (G.2.1, 64, .inl bW)), (qV, .inr (5, [.ref qB, .ref qVL, .ref qVS, .ref qVA, .ref qVT])), (qVL, .inl (G.2.1, 16, .inl vL)), (qS, .inr (4, [.ref qB, .ref qV, .ref qSR, .ref qSI, .ref qSP, .ref qSF, .int so, .int sw])), (qSR, .inl (G.2.1, 16, .inl sR)), (qSI, .inl (G.2.1, 16, .inl sI)), (qSP, .inl (G.2.2.2.2, 17, .inr (.inr (.inr (.inr (outR qR)))))), (qSF, .inl (G.2.1, 16, .inl sF))] ++ rws G qR sP) sz [.ref qS]) (qcI G r.1 ([(qB, .inr (0, [.ref qBT, .ref qBC, .ref qBN, .ref qBW, .ref qBL, .int bn, .int bk, .int bs])), (qBT, .inl (G.2.1, 16, .inl bT)), (qBW, .inl (G.2.1, 64, .inl bW)), (qV, .inr (5, [.ref qB, .ref qVL, .ref qVS, .ref qVA, .ref qVT])), (qVL, .inl (G.2.1, 16, .inl vL)), (qS, .inr (4, [.ref qB, .ref qV, .ref qSR, .ref qSI, .ref qSP, .ref qSF, .int r.2.1, .int r.2.2.1])), (qSR, .inl (G.2.1, 16, .inl r.2.2.2.1)), (qSI, .inl (G.2.1, 16, .inl r.2.2.2.2.1)), (qSP, .inl (G.2.2.2.2, 17, .inr (.inr (.inr (.inr (outR qR)))))), (qSF, .inl (G.2.1, 16, .inl r.2.2.2.2.2.2))] ++ rws G qR r.2.2.2.2.2.1) (va_A ([(qB, .inr (0, [.ref qBT, .ref qBC, .ref qBN, .ref qBW, .ref qBL, .int bn, .int bk, .int bs])), (qBT, .inl (G.2.1, 16, .inl bT)), (qBW, .inl (G.2.1, 64, .inl bW)), (qV, .inr (5, [.ref qB, .ref qVL, .ref qVS, .ref qVA, .ref qVT])), (qVL, .inl (G.2.1, 16, .inl vL)), (qS, .inr (4, [.ref qB, .ref qV, .ref qSR, .ref qSI, .ref qSP, .ref qSF, .int so, .int sw])), (qSR, .inl (G.2.1, 16, .inl sR)), (qSI, .inl (G.2.1, 16, .inl sI)), (qSP, .inl (G.2.2.2.2, 17, .inr (.inr (.inr (.inr (outR qR)))))), (qSF, .inl (G.2.1, 16, .inl sF))] ++ rws G qR sP) sz)) 0 0 (va_A ([(qB, .inr (0, [.ref qBT, .ref qBC, .ref qBN, .ref qBW, .ref qBL, .int bn, .int bk, .int bs])), (qBT, .inl (G.2.1, 16, .inl bT)), (qBW, .inl (G.2.1, 64, .inl bW)), (qV, .inr (5, [.ref qB, .ref qVL, .ref qVS, .ref qVA, .ref qVT])), (qVL, .inl (G.2.1, 16, .inl vL)), (qS, .inr (4, [.ref qB, .ref qV, .ref qSR, .ref qSI, .ref qSP, .ref qSF, .int so, .int sw])), (qSR, .inl (G.2.1, 16, .inl sR)), (qSI, .inl (G.2.1, 16, .inl sI)), (qSP, .inl (G.2.2.2.2, 17, .inr (.inr (.inr (.inr (outR qR)))))), (qSF, .inl (G.2.1, 16, .inl sF))] ++ rws G qR sP) sz) := by
  refine Met.ofW (cc := cX4_countAll) (maxL := 1) (ret := (some .int)) (by decide) rfl ?_
  intro p e s m args below meth c s₁ B hml hv
  obtain ⟨rfl, hsz, hP, hKK, hD0⟩ := hv
  have hK := hKK.1
  have hx := B.exec
  have hb := B.bytes
  have hr := B.returns
  have hts := atoms_spec (ws := wsX4_countAll) B.pre
  have hown : s.vm.findClass RX4 = some m.cls := findClass_of_methodNamed B.named
  have hlocks := B.notSynchronized
  subst hsz
  have hD := hD0.self (sz := s.heap.size)
  generalize hAe : va_A ([(qB, .inr (0, [.ref qBT, .ref qBC, .ref qBN, .ref qBW, .ref qBL, .int bn, .int bk, .int bs])), (qBT, .inl (G.2.1, 16, .inl bT)), (qBW, .inl (G.2.1, 64, .inl bW)), (qV, .inr (5, [.ref qB, .ref qVL, .ref qVS, .ref qVA, .ref qVT])), (qVL, .inl (G.2.1, 16, .inl vL)), (qS, .inr (4, [.ref qB, .ref qV, .ref qSR, .ref qSI, .ref qSP, .ref qSF, .int so, .int sw])), (qSR, .inl (G.2.1, 16, .inl sR)), (qSI, .inl (G.2.1, 16, .inl sI)), (qSP, .inl (G.2.2.2.2, 17, .inr (.inr (.inr (.inr (outR qR)))))), (qSF, .inl (G.2.1, 16, .inl sF))] ++ rws G qR sP) s.heap.size = A at hD ⊢
  have hA : ∀ q : Nat, s.heap.size ≤ q → A q := fun q h => by rw [← hAe]; exact Or.inr h
  have hS : va_S A s.heap s.heap [] := va_S.rf
  have hl := lv_entry ([.ref qS] : List Value) (n := 1) (Nat.le_of_ble_eq_true rfl)
  rw [lg_entry_eq]
  generalize (lg_sl ([.ref qS] : List Value) ++ List.replicate (1 - (lg_sl ([.ref qS] : List Value)).length) Slot.unset).toArray = ls at hl ⊢
  have hl : lv_has ls 1 [(0, .ref qS)] := hl
  have hi4 : ∀ w ∈ u_ws RX4 TX4 8, w ∈ wsX4_countAll := by decide +kernel
  have hw0 : (Cond.fieldLink RX4 34 "NetPlumber$Search" "found" "I").before #[Value.ref qS] s = true := hts _ (by decide +kernel)
  have hw1 : (Cond.fieldLink RX4 38 "NetPlumber$Search" "fewest" "I").before #[Value.ref qS] s = true := hts _ (by decide +kernel)
  refine wq (fun Q hQ => ?_)
  unfold kX4_countAll at hq
  refine lv_aload_n hx hb dX4_countAll_0 rfl (lv_at hl 0 rfl) ?_
  refine lv_iconst (v := 0) hx hb dX4_countAll_1 (by decide) ?_
  refine va_put (D := G.1) (ci := 4) (v := .int 0) (ty := .int) (C := RX4) (T := TX4) (N := 8) hx hb hts hi4 tyX4 tyX4_ok nmX4 hown hK hP hD hS 5 rfl rfl 6 (by decide) hw0 (fun _ h9 => h9) rfl (by decide +kernel) rfl rfl (Nat.le_of_ble_eq_true rfl) dX4_countAll_2 (fun H locs hP hD hS => ?_)
  have hP : va_P G.1 vwCl ([(qB, .inr (0, [.ref qBT, .ref qBC, .ref qBN, .ref qBW, .ref qBL, .int bn, .int bk, .int bs])), (qBT, .inl (G.2.1, 16, .inl bT)), (qBW, .inl (G.2.1, 64, .inl bW)), (qV, .inr (5, [.ref qB, .ref qVL, .ref qVS, .ref qVA, .ref qVT])), (qVL, .inl (G.2.1, 16, .inl vL)), (qS, .inr (4, [.ref qB, .ref qV, .ref qSR, .ref qSI, .ref qSP, .ref qSF, .int 0, .int sw])), (qSR, .inl (G.2.1, 16, .inl sR)), (qSI, .inl (G.2.1, 16, .inl sI)), (qSP, .inl (G.2.2.2.2, 17, .inr (.inr (.inr (.inr (outR qR)))))), (qSF, .inl (G.2.1, 16, .inl sF))] ++ rws G qR sP) H := hP
  have hD : va_D A ([(qB, .inr (0, [.ref qBT, .ref qBC, .ref qBN, .ref qBW, .ref qBL, .int bn, .int bk, .int bs])), (qBT, .inl (G.2.1, 16, .inl bT)), (qBW, .inl (G.2.1, 64, .inl bW)), (qV, .inr (5, [.ref qB, .ref qVL, .ref qVS, .ref qVA, .ref qVT])), (qVL, .inl (G.2.1, 16, .inl vL)), (qS, .inr (4, [.ref qB, .ref qV, .ref qSR, .ref qSI, .ref qSP, .ref qSF, .int 0, .int sw])), (qSR, .inl (G.2.1, 16, .inl sR)), (qSI, .inl (G.2.1, 16, .inl sI)), (qSP, .inl (G.2.2.2.2, 17, .inr (.inr (.inr (.inr (outR qR)))))), (qSF, .inl (G.2.1, 16, .inl sF))] ++ rws G qR sP) := hD
  refine lv_aload_n hx hb dX4_countAll_5 rfl (lv_at hl 0 rfl) ?_
  refine lv_iconst (v := 0) hx hb dX4_countAll_6 (by decide) ?_
  refine va_put (D := G.1) (ci := 4) (v := .int 0) (ty := .int) (C := RX4) (T := TX4) (N := 8) hx hb hts hi4 tyX4 tyX4_ok nmX4 hown hK hP hD hS 5 rfl rfl 7 (by decide) hw1 (fun _ h9 => h9) rfl (by decide +kernel) rfl rfl (Nat.le_of_ble_eq_true rfl) dX4_countAll_7 (fun H locs hP hD hS => ?_)
  have hP : va_P G.1 vwCl ([(qB, .inr (0, [.ref qBT, .ref qBC, .ref qBN, .ref qBW, .ref qBL, .int bn, .int bk, .int bs])), (qBT, .inl (G.2.1, 16, .inl bT)), (qBW, .inl (G.2.1, 64, .inl bW)), (qV, .inr (5, [.ref qB, .ref qVL, .ref qVS, .ref qVA, .ref qVT])), (qVL, .inl (G.2.1, 16, .inl vL)), (qS, .inr (4, [.ref qB, .ref qV, .ref qSR, .ref qSI, .ref qSP, .ref qSF, .int 0, .int 0])), (qSR, .inl (G.2.1, 16, .inl sR)), (qSI, .inl (G.2.1, 16, .inl sI)), (qSP, .inl (G.2.2.2.2, 17, .inr (.inr (.inr (.inr (outR qR)))))), (qSF, .inl (G.2.1, 16, .inl sF))] ++ rws G qR sP) H := hP
  have hD : va_D A ([(qB, .inr (0, [.ref qBT, .ref qBC, .ref qBN, .ref qBW, .ref qBL, .int bn, .int bk, .int bs])), (qBT, .inl (G.2.1, 16, .inl bT)), (qBW, .inl (G.2.1, 64, .inl bW)), (qV, .inr (5, [.ref qB, .ref qVL, .ref qVS, .ref qVA, .ref qVT])), (qVL, .inl (G.2.1, 16, .inl vL)), (qS, .inr (4, [.ref qB, .ref qV, .ref qSR, .ref qSI, .ref qSP, .ref qSF, .int 0, .int 0])), (qSR, .inl (G.2.1, 16, .inl sR)), (qSI, .inl (G.2.1, 16, .inl sI)), (qSP, .inl (G.2.2.2.2, 17, .inr (.inr (.inr (.inr (outR qR)))))), (qSF, .inl (G.2.1, 16, .inl sF))] ++ rws G qR sP) := hD
  refine lv_aload_n hx hb dX4_countAll_10 rfl (lv_at hl 0 rfl) ?_
  refine lv_iconst (v := 0) hx hb dX4_countAll_11 (by decide) ?_
  refine lv_iconst (v := 0) hx hb dX4_countAll_12 (by decide) ?_
  obtain ⟨q1, eq1, hq⟩ := ob hq
  have hPc := hP.part (cx := [(qB, .inr (0, [.ref qBT, .ref qBC, .ref qBN, .ref qBW, .ref qBL, .int bn, .int bk, .int bs])), (qBT, .inl (G.2.1, 16, .inl bT)), (qBW, .inl (G.2.1, 64, .inl bW)), (qV, .inr (5, [.ref qB, .ref qVL, .ref qVS, .ref qVA, .ref qVT])), (qVL, .inl (G.2.1, 16, .inl vL)), (qS, .inr (4, [.ref qB, .ref qV, .ref qSR, .ref qSI, .ref qSP, .ref qSF, .int 0, .int 0])), (qSR, .inl (G.2.1, 16, .inl sR)), (qSI, .inl (G.2.1, 16, .inl sI)), (qSP, .inl (G.2.2.2.2, 17, .inr (.inr (.inr (.inr (outR qR)))))), (qSF, .inl (G.2.1, 16, .inl sF))]) [0, 1, 2, 3, 4, 5, 6, 7, 8, 9] rfl
  have hKc := hK
  have hDc := hD.part (cx := [(qB, .inr (0, [.ref qBT, .ref qBC, .ref qBN, .ref qBW, .ref qBL, .int bn, .int bk, .int bs])), (qBT, .inl (G.2.1, 16, .inl bT)), (qBW, .inl (G.2.1, 64, .inl bW)), (qV, .inr (5, [.ref qB, .ref qVL, .ref qVS, .ref qVA, .ref qVT])), (qVL, .inl (G.2.1, 16, .inl vL)), (qS, .inr (4, [.ref qB, .ref qV, .ref qSR, .ref qSI, .ref qSP, .ref qSF, .int 0, .int 0])), (qSR, .inl (G.2.1, 16, .inl sR)), (qSI, .inl (G.2.1, 16, .inl sI)), (qSP, .inl (G.2.2.2.2, 17, .inr (.inr (.inr (.inr (outR qR)))))), (qSF, .inl (G.2.1, 16, .inl sF))]) [0, 1, 2, 3, 4, 5, 6, 7, 8, 9] (by decide) rfl
  have hFc := va_freeP (cx := [(qB, .inr (0, [.ref qBT, .ref qBC, .ref qBN, .ref qBW, .ref qBL, .int bn, .int bk, .int bs])), (qBT, .inl (G.2.1, 16, .inl bT)), (qBW, .inl (G.2.1, 64, .inl bW)), (qV, .inr (5, [.ref qB, .ref qVL, .ref qVS, .ref qVA, .ref qVT])), (qVL, .inl (G.2.1, 16, .inl vL)), (qS, .inr (4, [.ref qB, .ref qV, .ref qSR, .ref qSI, .ref qSP, .ref qSF, .int 0, .int 0])), (qSR, .inl (G.2.1, 16, .inl sR)), (qSI, .inl (G.2.1, 16, .inl sI)), (qSP, .inl (G.2.2.2.2, 17, .inr (.inr (.inr (.inr (outR qR)))))), (qSF, .inl (G.2.1, 16, .inl sF))]) hD hS hA [0, 1, 2, 3, 4, 5, 6, 7, 8, 9] rfl
  refine va_callv (va_runV (As := [.int 0, .int 0]) (rest := []) ⟨hx, hb, hml, hown, hts⟩ (tX4_tryCellT G l eq1) (cwV 2 hts gX4_countAll_X4_tryCell rfl rfl rfl (by decide +kernel) ⟨Nat.le_of_ble_eq_true rfl, Nat.le_of_ble_eq_true rfl⟩) ⟨pcW_blind, va_recv hKc hPc (ci := 4) (q0 := 5) rfl rfl, pcW_pre hPc hKK hDc⟩ rfl rfl hl.1 rfl (lv_room (Nat.le_of_ble_eq_true rfl)) dX4_countAll_13 ⟨Nat.zero_le _, Nat.zero_le _⟩) hS (fun q _ h => hFc q h) hFc (fun u t H1 locs ht hvm hw hB hz1 hk1 hS => ?_)
  have hB := va_Pto ht hB
  obtain ⟨hP, hD⟩ := jnR (X' := [(qB, .inr (0, [.ref qBT, .ref qBC, .ref qBN, .ref qBW, .ref qBL, .int bn, .int bk, .int bs])), (qBT, .inl (G.2.1, 16, .inl bT)), (qBW, .inl (G.2.1, 64, .inl bW)), (qV, .inr (5, [.ref qB, .ref qVL, .ref qVS, .ref qVA, .ref qVT])), (qVL, .inl (G.2.1, 16, .inl vL)), (qS, .inr (4, [.ref qB, .ref qV, .ref qSR, .ref qSI, .ref qSP, .ref qSF, .int q1.1, .int q1.2.1])), (qSR, .inl (G.2.1, 16, .inl q1.2.2.1)), (qSI, .inl (G.2.1, 16, .inl q1.2.2.2.1)), (qSP, .inl (G.2.2.2.2, 17, .inr (.inr (.inr (.inr (outR qR)))))), (qSF, .inl (G.2.1, 16, .inl q1.2.2.2.2.2))]) hP hD hk1 hB [0, 1, 2, 3, 4, 5, 6, 7, 8, 9] rfl rfl rfl rfl
  generalize H1 = H at hP hS ⊢
  refine lv_aload_n hx hb dX4_countAll_16 rfl (lv_at hl 0 rfl) ?_
  refine va_get (D := G.1) (ci := 4) (v := .int q1.1) (C := RX4) (T := TX4) (N := 8) hx hb hts hi4 hown hK hP 5 rfl rfl 6 (by decide) hw0 (fun _ h9 => h9) rfl dX4_countAll_17 ?_
  obtain rfl := Option.some.inj hq
  rw [hQ]
  exact W.iret hx hb hr (fun t ht hW => ⟨⟨_, (), rfl, rfl, va_Pat ht hP⟩, hS.F ht⟩) hS.2.2 dX4_countAll_20

def kX7_solutions (F : Nat) (bn : Int32) (bk : Int32) (bT : Nat → Int32) (bW : Nat → Int32) (vL : Nat → Int32) (vS : Nat → Int32) (vA : Nat → Int32) (vT : Nat → Int32) (so : Int32) (sw : Int32) (sR : Nat → Int32) (sI : Nat → Int32) (sP : Nat → Nat → Int32) (sF : Nat → Int32) : Option (Int32 × (Nat → Int32) × (Nat → Int32) × (Nat → Int32) × (Nat → Int32) × Int32 × Int32 × (Nat → Int32) × (Nat → Int32) × (Nat → Nat → Int32) × (Nat → Int32)) :=
  ((kX5_sift F bn bk bT bW vL vS vA vT).bind fun q1 => ((kX4_countAll F bn bT bW q1.1 so sw sR sI sP sF).bind fun q2 => some (q2.1, q1.1, q1.2.1, q1.2.2.1, q1.2.2.2, q2.2.1, q2.2.2.1, q2.2.2.2.1, q2.2.2.2.2.1, q2.2.2.2.2.2.1, q2.2.2.2.2.2.2)))
abbrev rmX7_solutions : Room := { frames := 45, cells := 0, slots := 0, locals := 1067 }
set_option maxHeartbeats 40000000 in
set_option maxRecDepth 100000 in
theorem tX7_solutions (G : GG) (l : Launch) {qX qB qH qK qV qS qW qBT qBC qBN qBW qBL qVL qVS qVA qVT qSR qSI qSP qSF : Nat} {qR : Nat → Nat} {bn : Int32} {bk : Int32} {bs : Int32} {bT : Nat → Int32} {bW : Nat → Int32} {vL : Nat → Int32} {vS : Nat → Int32} {vA : Nat → Int32} {vT : Nat → Int32} {so : Int32} {sw : Int32} {sR : Nat → Int32} {sI : Nat → Int32} {sP : Nat → Nat → Int32} {sF : Nat → Int32} {sz : Nat} {F : Nat} {r : Int32 × (Nat → Int32) × (Nat → Int32) × (Nat → Int32) × (Nat → Int32) × Int32 × Int32 × (Nat → Int32) × (Nat → Int32) × (Nat → Nat → Int32) × (Nat → Int32)} (hq : kX7_solutions F bn bk bT bW vL vS vA vT so sw sR sI sP sF = some r) : Met l yX7_solutions wsX7_solutions rmX7_solutions (pcW G ([(qX, .inr (7, [.ref qB, .ref qH, .ref qK, .ref qV, .ref qS, .ref qW])), (qB, .inr (0, [.ref qBT, .ref qBC, .ref qBN, .ref qBW, .ref qBL, .int bn, .int bk, .int bs])), (qBT, .inl (G.2.1, 16, .inl bT)), (qBW, .inl (G.2.1, 64, .inl bW)), (qV, .inr (5, [.ref qB, .ref qVL, .ref qVS, .ref qVA, .ref qVT])), (qVL, .inl (G.2.1, 16, .inl vL)), (qVS, .inl (G.2.1, 16, .inl vS)), (qVA, .inl (G.2.1, 16, .inl vA)), (qVT, .inl (G.2.1, 16, .inl vT)), (qS, .inr (4, [.ref qB, .ref qV, .ref qSR, .ref qSI, .ref qSP, .ref qSF, .int so, .int sw])), (qSR, .inl (G.2.1, 16, .inl sR)), (qSI, .inl (G.2.1, 16, .inl sI)), (qSP, .inl (G.2.2.2.2, 17, .inr (.inr (.inr (.inr (outR qR)))))), (qSF, .inl (G.2.1, 16, .inl sF))] ++ rws G qR sP) sz [.ref qX]) (qcI G r.1 ([(qX, .inr (7, [.ref qB, .ref qH, .ref qK, .ref qV, .ref qS, .ref qW])), (qB, .inr (0, [.ref qBT, .ref qBC, .ref qBN, .ref qBW, .ref qBL, .int bn, .int bk, .int bs])), (qBT, .inl (G.2.1, 16, .inl bT)), (qBW, .inl (G.2.1, 64, .inl bW)), (qV, .inr (5, [.ref qB, .ref qVL, .ref qVS, .ref qVA, .ref qVT])), (qVL, .inl (G.2.1, 16, .inl r.2.1)), (qVS, .inl (G.2.1, 16, .inl r.2.2.1)), (qVA, .inl (G.2.1, 16, .inl r.2.2.2.1)), (qVT, .inl (G.2.1, 16, .inl r.2.2.2.2.1)), (qS, .inr (4, [.ref qB, .ref qV, .ref qSR, .ref qSI, .ref qSP, .ref qSF, .int r.2.2.2.2.2.1, .int r.2.2.2.2.2.2.1])), (qSR, .inl (G.2.1, 16, .inl r.2.2.2.2.2.2.2.1)), (qSI, .inl (G.2.1, 16, .inl r.2.2.2.2.2.2.2.2.1)), (qSP, .inl (G.2.2.2.2, 17, .inr (.inr (.inr (.inr (outR qR)))))), (qSF, .inl (G.2.1, 16, .inl r.2.2.2.2.2.2.2.2.2.2))] ++ rws G qR r.2.2.2.2.2.2.2.2.2.1) (va_A ([(qX, .inr (7, [.ref qB, .ref qH, .ref qK, .ref qV, .ref qS, .ref qW])), (qB, .inr (0, [.ref qBT, .ref qBC, .ref qBN, .ref qBW, .ref qBL, .int bn, .int bk, .int bs])), (qBT, .inl (G.2.1, 16, .inl bT)), (qBW, .inl (G.2.1, 64, .inl bW)), (qV, .inr (5, [.ref qB, .ref qVL, .ref qVS, .ref qVA, .ref qVT])), (qVL, .inl (G.2.1, 16, .inl vL)), (qVS, .inl (G.2.1, 16, .inl vS)), (qVA, .inl (G.2.1, 16, .inl vA)), (qVT, .inl (G.2.1, 16, .inl vT)), (qS, .inr (4, [.ref qB, .ref qV, .ref qSR, .ref qSI, .ref qSP, .ref qSF, .int so, .int sw])), (qSR, .inl (G.2.1, 16, .inl sR)), (qSI, .inl (G.2.1, 16, .inl sI)), (qSP, .inl (G.2.2.2.2, 17, .inr (.inr (.inr (.inr (outR qR)))))), (qSF, .inl (G.2.1, 16, .inl sF))] ++ rws G qR sP) sz)) 0 0 (va_A ([(qX, .inr (7, [.ref qB, .ref qH, .ref qK, .ref qV, .ref qS, .ref qW])), (qB, .inr (0, [.ref qBT, .ref qBC, .ref qBN, .ref qBW, .ref qBL, .int bn, .int bk, .int bs])), (qBT, .inl (G.2.1, 16, .inl bT)), (qBW, .inl (G.2.1, 64, .inl bW)), (qV, .inr (5, [.ref qB, .ref qVL, .ref qVS, .ref qVA, .ref qVT])), (qVL, .inl (G.2.1, 16, .inl vL)), (qVS, .inl (G.2.1, 16, .inl vS)), (qVA, .inl (G.2.1, 16, .inl vA)), (qVT, .inl (G.2.1, 16, .inl vT)), (qS, .inr (4, [.ref qB, .ref qV, .ref qSR, .ref qSI, .ref qSP, .ref qSF, .int so, .int sw])), (qSR, .inl (G.2.1, 16, .inl sR)), (qSI, .inl (G.2.1, 16, .inl sI)), (qSP, .inl (G.2.2.2.2, 17, .inr (.inr (.inr (.inr (outR qR)))))), (qSF, .inl (G.2.1, 16, .inl sF))] ++ rws G qR sP) sz) := by
  refine Met.ofW (cc := cX7_solutions) (maxL := 1) (ret := (some .int)) (by decide) rfl ?_
  intro p e s m args below meth c s₁ B hml hv
  obtain ⟨rfl, hsz, hP, hKK, hD0⟩ := hv
  have hK := hKK.1
  have hx := B.exec
  have hb := B.bytes
  have hr := B.returns
  have hts := atoms_spec (ws := wsX7_solutions) B.pre
  have hown : s.vm.findClass RX7 = some m.cls := findClass_of_methodNamed B.named
  have hlocks := B.notSynchronized
  subst hsz
  have hD := hD0.self (sz := s.heap.size)
  generalize hAe : va_A ([(qX, .inr (7, [.ref qB, .ref qH, .ref qK, .ref qV, .ref qS, .ref qW])), (qB, .inr (0, [.ref qBT, .ref qBC, .ref qBN, .ref qBW, .ref qBL, .int bn, .int bk, .int bs])), (qBT, .inl (G.2.1, 16, .inl bT)), (qBW, .inl (G.2.1, 64, .inl bW)), (qV, .inr (5, [.ref qB, .ref qVL, .ref qVS, .ref qVA, .ref qVT])), (qVL, .inl (G.2.1, 16, .inl vL)), (qVS, .inl (G.2.1, 16, .inl vS)), (qVA, .inl (G.2.1, 16, .inl vA)), (qVT, .inl (G.2.1, 16, .inl vT)), (qS, .inr (4, [.ref qB, .ref qV, .ref qSR, .ref qSI, .ref qSP, .ref qSF, .int so, .int sw])), (qSR, .inl (G.2.1, 16, .inl sR)), (qSI, .inl (G.2.1, 16, .inl sI)), (qSP, .inl (G.2.2.2.2, 17, .inr (.inr (.inr (.inr (outR qR)))))), (qSF, .inl (G.2.1, 16, .inl sF))] ++ rws G qR sP) s.heap.size = A at hD ⊢
  have hA : ∀ q : Nat, s.heap.size ≤ q → A q := fun q h => by rw [← hAe]; exact Or.inr h
  have hS : va_S A s.heap s.heap [] := va_S.rf
  have hl := lv_entry ([.ref qX] : List Value) (n := 1) (Nat.le_of_ble_eq_true rfl)
  rw [lg_entry_eq]
  generalize (lg_sl ([.ref qX] : List Value) ++ List.replicate (1 - (lg_sl ([.ref qX] : List Value)).length) Slot.unset).toArray = ls at hl ⊢
  have hl : lv_has ls 1 [(0, .ref qX)] := hl
  have hi7 : ∀ w ∈ u_ws RX7 TX7 6, w ∈ wsX7_solutions := by decide +kernel
  have hw0 : (Cond.fieldLink RX7 35 "NetPlumber" "sieve" "LNetPlumber$Sieve;").before #[Value.ref qX] s = true := hts _ (by decide +kernel)
  have hw1 : (Cond.fieldLink RX7 44 "NetPlumber" "search" "LNetPlumber$Search;").before #[Value.ref qX] s = true := hts _ (by decide +kernel)
  refine wq (fun Q hQ => ?_)
  unfold kX7_solutions at hq
  refine lv_aload_n hx hb dX7_solutions_0 rfl (lv_at hl 0 rfl) ?_
  refine va_get (D := G.1) (ci := 7) (v := .ref qV) (C := RX7) (T := TX7) (N := 6) hx hb hts hi7 hown hK hP 0 rfl rfl 3 (by decide) hw0 (fun _ h9 => h9) rfl dX7_solutions_1 ?_
  obtain ⟨q1, eq1, hq⟩ := ob hq
  have hPc := hP.sub (ws' := [(qB, .inr (0, [.ref qBT, .ref qBC, .ref qBN, .ref qBW, .ref qBL, .int bn, .int bk, .int bs])), (qBT, .inl (G.2.1, 16, .inl bT)), (qBW, .inl (G.2.1, 64, .inl bW)), (qV, .inr (5, [.ref qB, .ref qVL, .ref qVS, .ref qVA, .ref qVT])), (qVL, .inl (G.2.1, 16, .inl vL)), (qVS, .inl (G.2.1, 16, .inl vS)), (qVA, .inl (G.2.1, 16, .inl vA)), (qVT, .inl (G.2.1, 16, .inl vT))]) [1, 2, 3, 4, 5, 6, 7, 8] rfl
  have hKc := hK
  have hDc := hD.sub (ws' := [(qB, .inr (0, [.ref qBT, .ref qBC, .ref qBN, .ref qBW, .ref qBL, .int bn, .int bk, .int bs])), (qBT, .inl (G.2.1, 16, .inl bT)), (qBW, .inl (G.2.1, 64, .inl bW)), (qV, .inr (5, [.ref qB, .ref qVL, .ref qVS, .ref qVA, .ref qVT])), (qVL, .inl (G.2.1, 16, .inl vL)), (qVS, .inl (G.2.1, 16, .inl vS)), (qVA, .inl (G.2.1, 16, .inl vA)), (qVT, .inl (G.2.1, 16, .inl vT))]) [1, 2, 3, 4, 5, 6, 7, 8] (by decide) rfl
  have hFc := va_free (wc := [(qB, .inr (0, [.ref qBT, .ref qBC, .ref qBN, .ref qBW, .ref qBL, .int bn, .int bk, .int bs])), (qBT, .inl (G.2.1, 16, .inl bT)), (qBW, .inl (G.2.1, 64, .inl bW)), (qV, .inr (5, [.ref qB, .ref qVL, .ref qVS, .ref qVA, .ref qVT])), (qVL, .inl (G.2.1, 16, .inl vL)), (qVS, .inl (G.2.1, 16, .inl vS)), (qVA, .inl (G.2.1, 16, .inl vA)), (qVT, .inl (G.2.1, 16, .inl vT))]) hD hS hA [1, 2, 3, 4, 5, 6, 7, 8] rfl
  refine va_callv (va_runV (As := []) (rest := []) ⟨hx, hb, hml, hown, hts⟩ (tX5_sift G l eq1) (cwV 0 hts gX7_solutions_X5_sift rfl rfl rfl (by decide +kernel) ⟨Nat.le_of_ble_eq_true rfl, Nat.le_of_ble_eq_true rfl⟩) ⟨pcW_blind, va_recv hKc hPc (ci := 5) (q0 := 3) rfl rfl, pcW_pre hPc hKK hDc⟩ rfl rfl hl.1 rfl (lv_room (Nat.le_of_ble_eq_true rfl)) dX7_solutions_4 ⟨Nat.zero_le _, Nat.zero_le _⟩) hS (fun q _ h => hFc q h) hFc (fun u t H1 locs ht hvm hw hB hz1 hk1 hS => ?_)
  have hB := va_Pto ht hB
  obtain ⟨hP, hD⟩ := jnL (X' := [(qX, .inr (7, [.ref qB, .ref qH, .ref qK, .ref qV, .ref qS, .ref qW])), (qB, .inr (0, [.ref qBT, .ref qBC, .ref qBN, .ref qBW, .ref qBL, .int bn, .int bk, .int bs])), (qBT, .inl (G.2.1, 16, .inl bT)), (qBW, .inl (G.2.1, 64, .inl bW)), (qV, .inr (5, [.ref qB, .ref qVL, .ref qVS, .ref qVA, .ref qVT])), (qVL, .inl (G.2.1, 16, .inl q1.1)), (qVS, .inl (G.2.1, 16, .inl q1.2.1)), (qVA, .inl (G.2.1, 16, .inl q1.2.2.1)), (qVT, .inl (G.2.1, 16, .inl q1.2.2.2)), (qS, .inr (4, [.ref qB, .ref qV, .ref qSR, .ref qSI, .ref qSP, .ref qSF, .int so, .int sw])), (qSR, .inl (G.2.1, 16, .inl sR)), (qSI, .inl (G.2.1, 16, .inl sI)), (qSP, .inl (G.2.2.2.2, 17, .inr (.inr (.inr (.inr (outR qR)))))), (qSF, .inl (G.2.1, 16, .inl sF))]) hP hD hk1 hB [1, 2, 3, 4, 5, 6, 7, 8] rfl rfl rfl rfl
  generalize H1 = H at hP hS ⊢
  refine lv_aload_n hx hb dX7_solutions_7 rfl (lv_at hl 0 rfl) ?_
  refine va_get (D := G.1) (ci := 7) (v := .ref qS) (C := RX7) (T := TX7) (N := 6) hx hb hts hi7 hown hK hP 0 rfl rfl 4 (by decide) hw1 (fun _ h9 => h9) rfl dX7_solutions_8 ?_
  obtain ⟨q2, eq2, hq⟩ := ob hq
  have hPc := hP.part (cx := [(qB, .inr (0, [.ref qBT, .ref qBC, .ref qBN, .ref qBW, .ref qBL, .int bn, .int bk, .int bs])), (qBT, .inl (G.2.1, 16, .inl bT)), (qBW, .inl (G.2.1, 64, .inl bW)), (qV, .inr (5, [.ref qB, .ref qVL, .ref qVS, .ref qVA, .ref qVT])), (qVL, .inl (G.2.1, 16, .inl q1.1)), (qS, .inr (4, [.ref qB, .ref qV, .ref qSR, .ref qSI, .ref qSP, .ref qSF, .int so, .int sw])), (qSR, .inl (G.2.1, 16, .inl sR)), (qSI, .inl (G.2.1, 16, .inl sI)), (qSP, .inl (G.2.2.2.2, 17, .inr (.inr (.inr (.inr (outR qR)))))), (qSF, .inl (G.2.1, 16, .inl sF))]) [1, 2, 3, 4, 5, 9, 10, 11, 12, 13] rfl
  have hKc := hK
  have hDc := hD.part (cx := [(qB, .inr (0, [.ref qBT, .ref qBC, .ref qBN, .ref qBW, .ref qBL, .int bn, .int bk, .int bs])), (qBT, .inl (G.2.1, 16, .inl bT)), (qBW, .inl (G.2.1, 64, .inl bW)), (qV, .inr (5, [.ref qB, .ref qVL, .ref qVS, .ref qVA, .ref qVT])), (qVL, .inl (G.2.1, 16, .inl q1.1)), (qS, .inr (4, [.ref qB, .ref qV, .ref qSR, .ref qSI, .ref qSP, .ref qSF, .int so, .int sw])), (qSR, .inl (G.2.1, 16, .inl sR)), (qSI, .inl (G.2.1, 16, .inl sI)), (qSP, .inl (G.2.2.2.2, 17, .inr (.inr (.inr (.inr (outR qR)))))), (qSF, .inl (G.2.1, 16, .inl sF))]) [1, 2, 3, 4, 5, 9, 10, 11, 12, 13] (by decide) rfl
  have hFc := va_freeP (cx := [(qB, .inr (0, [.ref qBT, .ref qBC, .ref qBN, .ref qBW, .ref qBL, .int bn, .int bk, .int bs])), (qBT, .inl (G.2.1, 16, .inl bT)), (qBW, .inl (G.2.1, 64, .inl bW)), (qV, .inr (5, [.ref qB, .ref qVL, .ref qVS, .ref qVA, .ref qVT])), (qVL, .inl (G.2.1, 16, .inl q1.1)), (qS, .inr (4, [.ref qB, .ref qV, .ref qSR, .ref qSI, .ref qSP, .ref qSF, .int so, .int sw])), (qSR, .inl (G.2.1, 16, .inl sR)), (qSI, .inl (G.2.1, 16, .inl sI)), (qSP, .inl (G.2.2.2.2, 17, .inr (.inr (.inr (.inr (outR qR)))))), (qSF, .inl (G.2.1, 16, .inl sF))]) hD hS hA [1, 2, 3, 4, 5, 9, 10, 11, 12, 13] rfl
  refine va_calli (va_runV (As := []) (rest := []) ⟨hx, hb, hml, hown, hts⟩ (tX4_countAll G l eq2) (cwV 0 hts gX7_solutions_X4_countAll rfl rfl rfl (by decide +kernel) ⟨Nat.le_of_ble_eq_true rfl, Nat.le_of_ble_eq_true rfl⟩) ⟨pcW_blind, va_recv hKc hPc (ci := 4) (q0 := 5) rfl rfl, pcW_pre hPc hKK hDc⟩ rfl rfl hl.1 rfl (lv_room (Nat.le_of_ble_eq_true rfl)) dX7_solutions_11 ⟨Nat.zero_le _, Nat.zero_le _⟩) hS (fun q _ h => hFc q h) hFc (fun r0 u t H1 locs ht hvm hw hB hz1 hk1 hS => ?_)
  obtain rfl := hw
  have hB := va_Pto ht hB
  obtain ⟨hP, hD⟩ := jnR (X' := [(qX, .inr (7, [.ref qB, .ref qH, .ref qK, .ref qV, .ref qS, .ref qW])), (qB, .inr (0, [.ref qBT, .ref qBC, .ref qBN, .ref qBW, .ref qBL, .int bn, .int bk, .int bs])), (qBT, .inl (G.2.1, 16, .inl bT)), (qBW, .inl (G.2.1, 64, .inl bW)), (qV, .inr (5, [.ref qB, .ref qVL, .ref qVS, .ref qVA, .ref qVT])), (qVL, .inl (G.2.1, 16, .inl q1.1)), (qVS, .inl (G.2.1, 16, .inl q1.2.1)), (qVA, .inl (G.2.1, 16, .inl q1.2.2.1)), (qVT, .inl (G.2.1, 16, .inl q1.2.2.2)), (qS, .inr (4, [.ref qB, .ref qV, .ref qSR, .ref qSI, .ref qSP, .ref qSF, .int q2.2.1, .int q2.2.2.1])), (qSR, .inl (G.2.1, 16, .inl q2.2.2.2.1)), (qSI, .inl (G.2.1, 16, .inl q2.2.2.2.2.1)), (qSP, .inl (G.2.2.2.2, 17, .inr (.inr (.inr (.inr (outR qR)))))), (qSF, .inl (G.2.1, 16, .inl q2.2.2.2.2.2.2))]) hP hD hk1 hB [1, 2, 3, 4, 5, 9, 10, 11, 12, 13] rfl rfl rfl rfl
  generalize H1 = H at hP hS ⊢
  obtain rfl := Option.some.inj hq
  rw [hQ]
  exact W.iret hx hb hr (fun t ht hW => ⟨⟨_, (), rfl, rfl, va_Pat ht hP⟩, hS.F ht⟩) hS.2.2 dX7_solutions_14
