/-! contracts (laid by wip/whole/gen.py) -/
abbrev rmX4_fewest : Room := { frames := 0, cells := 0, slots := 0, locals := 0 }
set_option maxHeartbeats 40000000 in
set_option maxRecDepth 100000 in
theorem tX4_fewest (G : GG) (l : Launch) {qS qB qV qSR qSI qSP qSF : Nat} {so : Int32} {sw : Int32} {F : Nat} {r : Int32} (hq : kX4_fewest F sw = some r) : Met l yX4_fewest wsX4_fewest rmX4_fewest (pcP G [(qS, .inr (4, [.ref qB, .ref qV, .ref qSR, .ref qSI, .ref qSP, .ref qSF, .int so, .int sw]))] [.ref qS]) (vp_Si (fun x => r = x)) 0 0 (fun _ => False) := by
  refine Met.ofW (cc := cX4_fewest) (maxL := 1) (ret := (some .int)) (by decide) rfl ?_
  intro p e s m args below meth c s₁ B hml hv
  obtain ⟨rfl, hP, hKK⟩ := hv
  have hK := hKK.1
  have hx := B.exec
  have hb := B.bytes
  have hr := B.returns
  have hts := atoms_spec (ws := wsX4_fewest) B.pre
  have hown : s.vm.findClass RX4 = some m.cls := findClass_of_methodNamed B.named
  have hlocks := B.notSynchronized
  have hl := lv_entry ([.ref qS] : List Value) (n := 1) (Nat.le_of_ble_eq_true rfl)
  rw [lg_entry_eq]
  generalize (lg_sl ([.ref qS] : List Value) ++ List.replicate (1 - (lg_sl ([.ref qS] : List Value)).length) Slot.unset).toArray = ls at hl ⊢
  have hl : lv_has ls 1 [(0, .ref qS)] := hl
  have hi4 : ∀ w ∈ u_ws RX4 TX4 8, w ∈ wsX4_fewest := by decide +kernel
  have hw0 : (Cond.fieldLink RX4 38 "NetPlumber$Search" "fewest" "I").before #[Value.ref qS] s = true := hts _ (by decide +kernel)
  refine wq (fun Q hQ => ?_)
  unfold kX4_fewest at hq
  refine lv_aload_n hx hb dX4_fewest_0 rfl (lv_at hl 0 rfl) ?_
  refine va_get (D := G.1) (ci := 4) (v := .int sw) (C := RX4) (T := TX4) (N := 8) hx hb hts hi4 hown hK hP 0 rfl rfl 7 (by decide) hw0 (fun _ h9 => h9) rfl dX4_fewest_1 ?_
  obtain rfl := Option.some.inj hq
  rw [hQ]
  exact W.iret hx hb hr (fun t ht hW => ⟨_, rfl, rfl, ht⟩) (fun _ h => absurd h List.not_mem_nil) dX4_fewest_4

abbrev rmX4_firstAt : Room := { frames := 1, cells := 0, slots := 0, locals := 21 }
set_option maxHeartbeats 40000000 in
set_option maxRecDepth 100000 in
theorem tX4_firstAt (G : GG) (l : Launch) {qS qB qV qSR qSI qSP qSF : Nat} {so : Int32} {sw : Int32} {sF : Nat → Int32} {x1 : Int32} {F : Nat} {r : Int32} (hq : kX4_firstAt F sF x1 = some r) : Met l yX4_firstAt wsX4_firstAt rmX4_firstAt (pcP G [(qS, .inr (4, [.ref qB, .ref qV, .ref qSR, .ref qSI, .ref qSP, .ref qSF, .int so, .int sw])), (qSF, .inl (G.2.1, 16, .inl sF))] [.ref qS, .int x1]) (vp_Si (fun x => r = x)) 0 0 (fun _ => False) := by
  refine Met.ofW (cc := cX4_firstAt) (maxL := 2) (ret := (some .int)) (by decide) rfl ?_
  intro p e s m args below meth c s₁ B hml hv
  obtain ⟨rfl, hP, hKK⟩ := hv
  have hK := hKK.1
  have hx := B.exec
  have hb := B.bytes
  have hr := B.returns
  have hts := atoms_spec (ws := wsX4_firstAt) B.pre
  have hown : s.vm.findClass RX4 = some m.cls := findClass_of_methodNamed B.named
  have hlocks := B.notSynchronized
  have hl := lv_entry ([.ref qS, .int x1] : List Value) (n := 2) (Nat.le_of_ble_eq_true rfl)
  rw [lg_entry_eq]
  generalize (lg_sl ([.ref qS, .int x1] : List Value) ++ List.replicate (2 - (lg_sl ([.ref qS, .int x1] : List Value)).length) Slot.unset).toArray = ls at hl ⊢
  have hl : lv_has ls 2 [(0, .ref qS), (1, .int x1)] := hl
  have hi4 : ∀ w ∈ u_ws RX4 TX4 8, w ∈ wsX4_firstAt := by decide +kernel
  have hw0 : (Cond.fieldLink RX4 23 "NetPlumber$Search" "firstLays" "[I").before #[Value.ref qS, Value.int x1] s = true := hts _ (by decide +kernel)
  have hw1 : (Cond.initialized RX7).before #[Value.ref qS, Value.int x1] s = true := hts _ (by decide +kernel)
  have hw2 : (Cond.static yX7_at).before #[Value.ref qS, Value.int x1] s = true := hts _ (by decide +kernel)
  refine wq (fun Q hQ => ?_)
  unfold kX4_firstAt at hq
  refine lv_aload_n hx hb dX4_firstAt_0 rfl (lv_at hl 0 rfl) ?_
  refine va_get (D := G.1) (ci := 4) (v := .ref qSF) (C := RX4) (T := TX4) (N := 8) hx hb hts hi4 hown hK hP 0 rfl rfl 5 (by decide) hw0 (fun _ h9 => h9) rfl dX4_firstAt_1 ?_
  refine lv_iload_n hx hb dX4_firstAt_4 rfl (lv_at hl 1 rfl) ?_
  obtain ⟨q1, eq1, hq⟩ := ob hq
  have hPc := hP.sub (ws' := [(qSF, .inl (G.2.1, 16, .inl sF))]) [1] rfl
  refine vp_callSi (va_Run.run (va_runSN (As := [.ref qSF, .int x1]) (rest := []) ⟨hx, hb, hml, hown, hts⟩ (tX7_at G l eq1) ⟨va_cnB 2 hts gX4_firstAt_X7_at_n45 rfl rfl rfl (hKK.2 _ (List.mem_of_getElem? (i := 15) rfl)) hw1 (by decide +kernel) ⟨Nat.le_of_ble_eq_true rfl, Nat.le_of_ble_eq_true rfl⟩, hw2, trivial⟩ ⟨pcP_blind, pcP_pre hPc hKK⟩ rfl rfl hl.1 rfl (lv_room (Nat.le_of_ble_eq_true rfl)) dX4_firstAt_5 ⟨Nat.zero_le _, Nat.zero_le _⟩)) (fun r0 hr0 => ?_)
  obtain rfl := hr0
  obtain rfl := Option.some.inj hq
  rw [hQ]
  exact W.iret hx hb hr (fun t ht hW => ⟨_, rfl, rfl, ht⟩) (fun _ h => absurd h List.not_mem_nil) dX4_firstAt_8

abbrev rmX4_fits : Room := { frames := 1, cells := 0, slots := 0, locals := 23 }
set_option maxHeartbeats 40000000 in
set_option maxRecDepth 100000 in
theorem tX4_fits (G : GG) (l : Launch) {qB qBT qBC qBN qBW qBL qS qV qSR qSI qSP qSF : Nat} {bn : Int32} {bk : Int32} {bs : Int32} {bW : Nat → Int32} {so : Int32} {sw : Int32} {sI : Nat → Int32} {x1 : Int32} {F : Nat} {r : Int32} (hq : kX4_fits F bW sI x1 = some r) : Met l yX4_fits wsX4_fits rmX4_fits (pcP G [(qB, .inr (0, [.ref qBT, .ref qBC, .ref qBN, .ref qBW, .ref qBL, .int bn, .int bk, .int bs])), (qBW, .inl (G.2.1, 64, .inl bW)), (qS, .inr (4, [.ref qB, .ref qV, .ref qSR, .ref qSI, .ref qSP, .ref qSF, .int so, .int sw])), (qSI, .inl (G.2.1, 16, .inl sI))] [.ref qS, .int x1]) (vp_Si (fun x => r = x)) 0 0 (fun _ => False) := by
  refine Met.ofW (cc := cX4_fits) (maxL := 5) (ret := (some .boolean)) (by decide) rfl ?_
  intro p e s m args below meth c s₁ B hml hv
  obtain ⟨rfl, hP, hKK⟩ := hv
  have hK := hKK.1
  have hx := B.exec
  have hb := B.bytes
  have hr := B.returns
  have hts := atoms_spec (ws := wsX4_fits) B.pre
  have hown : s.vm.findClass RX4 = some m.cls := findClass_of_methodNamed B.named
  have hlocks := B.notSynchronized
  have hl := lv_entry ([.ref qS, .int x1] : List Value) (n := 5) (Nat.le_of_ble_eq_true rfl)
  rw [lg_entry_eq]
  generalize (lg_sl ([.ref qS, .int x1] : List Value) ++ List.replicate (5 - (lg_sl ([.ref qS, .int x1] : List Value)).length) Slot.unset).toArray = ls at hl ⊢
  have hl : lv_has ls 5 [(0, .ref qS), (1, .int x1)] := hl
  have hi4 : ∀ w ∈ u_ws RX4 TX4 8, w ∈ wsX4_fits := by decide +kernel
  have hw0 : (Cond.fieldLink RX4 26 "NetPlumber$Search" "board" "LNetPlumber$Board;").before #[Value.ref qS, Value.int x1] s = true := hts _ (by decide +kernel)
  have hw1 : (Cond.fieldLink RX4 15 "NetPlumber$Search" "tiles" "[I").before #[Value.ref qS, Value.int x1] s = true := hts _ (by decide +kernel)
  have hw2 : (Cond.initialized RX7).before #[Value.ref qS, Value.int x1] s = true := hts _ (by decide +kernel)
  have hw3 : (Cond.static yX7_at).before #[Value.ref qS, Value.int x1] s = true := hts _ (by decide +kernel)
  have hw4 : (Cond.static yX7_holds).before #[Value.ref qS, Value.int x1] s = true := hts _ (by decide +kernel)
  have hw5 : (Cond.static yX7_opposite).before #[Value.ref qS, Value.int x1] s = true := hts _ (by decide +kernel)
  refine wq (fun Q hQ => ?_)
  unfold kX4_fits at hq
  refine lv_iconst (v := 0) hx hb dX4_fits_0 (by decide) ?_
  refine lv_istore_n (lv' := [(2, .int 0), (0, .ref qS), (1, .int x1)]) hx hb dX4_fits_1 rfl hl (by decide) rfl (fun ls hl => ?_)
  have L2 : ∀ (n : Nat) (s9 : Int32) (t_2 : Nat) (ls : Array Slot), kloop n (fun s_ => kX4_fits_s2 F bW sI x1 s_) s9 = some t_2 → lv_has ls 5 [(0, .ref qS), (1, .int x1), (2, .int s9)] → va_P G.1 vwCl [(qB, .inr (0, [.ref qBT, .ref qBC, .ref qBN, .ref qBW, .ref qBL, .int bn, .int bk, .int bs])), (qBW, .inl (G.2.1, 64, .inl bW)), (qS, .inr (4, [.ref qB, .ref qV, .ref qSR, .ref qSI, .ref qSP, .ref qSF, .int so, .int sw])), (qSI, .inl (G.2.1, 16, .inl sI))] s.heap → (∀ (_ : t_2 = 0) (ls : Array Slot), lv_has ls 5 [] → va_P G.1 vwCl [(qB, .inr (0, [.ref qBT, .ref qBC, .ref qBN, .ref qBW, .ref qBL, .int bn, .int bk, .int bs])), (qBW, .inl (G.2.1, 64, .inl bW)), (qS, .inr (4, [.ref qB, .ref qV, .ref qSR, .ref qSI, .ref qSP, .ref qSF, .int so, .int sw])), (qSI, .inl (G.2.1, 16, .inl sI))] s.heap → W p l e (headSpec wsX4_fits rmX4_fits).room s m ([.ref qS, .int x1] : List Value).toArray below meth c s.heap [] 0 0 Q (F0 m 61 ls [])) → (∀ (_ : t_2 = 1) (ls : Array Slot), lv_has ls 5 [] → va_P G.1 vwCl [(qB, .inr (0, [.ref qBT, .ref qBC, .ref qBN, .ref qBW, .ref qBL, .int bn, .int bk, .int bs])), (qBW, .inl (G.2.1, 64, .inl bW)), (qS, .inr (4, [.ref qB, .ref qV, .ref qSR, .ref qSI, .ref qSP, .ref qSF, .int so, .int sw])), (qSI, .inl (G.2.1, 16, .inl sI))] s.heap → W p l e (headSpec wsX4_fits rmX4_fits).room s m ([.ref qS, .int x1] : List Value).toArray below meth c s.heap [] 0 0 Q (F0 m 69 ls [])) → W p l e (headSpec wsX4_fits rmX4_fits).room s m ([.ref qS, .int x1] : List Value).toArray below meth c s.heap [] 0 0 Q (F0 m 2 ls []) := by
    intro n
    induction n with
    | zero => 
      intro s9 t_2 ls hq hl hP kk2_61 kk2_69
      exact absurd hq kl_0
    | succ n ih2 =>
      intro s9 t_2 ls hq hl hP kk2_61 kk2_69
      obtain ⟨y_2, hq, hx2⟩ := kl_s hq
      have hq : kX4_fits_s2 F bW sI x1 s9 = some y_2 := hq
      unfold kX4_fits_s2 at hq
      refine lv_iload_n hx hb dX4_fits_2 rfl (lv_at hl 2 rfl) ?_
      refine lv_iconst (v := 3) hx hb dX4_fits_3 (by decide) ?_
      refine lv_icmp_gt (tgt := 69) hx hb dX4_fits_4 (by decide) (fun c_4 => ?_) (fun c_4 => ?_)
      · have hq := k_t c_4 hq
        have et := kl_exit hq hx2
        subst et
        exact kk2_69 rfl ls (lv_sub hl [] rfl) hP
      · have hq := k_f c_4 hq
        refine lv_aload_n hx hb dX4_fits_7 rfl (lv_at hl 0 rfl) ?_
        refine va_get (D := G.1) (ci := 4) (v := .ref qB) (C := RX4) (T := TX4) (N := 8) hx hb hts hi4 hown hK hP 2 rfl rfl 0 (by decide) hw0 (fun _ h9 => h9) rfl dX4_fits_8 ?_
        refine lv_iload_n hx hb dX4_fits_11 rfl (lv_at hl 1 rfl) ?_
        refine lv_iload_n hx hb dX4_fits_12 rfl (lv_at hl 2 rfl) ?_
        obtain ⟨q10, eq10, hq⟩ := ob hq
        have hPc := hP.sub (ws' := [(qB, .inr (0, [.ref qBT, .ref qBC, .ref qBN, .ref qBW, .ref qBL, .int bn, .int bk, .int bs])), (qBW, .inl (G.2.1, 64, .inl bW))]) [0, 1] rfl
        have hKc := hK
        refine vp_callSi (va_Run.run (va_runV (As := [.int x1, .int s9]) (rest := []) ⟨hx, hb, hml, hown, hts⟩ (tX0_across G l eq10) (cwV 2 hts gX4_fits_X0_across rfl rfl rfl (by decide +kernel) ⟨Nat.le_of_ble_eq_true rfl, Nat.le_of_ble_eq_true rfl⟩) ⟨pcP_blind, va_recv hKc hPc (ci := 0) (q0 := 0) rfl rfl, pcP_pre hPc hKK⟩ rfl rfl hl.1 rfl (lv_room (Nat.le_of_ble_eq_true rfl)) dX4_fits_13 ⟨Nat.zero_le _, Nat.zero_le _⟩)) (fun r0 hr0 => ?_)
        obtain rfl := hr0
        refine lv_istore_n (lv' := [(3, .int q10), (0, .ref qS), (1, .int x1), (2, .int s9)]) hx hb dX4_fits_16 rfl hl (by decide) rfl (fun ls hl => ?_)
        refine lv_aload_n hx hb dX4_fits_17 rfl (lv_at hl 1 rfl) ?_
        refine va_get (D := G.1) (ci := 4) (v := .ref qSI) (C := RX4) (T := TX4) (N := 8) hx hb hts hi4 hown hK hP 2 rfl rfl 3 (by decide) hw1 (fun _ h9 => h9) rfl dX4_fits_18 ?_
        refine lv_iload_n hx hb dX4_fits_21 rfl (lv_at hl 2 rfl) ?_
        obtain ⟨q11, eq11, hq⟩ := ob hq
        have hPc := hP.sub (ws' := [(qSI, .inl (G.2.1, 16, .inl sI))]) [3] rfl
        refine vp_callSi (va_Run.run (va_runSN (As := [.ref qSI, .int x1]) (rest := []) ⟨hx, hb, hml, hown, hts⟩ (tX7_at G l eq11) ⟨va_cnB 2 hts gX4_fits_X7_at_n45 rfl rfl rfl (hKK.2 _ (List.mem_of_getElem? (i := 15) rfl)) hw2 (by decide +kernel) ⟨Nat.le_of_ble_eq_true rfl, Nat.le_of_ble_eq_true rfl⟩, hw3, trivial⟩ ⟨pcP_blind, pcP_pre hPc hKK⟩ rfl rfl hl.1 rfl (lv_room (Nat.le_of_ble_eq_true rfl)) dX4_fits_22 ⟨Nat.zero_le _, Nat.zero_le _⟩)) (fun r0 hr0 => ?_)
        obtain rfl := hr0
        refine lv_iload_n hx hb dX4_fits_25 rfl (lv_at hl 3 rfl) ?_
        obtain ⟨q12, eq12, hq⟩ := ob hq
        have hPc := hP.sub (ws' := []) [] rfl
        refine vp_callSi (va_Run.run (va_runSN (As := [.int q11, .int s9]) (rest := []) ⟨hx, hb, hml, hown, hts⟩ (tX7_holds G l eq12) ⟨va_cnB 2 hts gX4_fits_X7_holds_n64 rfl rfl rfl (hKK.2 _ (List.mem_of_getElem? (i := 13) rfl)) hw2 (by decide +kernel) ⟨Nat.le_of_ble_eq_true rfl, Nat.le_of_ble_eq_true rfl⟩, hw4, trivial⟩ ⟨pcP_blind, pcP_pre hPc hKK⟩ rfl rfl hl.1 rfl (lv_room (Nat.le_of_ble_eq_true rfl)) dX4_fits_26 ⟨Nat.zero_le _, Nat.zero_le _⟩)) (fun r0 hr0 => ?_)
        obtain rfl := hr0
        refine lv_istore (lv' := [(4, .int q12), (3, .int q10), (0, .ref qS), (1, .int x1), (2, .int s9)]) hx hb dX4_fits_29 hl (by decide) rfl (fun ls hl => ?_)
        refine lv_iload_n hx hb dX4_fits_31 rfl (lv_at hl 1 rfl) ?_
        refine lv_iconst (v := (-1)) hx hb dX4_fits_32 (by decide) ?_
        refine lv_icmp_eq (tgt := 63) hx hb dX4_fits_33 (by decide) (fun c_33 => ?_) (fun c_33 => ?_)
        · have hq := k_t c_33 hq
          refine lv_iinc (v := (s9 + 1)) (lv' := [(2, .int (s9 + 1)), (4, .int q12), (3, .int q10), (0, .ref qS), (1, .int x1)]) hx hb dX4_fits_63 hl (k := 4) rfl rfl (by decide) rfl (fun ls hl => ?_)
          refine lv_goto (tgt := 2) hx hb dX4_fits_66 (by decide) ?_
          exact ih2 (s9 + 1) t_2 ls (kl_back hq hx2) (lv_sub hl [3, 4, 0] rfl) hP kk2_61 kk2_69
        · have hq := k_f c_33 hq
          refine lv_iload_n hx hb dX4_fits_36 rfl (lv_at hl 1 rfl) ?_
          refine lv_iload_n hx hb dX4_fits_37 rfl (lv_at hl 3 rfl) ?_
          refine lv_icmp_ge (tgt := 63) hx hb dX4_fits_38 (by decide) (fun c_38 => ?_) (fun c_38 => ?_)
          · have hq := k_t c_38 hq
            refine lv_iinc (v := (s9 + 1)) (lv' := [(2, .int (s9 + 1)), (4, .int q12), (3, .int q10), (0, .ref qS), (1, .int x1)]) hx hb dX4_fits_63 hl (k := 4) rfl rfl (by decide) rfl (fun ls hl => ?_)
            refine lv_goto (tgt := 2) hx hb dX4_fits_66 (by decide) ?_
            exact ih2 (s9 + 1) t_2 ls (kl_back hq hx2) (lv_sub hl [3, 4, 0] rfl) hP kk2_61 kk2_69
          · have hq := k_f c_38 hq
            refine lv_iload hx hb dX4_fits_41 (lv_at hl 0 rfl) ?_
            refine lv_aload_n hx hb dX4_fits_43 rfl (lv_at hl 2 rfl) ?_
            refine va_get (D := G.1) (ci := 4) (v := .ref qSI) (C := RX4) (T := TX4) (N := 8) hx hb hts hi4 hown hK hP 2 rfl rfl 3 (by decide) hw1 (fun _ h9 => h9) rfl dX4_fits_44 ?_
            refine lv_iload_n hx hb dX4_fits_47 rfl (lv_at hl 1 rfl) ?_
            obtain ⟨q13, eq13, hq⟩ := ob hq
            have hPc := hP.sub (ws' := [(qSI, .inl (G.2.1, 16, .inl sI))]) [3] rfl
            refine vp_callSi (va_Run.run (va_runSN (As := [.ref qSI, .int q10]) (rest := [.int q12]) ⟨hx, hb, hml, hown, hts⟩ (tX7_at G l eq13) ⟨va_cnB 2 hts gX4_fits_X7_at_n45 rfl rfl rfl (hKK.2 _ (List.mem_of_getElem? (i := 15) rfl)) hw2 (by decide +kernel) ⟨Nat.le_of_ble_eq_true rfl, Nat.le_of_ble_eq_true rfl⟩, hw3, trivial⟩ ⟨pcP_blind, pcP_pre hPc hKK⟩ rfl rfl hl.1 rfl (lv_room (Nat.le_of_ble_eq_true rfl)) dX4_fits_48 ⟨Nat.zero_le _, Nat.zero_le _⟩)) (fun r0 hr0 => ?_)
            obtain rfl := hr0
            refine lv_iload_n hx hb dX4_fits_51 rfl (lv_at hl 4 rfl) ?_
            obtain ⟨q14, eq14, hq⟩ := ob hq
            have hPc := hP.sub (ws' := []) [] rfl
            refine vp_callSi (va_Run.run (va_runSN (As := [.int s9]) (rest := [.int q13, .int q12]) ⟨hx, hb, hml, hown, hts⟩ (tX7_opposite G l eq14) ⟨va_cnB 1 hts gX4_fits_X7_opposite_n88 rfl rfl rfl (hKK.2 _ (List.mem_of_getElem? (i := 16) rfl)) hw2 (by decide +kernel) ⟨Nat.le_of_ble_eq_true rfl, Nat.le_of_ble_eq_true rfl⟩, hw5, trivial⟩ ⟨pcP_blind, pcP_pre hPc hKK⟩ rfl rfl hl.1 rfl (lv_room (Nat.le_of_ble_eq_true rfl)) dX4_fits_52 ⟨Nat.zero_le _, Nat.zero_le _⟩)) (fun r0 hr0 => ?_)
            obtain rfl := hr0
            obtain ⟨q15, eq15, hq⟩ := ob hq
            have hPc := hP.sub (ws' := []) [] rfl
            refine vp_callSi (va_Run.run (va_runSN (As := [.int q13, .int q14]) (rest := [.int q12]) ⟨hx, hb, hml, hown, hts⟩ (tX7_holds G l eq15) ⟨va_cnB 2 hts gX4_fits_X7_holds_n64 rfl rfl rfl (hKK.2 _ (List.mem_of_getElem? (i := 13) rfl)) hw2 (by decide +kernel) ⟨Nat.le_of_ble_eq_true rfl, Nat.le_of_ble_eq_true rfl⟩, hw4, trivial⟩ ⟨pcP_blind, pcP_pre hPc hKK⟩ rfl rfl hl.1 rfl (lv_room (Nat.le_of_ble_eq_true rfl)) dX4_fits_55 ⟨Nat.zero_le _, Nat.zero_le _⟩)) (fun r0 hr0 => ?_)
            obtain rfl := hr0
            refine lv_icmp_eq (tgt := 63) hx hb dX4_fits_58 (by decide) (fun c_58 => ?_) (fun c_58 => ?_)
            · have hq := k_t c_58 hq
              refine lv_iinc (v := (s9 + 1)) (lv' := [(2, .int (s9 + 1)), (4, .int q12), (3, .int q10), (0, .ref qS), (1, .int x1)]) hx hb dX4_fits_63 hl (k := 4) rfl rfl (by decide) rfl (fun ls hl => ?_)
              refine lv_goto (tgt := 2) hx hb dX4_fits_66 (by decide) ?_
              exact ih2 (s9 + 1) t_2 ls (kl_back hq hx2) (lv_sub hl [3, 4, 0] rfl) hP kk2_61 kk2_69
            · have hq := k_f c_58 hq
              have et := kl_exit hq hx2
              subst et
              exact kk2_61 rfl ls (lv_sub hl [] rfl) hP
  obtain ⟨q16, eq16, hq⟩ := ob hq
  refine L2 F 0 q16 ls (eq16) (lv_sub hl [1, 2, 0] rfl) hP (fun he ls hl hP => ?_) (fun he ls hl hP => ?_)
  · have hq := k_t he hq
    refine lv_iconst (v := 0) hx hb dX4_fits_61 (by decide) ?_
    obtain rfl := Option.some.inj hq
    rw [hQ]
    exact W.zret hx hb hr rfl (fun t ht hW => ⟨_, rfl, rfl, ht⟩) (fun _ h => absurd h List.not_mem_nil) dX4_fits_62
  · have hq := k_f (show ¬ q16 = 0 by rw [he]; decide) hq
    refine lv_iconst (v := 1) hx hb dX4_fits_69 (by decide) ?_
    obtain rfl := Option.some.inj hq
    rw [hQ]
    exact W.zret hx hb hr rfl (fun t ht hW => ⟨_, rfl, rfl, ht⟩) (fun _ h => absurd h List.not_mem_nil) dX4_fits_70

abbrev rmX4_merge : Room := { frames := 1, cells := 0, slots := 0, locals := 21 }
set_option maxHeartbeats 40000000 in
set_option maxRecDepth 100000 in
theorem tX4_merge (G : GG) (l : Launch) {qP0 : Nat} {n0 : Nat} {p0 : Nat → Int32} {x1 : Int32} {sz : Nat} {F : Nat} {r : Nat → Int32} (hq : kX4_merge F n0 p0 x1 = some r) : Met l yX4_merge wsX4_merge rmX4_merge (pcW G [(qP0, .inl (G.2.1, n0, .inl p0))] sz [.ref qP0, .int x1]) (qcV G [(qP0, .inl (G.2.1, n0, .inl r))] (va_A [(qP0, .inl (G.2.1, n0, .inl p0))] sz)) 0 0 (va_A [(qP0, .inl (G.2.1, n0, .inl p0))] sz) := by
  refine Met.ofW (cc := cX4_merge) (maxL := 3) (ret := none) (by decide) rfl ?_
  intro p e s m args below meth c s₁ B hml hv
  obtain ⟨rfl, hsz, hP, hKK, hD0⟩ := hv
  have hK := hKK.1
  have hx := B.exec
  have hb := B.bytes
  have hr := B.returns
  have hts := atoms_spec (ws := wsX4_merge) B.pre
  have hown : s.vm.findClass RX4 = some m.cls := findClass_of_methodNamed B.named
  have hlocks := B.notSynchronized
  subst hsz
  have hD := hD0.self (sz := s.heap.size)
  generalize hAe : va_A [(qP0, .inl (G.2.1, n0, .inl p0))] s.heap.size = A at hD ⊢
  have hA : ∀ q : Nat, s.heap.size ≤ q → A q := fun q h => by rw [← hAe]; exact Or.inr h
  have hS : va_S A s.heap s.heap [] := va_S.rf
  have hl := lv_entry ([.ref qP0, .int x1] : List Value) (n := 3) (Nat.le_of_ble_eq_true rfl)
  rw [lg_entry_eq]
  generalize (lg_sl ([.ref qP0, .int x1] : List Value) ++ List.replicate (3 - (lg_sl ([.ref qP0, .int x1] : List Value)).length) Slot.unset).toArray = ls at hl ⊢
  have hl : lv_has ls 3 [(0, .ref qP0), (1, .int x1)] := hl
  have hw0 : (Cond.initialized RX7).before #[Value.ref qP0, Value.int x1] s = true := hts _ (by decide +kernel)
  have hw1 : (Cond.static yX7_holds).before #[Value.ref qP0, Value.int x1] s = true := hts _ (by decide +kernel)
  refine wq (fun Q hQ => ?_)
  unfold kX4_merge at hq
  refine lv_iconst (v := 0) hx hb dX4_merge_0 (by decide) ?_
  refine lv_istore_n (lv' := [(2, .int 0), (0, .ref qP0), (1, .int x1)]) hx hb dX4_merge_1 rfl hl (by decide) rfl (fun ls hl => ?_)
  have L2 : ∀ (n : Nat) (s6 : Int32) (s7 : Nat → Int32) (t_2 : Nat → Int32) (ls : Array Slot) (H : Heap) (locs : List Loc), kloop n (fun s_ => kX4_merge_s2 F n0 x1 s_.1 s_.2) (s6, s7) = some t_2 → lv_has ls 3 [(0, .ref qP0), (1, .int x1), (2, .int s6)] → va_P G.1 vwCl [(qP0, .inl (G.2.1, n0, .inl s7))] H → va_D A [(qP0, .inl (G.2.1, n0, .inl s7))] → va_S A s.heap H locs → (∀ (ls : Array Slot) (H : Heap) (locs : List Loc), lv_has ls 3 [] → va_P G.1 vwCl [(qP0, .inl (G.2.1, n0, .inl t_2))] H → va_D A [(qP0, .inl (G.2.1, n0, .inl t_2))] → va_S A s.heap H locs → W p l e (headSpec wsX4_merge rmX4_merge).room s m ([.ref qP0, .int x1] : List Value).toArray below meth c H locs 0 0 Q (F0 m 26 ls [])) → W p l e (headSpec wsX4_merge rmX4_merge).room s m ([.ref qP0, .int x1] : List Value).toArray below meth c H locs 0 0 Q (F0 m 2 ls []) := by
    intro n
    induction n with
    | zero => 
      intro s6 s7 t_2 ls H locs hq hl hP hD hS kk2_26
      exact absurd hq kl_0
    | succ n ih2 =>
      intro s6 s7 t_2 ls H locs hq hl hP hD hS kk2_26
      obtain ⟨y_2, hq, hx2⟩ := kl_s hq
      have hq : kX4_merge_s2 F n0 x1 s6 s7 = some y_2 := hq
      unfold kX4_merge_s2 at hq
      refine lv_iload_n hx hb dX4_merge_2 rfl (lv_at hl 2 rfl) ?_
      refine lv_aload_n hx hb dX4_merge_3 rfl (lv_at hl 0 rfl) ?_
      refine va_alen hx hb hK hP 0 0 rfl rfl (v := (Int32.ofNat n0)) rfl dX4_merge_4 ?_
      refine lv_icmp_ge (tgt := 26) hx hb dX4_merge_5 (by decide) (fun c_5 => ?_) (fun c_5 => ?_)
      · have hq := k_t c_5 hq
        have et := kl_exit hq hx2
        subst et
        exact kk2_26 ls _ _ (lv_sub hl [] rfl) hP hD hS
      · have hq := k_f c_5 hq
        refine lv_iload_n hx hb dX4_merge_8 rfl (lv_at hl 1 rfl) ?_
        refine lv_iload_n hx hb dX4_merge_9 rfl (lv_at hl 2 rfl) ?_
        obtain ⟨q8, eq8, hq⟩ := ob hq
        have hPc := hP.sub (ws' := []) [] rfl
        refine vp_callSi (va_Run.run (va_runSN (As := [.int x1, .int s6]) (rest := []) ⟨hx, hb, hml, hown, hts⟩ (tX7_holds G l eq8) ⟨va_cnB 2 hts gX4_merge_X7_holds_n64 rfl rfl rfl (hKK.2 _ (List.mem_of_getElem? (i := 13) rfl)) hw0 (by decide +kernel) ⟨Nat.le_of_ble_eq_true rfl, Nat.le_of_ble_eq_true rfl⟩, hw1, trivial⟩ ⟨pcP_blind, pcP_pre hPc hKK⟩ rfl rfl hl.1 rfl (lv_room (Nat.le_of_ble_eq_true rfl)) dX4_merge_10 ⟨Nat.zero_le _, Nat.zero_le _⟩)) (fun r0 hr0 => ?_)
        obtain rfl := hr0
        refine lv_if_eq (tgt := 20) hx hb dX4_merge_13 (by decide) (fun c_13 => ?_) (fun c_13 => ?_)
        · have hq := k_t c_13 hq
          refine lv_iinc (v := (s6 + 1)) (lv' := [(2, .int (s6 + 1)), (0, .ref qP0), (1, .int x1)]) hx hb dX4_merge_20 hl (k := 2) rfl rfl (by decide) rfl (fun ls hl => ?_)
          refine lv_goto (tgt := 2) hx hb dX4_merge_23 (by decide) ?_
          exact ih2 (s6 + 1) s7 t_2 ls _ _ (kl_back hq hx2) (lv_sub hl [1, 2, 0] rfl) hP hD hS kk2_26
        · have hq := k_f c_13 hq
          refine lv_aload_n hx hb dX4_merge_16 rfl (lv_at hl 0 rfl) ?_
          refine lv_iload_n hx hb dX4_merge_17 rfl (lv_at hl 2 rfl) ?_
          refine lv_iload_n hx hb dX4_merge_18 rfl (lv_at hl 1 rfl) ?_
          obtain ⟨hg, hq⟩ := k_g hq
          refine va_iast hx hb hK hP hD hS 0 0 rfl rfl (ix_in hg) dX4_merge_19 (fun H locs hP hD hS => ?_)
          have hP : va_P G.1 vwCl [(qP0, .inl (G.2.1, n0, .inl (upd s7 s6.toNatClampNeg x1)))] H := hP
          have hD : va_D A [(qP0, .inl (G.2.1, n0, .inl (upd s7 s6.toNatClampNeg x1)))] := hD
          refine lv_iinc (v := (s6 + 1)) (lv' := [(2, .int (s6 + 1)), (0, .ref qP0), (1, .int x1)]) hx hb dX4_merge_20 hl (k := 2) rfl rfl (by decide) rfl (fun ls hl => ?_)
          refine lv_goto (tgt := 2) hx hb dX4_merge_23 (by decide) ?_
          exact ih2 (s6 + 1) (upd s7 s6.toNatClampNeg x1) t_2 ls _ _ (kl_back hq hx2) (lv_sub hl [1, 2, 0] rfl) hP hD hS kk2_26
  obtain ⟨q10, eq10, hq⟩ := ob hq
  refine L2 F 0 p0 q10 ls _ _ (eq10) (lv_sub hl [1, 2, 0] rfl) hP hD hS (fun ls H locs hl hP hD hS => ?_)
  · obtain rfl := Option.some.inj hq
    rw [hQ]
    exact W.vret hx hb hr (fun t ht hW => ⟨⟨(), rfl, trivial, va_Pat ht hP⟩, hS.F ht⟩) hS.2.2 dX4_merge_26
