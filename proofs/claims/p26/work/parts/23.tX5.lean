/-! contracts (laid by wip/whole/gen.py) -/
abbrev rmX5_leftAt : Room := { frames := 1, cells := 0, slots := 0, locals := 21 }
set_option maxHeartbeats 40000000 in
set_option maxRecDepth 100000 in
theorem tX5_leftAt (G : GG) (l : Launch) {qV qB qVL qVS qVA qVT : Nat} {vL : Nat → Int32} {x1 : Int32} {F : Nat} {r : Int32} (hq : kX5_leftAt F vL x1 = some r) : Met l yX5_leftAt wsX5_leftAt rmX5_leftAt (pcP G [(qV, .inr (5, [.ref qB, .ref qVL, .ref qVS, .ref qVA, .ref qVT])), (qVL, .inl (G.2.1, 16, .inl vL))] [.ref qV, .int x1]) (vp_Si (fun x => r = x)) 0 0 (fun _ => False) := by
  refine Met.ofW (cc := cX5_leftAt) (maxL := 2) (ret := (some .int)) (by decide) rfl ?_
  intro p e s m args below meth c s₁ B hml hv
  obtain ⟨rfl, hP, hKK⟩ := hv
  have hK := hKK.1
  have hx := B.exec
  have hb := B.bytes
  have hr := B.returns
  have hts := atoms_spec (ws := wsX5_leftAt) B.pre
  have hown : s.vm.findClass RX5 = some m.cls := findClass_of_methodNamed B.named
  have hlocks := B.notSynchronized
  have hl := lv_entry ([.ref qV, .int x1] : List Value) (n := 2) (Nat.le_of_ble_eq_true rfl)
  rw [lg_entry_eq]
  generalize (lg_sl ([.ref qV, .int x1] : List Value) ++ List.replicate (2 - (lg_sl ([.ref qV, .int x1] : List Value)).length) Slot.unset).toArray = ls at hl ⊢
  have hl : lv_has ls 2 [(0, .ref qV), (1, .int x1)] := hl
  have hi5 : ∀ w ∈ u_ws RX5 TX5 5, w ∈ wsX5_leftAt := by decide +kernel
  have hw0 : (Cond.fieldLink RX5 9 "NetPlumber$Sieve" "left" "[I").before #[Value.ref qV, Value.int x1] s = true := hts _ (by decide +kernel)
  have hw1 : (Cond.initialized RX7).before #[Value.ref qV, Value.int x1] s = true := hts _ (by decide +kernel)
  have hw2 : (Cond.static yX7_at).before #[Value.ref qV, Value.int x1] s = true := hts _ (by decide +kernel)
  refine wq (fun Q hQ => ?_)
  unfold kX5_leftAt at hq
  refine lv_aload_n hx hb dX5_leftAt_0 rfl (lv_at hl 0 rfl) ?_
  refine va_get (D := G.1) (ci := 5) (v := .ref qVL) (C := RX5) (T := TX5) (N := 5) hx hb hts hi5 hown hK hP 0 rfl rfl 1 (by decide) hw0 (fun _ h9 => h9) rfl dX5_leftAt_1 ?_
  refine lv_iload_n hx hb dX5_leftAt_4 rfl (lv_at hl 1 rfl) ?_
  obtain ⟨q1, eq1, hq⟩ := ob hq
  have hPc := hP.sub (ws' := [(qVL, .inl (G.2.1, 16, .inl vL))]) [1] rfl
  refine vp_callSi (va_Run.run (va_runSN (As := [.ref qVL, .int x1]) (rest := []) ⟨hx, hb, hml, hown, hts⟩ (tX7_at G l eq1) ⟨va_cnB 2 hts gX5_leftAt_X7_at_n42 rfl rfl rfl (hKK.2 _ (List.mem_of_getElem? (i := 8) rfl)) hw1 (by decide +kernel) ⟨Nat.le_of_ble_eq_true rfl, Nat.le_of_ble_eq_true rfl⟩, hw2, trivial⟩ ⟨pcP_blind, pcP_pre hPc hKK⟩ rfl rfl hl.1 rfl (lv_room (Nat.le_of_ble_eq_true rfl)) dX5_leftAt_5 ⟨Nat.zero_le _, Nat.zero_le _⟩)) (fun r0 hr0 => ?_)
  obtain rfl := hr0
  obtain rfl := Option.some.inj hq
  rw [hQ]
  exact W.iret hx hb hr (fun t ht hW => ⟨_, rfl, rfl, ht⟩) (fun _ h => absurd h List.not_mem_nil) dX5_leftAt_8

abbrev rmX5_openAtSome : Room := { frames := 2, cells := 0, slots := 0, locals := 42 }
set_option maxHeartbeats 40000000 in
set_option maxRecDepth 100000 in
theorem tX5_openAtSome (G : GG) (l : Launch) {qB qBT qBC qBN qBW qBL qV qVL qVS qVA qVT : Nat} {bn : Int32} {bk : Int32} {bs : Int32} {bT : Nat → Int32} {vL : Nat → Int32} {x1 : Int32} {F : Nat} {r : Int32} (hq : kX5_openAtSome F bT vL x1 = some r) : Met l yX5_openAtSome wsX5_openAtSome rmX5_openAtSome (pcP G [(qB, .inr (0, [.ref qBT, .ref qBC, .ref qBN, .ref qBW, .ref qBL, .int bn, .int bk, .int bs])), (qBT, .inl (G.2.1, 16, .inl bT)), (qV, .inr (5, [.ref qB, .ref qVL, .ref qVS, .ref qVA, .ref qVT])), (qVL, .inl (G.2.1, 16, .inl vL))] [.ref qV, .int x1]) (vp_Si (fun x => r = x)) 0 0 (fun _ => False) := by
  refine Met.ofW (cc := cX5_openAtSome) (maxL := 4) (ret := (some .int)) (by decide) rfl ?_
  intro p e s m args below meth c s₁ B hml hv
  obtain ⟨rfl, hP, hKK⟩ := hv
  have hK := hKK.1
  have hx := B.exec
  have hb := B.bytes
  have hr := B.returns
  have hts := atoms_spec (ws := wsX5_openAtSome) B.pre
  have hown : s.vm.findClass RX5 = some m.cls := findClass_of_methodNamed B.named
  have hlocks := B.notSynchronized
  have hl := lv_entry ([.ref qV, .int x1] : List Value) (n := 4) (Nat.le_of_ble_eq_true rfl)
  rw [lg_entry_eq]
  generalize (lg_sl ([.ref qV, .int x1] : List Value) ++ List.replicate (4 - (lg_sl ([.ref qV, .int x1] : List Value)).length) Slot.unset).toArray = ls at hl ⊢
  have hl : lv_has ls 4 [(0, .ref qV), (1, .int x1)] := hl
  have hi5 : ∀ w ∈ u_ws RX5 TX5 5, w ∈ wsX5_openAtSome := by decide +kernel
  have hw0 : (Cond.initialized RX7).before #[Value.ref qV, Value.int x1] s = true := hts _ (by decide +kernel)
  have hw1 : (Cond.static yX7_holds).before #[Value.ref qV, Value.int x1] s = true := hts _ (by decide +kernel)
  have hw2 : (Cond.fieldLink RX5 24 "NetPlumber$Sieve" "board" "LNetPlumber$Board;").before #[Value.ref qV, Value.int x1] s = true := hts _ (by decide +kernel)
  have hw3 : (Cond.static yX7_turned).before #[Value.ref qV, Value.int x1] s = true := hts _ (by decide +kernel)
  refine wq (fun Q hQ => ?_)
  unfold kX5_openAtSome at hq
  refine lv_iconst (v := 0) hx hb dX5_openAtSome_0 (by decide) ?_
  refine lv_istore_n (lv' := [(2, .int 0), (0, .ref qV), (1, .int x1)]) hx hb dX5_openAtSome_1 rfl hl (by decide) rfl (fun ls hl => ?_)
  refine lv_iconst (v := 0) hx hb dX5_openAtSome_2 (by decide) ?_
  refine lv_istore_n (lv' := [(3, .int 0), (2, .int 0), (0, .ref qV), (1, .int x1)]) hx hb dX5_openAtSome_3 rfl hl (by decide) rfl (fun ls hl => ?_)
  have L4 : ∀ (n : Nat) (s11 : Int32) (s12 : Int32) (t_4 : Int32) (ls : Array Slot), kloop n (fun s_ => kX5_openAtSome_s4 F bT vL x1 s_.1 s_.2) (s11, s12) = some t_4 → lv_has ls 4 [(0, .ref qV), (1, .int x1), (2, .int s11), (3, .int s12)] → va_P G.1 vwCl [(qB, .inr (0, [.ref qBT, .ref qBC, .ref qBN, .ref qBW, .ref qBL, .int bn, .int bk, .int bs])), (qBT, .inl (G.2.1, 16, .inl bT)), (qV, .inr (5, [.ref qB, .ref qVL, .ref qVS, .ref qVA, .ref qVT])), (qVL, .inl (G.2.1, 16, .inl vL))] s.heap → (∀ (ls : Array Slot), lv_has ls 4 [(2, .int t_4)] → va_P G.1 vwCl [(qB, .inr (0, [.ref qBT, .ref qBC, .ref qBN, .ref qBW, .ref qBL, .int bn, .int bk, .int bs])), (qBT, .inl (G.2.1, 16, .inl bT)), (qV, .inr (5, [.ref qB, .ref qVL, .ref qVS, .ref qVA, .ref qVT])), (qVL, .inl (G.2.1, 16, .inl vL))] s.heap → W p l e (headSpec wsX5_openAtSome rmX5_openAtSome).room s m ([.ref qV, .int x1] : List Value).toArray below meth c s.heap [] 0 0 Q (F0 m 42 ls [])) → W p l e (headSpec wsX5_openAtSome rmX5_openAtSome).room s m ([.ref qV, .int x1] : List Value).toArray below meth c s.heap [] 0 0 Q (F0 m 4 ls []) := by
    intro n
    induction n with
    | zero => 
      intro s11 s12 t_4 ls hq hl hP kk4_42
      exact absurd hq kl_0
    | succ n ih4 =>
      intro s11 s12 t_4 ls hq hl hP kk4_42
      obtain ⟨y_4, hq, hx4⟩ := kl_s hq
      have hq : kX5_openAtSome_s4 F bT vL x1 s11 s12 = some y_4 := hq
      unfold kX5_openAtSome_s4 at hq
      refine lv_iload_n hx hb dX5_openAtSome_4 rfl (lv_at hl 3 rfl) ?_
      refine lv_iconst (v := 4) hx hb dX5_openAtSome_5 (by decide) ?_
      refine lv_icmp_ge (tgt := 42) hx hb dX5_openAtSome_6 (by decide) (fun c_6 => ?_) (fun c_6 => ?_)
      · have hq := k_t c_6 hq
        have et := kl_exit hq hx4
        subst et
        exact kk4_42 ls (lv_sub hl [2] rfl) hP
      · have hq := k_f c_6 hq
        refine lv_aload_n hx hb dX5_openAtSome_9 rfl (lv_at hl 0 rfl) ?_
        refine lv_iload_n hx hb dX5_openAtSome_10 rfl (lv_at hl 1 rfl) ?_
        obtain ⟨q13, eq13, hq⟩ := ob hq
        have hPc := hP.sub (ws' := [(qV, .inr (5, [.ref qB, .ref qVL, .ref qVS, .ref qVA, .ref qVT])), (qVL, .inl (G.2.1, 16, .inl vL))]) [2, 3] rfl
        have hKc := hK
        refine vp_callSi (va_Run.run (va_runV (As := [.int x1]) (rest := []) ⟨hx, hb, hml, hown, hts⟩ (tX5_leftAt G l eq13) (cwV 1 hts gX5_openAtSome_X5_leftAt rfl rfl rfl (by decide +kernel) ⟨Nat.le_of_ble_eq_true rfl, Nat.le_of_ble_eq_true rfl⟩) ⟨pcP_blind, va_recv hKc hPc (ci := 5) (q0 := 0) rfl rfl, pcP_pre hPc hKK⟩ rfl rfl hl.1 rfl (lv_room (Nat.le_of_ble_eq_true rfl)) dX5_openAtSome_11 ⟨Nat.zero_le _, Nat.zero_le _⟩)) (fun r0 hr0 => ?_)
        obtain rfl := hr0
        refine lv_iload_n hx hb dX5_openAtSome_14 rfl (lv_at hl 3 rfl) ?_
        obtain ⟨q14, eq14, hq⟩ := ob hq
        have hPc := hP.sub (ws' := []) [] rfl
        refine vp_callSi (va_Run.run (va_runSN (As := [.int q13, .int s12]) (rest := []) ⟨hx, hb, hml, hown, hts⟩ (tX7_holds G l eq14) ⟨va_cnB 2 hts gX5_openAtSome_X7_holds_n61 rfl rfl rfl (hKK.2 _ (List.mem_of_getElem? (i := 9) rfl)) hw0 (by decide +kernel) ⟨Nat.le_of_ble_eq_true rfl, Nat.le_of_ble_eq_true rfl⟩, hw1, trivial⟩ ⟨pcP_blind, pcP_pre hPc hKK⟩ rfl rfl hl.1 rfl (lv_room (Nat.le_of_ble_eq_true rfl)) dX5_openAtSome_15 ⟨Nat.zero_le _, Nat.zero_le _⟩)) (fun r0 hr0 => ?_)
        obtain rfl := hr0
        refine lv_if_eq (tgt := 36) hx hb dX5_openAtSome_18 (by decide) (fun c_18 => ?_) (fun c_18 => ?_)
        · have hq := k_t c_18 hq
          refine lv_iinc (v := (s12 + 1)) (lv' := [(3, .int (s12 + 1)), (0, .ref qV), (1, .int x1), (2, .int s11)]) hx hb dX5_openAtSome_36 hl (k := 3) rfl rfl (by decide) rfl (fun ls hl => ?_)
          refine lv_goto (tgt := 4) hx hb dX5_openAtSome_39 (by decide) ?_
          exact ih4 s11 (s12 + 1) t_4 ls (kl_back hq hx4) (lv_sub hl [1, 2, 3, 0] rfl) hP kk4_42
        · have hq := k_f c_18 hq
          refine lv_iload_n hx hb dX5_openAtSome_21 rfl (lv_at hl 2 rfl) ?_
          refine lv_aload_n hx hb dX5_openAtSome_22 rfl (lv_at hl 0 rfl) ?_
          refine va_get (D := G.1) (ci := 5) (v := .ref qB) (C := RX5) (T := TX5) (N := 5) hx hb hts hi5 hown hK hP 2 rfl rfl 0 (by decide) hw2 (fun _ h9 => h9) rfl dX5_openAtSome_23 ?_
          refine lv_iload_n hx hb dX5_openAtSome_26 rfl (lv_at hl 1 rfl) ?_
          obtain ⟨q18, eq18, hq⟩ := ob hq
          have hPc := hP.sub (ws' := [(qB, .inr (0, [.ref qBT, .ref qBC, .ref qBN, .ref qBW, .ref qBL, .int bn, .int bk, .int bs])), (qBT, .inl (G.2.1, 16, .inl bT))]) [0, 1] rfl
          have hKc := hK
          refine vp_callSi (va_Run.run (va_runV (As := [.int x1]) (rest := [.int s11]) ⟨hx, hb, hml, hown, hts⟩ (tX0_sidesOf G l eq18) (cwV 1 hts gX5_openAtSome_X0_sidesOf rfl rfl rfl (by decide +kernel) ⟨Nat.le_of_ble_eq_true rfl, Nat.le_of_ble_eq_true rfl⟩) ⟨pcP_blind, va_recv hKc hPc (ci := 0) (q0 := 0) rfl rfl, pcP_pre hPc hKK⟩ rfl rfl hl.1 rfl (lv_room (Nat.le_of_ble_eq_true rfl)) dX5_openAtSome_27 ⟨Nat.zero_le _, Nat.zero_le _⟩)) (fun r0 hr0 => ?_)
          obtain rfl := hr0
          refine lv_iload_n hx hb dX5_openAtSome_30 rfl (lv_at hl 3 rfl) ?_
          obtain ⟨q19, eq19, hq⟩ := ob hq
          have hPc := hP.sub (ws' := []) [] rfl
          refine vp_callSi (va_Run.run (va_runSN (As := [.int q18, .int s12]) (rest := [.int s11]) ⟨hx, hb, hml, hown, hts⟩ (tX7_turned G l eq19) ⟨va_cnB 2 hts gX5_openAtSome_X7_turned_n68 rfl rfl rfl (hKK.2 _ (List.mem_of_getElem? (i := 10) rfl)) hw0 (by decide +kernel) ⟨Nat.le_of_ble_eq_true rfl, Nat.le_of_ble_eq_true rfl⟩, hw3, trivial⟩ ⟨pcP_blind, pcP_pre hPc hKK⟩ rfl rfl hl.1 rfl (lv_room (Nat.le_of_ble_eq_true rfl)) dX5_openAtSome_31 ⟨Nat.zero_le _, Nat.zero_le _⟩)) (fun r0 hr0 => ?_)
          obtain rfl := hr0
          refine lv_ior hx hb dX5_openAtSome_34 ?_
          refine lv_istore_n (lv' := [(2, .int (s11 ||| q19)), (0, .ref qV), (1, .int x1), (3, .int s12)]) hx hb dX5_openAtSome_35 rfl hl (by decide) rfl (fun ls hl => ?_)
          refine lv_iinc (v := (s12 + 1)) (lv' := [(3, .int (s12 + 1)), (2, .int (s11 ||| q19)), (0, .ref qV), (1, .int x1)]) hx hb dX5_openAtSome_36 hl (k := 3) rfl rfl (by decide) rfl (fun ls hl => ?_)
          refine lv_goto (tgt := 4) hx hb dX5_openAtSome_39 (by decide) ?_
          exact ih4 (s11 ||| q19) (s12 + 1) t_4 ls (kl_back hq hx4) (lv_sub hl [2, 3, 1, 0] rfl) hP kk4_42
  obtain ⟨q20, eq20, hq⟩ := ob hq
  refine L4 F 0 0 q20 ls (eq20) (lv_sub hl [2, 3, 1, 0] rfl) hP (fun ls hl hP => ?_)
  · refine lv_iload_n hx hb dX5_openAtSome_42 rfl (lv_at hl 0 rfl) ?_
    obtain rfl := Option.some.inj hq
    rw [hQ]
    exact W.iret hx hb hr (fun t ht hW => ⟨_, rfl, rfl, ht⟩) (fun _ h => absurd h List.not_mem_nil) dX5_openAtSome_43

abbrev rmX5_openAtAll : Room := { frames := 2, cells := 0, slots := 0, locals := 42 }
set_option maxHeartbeats 40000000 in
set_option maxRecDepth 100000 in
theorem tX5_openAtAll (G : GG) (l : Launch) {qB qBT qBC qBN qBW qBL qV qVL qVS qVA qVT : Nat} {bn : Int32} {bk : Int32} {bs : Int32} {bT : Nat → Int32} {vL : Nat → Int32} {x1 : Int32} {F : Nat} {r : Int32} (hq : kX5_openAtAll F bT vL x1 = some r) : Met l yX5_openAtAll wsX5_openAtAll rmX5_openAtAll (pcP G [(qB, .inr (0, [.ref qBT, .ref qBC, .ref qBN, .ref qBW, .ref qBL, .int bn, .int bk, .int bs])), (qBT, .inl (G.2.1, 16, .inl bT)), (qV, .inr (5, [.ref qB, .ref qVL, .ref qVS, .ref qVA, .ref qVT])), (qVL, .inl (G.2.1, 16, .inl vL))] [.ref qV, .int x1]) (vp_Si (fun x => r = x)) 0 0 (fun _ => False) := by
  refine Met.ofW (cc := cX5_openAtAll) (maxL := 4) (ret := (some .int)) (by decide) rfl ?_
  intro p e s m args below meth c s₁ B hml hv
  obtain ⟨rfl, hP, hKK⟩ := hv
  have hK := hKK.1
  have hx := B.exec
  have hb := B.bytes
  have hr := B.returns
  have hts := atoms_spec (ws := wsX5_openAtAll) B.pre
  have hown : s.vm.findClass RX5 = some m.cls := findClass_of_methodNamed B.named
  have hlocks := B.notSynchronized
  have hl := lv_entry ([.ref qV, .int x1] : List Value) (n := 4) (Nat.le_of_ble_eq_true rfl)
  rw [lg_entry_eq]
  generalize (lg_sl ([.ref qV, .int x1] : List Value) ++ List.replicate (4 - (lg_sl ([.ref qV, .int x1] : List Value)).length) Slot.unset).toArray = ls at hl ⊢
  have hl : lv_has ls 4 [(0, .ref qV), (1, .int x1)] := hl
  have hi5 : ∀ w ∈ u_ws RX5 TX5 5, w ∈ wsX5_openAtAll := by decide +kernel
  have hw0 : (Cond.initialized RX7).before #[Value.ref qV, Value.int x1] s = true := hts _ (by decide +kernel)
  have hw1 : (Cond.static yX7_holds).before #[Value.ref qV, Value.int x1] s = true := hts _ (by decide +kernel)
  have hw2 : (Cond.fieldLink RX5 24 "NetPlumber$Sieve" "board" "LNetPlumber$Board;").before #[Value.ref qV, Value.int x1] s = true := hts _ (by decide +kernel)
  have hw3 : (Cond.static yX7_turned).before #[Value.ref qV, Value.int x1] s = true := hts _ (by decide +kernel)
  refine wq (fun Q hQ => ?_)
  unfold kX5_openAtAll at hq
  refine lv_bipush (v := 15) hx hb dX5_openAtAll_0 (by decide) ?_
  refine lv_istore_n (lv' := [(2, .int 15), (0, .ref qV), (1, .int x1)]) hx hb dX5_openAtAll_2 rfl hl (by decide) rfl (fun ls hl => ?_)
  refine lv_iconst (v := 0) hx hb dX5_openAtAll_3 (by decide) ?_
  refine lv_istore_n (lv' := [(3, .int 0), (2, .int 15), (0, .ref qV), (1, .int x1)]) hx hb dX5_openAtAll_4 rfl hl (by decide) rfl (fun ls hl => ?_)
  have L5 : ∀ (n : Nat) (s11 : Int32) (s12 : Int32) (t_5 : Int32) (ls : Array Slot), kloop n (fun s_ => kX5_openAtAll_s5 F bT vL x1 s_.1 s_.2) (s11, s12) = some t_5 → lv_has ls 4 [(0, .ref qV), (1, .int x1), (2, .int s11), (3, .int s12)] → va_P G.1 vwCl [(qB, .inr (0, [.ref qBT, .ref qBC, .ref qBN, .ref qBW, .ref qBL, .int bn, .int bk, .int bs])), (qBT, .inl (G.2.1, 16, .inl bT)), (qV, .inr (5, [.ref qB, .ref qVL, .ref qVS, .ref qVA, .ref qVT])), (qVL, .inl (G.2.1, 16, .inl vL))] s.heap → (∀ (ls : Array Slot), lv_has ls 4 [(2, .int t_5)] → va_P G.1 vwCl [(qB, .inr (0, [.ref qBT, .ref qBC, .ref qBN, .ref qBW, .ref qBL, .int bn, .int bk, .int bs])), (qBT, .inl (G.2.1, 16, .inl bT)), (qV, .inr (5, [.ref qB, .ref qVL, .ref qVS, .ref qVA, .ref qVT])), (qVL, .inl (G.2.1, 16, .inl vL))] s.heap → W p l e (headSpec wsX5_openAtAll rmX5_openAtAll).room s m ([.ref qV, .int x1] : List Value).toArray below meth c s.heap [] 0 0 Q (F0 m 43 ls [])) → W p l e (headSpec wsX5_openAtAll rmX5_openAtAll).room s m ([.ref qV, .int x1] : List Value).toArray below meth c s.heap [] 0 0 Q (F0 m 5 ls []) := by
    intro n
    induction n with
    | zero => 
      intro s11 s12 t_5 ls hq hl hP kk5_43
      exact absurd hq kl_0
    | succ n ih5 =>
      intro s11 s12 t_5 ls hq hl hP kk5_43
      obtain ⟨y_5, hq, hx5⟩ := kl_s hq
      have hq : kX5_openAtAll_s5 F bT vL x1 s11 s12 = some y_5 := hq
      unfold kX5_openAtAll_s5 at hq
      refine lv_iload_n hx hb dX5_openAtAll_5 rfl (lv_at hl 3 rfl) ?_
      refine lv_iconst (v := 4) hx hb dX5_openAtAll_6 (by decide) ?_
      refine lv_icmp_ge (tgt := 43) hx hb dX5_openAtAll_7 (by decide) (fun c_7 => ?_) (fun c_7 => ?_)
      · have hq := k_t c_7 hq
        have et := kl_exit hq hx5
        subst et
        exact kk5_43 ls (lv_sub hl [2] rfl) hP
      · have hq := k_f c_7 hq
        refine lv_aload_n hx hb dX5_openAtAll_10 rfl (lv_at hl 0 rfl) ?_
        refine lv_iload_n hx hb dX5_openAtAll_11 rfl (lv_at hl 1 rfl) ?_
        obtain ⟨q13, eq13, hq⟩ := ob hq
        have hPc := hP.sub (ws' := [(qV, .inr (5, [.ref qB, .ref qVL, .ref qVS, .ref qVA, .ref qVT])), (qVL, .inl (G.2.1, 16, .inl vL))]) [2, 3] rfl
        have hKc := hK
        refine vp_callSi (va_Run.run (va_runV (As := [.int x1]) (rest := []) ⟨hx, hb, hml, hown, hts⟩ (tX5_leftAt G l eq13) (cwV 1 hts gX5_openAtAll_X5_leftAt rfl rfl rfl (by decide +kernel) ⟨Nat.le_of_ble_eq_true rfl, Nat.le_of_ble_eq_true rfl⟩) ⟨pcP_blind, va_recv hKc hPc (ci := 5) (q0 := 0) rfl rfl, pcP_pre hPc hKK⟩ rfl rfl hl.1 rfl (lv_room (Nat.le_of_ble_eq_true rfl)) dX5_openAtAll_12 ⟨Nat.zero_le _, Nat.zero_le _⟩)) (fun r0 hr0 => ?_)
        obtain rfl := hr0
        refine lv_iload_n hx hb dX5_openAtAll_15 rfl (lv_at hl 3 rfl) ?_
        obtain ⟨q14, eq14, hq⟩ := ob hq
        have hPc := hP.sub (ws' := []) [] rfl
        refine vp_callSi (va_Run.run (va_runSN (As := [.int q13, .int s12]) (rest := []) ⟨hx, hb, hml, hown, hts⟩ (tX7_holds G l eq14) ⟨va_cnB 2 hts gX5_openAtAll_X7_holds_n61 rfl rfl rfl (hKK.2 _ (List.mem_of_getElem? (i := 9) rfl)) hw0 (by decide +kernel) ⟨Nat.le_of_ble_eq_true rfl, Nat.le_of_ble_eq_true rfl⟩, hw1, trivial⟩ ⟨pcP_blind, pcP_pre hPc hKK⟩ rfl rfl hl.1 rfl (lv_room (Nat.le_of_ble_eq_true rfl)) dX5_openAtAll_16 ⟨Nat.zero_le _, Nat.zero_le _⟩)) (fun r0 hr0 => ?_)
        obtain rfl := hr0
        refine lv_if_eq (tgt := 37) hx hb dX5_openAtAll_19 (by decide) (fun c_19 => ?_) (fun c_19 => ?_)
        · have hq := k_t c_19 hq
          refine lv_iinc (v := (s12 + 1)) (lv' := [(3, .int (s12 + 1)), (0, .ref qV), (1, .int x1), (2, .int s11)]) hx hb dX5_openAtAll_37 hl (k := 3) rfl rfl (by decide) rfl (fun ls hl => ?_)
          refine lv_goto (tgt := 5) hx hb dX5_openAtAll_40 (by decide) ?_
          exact ih5 s11 (s12 + 1) t_5 ls (kl_back hq hx5) (lv_sub hl [1, 2, 3, 0] rfl) hP kk5_43
        · have hq := k_f c_19 hq
          refine lv_iload_n hx hb dX5_openAtAll_22 rfl (lv_at hl 2 rfl) ?_
          refine lv_aload_n hx hb dX5_openAtAll_23 rfl (lv_at hl 0 rfl) ?_
          refine va_get (D := G.1) (ci := 5) (v := .ref qB) (C := RX5) (T := TX5) (N := 5) hx hb hts hi5 hown hK hP 2 rfl rfl 0 (by decide) hw2 (fun _ h9 => h9) rfl dX5_openAtAll_24 ?_
          refine lv_iload_n hx hb dX5_openAtAll_27 rfl (lv_at hl 1 rfl) ?_
          obtain ⟨q18, eq18, hq⟩ := ob hq
          have hPc := hP.sub (ws' := [(qB, .inr (0, [.ref qBT, .ref qBC, .ref qBN, .ref qBW, .ref qBL, .int bn, .int bk, .int bs])), (qBT, .inl (G.2.1, 16, .inl bT))]) [0, 1] rfl
          have hKc := hK
          refine vp_callSi (va_Run.run (va_runV (As := [.int x1]) (rest := [.int s11]) ⟨hx, hb, hml, hown, hts⟩ (tX0_sidesOf G l eq18) (cwV 1 hts gX5_openAtAll_X0_sidesOf rfl rfl rfl (by decide +kernel) ⟨Nat.le_of_ble_eq_true rfl, Nat.le_of_ble_eq_true rfl⟩) ⟨pcP_blind, va_recv hKc hPc (ci := 0) (q0 := 0) rfl rfl, pcP_pre hPc hKK⟩ rfl rfl hl.1 rfl (lv_room (Nat.le_of_ble_eq_true rfl)) dX5_openAtAll_28 ⟨Nat.zero_le _, Nat.zero_le _⟩)) (fun r0 hr0 => ?_)
          obtain rfl := hr0
          refine lv_iload_n hx hb dX5_openAtAll_31 rfl (lv_at hl 3 rfl) ?_
          obtain ⟨q19, eq19, hq⟩ := ob hq
          have hPc := hP.sub (ws' := []) [] rfl
          refine vp_callSi (va_Run.run (va_runSN (As := [.int q18, .int s12]) (rest := [.int s11]) ⟨hx, hb, hml, hown, hts⟩ (tX7_turned G l eq19) ⟨va_cnB 2 hts gX5_openAtAll_X7_turned_n68 rfl rfl rfl (hKK.2 _ (List.mem_of_getElem? (i := 10) rfl)) hw0 (by decide +kernel) ⟨Nat.le_of_ble_eq_true rfl, Nat.le_of_ble_eq_true rfl⟩, hw3, trivial⟩ ⟨pcP_blind, pcP_pre hPc hKK⟩ rfl rfl hl.1 rfl (lv_room (Nat.le_of_ble_eq_true rfl)) dX5_openAtAll_32 ⟨Nat.zero_le _, Nat.zero_le _⟩)) (fun r0 hr0 => ?_)
          obtain rfl := hr0
          refine lv_iand hx hb dX5_openAtAll_35 ?_
          refine lv_istore_n (lv' := [(2, .int (s11 &&& q19)), (0, .ref qV), (1, .int x1), (3, .int s12)]) hx hb dX5_openAtAll_36 rfl hl (by decide) rfl (fun ls hl => ?_)
          refine lv_iinc (v := (s12 + 1)) (lv' := [(3, .int (s12 + 1)), (2, .int (s11 &&& q19)), (0, .ref qV), (1, .int x1)]) hx hb dX5_openAtAll_37 hl (k := 3) rfl rfl (by decide) rfl (fun ls hl => ?_)
          refine lv_goto (tgt := 5) hx hb dX5_openAtAll_40 (by decide) ?_
          exact ih5 (s11 &&& q19) (s12 + 1) t_5 ls (kl_back hq hx5) (lv_sub hl [2, 3, 1, 0] rfl) hP kk5_43
  obtain ⟨q20, eq20, hq⟩ := ob hq
  refine L5 F 15 0 q20 ls (eq20) (lv_sub hl [2, 3, 1, 0] rfl) hP (fun ls hl hP => ?_)
  · refine lv_iload_n hx hb dX5_openAtAll_43 rfl (lv_at hl 0 rfl) ?_
    obtain rfl := Option.some.inj hq
    rw [hQ]
    exact W.iret hx hb hr (fun t ht hW => ⟨_, rfl, rfl, ht⟩) (fun _ h => absurd h List.not_mem_nil) dX5_openAtAll_44

abbrev rmX5_settledWith : Room := { frames := 1, cells := 0, slots := 0, locals := 23 }
set_option maxHeartbeats 40000000 in
set_option maxRecDepth 100000 in
theorem tX5_settledWith (G : GG) (l : Launch) {qB qBT qBC qBN qBW qBL qV qVL qVS qVA qVT : Nat} {bn : Int32} {bk : Int32} {bs : Int32} {bW : Nat → Int32} {vA : Nat → Int32} {x1 : Int32} {F : Nat} {r : Int32} (hq : kX5_settledWith F bW vA x1 = some r) : Met l yX5_settledWith wsX5_settledWith rmX5_settledWith (pcP G [(qB, .inr (0, [.ref qBT, .ref qBC, .ref qBN, .ref qBW, .ref qBL, .int bn, .int bk, .int bs])), (qBW, .inl (G.2.1, 64, .inl bW)), (qV, .inr (5, [.ref qB, .ref qVL, .ref qVS, .ref qVA, .ref qVT])), (qVA, .inl (G.2.1, 16, .inl vA))] [.ref qV, .int x1]) (vp_Si (fun x => r = x)) 0 0 (fun _ => False) := by
  refine Met.ofW (cc := cX5_settledWith) (maxL := 5) (ret := (some .int)) (by decide) rfl ?_
  intro p e s m args below meth c s₁ B hml hv
  obtain ⟨rfl, hP, hKK⟩ := hv
  have hK := hKK.1
  have hx := B.exec
  have hb := B.bytes
  have hr := B.returns
  have hts := atoms_spec (ws := wsX5_settledWith) B.pre
  have hown : s.vm.findClass RX5 = some m.cls := findClass_of_methodNamed B.named
  have hlocks := B.notSynchronized
  have hl := lv_entry ([.ref qV, .int x1] : List Value) (n := 5) (Nat.le_of_ble_eq_true rfl)
  rw [lg_entry_eq]
  generalize (lg_sl ([.ref qV, .int x1] : List Value) ++ List.replicate (5 - (lg_sl ([.ref qV, .int x1] : List Value)).length) Slot.unset).toArray = ls at hl ⊢
  have hl : lv_has ls 5 [(0, .ref qV), (1, .int x1)] := hl
  have hi5 : ∀ w ∈ u_ws RX5 TX5 5, w ∈ wsX5_settledWith := by decide +kernel
  have hw0 : (Cond.fieldLink RX5 24 "NetPlumber$Sieve" "board" "LNetPlumber$Board;").before #[Value.ref qV, Value.int x1] s = true := hts _ (by decide +kernel)
  have hw1 : (Cond.fieldLink RX5 18 "NetPlumber$Sieve" "all" "[I").before #[Value.ref qV, Value.int x1] s = true := hts _ (by decide +kernel)
  have hw2 : (Cond.initialized RX7).before #[Value.ref qV, Value.int x1] s = true := hts _ (by decide +kernel)
  have hw3 : (Cond.static yX7_at).before #[Value.ref qV, Value.int x1] s = true := hts _ (by decide +kernel)
  have hw4 : (Cond.static yX7_holds).before #[Value.ref qV, Value.int x1] s = true := hts _ (by decide +kernel)
  have hw5 : (Cond.static yX7_opposite).before #[Value.ref qV, Value.int x1] s = true := hts _ (by decide +kernel)
  refine wq (fun Q hQ => ?_)
  unfold kX5_settledWith at hq
  refine lv_iconst (v := 0) hx hb dX5_settledWith_0 (by decide) ?_
  refine lv_istore_n (lv' := [(2, .int 0), (0, .ref qV), (1, .int x1)]) hx hb dX5_settledWith_1 rfl hl (by decide) rfl (fun ls hl => ?_)
  refine lv_iconst (v := 0) hx hb dX5_settledWith_2 (by decide) ?_
  refine lv_istore_n (lv' := [(3, .int 0), (2, .int 0), (0, .ref qV), (1, .int x1)]) hx hb dX5_settledWith_3 rfl hl (by decide) rfl (fun ls hl => ?_)
  have L4 : ∀ (n : Nat) (s21 : Int32) (s22 : Int32) (t_4 : Int32) (ls : Array Slot), kloop n (fun s_ => kX5_settledWith_s4 F bW vA x1 s_.1 s_.2) (s21, s22) = some t_4 → lv_has ls 5 [(0, .ref qV), (1, .int x1), (2, .int s21), (3, .int s22)] → va_P G.1 vwCl [(qB, .inr (0, [.ref qBT, .ref qBC, .ref qBN, .ref qBW, .ref qBL, .int bn, .int bk, .int bs])), (qBW, .inl (G.2.1, 64, .inl bW)), (qV, .inr (5, [.ref qB, .ref qVL, .ref qVS, .ref qVA, .ref qVT])), (qVA, .inl (G.2.1, 16, .inl vA))] s.heap → (∀ (ls : Array Slot), lv_has ls 5 [(2, .int t_4)] → va_P G.1 vwCl [(qB, .inr (0, [.ref qBT, .ref qBC, .ref qBN, .ref qBW, .ref qBL, .int bn, .int bk, .int bs])), (qBW, .inl (G.2.1, 64, .inl bW)), (qV, .inr (5, [.ref qB, .ref qVL, .ref qVS, .ref qVA, .ref qVT])), (qVA, .inl (G.2.1, 16, .inl vA))] s.heap → W p l e (headSpec wsX5_settledWith rmX5_settledWith).room s m ([.ref qV, .int x1] : List Value).toArray below meth c s.heap [] 0 0 Q (F0 m 73 ls [])) → W p l e (headSpec wsX5_settledWith rmX5_settledWith).room s m ([.ref qV, .int x1] : List Value).toArray below meth c s.heap [] 0 0 Q (F0 m 4 ls []) := by
    intro n
    induction n with
    | zero => 
      intro s21 s22 t_4 ls hq hl hP kk4_73
      exact absurd hq kl_0
    | succ n ih4 =>
      intro s21 s22 t_4 ls hq hl hP kk4_73
      obtain ⟨y_4, hq, hx4⟩ := kl_s hq
      have hq : kX5_settledWith_s4 F bW vA x1 s21 s22 = some y_4 := hq
      unfold kX5_settledWith_s4 at hq
      refine lv_iload_n hx hb dX5_settledWith_4 rfl (lv_at hl 3 rfl) ?_
      refine lv_iconst (v := 3) hx hb dX5_settledWith_5 (by decide) ?_
      refine lv_icmp_gt (tgt := 73) hx hb dX5_settledWith_6 (by decide) (fun c_6 => ?_) (fun c_6 => ?_)
      · have hq := k_t c_6 hq
        have et := kl_exit hq hx4
        subst et
        exact kk4_73 ls (lv_sub hl [2] rfl) hP
      · have hq := k_f c_6 hq
        refine lv_aload_n hx hb dX5_settledWith_9 rfl (lv_at hl 0 rfl) ?_
        refine va_get (D := G.1) (ci := 5) (v := .ref qB) (C := RX5) (T := TX5) (N := 5) hx hb hts hi5 hown hK hP 2 rfl rfl 0 (by decide) hw0 (fun _ h9 => h9) rfl dX5_settledWith_10 ?_
        refine lv_iload_n hx hb dX5_settledWith_13 rfl (lv_at hl 1 rfl) ?_
        refine lv_iload_n hx hb dX5_settledWith_14 rfl (lv_at hl 3 rfl) ?_
        obtain ⟨q23, eq23, hq⟩ := ob hq
        have hPc := hP.sub (ws' := [(qB, .inr (0, [.ref qBT, .ref qBC, .ref qBN, .ref qBW, .ref qBL, .int bn, .int bk, .int bs])), (qBW, .inl (G.2.1, 64, .inl bW))]) [0, 1] rfl
        have hKc := hK
        refine vp_callSi (va_Run.run (va_runV (As := [.int x1, .int s22]) (rest := []) ⟨hx, hb, hml, hown, hts⟩ (tX0_across G l eq23) (cwV 2 hts gX5_settledWith_X0_across rfl rfl rfl (by decide +kernel) ⟨Nat.le_of_ble_eq_true rfl, Nat.le_of_ble_eq_true rfl⟩) ⟨pcP_blind, va_recv hKc hPc (ci := 0) (q0 := 0) rfl rfl, pcP_pre hPc hKK⟩ rfl rfl hl.1 rfl (lv_room (Nat.le_of_ble_eq_true rfl)) dX5_settledWith_15 ⟨Nat.zero_le _, Nat.zero_le _⟩)) (fun r0 hr0 => ?_)
        obtain rfl := hr0
        refine lv_istore (lv' := [(4, .int q23), (0, .ref qV), (1, .int x1), (2, .int s21), (3, .int s22)]) hx hb dX5_settledWith_18 hl (by decide) rfl (fun ls hl => ?_)
        refine lv_iload hx hb dX5_settledWith_20 (lv_at hl 0 rfl) ?_
        refine lv_iconst (v := (-1)) hx hb dX5_settledWith_22 (by decide) ?_
        refine lv_icmp_eq (tgt := 67) hx hb dX5_settledWith_23 (by decide) (fun c_23 => ?_) (fun c_23 => ?_)
        · have hq := k_t c_23 hq
          refine lv_iinc (v := (s22 + 1)) (lv' := [(3, .int (s22 + 1)), (4, .int q23), (0, .ref qV), (1, .int x1), (2, .int s21)]) hx hb dX5_settledWith_67 hl (k := 4) rfl rfl (by decide) rfl (fun ls hl => ?_)
          refine lv_goto (tgt := 4) hx hb dX5_settledWith_70 (by decide) ?_
          exact ih4 s21 (s22 + 1) t_4 ls (kl_back hq hx4) (lv_sub hl [2, 3, 4, 0] rfl) hP kk4_73
        · have hq := k_f c_23 hq
          refine lv_aload_n hx hb dX5_settledWith_26 rfl (lv_at hl 1 rfl) ?_
          refine va_get (D := G.1) (ci := 5) (v := .ref qVA) (C := RX5) (T := TX5) (N := 5) hx hb hts hi5 hown hK hP 2 rfl rfl 3 (by decide) hw1 (fun _ h9 => h9) rfl dX5_settledWith_27 ?_
          refine lv_iload_n hx hb dX5_settledWith_30 rfl (lv_at hl 2 rfl) ?_
          obtain ⟨q30, eq30, hq⟩ := ob hq
          have hPc := hP.sub (ws' := [(qVA, .inl (G.2.1, 16, .inl vA))]) [3] rfl
          refine vp_callSi (va_Run.run (va_runSN (As := [.ref qVA, .int x1]) (rest := []) ⟨hx, hb, hml, hown, hts⟩ (tX7_at G l eq30) ⟨va_cnB 2 hts gX5_settledWith_X7_at_n42 rfl rfl rfl (hKK.2 _ (List.mem_of_getElem? (i := 8) rfl)) hw2 (by decide +kernel) ⟨Nat.le_of_ble_eq_true rfl, Nat.le_of_ble_eq_true rfl⟩, hw3, trivial⟩ ⟨pcP_blind, pcP_pre hPc hKK⟩ rfl rfl hl.1 rfl (lv_room (Nat.le_of_ble_eq_true rfl)) dX5_settledWith_31 ⟨Nat.zero_le _, Nat.zero_le _⟩)) (fun r0 hr0 => ?_)
          obtain rfl := hr0
          refine lv_iload_n hx hb dX5_settledWith_34 rfl (lv_at hl 4 rfl) ?_
          obtain ⟨q31, eq31, hq⟩ := ob hq
          have hPc := hP.sub (ws' := []) [] rfl
          refine vp_callSi (va_Run.run (va_runSN (As := [.int q30, .int s22]) (rest := []) ⟨hx, hb, hml, hown, hts⟩ (tX7_holds G l eq31) ⟨va_cnB 2 hts gX5_settledWith_X7_holds_n61 rfl rfl rfl (hKK.2 _ (List.mem_of_getElem? (i := 9) rfl)) hw2 (by decide +kernel) ⟨Nat.le_of_ble_eq_true rfl, Nat.le_of_ble_eq_true rfl⟩, hw4, trivial⟩ ⟨pcP_blind, pcP_pre hPc hKK⟩ rfl rfl hl.1 rfl (lv_room (Nat.le_of_ble_eq_true rfl)) dX5_settledWith_35 ⟨Nat.zero_le _, Nat.zero_le _⟩)) (fun r0 hr0 => ?_)
          obtain rfl := hr0
          refine lv_if_eq (tgt := 67) hx hb dX5_settledWith_38 (by decide) (fun c_38 => ?_) (fun c_38 => ?_)
          · have hq := k_t c_38 hq
            refine lv_iinc (v := (s22 + 1)) (lv' := [(3, .int (s22 + 1)), (4, .int q23), (0, .ref qV), (1, .int x1), (2, .int s21)]) hx hb dX5_settledWith_67 hl (k := 4) rfl rfl (by decide) rfl (fun ls hl => ?_)
            refine lv_goto (tgt := 4) hx hb dX5_settledWith_70 (by decide) ?_
            exact ih4 s21 (s22 + 1) t_4 ls (kl_back hq hx4) (lv_sub hl [2, 3, 4, 0] rfl) hP kk4_73
          · have hq := k_f c_38 hq
            refine lv_aload_n hx hb dX5_settledWith_41 rfl (lv_at hl 1 rfl) ?_
            refine va_get (D := G.1) (ci := 5) (v := .ref qVA) (C := RX5) (T := TX5) (N := 5) hx hb hts hi5 hown hK hP 2 rfl rfl 3 (by decide) hw1 (fun _ h9 => h9) rfl dX5_settledWith_42 ?_
            refine lv_iload hx hb dX5_settledWith_45 (lv_at hl 0 rfl) ?_
            obtain ⟨q36, eq36, hq⟩ := ob hq
            have hPc := hP.sub (ws' := [(qVA, .inl (G.2.1, 16, .inl vA))]) [3] rfl
            refine vp_callSi (va_Run.run (va_runSN (As := [.ref qVA, .int q23]) (rest := []) ⟨hx, hb, hml, hown, hts⟩ (tX7_at G l eq36) ⟨va_cnB 2 hts gX5_settledWith_X7_at_n42 rfl rfl rfl (hKK.2 _ (List.mem_of_getElem? (i := 8) rfl)) hw2 (by decide +kernel) ⟨Nat.le_of_ble_eq_true rfl, Nat.le_of_ble_eq_true rfl⟩, hw3, trivial⟩ ⟨pcP_blind, pcP_pre hPc hKK⟩ rfl rfl hl.1 rfl (lv_room (Nat.le_of_ble_eq_true rfl)) dX5_settledWith_47 ⟨Nat.zero_le _, Nat.zero_le _⟩)) (fun r0 hr0 => ?_)
            obtain rfl := hr0
            refine lv_iload_n hx hb dX5_settledWith_50 rfl (lv_at hl 4 rfl) ?_
            obtain ⟨q37, eq37, hq⟩ := ob hq
            have hPc := hP.sub (ws' := []) [] rfl
            refine vp_callSi (va_Run.run (va_runSN (As := [.int s22]) (rest := [.int q36]) ⟨hx, hb, hml, hown, hts⟩ (tX7_opposite G l eq37) ⟨va_cnB 1 hts gX5_settledWith_X7_opposite_n75 rfl rfl rfl (hKK.2 _ (List.mem_of_getElem? (i := 11) rfl)) hw2 (by decide +kernel) ⟨Nat.le_of_ble_eq_true rfl, Nat.le_of_ble_eq_true rfl⟩, hw5, trivial⟩ ⟨pcP_blind, pcP_pre hPc hKK⟩ rfl rfl hl.1 rfl (lv_room (Nat.le_of_ble_eq_true rfl)) dX5_settledWith_51 ⟨Nat.zero_le _, Nat.zero_le _⟩)) (fun r0 hr0 => ?_)
            obtain rfl := hr0
            obtain ⟨q38, eq38, hq⟩ := ob hq
            have hPc := hP.sub (ws' := []) [] rfl
            refine vp_callSi (va_Run.run (va_runSN (As := [.int q36, .int q37]) (rest := []) ⟨hx, hb, hml, hown, hts⟩ (tX7_holds G l eq38) ⟨va_cnB 2 hts gX5_settledWith_X7_holds_n61 rfl rfl rfl (hKK.2 _ (List.mem_of_getElem? (i := 9) rfl)) hw2 (by decide +kernel) ⟨Nat.le_of_ble_eq_true rfl, Nat.le_of_ble_eq_true rfl⟩, hw4, trivial⟩ ⟨pcP_blind, pcP_pre hPc hKK⟩ rfl rfl hl.1 rfl (lv_room (Nat.le_of_ble_eq_true rfl)) dX5_settledWith_54 ⟨Nat.zero_le _, Nat.zero_le _⟩)) (fun r0 hr0 => ?_)
            obtain rfl := hr0
            refine lv_if_eq (tgt := 67) hx hb dX5_settledWith_57 (by decide) (fun c_57 => ?_) (fun c_57 => ?_)
            · have hq := k_t c_57 hq
              refine lv_iinc (v := (s22 + 1)) (lv' := [(3, .int (s22 + 1)), (4, .int q23), (0, .ref qV), (1, .int x1), (2, .int s21)]) hx hb dX5_settledWith_67 hl (k := 4) rfl rfl (by decide) rfl (fun ls hl => ?_)
              refine lv_goto (tgt := 4) hx hb dX5_settledWith_70 (by decide) ?_
              exact ih4 s21 (s22 + 1) t_4 ls (kl_back hq hx4) (lv_sub hl [2, 3, 4, 0] rfl) hP kk4_73
            · have hq := k_f c_57 hq
              refine lv_iload_n hx hb dX5_settledWith_60 rfl (lv_at hl 3 rfl) ?_
              refine lv_iconst (v := 1) hx hb dX5_settledWith_61 (by decide) ?_
              refine lv_iload hx hb dX5_settledWith_62 (lv_at hl 0 rfl) ?_
              refine lv_ishl hx hb dX5_settledWith_64 ?_
              refine lv_ior hx hb dX5_settledWith_65 ?_
              refine lv_istore_n (lv' := [(2, .int (s21 ||| ((1 : Int32) <<< (q23 &&& 31)))), (4, .int q23), (0, .ref qV), (1, .int x1), (3, .int s22)]) hx hb dX5_settledWith_66 rfl hl (by decide) rfl (fun ls hl => ?_)
              refine lv_iinc (v := (s22 + 1)) (lv' := [(3, .int (s22 + 1)), (2, .int (s21 ||| ((1 : Int32) <<< (q23 &&& 31)))), (4, .int q23), (0, .ref qV), (1, .int x1)]) hx hb dX5_settledWith_67 hl (k := 4) rfl rfl (by decide) rfl (fun ls hl => ?_)
              refine lv_goto (tgt := 4) hx hb dX5_settledWith_70 (by decide) ?_
              exact ih4 (s21 ||| ((1 : Int32) <<< (q23 &&& 31))) (s22 + 1) t_4 ls (kl_back hq hx4) (lv_sub hl [3, 4, 1, 0] rfl) hP kk4_73
  obtain ⟨q40, eq40, hq⟩ := ob hq
  refine L4 F 0 0 q40 ls (eq40) (lv_sub hl [2, 3, 1, 0] rfl) hP (fun ls hl hP => ?_)
  · refine lv_iload_n hx hb dX5_settledWith_73 rfl (lv_at hl 0 rfl) ?_
    obtain rfl := Option.some.inj hq
    rw [hQ]
    exact W.iret hx hb hr (fun t ht hW => ⟨_, rfl, rfl, ht⟩) (fun _ h => absurd h List.not_mem_nil) dX5_settledWith_74

abbrev rmX5_closesCircle : Room := { frames := 2, cells := 0, slots := 0, locals := 48 }
set_option maxHeartbeats 40000000 in
set_option maxRecDepth 100000 in
theorem tX5_closesCircle (G : GG) (l : Launch) {qB qBT qBC qBN qBW qBL qV qVL qVS qVA qVT : Nat} {bn : Int32} {bk : Int32} {bs : Int32} {bW : Nat → Int32} {vT : Nat → Int32} {x1 : Int32} {x2 : Int32} {F : Nat} {r : Int32} (hq : kX5_closesCircle F bW vT x1 x2 = some r) : Met l yX5_closesCircle wsX5_closesCircle rmX5_closesCircle (pcP G [(qB, .inr (0, [.ref qBT, .ref qBC, .ref qBN, .ref qBW, .ref qBL, .int bn, .int bk, .int bs])), (qBW, .inl (G.2.1, 64, .inl bW)), (qV, .inr (5, [.ref qB, .ref qVL, .ref qVS, .ref qVA, .ref qVT])), (qVT, .inl (G.2.1, 16, .inl vT))] [.ref qV, .int x1, .int x2]) (vp_Si (fun x => r = x)) 0 0 (fun _ => False) := by
  refine Met.ofW (cc := cX5_closesCircle) (maxL := 6) (ret := (some .boolean)) (by decide) rfl ?_
  intro p e s m args below meth c s₁ B hml hv
  obtain ⟨rfl, hP, hKK⟩ := hv
  have hK := hKK.1
  have hx := B.exec
  have hb := B.bytes
  have hr := B.returns
  have hts := atoms_spec (ws := wsX5_closesCircle) B.pre
  have hown : s.vm.findClass RX5 = some m.cls := findClass_of_methodNamed B.named
  have hlocks := B.notSynchronized
  have hl := lv_entry ([.ref qV, .int x1, .int x2] : List Value) (n := 6) (Nat.le_of_ble_eq_true rfl)
  rw [lg_entry_eq]
  generalize (lg_sl ([.ref qV, .int x1, .int x2] : List Value) ++ List.replicate (6 - (lg_sl ([.ref qV, .int x1, .int x2] : List Value)).length) Slot.unset).toArray = ls at hl ⊢
  have hl : lv_has ls 6 [(0, .ref qV), (1, .int x1), (2, .int x2)] := hl
  have hi5 : ∀ w ∈ u_ws RX5 TX5 5, w ∈ wsX5_closesCircle := by decide +kernel
  have hw0 : (Cond.fieldLink RX5 24 "NetPlumber$Sieve" "board" "LNetPlumber$Board;").before #[Value.ref qV, Value.int x1, Value.int x2] s = true := hts _ (by decide +kernel)
  have hw1 : (Cond.initialized RX7).before #[Value.ref qV, Value.int x1, Value.int x2] s = true := hts _ (by decide +kernel)
  have hw2 : (Cond.static yX7_holds).before #[Value.ref qV, Value.int x1, Value.int x2] s = true := hts _ (by decide +kernel)
  have hw3 : (Cond.fieldLink RX5 21 "NetPlumber$Sieve" "settled" "[I").before #[Value.ref qV, Value.int x1, Value.int x2] s = true := hts _ (by decide +kernel)
  have hw4 : (Cond.static yX7_spread).before #[Value.ref qV, Value.int x1, Value.int x2] s = true := hts _ (by decide +kernel)
  refine wq (fun Q hQ => ?_)
  unfold kX5_closesCircle at hq
  refine lv_iconst (v := 0) hx hb dX5_closesCircle_0 (by decide) ?_
  refine lv_istore_n (lv' := [(3, .int 0), (0, .ref qV), (1, .int x1), (2, .int x2)]) hx hb dX5_closesCircle_1 rfl hl (by decide) rfl (fun ls hl => ?_)
  refine lv_iconst (v := 0) hx hb dX5_closesCircle_2 (by decide) ?_
  refine lv_istore (lv' := [(4, .int 0), (3, .int 0), (0, .ref qV), (1, .int x1), (2, .int x2)]) hx hb dX5_closesCircle_3 hl (by decide) rfl (fun ls hl => ?_)
  have L5 : ∀ (n : Nat) (s9 : Int32) (s10 : Int32) (t_5 : Nat) (ls : Array Slot), kloop n (fun s_ => kX5_closesCircle_s5 F bW vT x1 x2 s_.1 s_.2) (s9, s10) = some t_5 → lv_has ls 6 [(0, .ref qV), (1, .int x1), (2, .int x2), (3, .int s9), (4, .int s10)] → va_P G.1 vwCl [(qB, .inr (0, [.ref qBT, .ref qBC, .ref qBN, .ref qBW, .ref qBL, .int bn, .int bk, .int bs])), (qBW, .inl (G.2.1, 64, .inl bW)), (qV, .inr (5, [.ref qB, .ref qVL, .ref qVS, .ref qVA, .ref qVT])), (qVT, .inl (G.2.1, 16, .inl vT))] s.heap → (∀ (_ : t_5 = 0) (ls : Array Slot), lv_has ls 6 [] → va_P G.1 vwCl [(qB, .inr (0, [.ref qBT, .ref qBC, .ref qBN, .ref qBW, .ref qBL, .int bn, .int bk, .int bs])), (qBW, .inl (G.2.1, 64, .inl bW)), (qV, .inr (5, [.ref qB, .ref qVL, .ref qVS, .ref qVA, .ref qVT])), (qVT, .inl (G.2.1, 16, .inl vT))] s.heap → W p l e (headSpec wsX5_closesCircle rmX5_closesCircle).room s m ([.ref qV, .int x1, .int x2] : List Value).toArray below meth c s.heap [] 0 0 Q (F0 m 47 ls [])) → (∀ (_ : t_5 = 1) (ls : Array Slot), lv_has ls 6 [] → va_P G.1 vwCl [(qB, .inr (0, [.ref qBT, .ref qBC, .ref qBN, .ref qBW, .ref qBL, .int bn, .int bk, .int bs])), (qBW, .inl (G.2.1, 64, .inl bW)), (qV, .inr (5, [.ref qB, .ref qVL, .ref qVS, .ref qVA, .ref qVT])), (qVT, .inl (G.2.1, 16, .inl vT))] s.heap → W p l e (headSpec wsX5_closesCircle rmX5_closesCircle).room s m ([.ref qV, .int x1, .int x2] : List Value).toArray below meth c s.heap [] 0 0 Q (F0 m 68 ls [])) → W p l e (headSpec wsX5_closesCircle rmX5_closesCircle).room s m ([.ref qV, .int x1, .int x2] : List Value).toArray below meth c s.heap [] 0 0 Q (F0 m 5 ls []) := by
    intro n
    induction n with
    | zero => 
      intro s9 s10 t_5 ls hq hl hP kk5_47 kk5_68
      exact absurd hq kl_0
    | succ n ih5 =>
      intro s9 s10 t_5 ls hq hl hP kk5_47 kk5_68
      obtain ⟨y_5, hq, hx5⟩ := kl_s hq
      have hq : kX5_closesCircle_s5 F bW vT x1 x2 s9 s10 = some y_5 := hq
      unfold kX5_closesCircle_s5 at hq
      refine lv_iload hx hb dX5_closesCircle_5 (lv_at hl 4 rfl) ?_
      refine lv_iconst (v := 3) hx hb dX5_closesCircle_7 (by decide) ?_
      refine lv_icmp_gt (tgt := 68) hx hb dX5_closesCircle_8 (by decide) (fun c_8 => ?_) (fun c_8 => ?_)
      · have hq := k_t c_8 hq
        have et := kl_exit hq hx5
        subst et
        exact kk5_68 rfl ls (lv_sub hl [] rfl) hP
      · have hq := k_f c_8 hq
        refine lv_aload_n hx hb dX5_closesCircle_11 rfl (lv_at hl 0 rfl) ?_
        refine va_get (D := G.1) (ci := 5) (v := .ref qB) (C := RX5) (T := TX5) (N := 5) hx hb hts hi5 hown hK hP 2 rfl rfl 0 (by decide) hw0 (fun _ h9 => h9) rfl dX5_closesCircle_12 ?_
        refine lv_iload_n hx hb dX5_closesCircle_15 rfl (lv_at hl 1 rfl) ?_
        refine lv_iload hx hb dX5_closesCircle_16 (lv_at hl 4 rfl) ?_
        obtain ⟨q11, eq11, hq⟩ := ob hq
        have hPc := hP.sub (ws' := [(qB, .inr (0, [.ref qBT, .ref qBC, .ref qBN, .ref qBW, .ref qBL, .int bn, .int bk, .int bs])), (qBW, .inl (G.2.1, 64, .inl bW))]) [0, 1] rfl
        have hKc := hK
        refine vp_callSi (va_Run.run (va_runV (As := [.int x1, .int s10]) (rest := []) ⟨hx, hb, hml, hown, hts⟩ (tX0_across G l eq11) (cwV 2 hts gX5_closesCircle_X0_across rfl rfl rfl (by decide +kernel) ⟨Nat.le_of_ble_eq_true rfl, Nat.le_of_ble_eq_true rfl⟩) ⟨pcP_blind, va_recv hKc hPc (ci := 0) (q0 := 0) rfl rfl, pcP_pre hPc hKK⟩ rfl rfl hl.1 rfl (lv_room (Nat.le_of_ble_eq_true rfl)) dX5_closesCircle_18 ⟨Nat.zero_le _, Nat.zero_le _⟩)) (fun r0 hr0 => ?_)
        obtain rfl := hr0
        refine lv_istore (lv' := [(5, .int q11), (0, .ref qV), (1, .int x1), (2, .int x2), (3, .int s9), (4, .int s10)]) hx hb dX5_closesCircle_21 hl (by decide) rfl (fun ls hl => ?_)
        refine lv_iload hx hb dX5_closesCircle_23 (lv_at hl 0 rfl) ?_
        refine lv_iconst (v := (-1)) hx hb dX5_closesCircle_25 (by decide) ?_
        refine lv_icmp_eq (tgt := 62) hx hb dX5_closesCircle_26 (by decide) (fun c_26 => ?_) (fun c_26 => ?_)
        · have hq := k_t c_26 hq
          refine lv_iinc (v := (s10 + 1)) (lv' := [(4, .int (s10 + 1)), (5, .int q11), (0, .ref qV), (1, .int x1), (2, .int x2), (3, .int s9)]) hx hb dX5_closesCircle_62 hl (k := 5) rfl rfl (by decide) rfl (fun ls hl => ?_)
          refine lv_goto (tgt := 5) hx hb dX5_closesCircle_65 (by decide) ?_
          exact ih5 s9 (s10 + 1) t_5 ls (kl_back hq hx5) (lv_sub hl [2, 3, 4, 5, 0] rfl) hP kk5_47 kk5_68
        · have hq := k_f c_26 hq
          refine lv_iload_n hx hb dX5_closesCircle_29 rfl (lv_at hl 3 rfl) ?_
          refine lv_iload hx hb dX5_closesCircle_30 (lv_at hl 5 rfl) ?_
          obtain ⟨q12, eq12, hq⟩ := ob hq
          have hPc := hP.sub (ws' := []) [] rfl
          refine vp_callSi (va_Run.run (va_runSN (As := [.int x2, .int s10]) (rest := []) ⟨hx, hb, hml, hown, hts⟩ (tX7_holds G l eq12) ⟨va_cnB 2 hts gX5_closesCircle_X7_holds_n61 rfl rfl rfl (hKK.2 _ (List.mem_of_getElem? (i := 9) rfl)) hw1 (by decide +kernel) ⟨Nat.le_of_ble_eq_true rfl, Nat.le_of_ble_eq_true rfl⟩, hw2, trivial⟩ ⟨pcP_blind, pcP_pre hPc hKK⟩ rfl rfl hl.1 rfl (lv_room (Nat.le_of_ble_eq_true rfl)) dX5_closesCircle_32 ⟨Nat.zero_le _, Nat.zero_le _⟩)) (fun r0 hr0 => ?_)
          obtain rfl := hr0
          refine lv_if_eq (tgt := 62) hx hb dX5_closesCircle_35 (by decide) (fun c_35 => ?_) (fun c_35 => ?_)
          · have hq := k_t c_35 hq
            refine lv_iinc (v := (s10 + 1)) (lv' := [(4, .int (s10 + 1)), (5, .int q11), (0, .ref qV), (1, .int x1), (2, .int x2), (3, .int s9)]) hx hb dX5_closesCircle_62 hl (k := 5) rfl rfl (by decide) rfl (fun ls hl => ?_)
            refine lv_goto (tgt := 5) hx hb dX5_closesCircle_65 (by decide) ?_
            exact ih5 s9 (s10 + 1) t_5 ls (kl_back hq hx5) (lv_sub hl [2, 3, 4, 5, 0] rfl) hP kk5_47 kk5_68
          · have hq := k_f c_35 hq
            refine lv_iload_n hx hb dX5_closesCircle_38 rfl (lv_at hl 4 rfl) ?_
            refine lv_iload hx hb dX5_closesCircle_39 (lv_at hl 0 rfl) ?_
            obtain ⟨q13, eq13, hq⟩ := ob hq
            have hPc := hP.sub (ws' := []) [] rfl
            refine vp_callSi (va_Run.run (va_runSN (As := [.int s9, .int q11]) (rest := []) ⟨hx, hb, hml, hown, hts⟩ (tX7_holds G l eq13) ⟨va_cnB 2 hts gX5_closesCircle_X7_holds_n61 rfl rfl rfl (hKK.2 _ (List.mem_of_getElem? (i := 9) rfl)) hw1 (by decide +kernel) ⟨Nat.le_of_ble_eq_true rfl, Nat.le_of_ble_eq_true rfl⟩, hw2, trivial⟩ ⟨pcP_blind, pcP_pre hPc hKK⟩ rfl rfl hl.1 rfl (lv_room (Nat.le_of_ble_eq_true rfl)) dX5_closesCircle_41 ⟨Nat.zero_le _, Nat.zero_le _⟩)) (fun r0 hr0 => ?_)
            obtain rfl := hr0
            refine lv_if_eq (tgt := 49) hx hb dX5_closesCircle_44 (by decide) (fun c_44 => ?_) (fun c_44 => ?_)
            · have hq := k_t c_44 hq
              refine lv_iload_n hx hb dX5_closesCircle_49 rfl (lv_at hl 4 rfl) ?_
              refine lv_aload_n hx hb dX5_closesCircle_50 rfl (lv_at hl 1 rfl) ?_
              refine va_get (D := G.1) (ci := 5) (v := .ref qVT) (C := RX5) (T := TX5) (N := 5) hx hb hts hi5 hown hK hP 2 rfl rfl 4 (by decide) hw3 (fun _ h9 => h9) rfl dX5_closesCircle_51 ?_
              refine lv_iload hx hb dX5_closesCircle_54 (lv_at hl 0 rfl) ?_
              refine lv_iload_n hx hb dX5_closesCircle_56 rfl (lv_at hl 2 rfl) ?_
              obtain ⟨q14, eq14, hq⟩ := ob hq
              have hPc := hP.sub (ws' := [(qVT, .inl (G.2.1, 16, .inl vT))]) [3] rfl
              refine vp_callSi (va_Run.run (va_runSN (As := [.ref qVT, .int q11, .int x1]) (rest := [.int s9]) ⟨hx, hb, hml, hown, hts⟩ (tX7_spread G l eq14) ⟨va_cnB 3 hts gX5_closesCircle_X7_spread_n81 rfl rfl rfl (hKK.2 _ (List.mem_of_getElem? (i := 12) rfl)) hw1 (by decide +kernel) ⟨Nat.le_of_ble_eq_true rfl, Nat.le_of_ble_eq_true rfl⟩, hw4, trivial⟩ ⟨pcP_blind, pcP_pre hPc hKK⟩ rfl rfl hl.1 rfl (lv_room (Nat.le_of_ble_eq_true rfl)) dX5_closesCircle_57 ⟨Nat.zero_le _, Nat.zero_le _⟩)) (fun r0 hr0 => ?_)
              obtain rfl := hr0
              refine lv_ior hx hb dX5_closesCircle_60 ?_
              refine lv_istore_n (lv' := [(3, .int (s9 ||| q14)), (5, .int q11), (0, .ref qV), (1, .int x1), (2, .int x2), (4, .int s10)]) hx hb dX5_closesCircle_61 rfl hl (by decide) rfl (fun ls hl => ?_)
              refine lv_iinc (v := (s10 + 1)) (lv' := [(4, .int (s10 + 1)), (3, .int (s9 ||| q14)), (5, .int q11), (0, .ref qV), (1, .int x1), (2, .int x2)]) hx hb dX5_closesCircle_62 hl (k := 5) rfl rfl (by decide) rfl (fun ls hl => ?_)
              refine lv_goto (tgt := 5) hx hb dX5_closesCircle_65 (by decide) ?_
              exact ih5 (s9 ||| q14) (s10 + 1) t_5 ls (kl_back hq hx5) (lv_sub hl [3, 4, 5, 1, 0] rfl) hP kk5_47 kk5_68
            · have hq := k_f c_44 hq
              have et := kl_exit hq hx5
              subst et
              exact kk5_47 rfl ls (lv_sub hl [] rfl) hP
  obtain ⟨q15, eq15, hq⟩ := ob hq
  refine L5 F 0 0 q15 ls (eq15) (lv_sub hl [2, 3, 4, 1, 0] rfl) hP (fun he ls hl hP => ?_) (fun he ls hl hP => ?_)
  · have hq := k_t he hq
    refine lv_iconst (v := 1) hx hb dX5_closesCircle_47 (by decide) ?_
    obtain rfl := Option.some.inj hq
    rw [hQ]
    exact W.zret hx hb hr rfl (fun t ht hW => ⟨_, rfl, rfl, ht⟩) (fun _ h => absurd h List.not_mem_nil) dX5_closesCircle_48
  · have hq := k_f (show ¬ q15 = 0 by rw [he]; decide) hq
    refine lv_iconst (v := 0) hx hb dX5_closesCircle_68 (by decide) ?_
    obtain rfl := Option.some.inj hq
    rw [hQ]
    exact W.zret hx hb hr rfl (fun t ht hW => ⟨_, rfl, rfl, ht⟩) (fun _ h => absurd h List.not_mem_nil) dX5_closesCircle_69

abbrev rmX5_keptLays : Room := { frames := 3, cells := 0, slots := 0, locals := 73 }
set_option maxHeartbeats 40000000 in
set_option maxRecDepth 100000 in
theorem tX5_keptLays (G : GG) (l : Launch) {qB qBT qBC qBN qBW qBL qV qVL qVS qVA qVT : Nat} {bn : Int32} {bk : Int32} {bs : Int32} {bT : Nat → Int32} {bW : Nat → Int32} {vL : Nat → Int32} {vS : Nat → Int32} {vA : Nat → Int32} {vT : Nat → Int32} {x1 : Int32} {F : Nat} {r : Int32} (hq : kX5_keptLays F bT bW vL vS vA vT x1 = some r) : Met l yX5_keptLays wsX5_keptLays rmX5_keptLays (pcP G [(qB, .inr (0, [.ref qBT, .ref qBC, .ref qBN, .ref qBW, .ref qBL, .int bn, .int bk, .int bs])), (qBT, .inl (G.2.1, 16, .inl bT)), (qBW, .inl (G.2.1, 64, .inl bW)), (qV, .inr (5, [.ref qB, .ref qVL, .ref qVS, .ref qVA, .ref qVT])), (qVL, .inl (G.2.1, 16, .inl vL)), (qVS, .inl (G.2.1, 16, .inl vS)), (qVA, .inl (G.2.1, 16, .inl vA)), (qVT, .inl (G.2.1, 16, .inl vT))] [.ref qV, .int x1]) (vp_Si (fun x => r = x)) 0 0 (fun _ => False) := by
  refine Met.ofW (cc := cX5_keptLays) (maxL := 8) (ret := (some .int)) (by decide) rfl ?_
  intro p e s m args below meth c s₁ B hml hv
  obtain ⟨rfl, hP, hKK⟩ := hv
  have hK := hKK.1
  have hx := B.exec
  have hb := B.bytes
  have hr := B.returns
  have hts := atoms_spec (ws := wsX5_keptLays) B.pre
  have hown : s.vm.findClass RX5 = some m.cls := findClass_of_methodNamed B.named
  have hlocks := B.notSynchronized
  have hl := lv_entry ([.ref qV, .int x1] : List Value) (n := 8) (Nat.le_of_ble_eq_true rfl)
  rw [lg_entry_eq]
  generalize (lg_sl ([.ref qV, .int x1] : List Value) ++ List.replicate (8 - (lg_sl ([.ref qV, .int x1] : List Value)).length) Slot.unset).toArray = ls at hl ⊢
  have hl : lv_has ls 8 [(0, .ref qV), (1, .int x1)] := hl
  have hi5 : ∀ w ∈ u_ws RX5 TX5 5, w ∈ wsX5_keptLays := by decide +kernel
  have hw0 : (Cond.fieldLink RX5 24 "NetPlumber$Sieve" "board" "LNetPlumber$Board;").before #[Value.ref qV, Value.int x1] s = true := hts _ (by decide +kernel)
  have hw1 : (Cond.fieldLink RX5 15 "NetPlumber$Sieve" "some" "[I").before #[Value.ref qV, Value.int x1] s = true := hts _ (by decide +kernel)
  have hw2 : (Cond.initialized RX7).before #[Value.ref qV, Value.int x1] s = true := hts _ (by decide +kernel)
  have hw3 : (Cond.static yX7_at).before #[Value.ref qV, Value.int x1] s = true := hts _ (by decide +kernel)
  have hw4 : (Cond.static yX7_opposite).before #[Value.ref qV, Value.int x1] s = true := hts _ (by decide +kernel)
  have hw5 : (Cond.static yX7_holds).before #[Value.ref qV, Value.int x1] s = true := hts _ (by decide +kernel)
  have hw6 : (Cond.fieldLink RX5 18 "NetPlumber$Sieve" "all" "[I").before #[Value.ref qV, Value.int x1] s = true := hts _ (by decide +kernel)
  have hw7 : (Cond.static yX7_turned).before #[Value.ref qV, Value.int x1] s = true := hts _ (by decide +kernel)
  refine wq (fun Q hQ => ?_)
  unfold kX5_keptLays at hq
  refine lv_iconst (v := 0) hx hb dX5_keptLays_0 (by decide) ?_
  refine lv_istore_n (lv' := [(2, .int 0), (0, .ref qV), (1, .int x1)]) hx hb dX5_keptLays_1 rfl hl (by decide) rfl (fun ls hl => ?_)
  refine lv_iconst (v := 0) hx hb dX5_keptLays_2 (by decide) ?_
  refine lv_istore_n (lv' := [(3, .int 0), (2, .int 0), (0, .ref qV), (1, .int x1)]) hx hb dX5_keptLays_3 rfl hl (by decide) rfl (fun ls hl => ?_)
  refine lv_iconst (v := 0) hx hb dX5_keptLays_4 (by decide) ?_
  refine lv_istore (lv' := [(4, .int 0), (3, .int 0), (2, .int 0), (0, .ref qV), (1, .int x1)]) hx hb dX5_keptLays_5 hl (by decide) rfl (fun ls hl => ?_)
  have L7 : ∀ (n : Nat) (s24 : Int32) (s25 : Int32) (s26 : Int32) (t_7 : Int32 × Int32) (ls : Array Slot), kloop n (fun s_ => kX5_keptLays_s7 F bW vS vA x1 s_.1 s_.2.1 s_.2.2) (s24, s25, s26) = some t_7 → lv_has ls 8 [(0, .ref qV), (1, .int x1), (2, .int s24), (3, .int s25), (4, .int s26)] → va_P G.1 vwCl [(qB, .inr (0, [.ref qBT, .ref qBC, .ref qBN, .ref qBW, .ref qBL, .int bn, .int bk, .int bs])), (qBT, .inl (G.2.1, 16, .inl bT)), (qBW, .inl (G.2.1, 64, .inl bW)), (qV, .inr (5, [.ref qB, .ref qVL, .ref qVS, .ref qVA, .ref qVT])), (qVL, .inl (G.2.1, 16, .inl vL)), (qVS, .inl (G.2.1, 16, .inl vS)), (qVA, .inl (G.2.1, 16, .inl vA)), (qVT, .inl (G.2.1, 16, .inl vT))] s.heap → (∀ (ls : Array Slot), lv_has ls 8 [(0, .ref qV), (1, .int x1), (2, .int t_7.1), (3, .int t_7.2)] → va_P G.1 vwCl [(qB, .inr (0, [.ref qBT, .ref qBC, .ref qBN, .ref qBW, .ref qBL, .int bn, .int bk, .int bs])), (qBT, .inl (G.2.1, 16, .inl bT)), (qBW, .inl (G.2.1, 64, .inl bW)), (qV, .inr (5, [.ref qB, .ref qVL, .ref qVS, .ref qVA, .ref qVT])), (qVL, .inl (G.2.1, 16, .inl vL)), (qVS, .inl (G.2.1, 16, .inl vS)), (qVA, .inl (G.2.1, 16, .inl vA)), (qVT, .inl (G.2.1, 16, .inl vT))] s.heap → W p l e (headSpec wsX5_keptLays rmX5_keptLays).room s m ([.ref qV, .int x1] : List Value).toArray below meth c s.heap [] 0 0 Q (F0 m 99 ls [])) → W p l e (headSpec wsX5_keptLays rmX5_keptLays).room s m ([.ref qV, .int x1] : List Value).toArray below meth c s.heap [] 0 0 Q (F0 m 7 ls []) := by
    intro n
    induction n with
    | zero => 
      intro s24 s25 s26 t_7 ls hq hl hP kk7_99
      exact absurd hq kl_0
    | succ n ih7 =>
      intro s24 s25 s26 t_7 ls hq hl hP kk7_99
      obtain ⟨y_7, hq, hx7⟩ := kl_s hq
      have hq : kX5_keptLays_s7 F bW vS vA x1 s24 s25 s26 = some y_7 := hq
      unfold kX5_keptLays_s7 at hq
      refine lv_iload hx hb dX5_keptLays_7 (lv_at hl 4 rfl) ?_
      refine lv_iconst (v := 3) hx hb dX5_keptLays_9 (by decide) ?_
      refine lv_icmp_gt (tgt := 99) hx hb dX5_keptLays_10 (by decide) (fun c_10 => ?_) (fun c_10 => ?_)
      · have hq := k_t c_10 hq
        have et := kl_exit hq hx7
        subst et
        exact kk7_99 ls (lv_sub hl [0, 1, 2, 3] rfl) hP
      · have hq := k_f c_10 hq
        refine lv_aload_n hx hb dX5_keptLays_13 rfl (lv_at hl 0 rfl) ?_
        refine va_get (D := G.1) (ci := 5) (v := .ref qB) (C := RX5) (T := TX5) (N := 5) hx hb hts hi5 hown hK hP 3 rfl rfl 0 (by decide) hw0 (fun _ h9 => h9) rfl dX5_keptLays_14 ?_
        refine lv_iload_n hx hb dX5_keptLays_17 rfl (lv_at hl 1 rfl) ?_
        refine lv_iload hx hb dX5_keptLays_18 (lv_at hl 4 rfl) ?_
        obtain ⟨q27, eq27, hq⟩ := ob hq
        have hPc := hP.sub (ws' := [(qB, .inr (0, [.ref qBT, .ref qBC, .ref qBN, .ref qBW, .ref qBL, .int bn, .int bk, .int bs])), (qBW, .inl (G.2.1, 64, .inl bW))]) [0, 2] rfl
        have hKc := hK
        refine vp_callSi (va_Run.run (va_runV (As := [.int x1, .int s26]) (rest := []) ⟨hx, hb, hml, hown, hts⟩ (tX0_across G l eq27) (cwV 2 hts gX5_keptLays_X0_across rfl rfl rfl (by decide +kernel) ⟨Nat.le_of_ble_eq_true rfl, Nat.le_of_ble_eq_true rfl⟩) ⟨pcP_blind, va_recv hKc hPc (ci := 0) (q0 := 0) rfl rfl, pcP_pre hPc hKK⟩ rfl rfl hl.1 rfl (lv_room (Nat.le_of_ble_eq_true rfl)) dX5_keptLays_20 ⟨Nat.zero_le _, Nat.zero_le _⟩)) (fun r0 hr0 => ?_)
        obtain rfl := hr0
        refine lv_istore (lv' := [(5, .int q27), (0, .ref qV), (1, .int x1), (2, .int s24), (3, .int s25), (4, .int s26)]) hx hb dX5_keptLays_23 hl (by decide) rfl (fun ls hl => ?_)
        refine lv_iload hx hb dX5_keptLays_25 (lv_at hl 0 rfl) ?_
        refine lv_iconst (v := (-1)) hx hb dX5_keptLays_27 (by decide) ?_
        refine lv_icmp_eq (tgt := 93) hx hb dX5_keptLays_28 (by decide) (fun c_28 => ?_) (fun c_28 => ?_)
        · have hq := k_t c_28 hq
          refine lv_iinc (v := (s26 + 1)) (lv' := [(4, .int (s26 + 1)), (5, .int q27), (0, .ref qV), (1, .int x1), (2, .int s24), (3, .int s25)]) hx hb dX5_keptLays_93 hl (k := 5) rfl rfl (by decide) rfl (fun ls hl => ?_)
          refine lv_goto (tgt := 7) hx hb dX5_keptLays_96 (by decide) ?_
          exact ih7 s24 s25 (s26 + 1) t_7 ls (kl_back hq hx7) (lv_sub hl [2, 3, 4, 5, 0] rfl) hP kk7_99
        · have hq := k_f c_28 hq
          refine lv_iload_n hx hb dX5_keptLays_31 rfl (lv_at hl 3 rfl) ?_
          refine lv_aload_n hx hb dX5_keptLays_32 rfl (lv_at hl 1 rfl) ?_
          refine va_get (D := G.1) (ci := 5) (v := .ref qVS) (C := RX5) (T := TX5) (N := 5) hx hb hts hi5 hown hK hP 3 rfl rfl 2 (by decide) hw1 (fun _ h9 => h9) rfl dX5_keptLays_33 ?_
          refine lv_iload hx hb dX5_keptLays_36 (lv_at hl 0 rfl) ?_
          obtain ⟨q38, eq38, hq⟩ := ob hq
          have hPc := hP.sub (ws' := [(qVS, .inl (G.2.1, 16, .inl vS))]) [5] rfl
          refine vp_callSi (va_Run.run (va_runSN (As := [.ref qVS, .int q27]) (rest := [.int s24]) ⟨hx, hb, hml, hown, hts⟩ (tX7_at G l eq38) ⟨va_cnB 2 hts gX5_keptLays_X7_at_n42 rfl rfl rfl (hKK.2 _ (List.mem_of_getElem? (i := 8) rfl)) hw2 (by decide +kernel) ⟨Nat.le_of_ble_eq_true rfl, Nat.le_of_ble_eq_true rfl⟩, hw3, trivial⟩ ⟨pcP_blind, pcP_pre hPc hKK⟩ rfl rfl hl.1 rfl (lv_room (Nat.le_of_ble_eq_true rfl)) dX5_keptLays_38 ⟨Nat.zero_le _, Nat.zero_le _⟩)) (fun r0 hr0 => ?_)
          obtain rfl := hr0
          refine lv_iload hx hb dX5_keptLays_41 (lv_at hl 5 rfl) ?_
          obtain ⟨q39, eq39, hq⟩ := ob hq
          have hPc := hP.sub (ws' := []) [] rfl
          refine vp_callSi (va_Run.run (va_runSN (As := [.int s26]) (rest := [.int q38, .int s24]) ⟨hx, hb, hml, hown, hts⟩ (tX7_opposite G l eq39) ⟨va_cnB 1 hts gX5_keptLays_X7_opposite_n75 rfl rfl rfl (hKK.2 _ (List.mem_of_getElem? (i := 11) rfl)) hw2 (by decide +kernel) ⟨Nat.le_of_ble_eq_true rfl, Nat.le_of_ble_eq_true rfl⟩, hw4, trivial⟩ ⟨pcP_blind, pcP_pre hPc hKK⟩ rfl rfl hl.1 rfl (lv_room (Nat.le_of_ble_eq_true rfl)) dX5_keptLays_43 ⟨Nat.zero_le _, Nat.zero_le _⟩)) (fun r0 hr0 => ?_)
          obtain rfl := hr0
          obtain ⟨q40, eq40, hq⟩ := ob hq
          have hPc := hP.sub (ws' := []) [] rfl
          refine vp_callSi (va_Run.run (va_runSN (As := [.int q38, .int q39]) (rest := [.int s24]) ⟨hx, hb, hml, hown, hts⟩ (tX7_holds G l eq40) ⟨va_cnB 2 hts gX5_keptLays_X7_holds_n61 rfl rfl rfl (hKK.2 _ (List.mem_of_getElem? (i := 9) rfl)) hw2 (by decide +kernel) ⟨Nat.le_of_ble_eq_true rfl, Nat.le_of_ble_eq_true rfl⟩, hw5, trivial⟩ ⟨pcP_blind, pcP_pre hPc hKK⟩ rfl rfl hl.1 rfl (lv_room (Nat.le_of_ble_eq_true rfl)) dX5_keptLays_46 ⟨Nat.zero_le _, Nat.zero_le _⟩)) (fun r0 hr0 => ?_)
          obtain rfl := hr0
          have J60 : ∀ (v41 : Int32) (ls : Array Slot), kX5_keptLays_j60 F vA s24 s25 s26 q27 v41 = some y_7 → lv_has ls 8 [(0, .ref qV), (1, .int x1), (3, .int s25), (4, .int s26), (5, .int q27)] → va_P G.1 vwCl [(qB, .inr (0, [.ref qBT, .ref qBC, .ref qBN, .ref qBW, .ref qBL, .int bn, .int bk, .int bs])), (qBT, .inl (G.2.1, 16, .inl bT)), (qBW, .inl (G.2.1, 64, .inl bW)), (qV, .inr (5, [.ref qB, .ref qVL, .ref qVS, .ref qVA, .ref qVT])), (qVL, .inl (G.2.1, 16, .inl vL)), (qVS, .inl (G.2.1, 16, .inl vS)), (qVA, .inl (G.2.1, 16, .inl vA)), (qVT, .inl (G.2.1, 16, .inl vT))] s.heap → W p l e (headSpec wsX5_keptLays rmX5_keptLays).room s m ([.ref qV, .int x1] : List Value).toArray below meth c s.heap [] 0 0 Q (F0 m 60 ls [.int v41, .int s24]) := by
            intro v41 ls hq hl hP
            unfold kX5_keptLays_j60 at hq
            refine lv_ior hx hb dX5_keptLays_60 ?_
            refine lv_istore_n (lv' := [(2, .int (s24 ||| v41)), (0, .ref qV), (1, .int x1), (3, .int s25), (4, .int s26), (5, .int q27)]) hx hb dX5_keptLays_61 rfl hl (by decide) rfl (fun ls hl => ?_)
            refine lv_iload_n hx hb dX5_keptLays_62 rfl (lv_at hl 3 rfl) ?_
            refine lv_aload_n hx hb dX5_keptLays_63 rfl (lv_at hl 1 rfl) ?_
            refine va_get (D := G.1) (ci := 5) (v := .ref qVA) (C := RX5) (T := TX5) (N := 5) hx hb hts hi5 hown hK hP 3 rfl rfl 3 (by decide) hw6 (fun _ h9 => h9) rfl dX5_keptLays_64 ?_
            refine lv_iload hx hb dX5_keptLays_67 (lv_at hl 5 rfl) ?_
            obtain ⟨q42, eq42, hq⟩ := ob hq
            have hPc := hP.sub (ws' := [(qVA, .inl (G.2.1, 16, .inl vA))]) [6] rfl
            refine vp_callSi (va_Run.run (va_runSN (As := [.ref qVA, .int q27]) (rest := [.int s25]) ⟨hx, hb, hml, hown, hts⟩ (tX7_at G l eq42) ⟨va_cnB 2 hts gX5_keptLays_X7_at_n42 rfl rfl rfl (hKK.2 _ (List.mem_of_getElem? (i := 8) rfl)) hw2 (by decide +kernel) ⟨Nat.le_of_ble_eq_true rfl, Nat.le_of_ble_eq_true rfl⟩, hw3, trivial⟩ ⟨pcP_blind, pcP_pre hPc hKK⟩ rfl rfl hl.1 rfl (lv_room (Nat.le_of_ble_eq_true rfl)) dX5_keptLays_69 ⟨Nat.zero_le _, Nat.zero_le _⟩)) (fun r0 hr0 => ?_)
            obtain rfl := hr0
            refine lv_iload hx hb dX5_keptLays_72 (lv_at hl 4 rfl) ?_
            obtain ⟨q43, eq43, hq⟩ := ob hq
            have hPc := hP.sub (ws' := []) [] rfl
            refine vp_callSi (va_Run.run (va_runSN (As := [.int s26]) (rest := [.int q42, .int s25]) ⟨hx, hb, hml, hown, hts⟩ (tX7_opposite G l eq43) ⟨va_cnB 1 hts gX5_keptLays_X7_opposite_n75 rfl rfl rfl (hKK.2 _ (List.mem_of_getElem? (i := 11) rfl)) hw2 (by decide +kernel) ⟨Nat.le_of_ble_eq_true rfl, Nat.le_of_ble_eq_true rfl⟩, hw4, trivial⟩ ⟨pcP_blind, pcP_pre hPc hKK⟩ rfl rfl hl.1 rfl (lv_room (Nat.le_of_ble_eq_true rfl)) dX5_keptLays_74 ⟨Nat.zero_le _, Nat.zero_le _⟩)) (fun r0 hr0 => ?_)
            obtain rfl := hr0
            obtain ⟨q44, eq44, hq⟩ := ob hq
            have hPc := hP.sub (ws' := []) [] rfl
            refine vp_callSi (va_Run.run (va_runSN (As := [.int q42, .int q43]) (rest := [.int s25]) ⟨hx, hb, hml, hown, hts⟩ (tX7_holds G l eq44) ⟨va_cnB 2 hts gX5_keptLays_X7_holds_n61 rfl rfl rfl (hKK.2 _ (List.mem_of_getElem? (i := 9) rfl)) hw2 (by decide +kernel) ⟨Nat.le_of_ble_eq_true rfl, Nat.le_of_ble_eq_true rfl⟩, hw5, trivial⟩ ⟨pcP_blind, pcP_pre hPc hKK⟩ rfl rfl hl.1 rfl (lv_room (Nat.le_of_ble_eq_true rfl)) dX5_keptLays_77 ⟨Nat.zero_le _, Nat.zero_le _⟩)) (fun r0 hr0 => ?_)
            obtain rfl := hr0
            refine lv_if_eq (tgt := 90) hx hb dX5_keptLays_80 (by decide) (fun c_80 => ?_) (fun c_80 => ?_)
            · have hq := k_t c_80 hq
              refine lv_iconst (v := 0) hx hb dX5_keptLays_90 (by decide) ?_
              refine lv_ior hx hb dX5_keptLays_91 ?_
              refine lv_istore_n (lv' := [(3, .int (s25 ||| 0)), (2, .int (s24 ||| v41)), (0, .ref qV), (1, .int x1), (4, .int s26), (5, .int q27)]) hx hb dX5_keptLays_92 rfl hl (by decide) rfl (fun ls hl => ?_)
              refine lv_iinc (v := (s26 + 1)) (lv' := [(4, .int (s26 + 1)), (3, .int (s25 ||| 0)), (2, .int (s24 ||| v41)), (0, .ref qV), (1, .int x1), (5, .int q27)]) hx hb dX5_keptLays_93 hl (k := 4) rfl rfl (by decide) rfl (fun ls hl => ?_)
              refine lv_goto (tgt := 7) hx hb dX5_keptLays_96 (by decide) ?_
              exact ih7 (s24 ||| v41) (s25 ||| 0) (s26 + 1) t_7 ls (kl_back hq hx7) (lv_sub hl [3, 4, 2, 1, 0] rfl) hP kk7_99
            · have hq := k_f c_80 hq
              refine lv_iconst (v := 1) hx hb dX5_keptLays_83 (by decide) ?_
              refine lv_iload hx hb dX5_keptLays_84 (lv_at hl 4 rfl) ?_
              refine lv_ishl hx hb dX5_keptLays_86 ?_
              refine lv_goto (tgt := 91) hx hb dX5_keptLays_87 (by decide) ?_
              refine lv_ior hx hb dX5_keptLays_91 ?_
              refine lv_istore_n (lv' := [(3, .int (s25 ||| ((1 : Int32) <<< (s26 &&& 31)))), (2, .int (s24 ||| v41)), (0, .ref qV), (1, .int x1), (4, .int s26), (5, .int q27)]) hx hb dX5_keptLays_92 rfl hl (by decide) rfl (fun ls hl => ?_)
              refine lv_iinc (v := (s26 + 1)) (lv' := [(4, .int (s26 + 1)), (3, .int (s25 ||| ((1 : Int32) <<< (s26 &&& 31)))), (2, .int (s24 ||| v41)), (0, .ref qV), (1, .int x1), (5, .int q27)]) hx hb dX5_keptLays_93 hl (k := 4) rfl rfl (by decide) rfl (fun ls hl => ?_)
              refine lv_goto (tgt := 7) hx hb dX5_keptLays_96 (by decide) ?_
              exact ih7 (s24 ||| v41) (s25 ||| ((1 : Int32) <<< (s26 &&& 31))) (s26 + 1) t_7 ls (kl_back hq hx7) (lv_sub hl [3, 4, 2, 1, 0] rfl) hP kk7_99
          refine lv_if_eq (tgt := 59) hx hb dX5_keptLays_49 (by decide) (fun c_49 => ?_) (fun c_49 => ?_)
          · have hq := k_t c_49 hq
            refine lv_iconst (v := 0) hx hb dX5_keptLays_59 (by decide) ?_
            exact J60 0 ls hq (lv_sub hl [1, 2, 4, 5, 0] rfl) hP
          · have hq := k_f c_49 hq
            refine lv_iconst (v := 1) hx hb dX5_keptLays_52 (by decide) ?_
            refine lv_iload hx hb dX5_keptLays_53 (lv_at hl 5 rfl) ?_
            refine lv_ishl hx hb dX5_keptLays_55 ?_
            refine lv_goto (tgt := 60) hx hb dX5_keptLays_56 (by decide) ?_
            exact J60 ((1 : Int32) <<< (s26 &&& 31)) ls hq (lv_sub hl [1, 2, 4, 5, 0] rfl) hP
  obtain ⟨q46, eq46, hq⟩ := ob hq
  refine L7 F 0 0 0 q46 ls (eq46) (lv_sub hl [3, 4, 2, 1, 0] rfl) hP (fun ls hl hP => ?_)
  · refine lv_iconst (v := 0) hx hb dX5_keptLays_99 (by decide) ?_
    refine lv_istore (lv' := [(4, .int 0), (0, .ref qV), (1, .int x1), (2, .int q46.1), (3, .int q46.2)]) hx hb dX5_keptLays_100 hl (by decide) rfl (fun ls hl => ?_)
    refine lv_iconst (v := 0) hx hb dX5_keptLays_102 (by decide) ?_
    refine lv_istore (lv' := [(5, .int 0), (4, .int 0), (0, .ref qV), (1, .int x1), (2, .int q46.1), (3, .int q46.2)]) hx hb dX5_keptLays_103 hl (by decide) rfl (fun ls hl => ?_)
    have L105 : ∀ (n : Nat) (s63 : Int32) (s64 : Int32) (t_105 : Int32) (ls : Array Slot), kloop n (fun s_ => kX5_keptLays_s105 F bT bW vL vT x1 q46 s_.1 s_.2) (s63, s64) = some t_105 → lv_has ls 8 [(0, .ref qV), (1, .int x1), (2, .int q46.1), (3, .int q46.2), (4, .int s63), (5, .int s64)] → va_P G.1 vwCl [(qB, .inr (0, [.ref qBT, .ref qBC, .ref qBN, .ref qBW, .ref qBL, .int bn, .int bk, .int bs])), (qBT, .inl (G.2.1, 16, .inl bT)), (qBW, .inl (G.2.1, 64, .inl bW)), (qV, .inr (5, [.ref qB, .ref qVL, .ref qVS, .ref qVA, .ref qVT])), (qVL, .inl (G.2.1, 16, .inl vL)), (qVS, .inl (G.2.1, 16, .inl vS)), (qVA, .inl (G.2.1, 16, .inl vA)), (qVT, .inl (G.2.1, 16, .inl vT))] s.heap → (∀ (ls : Array Slot), lv_has ls 8 [(4, .int t_105)] → va_P G.1 vwCl [(qB, .inr (0, [.ref qBT, .ref qBC, .ref qBN, .ref qBW, .ref qBL, .int bn, .int bk, .int bs])), (qBT, .inl (G.2.1, 16, .inl bT)), (qBW, .inl (G.2.1, 64, .inl bW)), (qV, .inr (5, [.ref qB, .ref qVL, .ref qVS, .ref qVA, .ref qVT])), (qVL, .inl (G.2.1, 16, .inl vL)), (qVS, .inl (G.2.1, 16, .inl vS)), (qVA, .inl (G.2.1, 16, .inl vA)), (qVT, .inl (G.2.1, 16, .inl vT))] s.heap → W p l e (headSpec wsX5_keptLays rmX5_keptLays).room s m ([.ref qV, .int x1] : List Value).toArray below meth c s.heap [] 0 0 Q (F0 m 194 ls [])) → W p l e (headSpec wsX5_keptLays rmX5_keptLays).room s m ([.ref qV, .int x1] : List Value).toArray below meth c s.heap [] 0 0 Q (F0 m 105 ls []) := by
      intro n
      induction n with
      | zero => 
        intro s63 s64 t_105 ls hq hl hP kk105_194
        exact absurd hq kl_0
      | succ n ih105 =>
        intro s63 s64 t_105 ls hq hl hP kk105_194
        obtain ⟨y_105, hq, hx105⟩ := kl_s hq
        have hq : kX5_keptLays_s105 F bT bW vL vT x1 q46 s63 s64 = some y_105 := hq
        unfold kX5_keptLays_s105 at hq
        refine lv_iload hx hb dX5_keptLays_105 (lv_at hl 5 rfl) ?_
        refine lv_iconst (v := 4) hx hb dX5_keptLays_107 (by decide) ?_
        refine lv_icmp_ge (tgt := 194) hx hb dX5_keptLays_108 (by decide) (fun c_108 => ?_) (fun c_108 => ?_)
        · have hq := k_t c_108 hq
          have et := kl_exit hq hx105
          subst et
          exact kk105_194 ls (lv_sub hl [4] rfl) hP
        · have hq := k_f c_108 hq
          refine lv_aload_n hx hb dX5_keptLays_111 rfl (lv_at hl 0 rfl) ?_
          refine va_get (D := G.1) (ci := 5) (v := .ref qB) (C := RX5) (T := TX5) (N := 5) hx hb hts hi5 hown hK hP 3 rfl rfl 0 (by decide) hw0 (fun _ h9 => h9) rfl dX5_keptLays_112 ?_
          refine lv_iload_n hx hb dX5_keptLays_115 rfl (lv_at hl 1 rfl) ?_
          obtain ⟨q65, eq65, hq⟩ := ob hq
          have hPc := hP.sub (ws' := [(qB, .inr (0, [.ref qBT, .ref qBC, .ref qBN, .ref qBW, .ref qBL, .int bn, .int bk, .int bs])), (qBT, .inl (G.2.1, 16, .inl bT))]) [0, 1] rfl
          have hKc := hK
          refine vp_callSi (va_Run.run (va_runV (As := [.int x1]) (rest := []) ⟨hx, hb, hml, hown, hts⟩ (tX0_sidesOf G l eq65) (cwV 1 hts gX5_keptLays_X0_sidesOf rfl rfl rfl (by decide +kernel) ⟨Nat.le_of_ble_eq_true rfl, Nat.le_of_ble_eq_true rfl⟩) ⟨pcP_blind, va_recv hKc hPc (ci := 0) (q0 := 0) rfl rfl, pcP_pre hPc hKK⟩ rfl rfl hl.1 rfl (lv_room (Nat.le_of_ble_eq_true rfl)) dX5_keptLays_116 ⟨Nat.zero_le _, Nat.zero_le _⟩)) (fun r0 hr0 => ?_)
          obtain rfl := hr0
          refine lv_iload hx hb dX5_keptLays_119 (lv_at hl 5 rfl) ?_
          obtain ⟨q66, eq66, hq⟩ := ob hq
          have hPc := hP.sub (ws' := []) [] rfl
          refine vp_callSi (va_Run.run (va_runSN (As := [.int q65, .int s64]) (rest := []) ⟨hx, hb, hml, hown, hts⟩ (tX7_turned G l eq66) ⟨va_cnB 2 hts gX5_keptLays_X7_turned_n68 rfl rfl rfl (hKK.2 _ (List.mem_of_getElem? (i := 10) rfl)) hw2 (by decide +kernel) ⟨Nat.le_of_ble_eq_true rfl, Nat.le_of_ble_eq_true rfl⟩, hw7, trivial⟩ ⟨pcP_blind, pcP_pre hPc hKK⟩ rfl rfl hl.1 rfl (lv_room (Nat.le_of_ble_eq_true rfl)) dX5_keptLays_121 ⟨Nat.zero_le _, Nat.zero_le _⟩)) (fun r0 hr0 => ?_)
          obtain rfl := hr0
          refine lv_istore (lv' := [(6, .int q66), (0, .ref qV), (1, .int x1), (2, .int q46.1), (3, .int q46.2), (4, .int s63), (5, .int s64)]) hx hb dX5_keptLays_124 hl (by decide) rfl (fun ls hl => ?_)
          refine lv_iload hx hb dX5_keptLays_126 (lv_at hl 0 rfl) ?_
          refine lv_iload_n hx hb dX5_keptLays_128 rfl (lv_at hl 3 rfl) ?_
          refine lv_iconst (v := (-1)) hx hb dX5_keptLays_129 (by decide) ?_
          refine lv_ixor hx hb dX5_keptLays_130 ?_
          refine lv_iand hx hb dX5_keptLays_131 ?_
          have J149 : ∀ (v67 : Int32) (ls : Array Slot), kX5_keptLays_j149 F bW vL vT x1 s63 s64 q66 v67 = some y_105 → lv_has ls 8 [(0, .ref qV), (1, .int x1), (2, .int q46.1), (3, .int q46.2), (4, .int s63), (5, .int s64), (6, .int q66)] → va_P G.1 vwCl [(qB, .inr (0, [.ref qBT, .ref qBC, .ref qBN, .ref qBW, .ref qBL, .int bn, .int bk, .int bs])), (qBT, .inl (G.2.1, 16, .inl bT)), (qBW, .inl (G.2.1, 64, .inl bW)), (qV, .inr (5, [.ref qB, .ref qVL, .ref qVS, .ref qVA, .ref qVT])), (qVL, .inl (G.2.1, 16, .inl vL)), (qVS, .inl (G.2.1, 16, .inl vS)), (qVA, .inl (G.2.1, 16, .inl vA)), (qVT, .inl (G.2.1, 16, .inl vT))] s.heap → W p l e (headSpec wsX5_keptLays rmX5_keptLays).room s m ([.ref qV, .int x1] : List Value).toArray below meth c s.heap [] 0 0 Q (F0 m 149 ls [.int v67]) := by
            intro v67 ls hq hl hP
            unfold kX5_keptLays_j149 at hq
            refine lv_istore (lv' := [(7, .int v67), (0, .ref qV), (1, .int x1), (2, .int q46.1), (3, .int q46.2), (4, .int s63), (5, .int s64), (6, .int q66)]) hx hb dX5_keptLays_149 hl (by decide) rfl (fun ls hl => ?_)
            refine lv_aload_n hx hb dX5_keptLays_151 rfl (lv_at hl 1 rfl) ?_
            refine lv_iload_n hx hb dX5_keptLays_152 rfl (lv_at hl 2 rfl) ?_
            obtain ⟨q68, eq68, hq⟩ := ob hq
            have hPc := hP.sub (ws' := [(qV, .inr (5, [.ref qB, .ref qVL, .ref qVS, .ref qVA, .ref qVT])), (qVL, .inl (G.2.1, 16, .inl vL))]) [3, 4] rfl
            have hKc := hK
            refine vp_callSi (va_Run.run (va_runV (As := [.int x1]) (rest := []) ⟨hx, hb, hml, hown, hts⟩ (tX5_leftAt G l eq68) (cwV 1 hts gX5_keptLays_X5_leftAt rfl rfl rfl (by decide +kernel) ⟨Nat.le_of_ble_eq_true rfl, Nat.le_of_ble_eq_true rfl⟩) ⟨pcP_blind, va_recv hKc hPc (ci := 5) (q0 := 0) rfl rfl, pcP_pre hPc hKK⟩ rfl rfl hl.1 rfl (lv_room (Nat.le_of_ble_eq_true rfl)) dX5_keptLays_153 ⟨Nat.zero_le _, Nat.zero_le _⟩)) (fun r0 hr0 => ?_)
            obtain rfl := hr0
            refine lv_iload hx hb dX5_keptLays_156 (lv_at hl 6 rfl) ?_
            obtain ⟨q69, eq69, hq⟩ := ob hq
            have hPc := hP.sub (ws' := []) [] rfl
            refine vp_callSi (va_Run.run (va_runSN (As := [.int q68, .int s64]) (rest := []) ⟨hx, hb, hml, hown, hts⟩ (tX7_holds G l eq69) ⟨va_cnB 2 hts gX5_keptLays_X7_holds_n61 rfl rfl rfl (hKK.2 _ (List.mem_of_getElem? (i := 9) rfl)) hw2 (by decide +kernel) ⟨Nat.le_of_ble_eq_true rfl, Nat.le_of_ble_eq_true rfl⟩, hw5, trivial⟩ ⟨pcP_blind, pcP_pre hPc hKK⟩ rfl rfl hl.1 rfl (lv_room (Nat.le_of_ble_eq_true rfl)) dX5_keptLays_158 ⟨Nat.zero_le _, Nat.zero_le _⟩)) (fun r0 hr0 => ?_)
            obtain rfl := hr0
            refine lv_if_eq (tgt := 188) hx hb dX5_keptLays_161 (by decide) (fun c_161 => ?_) (fun c_161 => ?_)
            · have hq := k_t c_161 hq
              refine lv_iinc (v := (s64 + 1)) (lv' := [(5, .int (s64 + 1)), (7, .int v67), (0, .ref qV), (1, .int x1), (2, .int q46.1), (3, .int q46.2), (4, .int s63), (6, .int q66)]) hx hb dX5_keptLays_188 hl (k := 6) rfl rfl (by decide) rfl (fun ls hl => ?_)
              refine lv_goto (tgt := 105) hx hb dX5_keptLays_191 (by decide) ?_
              exact ih105 s63 (s64 + 1) t_105 ls (kl_back hq hx105) (lv_sub hl [2, 3, 4, 5, 6, 0] rfl) hP kk105_194
            · have hq := k_f c_161 hq
              refine lv_iload hx hb dX5_keptLays_164 (lv_at hl 0 rfl) ?_
              refine lv_if_eq (tgt := 188) hx hb dX5_keptLays_166 (by decide) (fun c_166 => ?_) (fun c_166 => ?_)
              · have hq := k_t c_166 hq
                refine lv_iinc (v := (s64 + 1)) (lv' := [(5, .int (s64 + 1)), (7, .int v67), (0, .ref qV), (1, .int x1), (2, .int q46.1), (3, .int q46.2), (4, .int s63), (6, .int q66)]) hx hb dX5_keptLays_188 hl (k := 6) rfl rfl (by decide) rfl (fun ls hl => ?_)
                refine lv_goto (tgt := 105) hx hb dX5_keptLays_191 (by decide) ?_
                exact ih105 s63 (s64 + 1) t_105 ls (kl_back hq hx105) (lv_sub hl [2, 3, 4, 5, 6, 0] rfl) hP kk105_194
              · have hq := k_f c_166 hq
                refine lv_aload_n hx hb dX5_keptLays_169 rfl (lv_at hl 1 rfl) ?_
                refine lv_iload_n hx hb dX5_keptLays_170 rfl (lv_at hl 2 rfl) ?_
                refine lv_iload hx hb dX5_keptLays_171 (lv_at hl 7 rfl) ?_
                obtain ⟨q74, eq74, hq⟩ := ob hq
                have hPc := hP.sub (ws' := [(qB, .inr (0, [.ref qBT, .ref qBC, .ref qBN, .ref qBW, .ref qBL, .int bn, .int bk, .int bs])), (qBW, .inl (G.2.1, 64, .inl bW)), (qV, .inr (5, [.ref qB, .ref qVL, .ref qVS, .ref qVA, .ref qVT])), (qVT, .inl (G.2.1, 16, .inl vT))]) [0, 2, 3, 7] rfl
                have hKc := hK
                refine vp_callSi (va_Run.run (va_runV (As := [.int x1, .int q66]) (rest := []) ⟨hx, hb, hml, hown, hts⟩ (tX5_closesCircle G l eq74) (cwV 2 hts gX5_keptLays_X5_closesCircle rfl rfl rfl (by decide +kernel) ⟨Nat.le_of_ble_eq_true rfl, Nat.le_of_ble_eq_true rfl⟩) ⟨pcP_blind, va_recv hKc hPc (ci := 5) (q0 := 2) rfl rfl, pcP_pre hPc hKK⟩ rfl rfl hl.1 rfl (lv_room (Nat.le_of_ble_eq_true rfl)) dX5_keptLays_173 ⟨Nat.zero_le _, Nat.zero_le _⟩)) (fun r0 hr0 => ?_)
                obtain rfl := hr0
                refine lv_if_ne (tgt := 188) hx hb dX5_keptLays_176 (by decide) (fun c_176 => ?_) (fun c_176 => ?_)
                · have hq := k_f c_176 hq
                  refine lv_iinc (v := (s64 + 1)) (lv' := [(5, .int (s64 + 1)), (7, .int v67), (0, .ref qV), (1, .int x1), (2, .int q46.1), (3, .int q46.2), (4, .int s63), (6, .int q66)]) hx hb dX5_keptLays_188 hl (k := 6) rfl rfl (by decide) rfl (fun ls hl => ?_)
                  refine lv_goto (tgt := 105) hx hb dX5_keptLays_191 (by decide) ?_
                  exact ih105 s63 (s64 + 1) t_105 ls (kl_back hq hx105) (lv_sub hl [2, 3, 4, 5, 6, 0] rfl) hP kk105_194
                · have hq := k_t c_176 hq
                  refine lv_iload hx hb dX5_keptLays_179 (lv_at hl 5 rfl) ?_
                  refine lv_iconst (v := 1) hx hb dX5_keptLays_181 (by decide) ?_
                  refine lv_iload hx hb dX5_keptLays_182 (lv_at hl 6 rfl) ?_
                  refine lv_ishl hx hb dX5_keptLays_184 ?_
                  refine lv_ior hx hb dX5_keptLays_185 ?_
                  refine lv_istore (lv' := [(4, .int (s63 ||| ((1 : Int32) <<< (s64 &&& 31)))), (7, .int v67), (0, .ref qV), (1, .int x1), (2, .int q46.1), (3, .int q46.2), (5, .int s64), (6, .int q66)]) hx hb dX5_keptLays_186 hl (by decide) rfl (fun ls hl => ?_)
                  refine lv_iinc (v := (s64 + 1)) (lv' := [(5, .int (s64 + 1)), (4, .int (s63 ||| ((1 : Int32) <<< (s64 &&& 31)))), (7, .int v67), (0, .ref qV), (1, .int x1), (2, .int q46.1), (3, .int q46.2), (6, .int q66)]) hx hb dX5_keptLays_188 hl (k := 6) rfl rfl (by decide) rfl (fun ls hl => ?_)
                  refine lv_goto (tgt := 105) hx hb dX5_keptLays_191 (by decide) ?_
                  exact ih105 (s63 ||| ((1 : Int32) <<< (s64 &&& 31))) (s64 + 1) t_105 ls (kl_back hq hx105) (lv_sub hl [3, 4, 5, 6, 1, 0] rfl) hP kk105_194
          refine lv_if_ne (tgt := 148) hx hb dX5_keptLays_132 (by decide) (fun c_132 => ?_) (fun c_132 => ?_)
          · have hq := k_f c_132 hq
            refine lv_iconst (v := 0) hx hb dX5_keptLays_148 (by decide) ?_
            exact J149 0 ls hq (lv_sub hl [1, 2, 3, 4, 5, 6, 0] rfl) hP
          · have hq := k_t c_132 hq
            refine lv_iload_n hx hb dX5_keptLays_135 rfl (lv_at hl 4 rfl) ?_
            refine lv_iload hx hb dX5_keptLays_136 (lv_at hl 0 rfl) ?_
            refine lv_iconst (v := (-1)) hx hb dX5_keptLays_138 (by decide) ?_
            refine lv_ixor hx hb dX5_keptLays_139 ?_
            refine lv_iand hx hb dX5_keptLays_140 ?_
            refine lv_if_ne (tgt := 148) hx hb dX5_keptLays_141 (by decide) (fun c_141 => ?_) (fun c_141 => ?_)
            · have hq := k_f c_141 hq
              refine lv_iconst (v := 0) hx hb dX5_keptLays_148 (by decide) ?_
              exact J149 0 ls hq (lv_sub hl [1, 2, 3, 4, 5, 6, 0] rfl) hP
            · have hq := k_t c_141 hq
              refine lv_iconst (v := 1) hx hb dX5_keptLays_144 (by decide) ?_
              refine lv_goto (tgt := 149) hx hb dX5_keptLays_145 (by decide) ?_
              exact J149 1 ls hq (lv_sub hl [1, 2, 3, 4, 5, 6, 0] rfl) hP
    obtain ⟨q76, eq76, hq⟩ := ob hq
    refine L105 F 0 0 q76 ls (eq76) (lv_sub hl [2, 3, 4, 5, 1, 0] rfl) hP (fun ls hl hP => ?_)
    · refine lv_iload hx hb dX5_keptLays_194 (lv_at hl 0 rfl) ?_
      obtain rfl := Option.some.inj hq
      rw [hQ]
      exact W.iret hx hb hr (fun t ht hW => ⟨_, rfl, rfl, ht⟩) (fun _ h => absurd h List.not_mem_nil) dX5_keptLays_196

abbrev rmX5_strikeOnce : Room := { frames := 4, cells := 0, slots := 0, locals := 100 }
set_option maxHeartbeats 40000000 in
set_option maxRecDepth 100000 in
theorem tX5_strikeOnce (G : GG) (l : Launch) {qB qBT qBC qBN qBW qBL qV qVL qVS qVA qVT : Nat} {bn : Int32} {bk : Int32} {bs : Int32} {bT : Nat → Int32} {bW : Nat → Int32} {vL : Nat → Int32} {vS : Nat → Int32} {vA : Nat → Int32} {vT : Nat → Int32} {sz : Nat} {F : Nat} {r : Int32 × (Nat → Int32) × (Nat → Int32) × (Nat → Int32) × (Nat → Int32)} (hq : kX5_strikeOnce F bT bW vL vS vA vT = some r) : Met l yX5_strikeOnce wsX5_strikeOnce rmX5_strikeOnce (pcW G [(qB, .inr (0, [.ref qBT, .ref qBC, .ref qBN, .ref qBW, .ref qBL, .int bn, .int bk, .int bs])), (qBT, .inl (G.2.1, 16, .inl bT)), (qBW, .inl (G.2.1, 64, .inl bW)), (qV, .inr (5, [.ref qB, .ref qVL, .ref qVS, .ref qVA, .ref qVT])), (qVL, .inl (G.2.1, 16, .inl vL)), (qVS, .inl (G.2.1, 16, .inl vS)), (qVA, .inl (G.2.1, 16, .inl vA)), (qVT, .inl (G.2.1, 16, .inl vT))] sz [.ref qV]) (qcI G r.1 [(qB, .inr (0, [.ref qBT, .ref qBC, .ref qBN, .ref qBW, .ref qBL, .int bn, .int bk, .int bs])), (qBT, .inl (G.2.1, 16, .inl bT)), (qBW, .inl (G.2.1, 64, .inl bW)), (qV, .inr (5, [.ref qB, .ref qVL, .ref qVS, .ref qVA, .ref qVT])), (qVL, .inl (G.2.1, 16, .inl r.2.1)), (qVS, .inl (G.2.1, 16, .inl r.2.2.1)), (qVA, .inl (G.2.1, 16, .inl r.2.2.2.1)), (qVT, .inl (G.2.1, 16, .inl r.2.2.2.2))] (va_A [(qB, .inr (0, [.ref qBT, .ref qBC, .ref qBN, .ref qBW, .ref qBL, .int bn, .int bk, .int bs])), (qBT, .inl (G.2.1, 16, .inl bT)), (qBW, .inl (G.2.1, 64, .inl bW)), (qV, .inr (5, [.ref qB, .ref qVL, .ref qVS, .ref qVA, .ref qVT])), (qVL, .inl (G.2.1, 16, .inl vL)), (qVS, .inl (G.2.1, 16, .inl vS)), (qVA, .inl (G.2.1, 16, .inl vA)), (qVT, .inl (G.2.1, 16, .inl vT))] sz)) 0 0 (va_A [(qB, .inr (0, [.ref qBT, .ref qBC, .ref qBN, .ref qBW, .ref qBL, .int bn, .int bk, .int bs])), (qBT, .inl (G.2.1, 16, .inl bT)), (qBW, .inl (G.2.1, 64, .inl bW)), (qV, .inr (5, [.ref qB, .ref qVL, .ref qVS, .ref qVA, .ref qVT])), (qVL, .inl (G.2.1, 16, .inl vL)), (qVS, .inl (G.2.1, 16, .inl vS)), (qVA, .inl (G.2.1, 16, .inl vA)), (qVT, .inl (G.2.1, 16, .inl vT))] sz) := by
  refine Met.ofW (cc := cX5_strikeOnce) (maxL := 4) (ret := (some .boolean)) (by decide) rfl ?_
  intro p e s m args below meth c s₁ B hml hv
  obtain ⟨rfl, hsz, hP, hKK, hD0⟩ := hv
  have hK := hKK.1
  have hx := B.exec
  have hb := B.bytes
  have hr := B.returns
  have hts := atoms_spec (ws := wsX5_strikeOnce) B.pre
  have hown : s.vm.findClass RX5 = some m.cls := findClass_of_methodNamed B.named
  have hlocks := B.notSynchronized
  subst hsz
  have hD := hD0.self (sz := s.heap.size)
  generalize hAe : va_A [(qB, .inr (0, [.ref qBT, .ref qBC, .ref qBN, .ref qBW, .ref qBL, .int bn, .int bk, .int bs])), (qBT, .inl (G.2.1, 16, .inl bT)), (qBW, .inl (G.2.1, 64, .inl bW)), (qV, .inr (5, [.ref qB, .ref qVL, .ref qVS, .ref qVA, .ref qVT])), (qVL, .inl (G.2.1, 16, .inl vL)), (qVS, .inl (G.2.1, 16, .inl vS)), (qVA, .inl (G.2.1, 16, .inl vA)), (qVT, .inl (G.2.1, 16, .inl vT))] s.heap.size = A at hD ⊢
  have hA : ∀ q : Nat, s.heap.size ≤ q → A q := fun q h => by rw [← hAe]; exact Or.inr h
  have hS : va_S A s.heap s.heap [] := va_S.rf
  have hl := lv_entry ([.ref qV] : List Value) (n := 4) (Nat.le_of_ble_eq_true rfl)
  rw [lg_entry_eq]
  generalize (lg_sl ([.ref qV] : List Value) ++ List.replicate (4 - (lg_sl ([.ref qV] : List Value)).length) Slot.unset).toArray = ls at hl ⊢
  have hl : lv_has ls 4 [(0, .ref qV)] := hl
  have hi5 : ∀ w ∈ u_ws RX5 TX5 5, w ∈ wsX5_strikeOnce := by decide +kernel
  have hw0 : (Cond.fieldLink RX5 15 "NetPlumber$Sieve" "some" "[I").before #[Value.ref qV] s = true := hts _ (by decide +kernel)
  have hw1 : (Cond.fieldLink RX5 18 "NetPlumber$Sieve" "all" "[I").before #[Value.ref qV] s = true := hts _ (by decide +kernel)
  have hw2 : (Cond.fieldLink RX5 21 "NetPlumber$Sieve" "settled" "[I").before #[Value.ref qV] s = true := hts _ (by decide +kernel)
  have hw3 : (Cond.fieldLink RX5 9 "NetPlumber$Sieve" "left" "[I").before #[Value.ref qV] s = true := hts _ (by decide +kernel)
  refine wq (fun Q hQ => ?_)
  unfold kX5_strikeOnce at hq
  refine lv_iconst (v := 0) hx hb dX5_strikeOnce_0 (by decide) ?_
  refine lv_istore_n (lv' := [(1, .int 0), (0, .ref qV)]) hx hb dX5_strikeOnce_1 rfl hl (by decide) rfl (fun ls hl => ?_)
  have L2 : ∀ (n : Nat) (s8 : Int32) (s9 : Nat → Int32) (s10 : Nat → Int32) (t_2 : (Nat → Int32) × (Nat → Int32)) (ls : Array Slot) (H : Heap) (locs : List Loc), kloop n (fun s_ => kX5_strikeOnce_s2 F bT vL s_.1 s_.2.1 s_.2.2) (s8, s9, s10) = some t_2 → lv_has ls 4 [(0, .ref qV), (1, .int s8)] → va_P G.1 vwCl [(qB, .inr (0, [.ref qBT, .ref qBC, .ref qBN, .ref qBW, .ref qBL, .int bn, .int bk, .int bs])), (qBT, .inl (G.2.1, 16, .inl bT)), (qBW, .inl (G.2.1, 64, .inl bW)), (qV, .inr (5, [.ref qB, .ref qVL, .ref qVS, .ref qVA, .ref qVT])), (qVL, .inl (G.2.1, 16, .inl vL)), (qVS, .inl (G.2.1, 16, .inl s9)), (qVA, .inl (G.2.1, 16, .inl s10)), (qVT, .inl (G.2.1, 16, .inl vT))] H → va_D A [(qB, .inr (0, [.ref qBT, .ref qBC, .ref qBN, .ref qBW, .ref qBL, .int bn, .int bk, .int bs])), (qBT, .inl (G.2.1, 16, .inl bT)), (qBW, .inl (G.2.1, 64, .inl bW)), (qV, .inr (5, [.ref qB, .ref qVL, .ref qVS, .ref qVA, .ref qVT])), (qVL, .inl (G.2.1, 16, .inl vL)), (qVS, .inl (G.2.1, 16, .inl s9)), (qVA, .inl (G.2.1, 16, .inl s10)), (qVT, .inl (G.2.1, 16, .inl vT))] → va_S A s.heap H locs → (∀ (ls : Array Slot) (H : Heap) (locs : List Loc), lv_has ls 4 [(0, .ref qV)] → va_P G.1 vwCl [(qB, .inr (0, [.ref qBT, .ref qBC, .ref qBN, .ref qBW, .ref qBL, .int bn, .int bk, .int bs])), (qBT, .inl (G.2.1, 16, .inl bT)), (qBW, .inl (G.2.1, 64, .inl bW)), (qV, .inr (5, [.ref qB, .ref qVL, .ref qVS, .ref qVA, .ref qVT])), (qVL, .inl (G.2.1, 16, .inl vL)), (qVS, .inl (G.2.1, 16, .inl t_2.1)), (qVA, .inl (G.2.1, 16, .inl t_2.2)), (qVT, .inl (G.2.1, 16, .inl vT))] H → va_D A [(qB, .inr (0, [.ref qBT, .ref qBC, .ref qBN, .ref qBW, .ref qBL, .int bn, .int bk, .int bs])), (qBT, .inl (G.2.1, 16, .inl bT)), (qBW, .inl (G.2.1, 64, .inl bW)), (qV, .inr (5, [.ref qB, .ref qVL, .ref qVS, .ref qVA, .ref qVT])), (qVL, .inl (G.2.1, 16, .inl vL)), (qVS, .inl (G.2.1, 16, .inl t_2.1)), (qVA, .inl (G.2.1, 16, .inl t_2.2)), (qVT, .inl (G.2.1, 16, .inl vT))] → va_S A s.heap H locs → W p l e (headSpec wsX5_strikeOnce rmX5_strikeOnce).room s m ([.ref qV] : List Value).toArray below meth c H locs 0 0 Q (F0 m 36 ls [])) → W p l e (headSpec wsX5_strikeOnce rmX5_strikeOnce).room s m ([.ref qV] : List Value).toArray below meth c H locs 0 0 Q (F0 m 2 ls []) := by
    intro n
    induction n with
    | zero => 
      intro s8 s9 s10 t_2 ls H locs hq hl hP hD hS kk2_36
      exact absurd hq kl_0
    | succ n ih2 =>
      intro s8 s9 s10 t_2 ls H locs hq hl hP hD hS kk2_36
      obtain ⟨y_2, hq, hx2⟩ := kl_s hq
      have hq : kX5_strikeOnce_s2 F bT vL s8 s9 s10 = some y_2 := hq
      unfold kX5_strikeOnce_s2 at hq
      refine lv_iload_n hx hb dX5_strikeOnce_2 rfl (lv_at hl 1 rfl) ?_
      refine lv_bipush (v := 16) hx hb dX5_strikeOnce_3 (by decide) ?_
      refine lv_icmp_ge (tgt := 36) hx hb dX5_strikeOnce_5 (by decide) (fun c_5 => ?_) (fun c_5 => ?_)
      · have hq := k_t c_5 hq
        have et := kl_exit hq hx2
        subst et
        exact kk2_36 ls _ _ (lv_sub hl [0] rfl) hP hD hS
      · have hq := k_f c_5 hq
        refine lv_aload_n hx hb dX5_strikeOnce_8 rfl (lv_at hl 0 rfl) ?_
        refine va_get (D := G.1) (ci := 5) (v := .ref qVS) (C := RX5) (T := TX5) (N := 5) hx hb hts hi5 hown hK hP 3 rfl rfl 2 (by decide) hw0 (fun _ h9 => h9) rfl dX5_strikeOnce_9 ?_
        refine lv_iload_n hx hb dX5_strikeOnce_12 rfl (lv_at hl 1 rfl) ?_
        refine lv_aload_n hx hb dX5_strikeOnce_13 rfl (lv_at hl 0 rfl) ?_
        refine lv_iload_n hx hb dX5_strikeOnce_14 rfl (lv_at hl 1 rfl) ?_
        obtain ⟨q11, eq11, hq⟩ := ob hq
        have hPc := hP.sub (ws' := [(qB, .inr (0, [.ref qBT, .ref qBC, .ref qBN, .ref qBW, .ref qBL, .int bn, .int bk, .int bs])), (qBT, .inl (G.2.1, 16, .inl bT)), (qV, .inr (5, [.ref qB, .ref qVL, .ref qVS, .ref qVA, .ref qVT])), (qVL, .inl (G.2.1, 16, .inl vL))]) [0, 1, 3, 4] rfl
        have hKc := hK
        refine vp_callSi (va_Run.run (va_runV (As := [.int s8]) (rest := [.int s8, .ref qVS]) ⟨hx, hb, hml, hown, hts⟩ (tX5_openAtSome G l eq11) (cwV 1 hts gX5_strikeOnce_X5_openAtSome rfl rfl rfl (by decide +kernel) ⟨Nat.le_of_ble_eq_true rfl, Nat.le_of_ble_eq_true rfl⟩) ⟨pcP_blind, va_recv hKc hPc (ci := 5) (q0 := 2) rfl rfl, pcP_pre hPc hKK⟩ rfl rfl hl.1 rfl (lv_room (Nat.le_of_ble_eq_true rfl)) dX5_strikeOnce_15 ⟨Nat.zero_le _, Nat.zero_le _⟩)) (fun r0 hr0 => ?_)
        obtain rfl := hr0
        obtain ⟨hg, hq⟩ := k_g hq
        refine va_iast hx hb hK hP hD hS 5 0 rfl rfl (ix_in hg) dX5_strikeOnce_18 (fun H locs hP hD hS => ?_)
        have hP : va_P G.1 vwCl [(qB, .inr (0, [.ref qBT, .ref qBC, .ref qBN, .ref qBW, .ref qBL, .int bn, .int bk, .int bs])), (qBT, .inl (G.2.1, 16, .inl bT)), (qBW, .inl (G.2.1, 64, .inl bW)), (qV, .inr (5, [.ref qB, .ref qVL, .ref qVS, .ref qVA, .ref qVT])), (qVL, .inl (G.2.1, 16, .inl vL)), (qVS, .inl (G.2.1, 16, .inl (upd s9 s8.toNatClampNeg q11))), (qVA, .inl (G.2.1, 16, .inl s10)), (qVT, .inl (G.2.1, 16, .inl vT))] H := hP
        have hD : va_D A [(qB, .inr (0, [.ref qBT, .ref qBC, .ref qBN, .ref qBW, .ref qBL, .int bn, .int bk, .int bs])), (qBT, .inl (G.2.1, 16, .inl bT)), (qBW, .inl (G.2.1, 64, .inl bW)), (qV, .inr (5, [.ref qB, .ref qVL, .ref qVS, .ref qVA, .ref qVT])), (qVL, .inl (G.2.1, 16, .inl vL)), (qVS, .inl (G.2.1, 16, .inl (upd s9 s8.toNatClampNeg q11))), (qVA, .inl (G.2.1, 16, .inl s10)), (qVT, .inl (G.2.1, 16, .inl vT))] := hD
        refine lv_aload_n hx hb dX5_strikeOnce_19 rfl (lv_at hl 0 rfl) ?_
        refine va_get (D := G.1) (ci := 5) (v := .ref qVA) (C := RX5) (T := TX5) (N := 5) hx hb hts hi5 hown hK hP 3 rfl rfl 3 (by decide) hw1 (fun _ h9 => h9) rfl dX5_strikeOnce_20 ?_
        refine lv_iload_n hx hb dX5_strikeOnce_23 rfl (lv_at hl 1 rfl) ?_
        refine lv_aload_n hx hb dX5_strikeOnce_24 rfl (lv_at hl 0 rfl) ?_
        refine lv_iload_n hx hb dX5_strikeOnce_25 rfl (lv_at hl 1 rfl) ?_
        obtain ⟨q12, eq12, hq⟩ := ob hq
        have hPc := hP.sub (ws' := [(qB, .inr (0, [.ref qBT, .ref qBC, .ref qBN, .ref qBW, .ref qBL, .int bn, .int bk, .int bs])), (qBT, .inl (G.2.1, 16, .inl bT)), (qV, .inr (5, [.ref qB, .ref qVL, .ref qVS, .ref qVA, .ref qVT])), (qVL, .inl (G.2.1, 16, .inl vL))]) [0, 1, 3, 4] rfl
        have hKc := hK
        refine vp_callSi (va_Run.run (va_runV (As := [.int s8]) (rest := [.int s8, .ref qVA]) ⟨hx, hb, hml, hown, hts⟩ (tX5_openAtAll G l eq12) (cwV 1 hts gX5_strikeOnce_X5_openAtAll rfl rfl rfl (by decide +kernel) ⟨Nat.le_of_ble_eq_true rfl, Nat.le_of_ble_eq_true rfl⟩) ⟨pcP_blind, va_recv hKc hPc (ci := 5) (q0 := 2) rfl rfl, pcP_pre hPc hKK⟩ rfl rfl hl.1 rfl (lv_room (Nat.le_of_ble_eq_true rfl)) dX5_strikeOnce_26 ⟨Nat.zero_le _, Nat.zero_le _⟩)) (fun r0 hr0 => ?_)
        obtain rfl := hr0
        obtain ⟨hg, hq⟩ := k_g hq
        refine va_iast hx hb hK hP hD hS 6 0 rfl rfl (ix_in hg) dX5_strikeOnce_29 (fun H locs hP hD hS => ?_)
        have hP : va_P G.1 vwCl [(qB, .inr (0, [.ref qBT, .ref qBC, .ref qBN, .ref qBW, .ref qBL, .int bn, .int bk, .int bs])), (qBT, .inl (G.2.1, 16, .inl bT)), (qBW, .inl (G.2.1, 64, .inl bW)), (qV, .inr (5, [.ref qB, .ref qVL, .ref qVS, .ref qVA, .ref qVT])), (qVL, .inl (G.2.1, 16, .inl vL)), (qVS, .inl (G.2.1, 16, .inl (upd s9 s8.toNatClampNeg q11))), (qVA, .inl (G.2.1, 16, .inl (upd s10 s8.toNatClampNeg q12))), (qVT, .inl (G.2.1, 16, .inl vT))] H := hP
        have hD : va_D A [(qB, .inr (0, [.ref qBT, .ref qBC, .ref qBN, .ref qBW, .ref qBL, .int bn, .int bk, .int bs])), (qBT, .inl (G.2.1, 16, .inl bT)), (qBW, .inl (G.2.1, 64, .inl bW)), (qV, .inr (5, [.ref qB, .ref qVL, .ref qVS, .ref qVA, .ref qVT])), (qVL, .inl (G.2.1, 16, .inl vL)), (qVS, .inl (G.2.1, 16, .inl (upd s9 s8.toNatClampNeg q11))), (qVA, .inl (G.2.1, 16, .inl (upd s10 s8.toNatClampNeg q12))), (qVT, .inl (G.2.1, 16, .inl vT))] := hD
        refine lv_iinc (v := (s8 + 1)) (lv' := [(1, .int (s8 + 1)), (0, .ref qV)]) hx hb dX5_strikeOnce_30 hl (k := 1) rfl rfl (by decide) rfl (fun ls hl => ?_)
        refine lv_goto (tgt := 2) hx hb dX5_strikeOnce_33 (by decide) ?_
        exact ih2 (s8 + 1) (upd s9 s8.toNatClampNeg q11) (upd s10 s8.toNatClampNeg q12) t_2 ls _ _ (kl_back hq hx2) (lv_sub hl [1, 0] rfl) hP hD hS kk2_36
  obtain ⟨q13, eq13, hq⟩ := ob hq
  refine L2 F 0 vS vA q13 ls _ _ (eq13) (lv_sub hl [1, 0] rfl) hP hD hS (fun ls H locs hl hP hD hS => ?_)
  · refine lv_iconst (v := 0) hx hb dX5_strikeOnce_36 (by decide) ?_
    refine lv_istore_n (lv' := [(1, .int 0), (0, .ref qV)]) hx hb dX5_strikeOnce_37 rfl hl (by decide) rfl (fun ls hl => ?_)
    have L38 : ∀ (n : Nat) (s20 : Int32) (s21 : Nat → Int32) (t_38 : Nat → Int32) (ls : Array Slot) (H : Heap) (locs : List Loc), kloop n (fun s_ => kX5_strikeOnce_s38 F bW q13 s_.1 s_.2) (s20, s21) = some t_38 → lv_has ls 4 [(0, .ref qV), (1, .int s20)] → va_P G.1 vwCl [(qB, .inr (0, [.ref qBT, .ref qBC, .ref qBN, .ref qBW, .ref qBL, .int bn, .int bk, .int bs])), (qBT, .inl (G.2.1, 16, .inl bT)), (qBW, .inl (G.2.1, 64, .inl bW)), (qV, .inr (5, [.ref qB, .ref qVL, .ref qVS, .ref qVA, .ref qVT])), (qVL, .inl (G.2.1, 16, .inl vL)), (qVS, .inl (G.2.1, 16, .inl q13.1)), (qVA, .inl (G.2.1, 16, .inl q13.2)), (qVT, .inl (G.2.1, 16, .inl s21))] H → va_D A [(qB, .inr (0, [.ref qBT, .ref qBC, .ref qBN, .ref qBW, .ref qBL, .int bn, .int bk, .int bs])), (qBT, .inl (G.2.1, 16, .inl bT)), (qBW, .inl (G.2.1, 64, .inl bW)), (qV, .inr (5, [.ref qB, .ref qVL, .ref qVS, .ref qVA, .ref qVT])), (qVL, .inl (G.2.1, 16, .inl vL)), (qVS, .inl (G.2.1, 16, .inl q13.1)), (qVA, .inl (G.2.1, 16, .inl q13.2)), (qVT, .inl (G.2.1, 16, .inl s21))] → va_S A s.heap H locs → (∀ (ls : Array Slot) (H : Heap) (locs : List Loc), lv_has ls 4 [(0, .ref qV)] → va_P G.1 vwCl [(qB, .inr (0, [.ref qBT, .ref qBC, .ref qBN, .ref qBW, .ref qBL, .int bn, .int bk, .int bs])), (qBT, .inl (G.2.1, 16, .inl bT)), (qBW, .inl (G.2.1, 64, .inl bW)), (qV, .inr (5, [.ref qB, .ref qVL, .ref qVS, .ref qVA, .ref qVT])), (qVL, .inl (G.2.1, 16, .inl vL)), (qVS, .inl (G.2.1, 16, .inl q13.1)), (qVA, .inl (G.2.1, 16, .inl q13.2)), (qVT, .inl (G.2.1, 16, .inl t_38))] H → va_D A [(qB, .inr (0, [.ref qBT, .ref qBC, .ref qBN, .ref qBW, .ref qBL, .int bn, .int bk, .int bs])), (qBT, .inl (G.2.1, 16, .inl bT)), (qBW, .inl (G.2.1, 64, .inl bW)), (qV, .inr (5, [.ref qB, .ref qVL, .ref qVS, .ref qVA, .ref qVT])), (qVL, .inl (G.2.1, 16, .inl vL)), (qVS, .inl (G.2.1, 16, .inl q13.1)), (qVA, .inl (G.2.1, 16, .inl q13.2)), (qVT, .inl (G.2.1, 16, .inl t_38))] → va_S A s.heap H locs → W p l e (headSpec wsX5_strikeOnce rmX5_strikeOnce).room s m ([.ref qV] : List Value).toArray below meth c H locs 0 0 Q (F0 m 61 ls [])) → W p l e (headSpec wsX5_strikeOnce rmX5_strikeOnce).room s m ([.ref qV] : List Value).toArray below meth c H locs 0 0 Q (F0 m 38 ls []) := by
      intro n
      induction n with
      | zero => 
        intro s20 s21 t_38 ls H locs hq hl hP hD hS kk38_61
        exact absurd hq kl_0
      | succ n ih38 =>
        intro s20 s21 t_38 ls H locs hq hl hP hD hS kk38_61
        obtain ⟨y_38, hq, hx38⟩ := kl_s hq
        have hq : kX5_strikeOnce_s38 F bW q13 s20 s21 = some y_38 := hq
        unfold kX5_strikeOnce_s38 at hq
        refine lv_iload_n hx hb dX5_strikeOnce_38 rfl (lv_at hl 1 rfl) ?_
        refine lv_bipush (v := 16) hx hb dX5_strikeOnce_39 (by decide) ?_
        refine lv_icmp_ge (tgt := 61) hx hb dX5_strikeOnce_41 (by decide) (fun c_41 => ?_) (fun c_41 => ?_)
        · have hq := k_t c_41 hq
          have et := kl_exit hq hx38
          subst et
          exact kk38_61 ls _ _ (lv_sub hl [0] rfl) hP hD hS
        · have hq := k_f c_41 hq
          refine lv_aload_n hx hb dX5_strikeOnce_44 rfl (lv_at hl 0 rfl) ?_
          refine va_get (D := G.1) (ci := 5) (v := .ref qVT) (C := RX5) (T := TX5) (N := 5) hx hb hts hi5 hown hK hP 3 rfl rfl 4 (by decide) hw2 (fun _ h9 => h9) rfl dX5_strikeOnce_45 ?_
          refine lv_iload_n hx hb dX5_strikeOnce_48 rfl (lv_at hl 1 rfl) ?_
          refine lv_aload_n hx hb dX5_strikeOnce_49 rfl (lv_at hl 0 rfl) ?_
          refine lv_iload_n hx hb dX5_strikeOnce_50 rfl (lv_at hl 1 rfl) ?_
          obtain ⟨q22, eq22, hq⟩ := ob hq
          have hPc := hP.sub (ws' := [(qB, .inr (0, [.ref qBT, .ref qBC, .ref qBN, .ref qBW, .ref qBL, .int bn, .int bk, .int bs])), (qBW, .inl (G.2.1, 64, .inl bW)), (qV, .inr (5, [.ref qB, .ref qVL, .ref qVS, .ref qVA, .ref qVT])), (qVA, .inl (G.2.1, 16, .inl q13.2))]) [0, 2, 3, 6] rfl
          have hKc := hK
          refine vp_callSi (va_Run.run (va_runV (As := [.int s20]) (rest := [.int s20, .ref qVT]) ⟨hx, hb, hml, hown, hts⟩ (tX5_settledWith G l eq22) (cwV 1 hts gX5_strikeOnce_X5_settledWith rfl rfl rfl (by decide +kernel) ⟨Nat.le_of_ble_eq_true rfl, Nat.le_of_ble_eq_true rfl⟩) ⟨pcP_blind, va_recv hKc hPc (ci := 5) (q0 := 2) rfl rfl, pcP_pre hPc hKK⟩ rfl rfl hl.1 rfl (lv_room (Nat.le_of_ble_eq_true rfl)) dX5_strikeOnce_51 ⟨Nat.zero_le _, Nat.zero_le _⟩)) (fun r0 hr0 => ?_)
          obtain rfl := hr0
          obtain ⟨hg, hq⟩ := k_g hq
          refine va_iast hx hb hK hP hD hS 7 0 rfl rfl (ix_in hg) dX5_strikeOnce_54 (fun H locs hP hD hS => ?_)
          have hP : va_P G.1 vwCl [(qB, .inr (0, [.ref qBT, .ref qBC, .ref qBN, .ref qBW, .ref qBL, .int bn, .int bk, .int bs])), (qBT, .inl (G.2.1, 16, .inl bT)), (qBW, .inl (G.2.1, 64, .inl bW)), (qV, .inr (5, [.ref qB, .ref qVL, .ref qVS, .ref qVA, .ref qVT])), (qVL, .inl (G.2.1, 16, .inl vL)), (qVS, .inl (G.2.1, 16, .inl q13.1)), (qVA, .inl (G.2.1, 16, .inl q13.2)), (qVT, .inl (G.2.1, 16, .inl (upd s21 s20.toNatClampNeg q22)))] H := hP
          have hD : va_D A [(qB, .inr (0, [.ref qBT, .ref qBC, .ref qBN, .ref qBW, .ref qBL, .int bn, .int bk, .int bs])), (qBT, .inl (G.2.1, 16, .inl bT)), (qBW, .inl (G.2.1, 64, .inl bW)), (qV, .inr (5, [.ref qB, .ref qVL, .ref qVS, .ref qVA, .ref qVT])), (qVL, .inl (G.2.1, 16, .inl vL)), (qVS, .inl (G.2.1, 16, .inl q13.1)), (qVA, .inl (G.2.1, 16, .inl q13.2)), (qVT, .inl (G.2.1, 16, .inl (upd s21 s20.toNatClampNeg q22)))] := hD
          refine lv_iinc (v := (s20 + 1)) (lv' := [(1, .int (s20 + 1)), (0, .ref qV)]) hx hb dX5_strikeOnce_55 hl (k := 1) rfl rfl (by decide) rfl (fun ls hl => ?_)
          refine lv_goto (tgt := 38) hx hb dX5_strikeOnce_58 (by decide) ?_
          exact ih38 (s20 + 1) (upd s21 s20.toNatClampNeg q22) t_38 ls _ _ (kl_back hq hx38) (lv_sub hl [1, 0] rfl) hP hD hS kk38_61
    obtain ⟨q23, eq23, hq⟩ := ob hq
    refine L38 F 0 vT q23 ls _ _ (eq23) (lv_sub hl [1, 0] rfl) hP hD hS (fun ls H locs hl hP hD hS => ?_)
    · refine lv_iconst (v := 0) hx hb dX5_strikeOnce_61 (by decide) ?_
      refine lv_istore_n (lv' := [(1, .int 0), (0, .ref qV)]) hx hb dX5_strikeOnce_62 rfl hl (by decide) rfl (fun ls hl => ?_)
      refine lv_iconst (v := 0) hx hb dX5_strikeOnce_63 (by decide) ?_
      refine lv_istore_n (lv' := [(2, .int 0), (1, .int 0), (0, .ref qV)]) hx hb dX5_strikeOnce_64 rfl hl (by decide) rfl (fun ls hl => ?_)
      have L65 : ∀ (n : Nat) (s32 : Int32) (s33 : Int32) (s34 : Nat → Int32) (t_65 : Int32 × (Nat → Int32)) (ls : Array Slot) (H : Heap) (locs : List Loc), kloop n (fun s_ => kX5_strikeOnce_s65 F bT bW q13 q23 s_.1 s_.2.1 s_.2.2) (s32, s33, s34) = some t_65 → lv_has ls 4 [(0, .ref qV), (1, .int s32), (2, .int s33)] → va_P G.1 vwCl [(qB, .inr (0, [.ref qBT, .ref qBC, .ref qBN, .ref qBW, .ref qBL, .int bn, .int bk, .int bs])), (qBT, .inl (G.2.1, 16, .inl bT)), (qBW, .inl (G.2.1, 64, .inl bW)), (qV, .inr (5, [.ref qB, .ref qVL, .ref qVS, .ref qVA, .ref qVT])), (qVL, .inl (G.2.1, 16, .inl s34)), (qVS, .inl (G.2.1, 16, .inl q13.1)), (qVA, .inl (G.2.1, 16, .inl q13.2)), (qVT, .inl (G.2.1, 16, .inl q23))] H → va_D A [(qB, .inr (0, [.ref qBT, .ref qBC, .ref qBN, .ref qBW, .ref qBL, .int bn, .int bk, .int bs])), (qBT, .inl (G.2.1, 16, .inl bT)), (qBW, .inl (G.2.1, 64, .inl bW)), (qV, .inr (5, [.ref qB, .ref qVL, .ref qVS, .ref qVA, .ref qVT])), (qVL, .inl (G.2.1, 16, .inl s34)), (qVS, .inl (G.2.1, 16, .inl q13.1)), (qVA, .inl (G.2.1, 16, .inl q13.2)), (qVT, .inl (G.2.1, 16, .inl q23))] → va_S A s.heap H locs → (∀ (ls : Array Slot) (H : Heap) (locs : List Loc), lv_has ls 4 [(1, .int t_65.1)] → va_P G.1 vwCl [(qB, .inr (0, [.ref qBT, .ref qBC, .ref qBN, .ref qBW, .ref qBL, .int bn, .int bk, .int bs])), (qBT, .inl (G.2.1, 16, .inl bT)), (qBW, .inl (G.2.1, 64, .inl bW)), (qV, .inr (5, [.ref qB, .ref qVL, .ref qVS, .ref qVA, .ref qVT])), (qVL, .inl (G.2.1, 16, .inl t_65.2)), (qVS, .inl (G.2.1, 16, .inl q13.1)), (qVA, .inl (G.2.1, 16, .inl q13.2)), (qVT, .inl (G.2.1, 16, .inl q23))] H → va_D A [(qB, .inr (0, [.ref qBT, .ref qBC, .ref qBN, .ref qBW, .ref qBL, .int bn, .int bk, .int bs])), (qBT, .inl (G.2.1, 16, .inl bT)), (qBW, .inl (G.2.1, 64, .inl bW)), (qV, .inr (5, [.ref qB, .ref qVL, .ref qVS, .ref qVA, .ref qVT])), (qVL, .inl (G.2.1, 16, .inl t_65.2)), (qVS, .inl (G.2.1, 16, .inl q13.1)), (qVA, .inl (G.2.1, 16, .inl q13.2)), (qVT, .inl (G.2.1, 16, .inl q23))] → va_S A s.heap H locs → W p l e (headSpec wsX5_strikeOnce rmX5_strikeOnce).room s m ([.ref qV] : List Value).toArray below meth c H locs 0 0 Q (F0 m 108 ls [])) → W p l e (headSpec wsX5_strikeOnce rmX5_strikeOnce).room s m ([.ref qV] : List Value).toArray below meth c H locs 0 0 Q (F0 m 65 ls []) := by
        intro n
        induction n with
        | zero => 
          intro s32 s33 s34 t_65 ls H locs hq hl hP hD hS kk65_108
          exact absurd hq kl_0
        | succ n ih65 =>
          intro s32 s33 s34 t_65 ls H locs hq hl hP hD hS kk65_108
          obtain ⟨y_65, hq, hx65⟩ := kl_s hq
          have hq : kX5_strikeOnce_s65 F bT bW q13 q23 s32 s33 s34 = some y_65 := hq
          unfold kX5_strikeOnce_s65 at hq
          refine lv_iload_n hx hb dX5_strikeOnce_65 rfl (lv_at hl 2 rfl) ?_
          refine lv_bipush (v := 16) hx hb dX5_strikeOnce_66 (by decide) ?_
          refine lv_icmp_ge (tgt := 108) hx hb dX5_strikeOnce_68 (by decide) (fun c_68 => ?_) (fun c_68 => ?_)
          · have hq := k_t c_68 hq
            have et := kl_exit hq hx65
            subst et
            exact kk65_108 ls _ _ (lv_sub hl [1] rfl) hP hD hS
          · have hq := k_f c_68 hq
            refine lv_aload_n hx hb dX5_strikeOnce_71 rfl (lv_at hl 0 rfl) ?_
            refine lv_iload_n hx hb dX5_strikeOnce_72 rfl (lv_at hl 2 rfl) ?_
            obtain ⟨q35, eq35, hq⟩ := ob hq
            have hPc := hP.sub (ws' := [(qB, .inr (0, [.ref qBT, .ref qBC, .ref qBN, .ref qBW, .ref qBL, .int bn, .int bk, .int bs])), (qBT, .inl (G.2.1, 16, .inl bT)), (qBW, .inl (G.2.1, 64, .inl bW)), (qV, .inr (5, [.ref qB, .ref qVL, .ref qVS, .ref qVA, .ref qVT])), (qVL, .inl (G.2.1, 16, .inl s34)), (qVS, .inl (G.2.1, 16, .inl q13.1)), (qVA, .inl (G.2.1, 16, .inl q13.2)), (qVT, .inl (G.2.1, 16, .inl q23))]) [0, 1, 2, 3, 4, 5, 6, 7] rfl
            have hKc := hK
            refine vp_callSi (va_Run.run (va_runV (As := [.int s33]) (rest := []) ⟨hx, hb, hml, hown, hts⟩ (tX5_keptLays G l eq35) (cwV 1 hts gX5_strikeOnce_X5_keptLays rfl rfl rfl (by decide +kernel) ⟨Nat.le_of_ble_eq_true rfl, Nat.le_of_ble_eq_true rfl⟩) ⟨pcP_blind, va_recv hKc hPc (ci := 5) (q0 := 3) rfl rfl, pcP_pre hPc hKK⟩ rfl rfl hl.1 rfl (lv_room (Nat.le_of_ble_eq_true rfl)) dX5_strikeOnce_73 ⟨Nat.zero_le _, Nat.zero_le _⟩)) (fun r0 hr0 => ?_)
            obtain rfl := hr0
            refine lv_istore_n (lv' := [(3, .int q35), (0, .ref qV), (1, .int s32), (2, .int s33)]) hx hb dX5_strikeOnce_76 rfl hl (by decide) rfl (fun ls hl => ?_)
            refine lv_iload_n hx hb dX5_strikeOnce_77 rfl (lv_at hl 2 rfl) ?_
            refine lv_iload_n hx hb dX5_strikeOnce_78 rfl (lv_at hl 0 rfl) ?_
            refine lv_aload_n hx hb dX5_strikeOnce_79 rfl (lv_at hl 1 rfl) ?_
            refine va_get (D := G.1) (ci := 5) (v := .ref qVL) (C := RX5) (T := TX5) (N := 5) hx hb hts hi5 hown hK hP 3 rfl rfl 1 (by decide) hw3 (fun _ h9 => h9) rfl dX5_strikeOnce_80 ?_
            refine lv_iload_n hx hb dX5_strikeOnce_83 rfl (lv_at hl 3 rfl) ?_
            obtain ⟨hg, hq⟩ := k_g hq
            refine va_iald hx hb hK hP 4 0 rfl rfl (ix_in hg) dX5_strikeOnce_84 ?_
            refine lv_icmp_eq (tgt := 92) hx hb dX5_strikeOnce_85 (by decide) (fun c_85 => ?_) (fun c_85 => ?_)
            · have hq := k_t c_85 hq
              refine lv_iconst (v := 0) hx hb dX5_strikeOnce_92 (by decide) ?_
              refine lv_ior hx hb dX5_strikeOnce_93 ?_
              refine lv_istore_n (lv' := [(1, .int (s32 ||| 0)), (3, .int q35), (0, .ref qV), (2, .int s33)]) hx hb dX5_strikeOnce_94 rfl hl (by decide) rfl (fun ls hl => ?_)
              refine lv_aload_n hx hb dX5_strikeOnce_95 rfl (lv_at hl 2 rfl) ?_
              refine va_get (D := G.1) (ci := 5) (v := .ref qVL) (C := RX5) (T := TX5) (N := 5) hx hb hts hi5 hown hK hP 3 rfl rfl 1 (by decide) hw3 (fun _ h9 => h9) rfl dX5_strikeOnce_96 ?_
              refine lv_iload_n hx hb dX5_strikeOnce_99 rfl (lv_at hl 3 rfl) ?_
              refine lv_iload_n hx hb dX5_strikeOnce_100 rfl (lv_at hl 1 rfl) ?_
              obtain ⟨hg, hq⟩ := k_g hq
              refine va_iast hx hb hK hP hD hS 4 0 rfl rfl (ix_in hg) dX5_strikeOnce_101 (fun H locs hP hD hS => ?_)
              have hP : va_P G.1 vwCl [(qB, .inr (0, [.ref qBT, .ref qBC, .ref qBN, .ref qBW, .ref qBL, .int bn, .int bk, .int bs])), (qBT, .inl (G.2.1, 16, .inl bT)), (qBW, .inl (G.2.1, 64, .inl bW)), (qV, .inr (5, [.ref qB, .ref qVL, .ref qVS, .ref qVA, .ref qVT])), (qVL, .inl (G.2.1, 16, .inl (upd s34 s33.toNatClampNeg q35))), (qVS, .inl (G.2.1, 16, .inl q13.1)), (qVA, .inl (G.2.1, 16, .inl q13.2)), (qVT, .inl (G.2.1, 16, .inl q23))] H := hP
              have hD : va_D A [(qB, .inr (0, [.ref qBT, .ref qBC, .ref qBN, .ref qBW, .ref qBL, .int bn, .int bk, .int bs])), (qBT, .inl (G.2.1, 16, .inl bT)), (qBW, .inl (G.2.1, 64, .inl bW)), (qV, .inr (5, [.ref qB, .ref qVL, .ref qVS, .ref qVA, .ref qVT])), (qVL, .inl (G.2.1, 16, .inl (upd s34 s33.toNatClampNeg q35))), (qVS, .inl (G.2.1, 16, .inl q13.1)), (qVA, .inl (G.2.1, 16, .inl q13.2)), (qVT, .inl (G.2.1, 16, .inl q23))] := hD
              refine lv_iinc (v := (s33 + 1)) (lv' := [(2, .int (s33 + 1)), (1, .int (s32 ||| 0)), (3, .int q35), (0, .ref qV)]) hx hb dX5_strikeOnce_102 hl (k := 3) rfl rfl (by decide) rfl (fun ls hl => ?_)
              refine lv_goto (tgt := 65) hx hb dX5_strikeOnce_105 (by decide) ?_
              exact ih65 (s32 ||| 0) (s33 + 1) (upd s34 s33.toNatClampNeg q35) t_65 ls _ _ (kl_back hq hx65) (lv_sub hl [3, 1, 0] rfl) hP hD hS kk65_108
            · have hq := k_f c_85 hq
              refine lv_iconst (v := 1) hx hb dX5_strikeOnce_88 (by decide) ?_
              refine lv_goto (tgt := 93) hx hb dX5_strikeOnce_89 (by decide) ?_
              refine lv_ior hx hb dX5_strikeOnce_93 ?_
              refine lv_istore_n (lv' := [(1, .int (s32 ||| 1)), (3, .int q35), (0, .ref qV), (2, .int s33)]) hx hb dX5_strikeOnce_94 rfl hl (by decide) rfl (fun ls hl => ?_)
              refine lv_aload_n hx hb dX5_strikeOnce_95 rfl (lv_at hl 2 rfl) ?_
              refine va_get (D := G.1) (ci := 5) (v := .ref qVL) (C := RX5) (T := TX5) (N := 5) hx hb hts hi5 hown hK hP 3 rfl rfl 1 (by decide) hw3 (fun _ h9 => h9) rfl dX5_strikeOnce_96 ?_
              refine lv_iload_n hx hb dX5_strikeOnce_99 rfl (lv_at hl 3 rfl) ?_
              refine lv_iload_n hx hb dX5_strikeOnce_100 rfl (lv_at hl 1 rfl) ?_
              obtain ⟨hg, hq⟩ := k_g hq
              refine va_iast hx hb hK hP hD hS 4 0 rfl rfl (ix_in hg) dX5_strikeOnce_101 (fun H locs hP hD hS => ?_)
              have hP : va_P G.1 vwCl [(qB, .inr (0, [.ref qBT, .ref qBC, .ref qBN, .ref qBW, .ref qBL, .int bn, .int bk, .int bs])), (qBT, .inl (G.2.1, 16, .inl bT)), (qBW, .inl (G.2.1, 64, .inl bW)), (qV, .inr (5, [.ref qB, .ref qVL, .ref qVS, .ref qVA, .ref qVT])), (qVL, .inl (G.2.1, 16, .inl (upd s34 s33.toNatClampNeg q35))), (qVS, .inl (G.2.1, 16, .inl q13.1)), (qVA, .inl (G.2.1, 16, .inl q13.2)), (qVT, .inl (G.2.1, 16, .inl q23))] H := hP
              have hD : va_D A [(qB, .inr (0, [.ref qBT, .ref qBC, .ref qBN, .ref qBW, .ref qBL, .int bn, .int bk, .int bs])), (qBT, .inl (G.2.1, 16, .inl bT)), (qBW, .inl (G.2.1, 64, .inl bW)), (qV, .inr (5, [.ref qB, .ref qVL, .ref qVS, .ref qVA, .ref qVT])), (qVL, .inl (G.2.1, 16, .inl (upd s34 s33.toNatClampNeg q35))), (qVS, .inl (G.2.1, 16, .inl q13.1)), (qVA, .inl (G.2.1, 16, .inl q13.2)), (qVT, .inl (G.2.1, 16, .inl q23))] := hD
              refine lv_iinc (v := (s33 + 1)) (lv' := [(2, .int (s33 + 1)), (1, .int (s32 ||| 1)), (3, .int q35), (0, .ref qV)]) hx hb dX5_strikeOnce_102 hl (k := 3) rfl rfl (by decide) rfl (fun ls hl => ?_)
              refine lv_goto (tgt := 65) hx hb dX5_strikeOnce_105 (by decide) ?_
              exact ih65 (s32 ||| 1) (s33 + 1) (upd s34 s33.toNatClampNeg q35) t_65 ls _ _ (kl_back hq hx65) (lv_sub hl [3, 1, 0] rfl) hP hD hS kk65_108
      obtain ⟨q37, eq37, hq⟩ := ob hq
      refine L65 F 0 0 vL q37 ls _ _ (eq37) (lv_sub hl [2, 1, 0] rfl) hP hD hS (fun ls H locs hl hP hD hS => ?_)
      · refine lv_iload_n hx hb dX5_strikeOnce_108 rfl (lv_at hl 0 rfl) ?_
        obtain ⟨hg, hq⟩ := k_g hq
        obtain rfl := Option.some.inj hq
        rw [hQ]
        exact W.zret hx hb hr (isZ_n hg) (fun t ht hW => ⟨⟨_, (), rfl, rfl, va_Pat ht hP⟩, hS.F ht⟩) hS.2.2 dX5_strikeOnce_109

abbrev rmX5_sift : Room := { frames := 5, cells := 0, slots := 0, locals := 123 }
set_option maxHeartbeats 40000000 in
set_option maxRecDepth 100000 in
theorem tX5_sift (G : GG) (l : Launch) {qB qBT qBC qBN qBW qBL qV qVL qVS qVA qVT : Nat} {bn : Int32} {bk : Int32} {bs : Int32} {bT : Nat → Int32} {bW : Nat → Int32} {vL : Nat → Int32} {vS : Nat → Int32} {vA : Nat → Int32} {vT : Nat → Int32} {sz : Nat} {F : Nat} {r : (Nat → Int32) × (Nat → Int32) × (Nat → Int32) × (Nat → Int32)} (hq : kX5_sift F bn bk bT bW vL vS vA vT = some r) : Met l yX5_sift wsX5_sift rmX5_sift (pcW G [(qB, .inr (0, [.ref qBT, .ref qBC, .ref qBN, .ref qBW, .ref qBL, .int bn, .int bk, .int bs])), (qBT, .inl (G.2.1, 16, .inl bT)), (qBW, .inl (G.2.1, 64, .inl bW)), (qV, .inr (5, [.ref qB, .ref qVL, .ref qVS, .ref qVA, .ref qVT])), (qVL, .inl (G.2.1, 16, .inl vL)), (qVS, .inl (G.2.1, 16, .inl vS)), (qVA, .inl (G.2.1, 16, .inl vA)), (qVT, .inl (G.2.1, 16, .inl vT))] sz [.ref qV]) (qcV G [(qB, .inr (0, [.ref qBT, .ref qBC, .ref qBN, .ref qBW, .ref qBL, .int bn, .int bk, .int bs])), (qBT, .inl (G.2.1, 16, .inl bT)), (qBW, .inl (G.2.1, 64, .inl bW)), (qV, .inr (5, [.ref qB, .ref qVL, .ref qVS, .ref qVA, .ref qVT])), (qVL, .inl (G.2.1, 16, .inl r.1)), (qVS, .inl (G.2.1, 16, .inl r.2.1)), (qVA, .inl (G.2.1, 16, .inl r.2.2.1)), (qVT, .inl (G.2.1, 16, .inl r.2.2.2))] (va_A [(qB, .inr (0, [.ref qBT, .ref qBC, .ref qBN, .ref qBW, .ref qBL, .int bn, .int bk, .int bs])), (qBT, .inl (G.2.1, 16, .inl bT)), (qBW, .inl (G.2.1, 64, .inl bW)), (qV, .inr (5, [.ref qB, .ref qVL, .ref qVS, .ref qVA, .ref qVT])), (qVL, .inl (G.2.1, 16, .inl vL)), (qVS, .inl (G.2.1, 16, .inl vS)), (qVA, .inl (G.2.1, 16, .inl vA)), (qVT, .inl (G.2.1, 16, .inl vT))] sz)) 0 0 (va_A [(qB, .inr (0, [.ref qBT, .ref qBC, .ref qBN, .ref qBW, .ref qBL, .int bn, .int bk, .int bs])), (qBT, .inl (G.2.1, 16, .inl bT)), (qBW, .inl (G.2.1, 64, .inl bW)), (qV, .inr (5, [.ref qB, .ref qVL, .ref qVS, .ref qVA, .ref qVT])), (qVL, .inl (G.2.1, 16, .inl vL)), (qVS, .inl (G.2.1, 16, .inl vS)), (qVA, .inl (G.2.1, 16, .inl vA)), (qVT, .inl (G.2.1, 16, .inl vT))] sz) := by
  refine Met.ofW (cc := cX5_sift) (maxL := 3) (ret := none) (by decide) rfl ?_
  intro p e s m args below meth c s₁ B hml hv
  obtain ⟨rfl, hsz, hP, hKK, hD0⟩ := hv
  have hK := hKK.1
  have hx := B.exec
  have hb := B.bytes
  have hr := B.returns
  have hts := atoms_spec (ws := wsX5_sift) B.pre
  have hown : s.vm.findClass RX5 = some m.cls := findClass_of_methodNamed B.named
  have hlocks := B.notSynchronized
  subst hsz
  have hD := hD0.self (sz := s.heap.size)
  generalize hAe : va_A [(qB, .inr (0, [.ref qBT, .ref qBC, .ref qBN, .ref qBW, .ref qBL, .int bn, .int bk, .int bs])), (qBT, .inl (G.2.1, 16, .inl bT)), (qBW, .inl (G.2.1, 64, .inl bW)), (qV, .inr (5, [.ref qB, .ref qVL, .ref qVS, .ref qVA, .ref qVT])), (qVL, .inl (G.2.1, 16, .inl vL)), (qVS, .inl (G.2.1, 16, .inl vS)), (qVA, .inl (G.2.1, 16, .inl vA)), (qVT, .inl (G.2.1, 16, .inl vT))] s.heap.size = A at hD ⊢
  have hA : ∀ q : Nat, s.heap.size ≤ q → A q := fun q h => by rw [← hAe]; exact Or.inr h
  have hS : va_S A s.heap s.heap [] := va_S.rf
  have hl := lv_entry ([.ref qV] : List Value) (n := 3) (Nat.le_of_ble_eq_true rfl)
  rw [lg_entry_eq]
  generalize (lg_sl ([.ref qV] : List Value) ++ List.replicate (3 - (lg_sl ([.ref qV] : List Value)).length) Slot.unset).toArray = ls at hl ⊢
  have hl : lv_has ls 3 [(0, .ref qV)] := hl
  have hi5 : ∀ w ∈ u_ws RX5 TX5 5, w ∈ wsX5_sift := by decide +kernel
  have hw0 : (Cond.fieldLink RX5 9 "NetPlumber$Sieve" "left" "[I").before #[Value.ref qV] s = true := hts _ (by decide +kernel)
  have hw1 : (Cond.fieldLink RX5 24 "NetPlumber$Sieve" "board" "LNetPlumber$Board;").before #[Value.ref qV] s = true := hts _ (by decide +kernel)
  refine wq (fun Q hQ => ?_)
  unfold kX5_sift at hq
  refine lv_iconst (v := 0) hx hb dX5_sift_0 (by decide) ?_
  refine lv_istore_n (lv' := [(1, .int 0), (0, .ref qV)]) hx hb dX5_sift_1 rfl hl (by decide) rfl (fun ls hl => ?_)
  have L2 : ∀ (n : Nat) (s10 : Int32) (s11 : Nat → Int32) (t_2 : Nat → Int32) (ls : Array Slot) (H : Heap) (locs : List Loc), kloop n (fun s_ => kX5_sift_s2 F bn bk bT s_.1 s_.2) (s10, s11) = some t_2 → lv_has ls 3 [(0, .ref qV), (1, .int s10)] → va_P G.1 vwCl [(qB, .inr (0, [.ref qBT, .ref qBC, .ref qBN, .ref qBW, .ref qBL, .int bn, .int bk, .int bs])), (qBT, .inl (G.2.1, 16, .inl bT)), (qBW, .inl (G.2.1, 64, .inl bW)), (qV, .inr (5, [.ref qB, .ref qVL, .ref qVS, .ref qVA, .ref qVT])), (qVL, .inl (G.2.1, 16, .inl s11)), (qVS, .inl (G.2.1, 16, .inl vS)), (qVA, .inl (G.2.1, 16, .inl vA)), (qVT, .inl (G.2.1, 16, .inl vT))] H → va_D A [(qB, .inr (0, [.ref qBT, .ref qBC, .ref qBN, .ref qBW, .ref qBL, .int bn, .int bk, .int bs])), (qBT, .inl (G.2.1, 16, .inl bT)), (qBW, .inl (G.2.1, 64, .inl bW)), (qV, .inr (5, [.ref qB, .ref qVL, .ref qVS, .ref qVA, .ref qVT])), (qVL, .inl (G.2.1, 16, .inl s11)), (qVS, .inl (G.2.1, 16, .inl vS)), (qVA, .inl (G.2.1, 16, .inl vA)), (qVT, .inl (G.2.1, 16, .inl vT))] → va_S A s.heap H locs → (∀ (ls : Array Slot) (H : Heap) (locs : List Loc), lv_has ls 3 [(0, .ref qV)] → va_P G.1 vwCl [(qB, .inr (0, [.ref qBT, .ref qBC, .ref qBN, .ref qBW, .ref qBL, .int bn, .int bk, .int bs])), (qBT, .inl (G.2.1, 16, .inl bT)), (qBW, .inl (G.2.1, 64, .inl bW)), (qV, .inr (5, [.ref qB, .ref qVL, .ref qVS, .ref qVA, .ref qVT])), (qVL, .inl (G.2.1, 16, .inl t_2)), (qVS, .inl (G.2.1, 16, .inl vS)), (qVA, .inl (G.2.1, 16, .inl vA)), (qVT, .inl (G.2.1, 16, .inl vT))] H → va_D A [(qB, .inr (0, [.ref qBT, .ref qBC, .ref qBN, .ref qBW, .ref qBL, .int bn, .int bk, .int bs])), (qBT, .inl (G.2.1, 16, .inl bT)), (qBW, .inl (G.2.1, 64, .inl bW)), (qV, .inr (5, [.ref qB, .ref qVL, .ref qVS, .ref qVA, .ref qVT])), (qVL, .inl (G.2.1, 16, .inl t_2)), (qVS, .inl (G.2.1, 16, .inl vS)), (qVA, .inl (G.2.1, 16, .inl vA)), (qVT, .inl (G.2.1, 16, .inl vT))] → va_S A s.heap H locs → W p l e (headSpec wsX5_sift rmX5_sift).room s m ([.ref qV] : List Value).toArray below meth c H locs 0 0 Q (F0 m 43 ls [])) → W p l e (headSpec wsX5_sift rmX5_sift).room s m ([.ref qV] : List Value).toArray below meth c H locs 0 0 Q (F0 m 2 ls []) := by
    intro n
    induction n with
    | zero => 
      intro s10 s11 t_2 ls H locs hq hl hP hD hS kk2_43
      exact absurd hq kl_0
    | succ n ih2 =>
      intro s10 s11 t_2 ls H locs hq hl hP hD hS kk2_43
      obtain ⟨y_2, hq, hx2⟩ := kl_s hq
      have hq : kX5_sift_s2 F bn bk bT s10 s11 = some y_2 := hq
      unfold kX5_sift_s2 at hq
      refine lv_iload_n hx hb dX5_sift_2 rfl (lv_at hl 1 rfl) ?_
      refine lv_bipush (v := 16) hx hb dX5_sift_3 (by decide) ?_
      refine lv_icmp_ge (tgt := 43) hx hb dX5_sift_5 (by decide) (fun c_5 => ?_) (fun c_5 => ?_)
      · have hq := k_t c_5 hq
        have et := kl_exit hq hx2
        subst et
        exact kk2_43 ls _ _ (lv_sub hl [0] rfl) hP hD hS
      · have hq := k_f c_5 hq
        refine lv_aload_n hx hb dX5_sift_8 rfl (lv_at hl 0 rfl) ?_
        refine va_get (D := G.1) (ci := 5) (v := .ref qVL) (C := RX5) (T := TX5) (N := 5) hx hb hts hi5 hown hK hP 3 rfl rfl 1 (by decide) hw0 (fun _ h9 => h9) rfl dX5_sift_9 ?_
        refine lv_iload_n hx hb dX5_sift_12 rfl (lv_at hl 1 rfl) ?_
        refine lv_aload_n hx hb dX5_sift_13 rfl (lv_at hl 0 rfl) ?_
        refine va_get (D := G.1) (ci := 5) (v := .ref qB) (C := RX5) (T := TX5) (N := 5) hx hb hts hi5 hown hK hP 3 rfl rfl 0 (by decide) hw1 (fun _ h9 => h9) rfl dX5_sift_14 ?_
        refine lv_iload_n hx hb dX5_sift_17 rfl (lv_at hl 1 rfl) ?_
        obtain ⟨q12, eq12, hq⟩ := ob hq
        have hPc := hP.sub (ws' := [(qB, .inr (0, [.ref qBT, .ref qBC, .ref qBN, .ref qBW, .ref qBL, .int bn, .int bk, .int bs]))]) [0] rfl
        have hKc := hK
        refine vp_callSi (va_Run.run (va_runV (As := [.int s10]) (rest := [.int s10, .ref qVL]) ⟨hx, hb, hml, hown, hts⟩ (tX0_has G l eq12) (cwV 1 hts gX5_sift_X0_has rfl rfl rfl (by decide +kernel) ⟨Nat.le_of_ble_eq_true rfl, Nat.le_of_ble_eq_true rfl⟩) ⟨pcP_blind, va_recv hKc hPc (ci := 0) (q0 := 0) rfl rfl, pcP_pre hPc hKK⟩ rfl rfl hl.1 rfl (lv_room (Nat.le_of_ble_eq_true rfl)) dX5_sift_18 ⟨Nat.zero_le _, Nat.zero_le _⟩)) (fun r0 hr0 => ?_)
        obtain rfl := hr0
        refine lv_if_eq (tgt := 35) hx hb dX5_sift_21 (by decide) (fun c_21 => ?_) (fun c_21 => ?_)
        · have hq := k_t c_21 hq
          refine lv_iconst (v := 0) hx hb dX5_sift_35 (by decide) ?_
          obtain ⟨hg, hq⟩ := k_g hq
          refine va_iast hx hb hK hP hD hS 4 0 rfl rfl (ix_in hg) dX5_sift_36 (fun H locs hP hD hS => ?_)
          have hP : va_P G.1 vwCl [(qB, .inr (0, [.ref qBT, .ref qBC, .ref qBN, .ref qBW, .ref qBL, .int bn, .int bk, .int bs])), (qBT, .inl (G.2.1, 16, .inl bT)), (qBW, .inl (G.2.1, 64, .inl bW)), (qV, .inr (5, [.ref qB, .ref qVL, .ref qVS, .ref qVA, .ref qVT])), (qVL, .inl (G.2.1, 16, .inl (upd s11 s10.toNatClampNeg 0))), (qVS, .inl (G.2.1, 16, .inl vS)), (qVA, .inl (G.2.1, 16, .inl vA)), (qVT, .inl (G.2.1, 16, .inl vT))] H := hP
          have hD : va_D A [(qB, .inr (0, [.ref qBT, .ref qBC, .ref qBN, .ref qBW, .ref qBL, .int bn, .int bk, .int bs])), (qBT, .inl (G.2.1, 16, .inl bT)), (qBW, .inl (G.2.1, 64, .inl bW)), (qV, .inr (5, [.ref qB, .ref qVL, .ref qVS, .ref qVA, .ref qVT])), (qVL, .inl (G.2.1, 16, .inl (upd s11 s10.toNatClampNeg 0))), (qVS, .inl (G.2.1, 16, .inl vS)), (qVA, .inl (G.2.1, 16, .inl vA)), (qVT, .inl (G.2.1, 16, .inl vT))] := hD
          refine lv_iinc (v := (s10 + 1)) (lv' := [(1, .int (s10 + 1)), (0, .ref qV)]) hx hb dX5_sift_37 hl (k := 1) rfl rfl (by decide) rfl (fun ls hl => ?_)
          refine lv_goto (tgt := 2) hx hb dX5_sift_40 (by decide) ?_
          exact ih2 (s10 + 1) (upd s11 s10.toNatClampNeg 0) t_2 ls _ _ (kl_back hq hx2) (lv_sub hl [1, 0] rfl) hP hD hS kk2_43
        · have hq := k_f c_21 hq
          refine lv_aload_n hx hb dX5_sift_24 rfl (lv_at hl 0 rfl) ?_
          refine va_get (D := G.1) (ci := 5) (v := .ref qB) (C := RX5) (T := TX5) (N := 5) hx hb hts hi5 hown hK hP 3 rfl rfl 0 (by decide) hw1 (fun _ h9 => h9) rfl dX5_sift_25 ?_
          refine lv_iload_n hx hb dX5_sift_28 rfl (lv_at hl 1 rfl) ?_
          obtain ⟨q15, eq15, hq⟩ := ob hq
          have hPc := hP.sub (ws' := [(qB, .inr (0, [.ref qBT, .ref qBC, .ref qBN, .ref qBW, .ref qBL, .int bn, .int bk, .int bs])), (qBT, .inl (G.2.1, 16, .inl bT))]) [0, 1] rfl
          have hKc := hK
          refine vp_callSi (va_Run.run (va_runV (As := [.int s10]) (rest := [.int s10, .ref qVL]) ⟨hx, hb, hml, hown, hts⟩ (tX0_ownLays G l eq15) (cwV 1 hts gX5_sift_X0_ownLays rfl rfl rfl (by decide +kernel) ⟨Nat.le_of_ble_eq_true rfl, Nat.le_of_ble_eq_true rfl⟩) ⟨pcP_blind, va_recv hKc hPc (ci := 0) (q0 := 0) rfl rfl, pcP_pre hPc hKK⟩ rfl rfl hl.1 rfl (lv_room (Nat.le_of_ble_eq_true rfl)) dX5_sift_29 ⟨Nat.zero_le _, Nat.zero_le _⟩)) (fun r0 hr0 => ?_)
          obtain rfl := hr0
          refine lv_goto (tgt := 36) hx hb dX5_sift_32 (by decide) ?_
          obtain ⟨hg, hq⟩ := k_g hq
          refine va_iast hx hb hK hP hD hS 4 0 rfl rfl (ix_in hg) dX5_sift_36 (fun H locs hP hD hS => ?_)
          have hP : va_P G.1 vwCl [(qB, .inr (0, [.ref qBT, .ref qBC, .ref qBN, .ref qBW, .ref qBL, .int bn, .int bk, .int bs])), (qBT, .inl (G.2.1, 16, .inl bT)), (qBW, .inl (G.2.1, 64, .inl bW)), (qV, .inr (5, [.ref qB, .ref qVL, .ref qVS, .ref qVA, .ref qVT])), (qVL, .inl (G.2.1, 16, .inl (upd s11 s10.toNatClampNeg q15))), (qVS, .inl (G.2.1, 16, .inl vS)), (qVA, .inl (G.2.1, 16, .inl vA)), (qVT, .inl (G.2.1, 16, .inl vT))] H := hP
          have hD : va_D A [(qB, .inr (0, [.ref qBT, .ref qBC, .ref qBN, .ref qBW, .ref qBL, .int bn, .int bk, .int bs])), (qBT, .inl (G.2.1, 16, .inl bT)), (qBW, .inl (G.2.1, 64, .inl bW)), (qV, .inr (5, [.ref qB, .ref qVL, .ref qVS, .ref qVA, .ref qVT])), (qVL, .inl (G.2.1, 16, .inl (upd s11 s10.toNatClampNeg q15))), (qVS, .inl (G.2.1, 16, .inl vS)), (qVA, .inl (G.2.1, 16, .inl vA)), (qVT, .inl (G.2.1, 16, .inl vT))] := hD
          refine lv_iinc (v := (s10 + 1)) (lv' := [(1, .int (s10 + 1)), (0, .ref qV)]) hx hb dX5_sift_37 hl (k := 1) rfl rfl (by decide) rfl (fun ls hl => ?_)
          refine lv_goto (tgt := 2) hx hb dX5_sift_40 (by decide) ?_
          exact ih2 (s10 + 1) (upd s11 s10.toNatClampNeg q15) t_2 ls _ _ (kl_back hq hx2) (lv_sub hl [1, 0] rfl) hP hD hS kk2_43
  obtain ⟨q16, eq16, hq⟩ := ob hq
  refine L2 F 0 vL q16 ls _ _ (eq16) (lv_sub hl [1, 0] rfl) hP hD hS (fun ls H locs hl hP hD hS => ?_)
  · refine lv_iconst (v := 1) hx hb dX5_sift_43 (by decide) ?_
    refine lv_istore_n (lv' := [(1, .int 1), (0, .ref qV)]) hx hb dX5_sift_44 rfl hl (by decide) rfl (fun ls hl => ?_)
    refine lv_iconst (v := 0) hx hb dX5_sift_45 (by decide) ?_
    refine lv_istore_n (lv' := [(2, .int 0), (1, .int 1), (0, .ref qV)]) hx hb dX5_sift_46 rfl hl (by decide) rfl (fun ls hl => ?_)
    have L47 : ∀ (n : Nat) (s24 : Int32) (s25 : Int32) (s26 : Nat → Int32) (s27 : Nat → Int32) (s28 : Nat → Int32) (s29 : Nat → Int32) (t_47 : (Nat → Int32) × (Nat → Int32) × (Nat → Int32) × (Nat → Int32)) (ls : Array Slot) (H : Heap) (locs : List Loc), kloop n (fun s_ => kX5_sift_s47 F bT bW s_.1 s_.2.1 s_.2.2.1 s_.2.2.2.1 s_.2.2.2.2.1 s_.2.2.2.2.2) (s24, s25, s26, s27, s28, s29) = some t_47 → lv_has ls 3 [(0, .ref qV), (1, .int s24), (2, .int s25)] → va_P G.1 vwCl [(qB, .inr (0, [.ref qBT, .ref qBC, .ref qBN, .ref qBW, .ref qBL, .int bn, .int bk, .int bs])), (qBT, .inl (G.2.1, 16, .inl bT)), (qBW, .inl (G.2.1, 64, .inl bW)), (qV, .inr (5, [.ref qB, .ref qVL, .ref qVS, .ref qVA, .ref qVT])), (qVL, .inl (G.2.1, 16, .inl s26)), (qVS, .inl (G.2.1, 16, .inl s27)), (qVA, .inl (G.2.1, 16, .inl s28)), (qVT, .inl (G.2.1, 16, .inl s29))] H → va_D A [(qB, .inr (0, [.ref qBT, .ref qBC, .ref qBN, .ref qBW, .ref qBL, .int bn, .int bk, .int bs])), (qBT, .inl (G.2.1, 16, .inl bT)), (qBW, .inl (G.2.1, 64, .inl bW)), (qV, .inr (5, [.ref qB, .ref qVL, .ref qVS, .ref qVA, .ref qVT])), (qVL, .inl (G.2.1, 16, .inl s26)), (qVS, .inl (G.2.1, 16, .inl s27)), (qVA, .inl (G.2.1, 16, .inl s28)), (qVT, .inl (G.2.1, 16, .inl s29))] → va_S A s.heap H locs → (∀ (ls : Array Slot) (H : Heap) (locs : List Loc), lv_has ls 3 [] → va_P G.1 vwCl [(qB, .inr (0, [.ref qBT, .ref qBC, .ref qBN, .ref qBW, .ref qBL, .int bn, .int bk, .int bs])), (qBT, .inl (G.2.1, 16, .inl bT)), (qBW, .inl (G.2.1, 64, .inl bW)), (qV, .inr (5, [.ref qB, .ref qVL, .ref qVS, .ref qVA, .ref qVT])), (qVL, .inl (G.2.1, 16, .inl t_47.1)), (qVS, .inl (G.2.1, 16, .inl t_47.2.1)), (qVA, .inl (G.2.1, 16, .inl t_47.2.2.1)), (qVT, .inl (G.2.1, 16, .inl t_47.2.2.2))] H → va_D A [(qB, .inr (0, [.ref qBT, .ref qBC, .ref qBN, .ref qBW, .ref qBL, .int bn, .int bk, .int bs])), (qBT, .inl (G.2.1, 16, .inl bT)), (qBW, .inl (G.2.1, 64, .inl bW)), (qV, .inr (5, [.ref qB, .ref qVL, .ref qVS, .ref qVA, .ref qVT])), (qVL, .inl (G.2.1, 16, .inl t_47.1)), (qVS, .inl (G.2.1, 16, .inl t_47.2.1)), (qVA, .inl (G.2.1, 16, .inl t_47.2.2.1)), (qVT, .inl (G.2.1, 16, .inl t_47.2.2.2))] → va_S A s.heap H locs → W p l e (headSpec wsX5_sift rmX5_sift).room s m ([.ref qV] : List Value).toArray below meth c H locs 0 0 Q (F0 m 68 ls [])) → W p l e (headSpec wsX5_sift rmX5_sift).room s m ([.ref qV] : List Value).toArray below meth c H locs 0 0 Q (F0 m 47 ls []) := by
      intro n
      induction n with
      | zero => 
        intro s24 s25 s26 s27 s28 s29 t_47 ls H locs hq hl hP hD hS kk47_68
        exact absurd hq kl_0
      | succ n ih47 =>
        intro s24 s25 s26 s27 s28 s29 t_47 ls H locs hq hl hP hD hS kk47_68
        obtain ⟨y_47, hq, hx47⟩ := kl_s hq
        have hq : kX5_sift_s47 F bT bW s24 s25 s26 s27 s28 s29 = some y_47 := hq
        unfold kX5_sift_s47 at hq
        refine lv_iload_n hx hb dX5_sift_47 rfl (lv_at hl 1 rfl) ?_
        refine lv_if_eq (tgt := 68) hx hb dX5_sift_48 (by decide) (fun c_48 => ?_) (fun c_48 => ?_)
        · have hq := k_t c_48 hq
          have et := kl_exit hq hx47
          subst et
          exact kk47_68 ls _ _ (lv_sub hl [] rfl) hP hD hS
        · have hq := k_f c_48 hq
          refine lv_iload_n hx hb dX5_sift_51 rfl (lv_at hl 2 rfl) ?_
          refine lv_bipush (v := 64) hx hb dX5_sift_52 (by decide) ?_
          refine lv_icmp_gt (tgt := 68) hx hb dX5_sift_54 (by decide) (fun c_54 => ?_) (fun c_54 => ?_)
          · have hq := k_t c_54 hq
            have et := kl_exit hq hx47
            subst et
            exact kk47_68 ls _ _ (lv_sub hl [] rfl) hP hD hS
          · have hq := k_f c_54 hq
            refine lv_aload_n hx hb dX5_sift_57 rfl (lv_at hl 0 rfl) ?_
            obtain ⟨q30, eq30, hq⟩ := ob hq
            have hPc := hP.sub (ws' := [(qB, .inr (0, [.ref qBT, .ref qBC, .ref qBN, .ref qBW, .ref qBL, .int bn, .int bk, .int bs])), (qBT, .inl (G.2.1, 16, .inl bT)), (qBW, .inl (G.2.1, 64, .inl bW)), (qV, .inr (5, [.ref qB, .ref qVL, .ref qVS, .ref qVA, .ref qVT])), (qVL, .inl (G.2.1, 16, .inl s26)), (qVS, .inl (G.2.1, 16, .inl s27)), (qVA, .inl (G.2.1, 16, .inl s28)), (qVT, .inl (G.2.1, 16, .inl s29))]) [0, 1, 2, 3, 4, 5, 6, 7] rfl
            have hKc := hK
            have hDc := hD.sub (ws' := [(qB, .inr (0, [.ref qBT, .ref qBC, .ref qBN, .ref qBW, .ref qBL, .int bn, .int bk, .int bs])), (qBT, .inl (G.2.1, 16, .inl bT)), (qBW, .inl (G.2.1, 64, .inl bW)), (qV, .inr (5, [.ref qB, .ref qVL, .ref qVS, .ref qVA, .ref qVT])), (qVL, .inl (G.2.1, 16, .inl s26)), (qVS, .inl (G.2.1, 16, .inl s27)), (qVA, .inl (G.2.1, 16, .inl s28)), (qVT, .inl (G.2.1, 16, .inl s29))]) [0, 1, 2, 3, 4, 5, 6, 7] (by decide) rfl
            have hFc := va_free (wc := [(qB, .inr (0, [.ref qBT, .ref qBC, .ref qBN, .ref qBW, .ref qBL, .int bn, .int bk, .int bs])), (qBT, .inl (G.2.1, 16, .inl bT)), (qBW, .inl (G.2.1, 64, .inl bW)), (qV, .inr (5, [.ref qB, .ref qVL, .ref qVS, .ref qVA, .ref qVT])), (qVL, .inl (G.2.1, 16, .inl s26)), (qVS, .inl (G.2.1, 16, .inl s27)), (qVA, .inl (G.2.1, 16, .inl s28)), (qVT, .inl (G.2.1, 16, .inl s29))]) hD hS hA [0, 1, 2, 3, 4, 5, 6, 7] rfl
            refine va_calli (va_runV (As := []) (rest := []) ⟨hx, hb, hml, hown, hts⟩ (tX5_strikeOnce G l eq30) (cwV 0 hts gX5_sift_X5_strikeOnce rfl rfl rfl (by decide +kernel) ⟨Nat.le_of_ble_eq_true rfl, Nat.le_of_ble_eq_true rfl⟩) ⟨pcW_blind, va_recv hKc hPc (ci := 5) (q0 := 3) rfl rfl, pcW_pre hPc hKK hDc⟩ rfl rfl hl.1 rfl (lv_room (Nat.le_of_ble_eq_true rfl)) dX5_sift_58 ⟨Nat.zero_le _, Nat.zero_le _⟩) hS (fun q _ h => hFc q h) hFc (fun r0 u t H1 locs ht hvm hw hB hz1 hk1 hS => ?_)
            obtain rfl := hw
            have hB := va_Pto ht hB
            obtain ⟨hP, hD⟩ := jn (ws' := [(qB, .inr (0, [.ref qBT, .ref qBC, .ref qBN, .ref qBW, .ref qBL, .int bn, .int bk, .int bs])), (qBT, .inl (G.2.1, 16, .inl bT)), (qBW, .inl (G.2.1, 64, .inl bW)), (qV, .inr (5, [.ref qB, .ref qVL, .ref qVS, .ref qVA, .ref qVT])), (qVL, .inl (G.2.1, 16, .inl q30.2.1)), (qVS, .inl (G.2.1, 16, .inl q30.2.2.1)), (qVA, .inl (G.2.1, 16, .inl q30.2.2.2.1)), (qVT, .inl (G.2.1, 16, .inl q30.2.2.2.2))]) hP hD hk1 hB [0, 1, 2, 3, 4, 5, 6, 7] rfl rfl rfl rfl
            generalize H1 = H at hP hS ⊢
            refine lv_istore_n (lv' := [(1, .int q30.1), (0, .ref qV), (2, .int s25)]) hx hb dX5_sift_61 rfl hl (by decide) rfl (fun ls hl => ?_)
            refine lv_iinc (v := (s25 + 1)) (lv' := [(2, .int (s25 + 1)), (1, .int q30.1), (0, .ref qV)]) hx hb dX5_sift_62 hl (k := 2) rfl rfl (by decide) rfl (fun ls hl => ?_)
            refine lv_goto (tgt := 47) hx hb dX5_sift_65 (by decide) ?_
            exact ih47 q30.1 (s25 + 1) q30.2.1 q30.2.2.1 q30.2.2.2.1 q30.2.2.2.2 t_47 ls _ _ (kl_back hq hx47) (lv_sub hl [2, 1, 0] rfl) hP hD hS kk47_68
    obtain ⟨q31, eq31, hq⟩ := ob hq
    refine L47 F 1 0 q16 vS vA vT q31 ls _ _ (eq31) (lv_sub hl [2, 1, 0] rfl) hP hD hS (fun ls H locs hl hP hD hS => ?_)
    · obtain rfl := Option.some.inj hq
      rw [hQ]
      exact W.vret hx hb hr (fun t ht hW => ⟨⟨(), rfl, trivial, va_Pat ht hP⟩, hS.F ht⟩) hS.2.2 dX5_sift_68
