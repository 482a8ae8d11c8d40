/-! contracts (laid by wip/whole/gen.py) -/
abbrev rmX7_moves : Room := { frames := 1, cells := 0, slots := 0, locals := 20 }
set_option maxHeartbeats 40000000 in
set_option maxRecDepth 100000 in
theorem tX7_moves (G : GG) (l : Launch) {qX qB qH qK qV qS qW qHM : Nat} {hd : Int32} {hk : Int32} {F : Nat} {r : Int32} (hq : kX7_moves F hd = some r) : Met l yX7_moves wsX7_moves rmX7_moves (pcP G [(qX, .inr (7, [.ref qB, .ref qH, .ref qK, .ref qV, .ref qS, .ref qW])), (qH, .inr (2, [.ref qHM, .int hd, .int hk]))] [.ref qX]) (vp_Si (fun x => r = x)) 0 0 (fun _ => False) := by
  refine Met.ofW (cc := cX7_moves) (maxL := 1) (ret := (some .int)) (by decide) rfl ?_
  intro p e s m args below meth c s₁ B hml hv
  obtain ⟨rfl, hP, hKK⟩ := hv
  have hK := hKK.1
  have hx := B.exec
  have hb := B.bytes
  have hr := B.returns
  have hts := atoms_spec (ws := wsX7_moves) B.pre
  have hown : s.vm.findClass RX7 = some m.cls := findClass_of_methodNamed B.named
  have hlocks := B.notSynchronized
  have hl := lv_entry ([.ref qX] : List Value) (n := 1) (Nat.le_of_ble_eq_true rfl)
  rw [lg_entry_eq]
  generalize (lg_sl ([.ref qX] : List Value) ++ List.replicate (1 - (lg_sl ([.ref qX] : List Value)).length) Slot.unset).toArray = ls at hl ⊢
  have hl : lv_has ls 1 [(0, .ref qX)] := hl
  have hi7 : ∀ w ∈ u_ws RX7 TX7 6, w ∈ wsX7_moves := by decide +kernel
  have hw0 : (Cond.fieldLink RX7 19 "NetPlumber" "history" "LNetPlumber$History;").before #[Value.ref qX] s = true := hts _ (by decide +kernel)
  refine wq (fun Q hQ => ?_)
  unfold kX7_moves at hq
  refine lv_aload_n hx hb dX7_moves_0 rfl (lv_at hl 0 rfl) ?_
  refine va_get (D := G.1) (ci := 7) (v := .ref qH) (C := RX7) (T := TX7) (N := 6) hx hb hts hi7 hown hK hP 0 rfl rfl 1 (by decide) hw0 (fun _ h9 => h9) rfl dX7_moves_1 ?_
  obtain ⟨q1, eq1, hq⟩ := ob hq
  have hPc := hP.sub (ws' := [(qH, .inr (2, [.ref qHM, .int hd, .int hk]))]) [1] rfl
  have hKc := hK
  refine vp_callSi (va_Run.run (va_runV (As := []) (rest := []) ⟨hx, hb, hml, hown, hts⟩ (tX2_done G l eq1) (cwV 0 hts gX7_moves_X2_done rfl rfl rfl (by decide +kernel) ⟨Nat.le_of_ble_eq_true rfl, Nat.le_of_ble_eq_true rfl⟩) ⟨pcP_blind, va_recv hKc hPc (ci := 2) (q0 := 0) rfl rfl, pcP_pre hPc hKK⟩ rfl rfl hl.1 rfl (lv_room (Nat.le_of_ble_eq_true rfl)) dX7_moves_4 ⟨Nat.zero_le _, Nat.zero_le _⟩)) (fun r0 hr0 => ?_)
  obtain rfl := hr0
  obtain rfl := Option.some.inj hq
  rw [hQ]
  exact W.iret hx hb hr (fun t ht hW => ⟨_, rfl, rfl, ht⟩) (fun _ h => absurd h List.not_mem_nil) dX7_moves_7

abbrev rmX7_size : Room := { frames := 1, cells := 0, slots := 0, locals := 20 }
set_option maxHeartbeats 40000000 in
set_option maxRecDepth 100000 in
theorem tX7_size (G : GG) (l : Launch) {qX qB qH qK qV qS qW qBT qBC qBN qBW qBL : Nat} {bn : Int32} {bk : Int32} {bs : Int32} {F : Nat} {r : Int32} (hq : kX7_size F bn = some r) : Met l yX7_size wsX7_size rmX7_size (pcP G [(qX, .inr (7, [.ref qB, .ref qH, .ref qK, .ref qV, .ref qS, .ref qW])), (qB, .inr (0, [.ref qBT, .ref qBC, .ref qBN, .ref qBW, .ref qBL, .int bn, .int bk, .int bs]))] [.ref qX]) (vp_Si (fun x => r = x)) 0 0 (fun _ => False) := by
  refine Met.ofW (cc := cX7_size) (maxL := 1) (ret := (some .int)) (by decide) rfl ?_
  intro p e s m args below meth c s₁ B hml hv
  obtain ⟨rfl, hP, hKK⟩ := hv
  have hK := hKK.1
  have hx := B.exec
  have hb := B.bytes
  have hr := B.returns
  have hts := atoms_spec (ws := wsX7_size) B.pre
  have hown : s.vm.findClass RX7 = some m.cls := findClass_of_methodNamed B.named
  have hlocks := B.notSynchronized
  have hl := lv_entry ([.ref qX] : List Value) (n := 1) (Nat.le_of_ble_eq_true rfl)
  rw [lg_entry_eq]
  generalize (lg_sl ([.ref qX] : List Value) ++ List.replicate (1 - (lg_sl ([.ref qX] : List Value)).length) Slot.unset).toArray = ls at hl ⊢
  have hl : lv_has ls 1 [(0, .ref qX)] := hl
  have hi7 : ∀ w ∈ u_ws RX7 TX7 6, w ∈ wsX7_size := by decide +kernel
  have hw0 : (Cond.fieldLink RX7 10 "NetPlumber" "board" "LNetPlumber$Board;").before #[Value.ref qX] s = true := hts _ (by decide +kernel)
  refine wq (fun Q hQ => ?_)
  unfold kX7_size at hq
  refine lv_aload_n hx hb dX7_size_0 rfl (lv_at hl 0 rfl) ?_
  refine va_get (D := G.1) (ci := 7) (v := .ref qB) (C := RX7) (T := TX7) (N := 6) hx hb hts hi7 hown hK hP 0 rfl rfl 0 (by decide) hw0 (fun _ h9 => h9) rfl dX7_size_1 ?_
  obtain ⟨q1, eq1, hq⟩ := ob hq
  have hPc := hP.sub (ws' := [(qB, .inr (0, [.ref qBT, .ref qBC, .ref qBN, .ref qBW, .ref qBL, .int bn, .int bk, .int bs]))]) [1] rfl
  have hKc := hK
  refine vp_callSi (va_Run.run (va_runV (As := []) (rest := []) ⟨hx, hb, hml, hown, hts⟩ (tX0_count G l eq1) (cwV 0 hts gX7_size_X0_count rfl rfl rfl (by decide +kernel) ⟨Nat.le_of_ble_eq_true rfl, Nat.le_of_ble_eq_true rfl⟩) ⟨pcP_blind, va_recv hKc hPc (ci := 0) (q0 := 0) rfl rfl, pcP_pre hPc hKK⟩ rfl rfl hl.1 rfl (lv_room (Nat.le_of_ble_eq_true rfl)) dX7_size_4 ⟨Nat.zero_le _, Nat.zero_le _⟩)) (fun r0 hr0 => ?_)
  obtain rfl := hr0
  obtain rfl := Option.some.inj hq
  rw [hQ]
  exact W.iret hx hb hr (fun t ht hW => ⟨_, rfl, rfl, ht⟩) (fun _ h => absurd h List.not_mem_nil) dX7_size_7

abbrev rmX7_loose : Room := { frames := 4, cells := 0, slots := 0, locals := 91 }
set_option maxHeartbeats 40000000 in
set_option maxRecDepth 100000 in
theorem tX7_loose (G : GG) (l : Launch) {qX qB qH qK qV qS qW qBT qBC qBN qBW qBL : Nat} {bn : Int32} {bk : Int32} {bs : Int32} {bT : Nat → Int32} {bW : Nat → Int32} {F : Nat} {r : Int32} (hq : kX7_loose F bn bT bW = some r) : Met l yX7_loose wsX7_loose rmX7_loose (pcP G [(qX, .inr (7, [.ref qB, .ref qH, .ref qK, .ref qV, .ref qS, .ref qW])), (qB, .inr (0, [.ref qBT, .ref qBC, .ref qBN, .ref qBW, .ref qBL, .int bn, .int bk, .int bs])), (qBT, .inl (G.2.1, 16, .inl bT)), (qBW, .inl (G.2.1, 64, .inl bW))] [.ref qX]) (vp_Si (fun x => r = x)) 0 0 (fun _ => False) := by
  refine Met.ofW (cc := cX7_loose) (maxL := 1) (ret := (some .int)) (by decide) rfl ?_
  intro p e s m args below meth c s₁ B hml hv
  obtain ⟨rfl, hP, hKK⟩ := hv
  have hK := hKK.1
  have hx := B.exec
  have hb := B.bytes
  have hr := B.returns
  have hts := atoms_spec (ws := wsX7_loose) B.pre
  have hown : s.vm.findClass RX7 = some m.cls := findClass_of_methodNamed B.named
  have hlocks := B.notSynchronized
  have hl := lv_entry ([.ref qX] : List Value) (n := 1) (Nat.le_of_ble_eq_true rfl)
  rw [lg_entry_eq]
  generalize (lg_sl ([.ref qX] : List Value) ++ List.replicate (1 - (lg_sl ([.ref qX] : List Value)).length) Slot.unset).toArray = ls at hl ⊢
  have hl : lv_has ls 1 [(0, .ref qX)] := hl
  have hi7 : ∀ w ∈ u_ws RX7 TX7 6, w ∈ wsX7_loose := by decide +kernel
  have hw0 : (Cond.fieldLink RX7 10 "NetPlumber" "board" "LNetPlumber$Board;").before #[Value.ref qX] s = true := hts _ (by decide +kernel)
  refine wq (fun Q hQ => ?_)
  unfold kX7_loose at hq
  refine lv_aload_n hx hb dX7_loose_0 rfl (lv_at hl 0 rfl) ?_
  refine va_get (D := G.1) (ci := 7) (v := .ref qB) (C := RX7) (T := TX7) (N := 6) hx hb hts hi7 hown hK hP 0 rfl rfl 0 (by decide) hw0 (fun _ h9 => h9) rfl dX7_loose_1 ?_
  obtain ⟨q1, eq1, hq⟩ := ob hq
  have hPc := hP.sub (ws' := [(qB, .inr (0, [.ref qBT, .ref qBC, .ref qBN, .ref qBW, .ref qBL, .int bn, .int bk, .int bs])), (qBT, .inl (G.2.1, 16, .inl bT))]) [1, 2] rfl
  have hKc := hK
  refine vp_callSi (va_Run.run (va_runV (As := []) (rest := []) ⟨hx, hb, hml, hown, hts⟩ (tX0_countOpen G l eq1) (cwV 0 hts gX7_loose_X0_countOpen rfl rfl rfl (by decide +kernel) ⟨Nat.le_of_ble_eq_true rfl, Nat.le_of_ble_eq_true rfl⟩) ⟨pcP_blind, va_recv hKc hPc (ci := 0) (q0 := 0) rfl rfl, pcP_pre hPc hKK⟩ rfl rfl hl.1 rfl (lv_room (Nat.le_of_ble_eq_true rfl)) dX7_loose_4 ⟨Nat.zero_le _, Nat.zero_le _⟩)) (fun r0 hr0 => ?_)
  obtain rfl := hr0
  refine lv_aload_n hx hb dX7_loose_7 rfl (lv_at hl 0 rfl) ?_
  refine va_get (D := G.1) (ci := 7) (v := .ref qB) (C := RX7) (T := TX7) (N := 6) hx hb hts hi7 hown hK hP 0 rfl rfl 0 (by decide) hw0 (fun _ h9 => h9) rfl dX7_loose_8 ?_
  obtain ⟨q2, eq2, hq⟩ := ob hq
  have hPc := hP.sub (ws' := [(qB, .inr (0, [.ref qBT, .ref qBC, .ref qBN, .ref qBW, .ref qBL, .int bn, .int bk, .int bs])), (qBT, .inl (G.2.1, 16, .inl bT)), (qBW, .inl (G.2.1, 64, .inl bW))]) [1, 2, 3] rfl
  have hKc := hK
  refine vp_callSi (va_Run.run (va_runV (As := []) (rest := [.int q1]) ⟨hx, hb, hml, hown, hts⟩ (tX0_countJoined G l eq2) (cwV 0 hts gX7_loose_X0_countJoined rfl rfl rfl (by decide +kernel) ⟨Nat.le_of_ble_eq_true rfl, Nat.le_of_ble_eq_true rfl⟩) ⟨pcP_blind, va_recv hKc hPc (ci := 0) (q0 := 0) rfl rfl, pcP_pre hPc hKK⟩ rfl rfl hl.1 rfl (lv_room (Nat.le_of_ble_eq_true rfl)) dX7_loose_11 ⟨Nat.zero_le _, Nat.zero_le _⟩)) (fun r0 hr0 => ?_)
  obtain rfl := hr0
  refine lv_isub hx hb dX7_loose_14 ?_
  obtain rfl := Option.some.inj hq
  rw [hQ]
  exact W.iret hx hb hr (fun t ht hW => ⟨_, rfl, rfl, ht⟩) (fun _ h => absurd h List.not_mem_nil) dX7_loose_15

abbrev rmX7_watered : Room := { frames := 4, cells := 0, slots := 0, locals := 91 }
set_option maxHeartbeats 40000000 in
set_option maxRecDepth 100000 in
theorem tX7_watered (G : GG) (l : Launch) {qX qB qH qK qV qS qW qBT qBC qBN qBW qBL : Nat} {bn : Int32} {bk : Int32} {bs : Int32} {bT : Nat → Int32} {bW : Nat → Int32} {bL : Nat → Int32} {sz : Nat} {F : Nat} {r : Int32 × (Nat → Int32)} (hq : kX7_watered F bs bT bW bL = some r) : Met l yX7_watered wsX7_watered rmX7_watered (pcW G [(qX, .inr (7, [.ref qB, .ref qH, .ref qK, .ref qV, .ref qS, .ref qW])), (qB, .inr (0, [.ref qBT, .ref qBC, .ref qBN, .ref qBW, .ref qBL, .int bn, .int bk, .int bs])), (qBT, .inl (G.2.1, 16, .inl bT)), (qBW, .inl (G.2.1, 64, .inl bW)), (qBL, .inl (G.2.1, 16, .inl bL))] sz [.ref qX]) (qcI G r.1 [(qX, .inr (7, [.ref qB, .ref qH, .ref qK, .ref qV, .ref qS, .ref qW])), (qB, .inr (0, [.ref qBT, .ref qBC, .ref qBN, .ref qBW, .ref qBL, .int bn, .int bk, .int bs])), (qBT, .inl (G.2.1, 16, .inl bT)), (qBW, .inl (G.2.1, 64, .inl bW)), (qBL, .inl (G.2.1, 16, .inl r.2))] (va_A [(qX, .inr (7, [.ref qB, .ref qH, .ref qK, .ref qV, .ref qS, .ref qW])), (qB, .inr (0, [.ref qBT, .ref qBC, .ref qBN, .ref qBW, .ref qBL, .int bn, .int bk, .int bs])), (qBT, .inl (G.2.1, 16, .inl bT)), (qBW, .inl (G.2.1, 64, .inl bW)), (qBL, .inl (G.2.1, 16, .inl bL))] sz)) 0 0 (va_A [(qX, .inr (7, [.ref qB, .ref qH, .ref qK, .ref qV, .ref qS, .ref qW])), (qB, .inr (0, [.ref qBT, .ref qBC, .ref qBN, .ref qBW, .ref qBL, .int bn, .int bk, .int bs])), (qBT, .inl (G.2.1, 16, .inl bT)), (qBW, .inl (G.2.1, 64, .inl bW)), (qBL, .inl (G.2.1, 16, .inl bL))] sz) := by
  refine Met.ofW (cc := cX7_watered) (maxL := 1) (ret := (some .int)) (by decide) rfl ?_
  intro p e s m args below meth c s₁ B hml hv
  obtain ⟨rfl, hsz, hP, hKK, hD0⟩ := hv
  have hK := hKK.1
  have hx := B.exec
  have hb := B.bytes
  have hr := B.returns
  have hts := atoms_spec (ws := wsX7_watered) B.pre
  have hown : s.vm.findClass RX7 = some m.cls := findClass_of_methodNamed B.named
  have hlocks := B.notSynchronized
  subst hsz
  have hD := hD0.self (sz := s.heap.size)
  generalize hAe : va_A [(qX, .inr (7, [.ref qB, .ref qH, .ref qK, .ref qV, .ref qS, .ref qW])), (qB, .inr (0, [.ref qBT, .ref qBC, .ref qBN, .ref qBW, .ref qBL, .int bn, .int bk, .int bs])), (qBT, .inl (G.2.1, 16, .inl bT)), (qBW, .inl (G.2.1, 64, .inl bW)), (qBL, .inl (G.2.1, 16, .inl bL))] s.heap.size = A at hD ⊢
  have hA : ∀ q : Nat, s.heap.size ≤ q → A q := fun q h => by rw [← hAe]; exact Or.inr h
  have hS : va_S A s.heap s.heap [] := va_S.rf
  have hl := lv_entry ([.ref qX] : List Value) (n := 1) (Nat.le_of_ble_eq_true rfl)
  rw [lg_entry_eq]
  generalize (lg_sl ([.ref qX] : List Value) ++ List.replicate (1 - (lg_sl ([.ref qX] : List Value)).length) Slot.unset).toArray = ls at hl ⊢
  have hl : lv_has ls 1 [(0, .ref qX)] := hl
  have hi7 : ∀ w ∈ u_ws RX7 TX7 6, w ∈ wsX7_watered := by decide +kernel
  have hw0 : (Cond.fieldLink RX7 10 "NetPlumber" "board" "LNetPlumber$Board;").before #[Value.ref qX] s = true := hts _ (by decide +kernel)
  refine wq (fun Q hQ => ?_)
  unfold kX7_watered at hq
  refine lv_aload_n hx hb dX7_watered_0 rfl (lv_at hl 0 rfl) ?_
  refine va_get (D := G.1) (ci := 7) (v := .ref qB) (C := RX7) (T := TX7) (N := 6) hx hb hts hi7 hown hK hP 0 rfl rfl 0 (by decide) hw0 (fun _ h9 => h9) rfl dX7_watered_1 ?_
  refine lv_aload_n hx hb dX7_watered_4 rfl (lv_at hl 0 rfl) ?_
  refine va_get (D := G.1) (ci := 7) (v := .ref qB) (C := RX7) (T := TX7) (N := 6) hx hb hts hi7 hown hK hP 0 rfl rfl 0 (by decide) hw0 (fun _ h9 => h9) rfl dX7_watered_5 ?_
  obtain ⟨q1, eq1, hq⟩ := ob hq
  have hPc := hP.sub (ws' := [(qB, .inr (0, [.ref qBT, .ref qBC, .ref qBN, .ref qBW, .ref qBL, .int bn, .int bk, .int bs]))]) [1] rfl
  have hKc := hK
  refine vp_callSi (va_Run.run (va_runV (As := []) (rest := [.ref qB]) ⟨hx, hb, hml, hown, hts⟩ (tX0_source G l eq1) (cwV 0 hts gX7_watered_X0_source rfl rfl rfl (by decide +kernel) ⟨Nat.le_of_ble_eq_true rfl, Nat.le_of_ble_eq_true rfl⟩) ⟨pcP_blind, va_recv hKc hPc (ci := 0) (q0 := 0) rfl rfl, pcP_pre hPc hKK⟩ rfl rfl hl.1 rfl (lv_room (Nat.le_of_ble_eq_true rfl)) dX7_watered_8 ⟨Nat.zero_le _, Nat.zero_le _⟩)) (fun r0 hr0 => ?_)
  obtain rfl := hr0
  obtain ⟨q2, eq2, hq⟩ := ob hq
  have hPc := hP.sub (ws' := [(qB, .inr (0, [.ref qBT, .ref qBC, .ref qBN, .ref qBW, .ref qBL, .int bn, .int bk, .int bs])), (qBT, .inl (G.2.1, 16, .inl bT)), (qBW, .inl (G.2.1, 64, .inl bW)), (qBL, .inl (G.2.1, 16, .inl bL))]) [1, 2, 3, 4] rfl
  have hKc := hK
  have hDc := hD.sub (ws' := [(qB, .inr (0, [.ref qBT, .ref qBC, .ref qBN, .ref qBW, .ref qBL, .int bn, .int bk, .int bs])), (qBT, .inl (G.2.1, 16, .inl bT)), (qBW, .inl (G.2.1, 64, .inl bW)), (qBL, .inl (G.2.1, 16, .inl bL))]) [1, 2, 3, 4] (by decide) rfl
  have hFc := va_free (wc := [(qB, .inr (0, [.ref qBT, .ref qBC, .ref qBN, .ref qBW, .ref qBL, .int bn, .int bk, .int bs])), (qBT, .inl (G.2.1, 16, .inl bT)), (qBW, .inl (G.2.1, 64, .inl bW)), (qBL, .inl (G.2.1, 16, .inl bL))]) hD hS hA [1, 2, 3, 4] rfl
  refine va_calli (va_runV (As := [.int q1]) (rest := []) ⟨hx, hb, hml, hown, hts⟩ (tX0_reachedFrom G l eq2) (cwV 1 hts gX7_watered_X0_reachedFrom rfl rfl rfl (by decide +kernel) ⟨Nat.le_of_ble_eq_true rfl, Nat.le_of_ble_eq_true rfl⟩) ⟨pcW_blind, va_recv hKc hPc (ci := 0) (q0 := 0) rfl rfl, pcW_pre hPc hKK hDc⟩ rfl rfl hl.1 rfl (lv_room (Nat.le_of_ble_eq_true rfl)) dX7_watered_11 ⟨Nat.zero_le _, Nat.zero_le _⟩) hS (fun q _ h => hFc q h) hFc (fun r0 u t H1 locs ht hvm hw hB hz1 hk1 hS => ?_)
  obtain rfl := hw
  have hB := va_Pto ht hB
  obtain ⟨hP, hD⟩ := jn (ws' := [(qX, .inr (7, [.ref qB, .ref qH, .ref qK, .ref qV, .ref qS, .ref qW])), (qB, .inr (0, [.ref qBT, .ref qBC, .ref qBN, .ref qBW, .ref qBL, .int bn, .int bk, .int bs])), (qBT, .inl (G.2.1, 16, .inl bT)), (qBW, .inl (G.2.1, 64, .inl bW)), (qBL, .inl (G.2.1, 16, .inl q2.2))]) hP hD hk1 hB [1, 2, 3, 4] rfl rfl rfl rfl
  generalize H1 = H at hP hS ⊢
  obtain ⟨q3, eq3, hq⟩ := ob hq
  have hPc := hP.sub (ws' := []) [] rfl
  refine vp_callSi (va_Run.run (va_runS (As := [.int q2.1]) (rest := []) ⟨hx, hb, hml, hown, hts⟩ (tJ6_bitCount_0f7a4 G l eq3) (va_cwS 1 hts gX7_watered_J6_bitCount_0f7a4 rfl rfl rfl (by decide +kernel) ⟨Nat.le_of_ble_eq_true rfl, Nat.le_of_ble_eq_true rfl⟩) ⟨pcP_blind, pcP_pre hPc hKK⟩ rfl rfl hl.1 rfl (lv_room (Nat.le_of_ble_eq_true rfl)) dX7_watered_14 ⟨Nat.zero_le _, Nat.zero_le _⟩)) (fun r0 hr0 => ?_)
  obtain rfl := hr0
  obtain rfl := Option.some.inj hq
  rw [hQ]
  exact W.iret hx hb hr (fun t ht hW => ⟨⟨_, (), rfl, rfl, va_Pat ht hP⟩, hS.F ht⟩) hS.2.2 dX7_watered_17

abbrev rmX7_isSolved : Room := { frames := 4, cells := 0, slots := 0, locals := 91 }
set_option maxHeartbeats 40000000 in
set_option maxRecDepth 100000 in
theorem tX7_isSolved (G : GG) (l : Launch) {qX qB qH qK qV qS qW qBT qBC qBN qBW qBL : Nat} {bn : Int32} {bk : Int32} {bs : Int32} {bT : Nat → Int32} {bW : Nat → Int32} {bL : Nat → Int32} {sz : Nat} {F : Nat} {r : Int32 × (Nat → Int32)} (hq : kX7_isSolved F bn bT bW bL = some r) : Met l yX7_isSolved wsX7_isSolved rmX7_isSolved (pcW G [(qX, .inr (7, [.ref qB, .ref qH, .ref qK, .ref qV, .ref qS, .ref qW])), (qB, .inr (0, [.ref qBT, .ref qBC, .ref qBN, .ref qBW, .ref qBL, .int bn, .int bk, .int bs])), (qBT, .inl (G.2.1, 16, .inl bT)), (qBW, .inl (G.2.1, 64, .inl bW)), (qBL, .inl (G.2.1, 16, .inl bL))] sz [.ref qX]) (qcI G r.1 [(qX, .inr (7, [.ref qB, .ref qH, .ref qK, .ref qV, .ref qS, .ref qW])), (qB, .inr (0, [.ref qBT, .ref qBC, .ref qBN, .ref qBW, .ref qBL, .int bn, .int bk, .int bs])), (qBT, .inl (G.2.1, 16, .inl bT)), (qBW, .inl (G.2.1, 64, .inl bW)), (qBL, .inl (G.2.1, 16, .inl r.2))] (va_A [(qX, .inr (7, [.ref qB, .ref qH, .ref qK, .ref qV, .ref qS, .ref qW])), (qB, .inr (0, [.ref qBT, .ref qBC, .ref qBN, .ref qBW, .ref qBL, .int bn, .int bk, .int bs])), (qBT, .inl (G.2.1, 16, .inl bT)), (qBW, .inl (G.2.1, 64, .inl bW)), (qBL, .inl (G.2.1, 16, .inl bL))] sz)) 0 0 (va_A [(qX, .inr (7, [.ref qB, .ref qH, .ref qK, .ref qV, .ref qS, .ref qW])), (qB, .inr (0, [.ref qBT, .ref qBC, .ref qBN, .ref qBW, .ref qBL, .int bn, .int bk, .int bs])), (qBT, .inl (G.2.1, 16, .inl bT)), (qBW, .inl (G.2.1, 64, .inl bW)), (qBL, .inl (G.2.1, 16, .inl bL))] sz) := by
  refine Met.ofW (cc := cX7_isSolved) (maxL := 2) (ret := (some .boolean)) (by decide) rfl ?_
  intro p e s m args below meth c s₁ B hml hv
  obtain ⟨rfl, hsz, hP, hKK, hD0⟩ := hv
  have hK := hKK.1
  have hx := B.exec
  have hb := B.bytes
  have hr := B.returns
  have hts := atoms_spec (ws := wsX7_isSolved) B.pre
  have hown : s.vm.findClass RX7 = some m.cls := findClass_of_methodNamed B.named
  have hlocks := B.notSynchronized
  subst hsz
  have hD := hD0.self (sz := s.heap.size)
  generalize hAe : va_A [(qX, .inr (7, [.ref qB, .ref qH, .ref qK, .ref qV, .ref qS, .ref qW])), (qB, .inr (0, [.ref qBT, .ref qBC, .ref qBN, .ref qBW, .ref qBL, .int bn, .int bk, .int bs])), (qBT, .inl (G.2.1, 16, .inl bT)), (qBW, .inl (G.2.1, 64, .inl bW)), (qBL, .inl (G.2.1, 16, .inl bL))] s.heap.size = A at hD ⊢
  have hA : ∀ q : Nat, s.heap.size ≤ q → A q := fun q h => by rw [← hAe]; exact Or.inr h
  have hS : va_S A s.heap s.heap [] := va_S.rf
  have hl := lv_entry ([.ref qX] : List Value) (n := 2) (Nat.le_of_ble_eq_true rfl)
  rw [lg_entry_eq]
  generalize (lg_sl ([.ref qX] : List Value) ++ List.replicate (2 - (lg_sl ([.ref qX] : List Value)).length) Slot.unset).toArray = ls at hl ⊢
  have hl : lv_has ls 2 [(0, .ref qX)] := hl
  have hi7 : ∀ w ∈ u_ws RX7 TX7 6, w ∈ wsX7_isSolved := by decide +kernel
  have hw0 : (Cond.fieldLink RX7 10 "NetPlumber" "board" "LNetPlumber$Board;").before #[Value.ref qX] s = true := hts _ (by decide +kernel)
  refine wq (fun Q hQ => ?_)
  unfold kX7_isSolved at hq
  refine lv_aload_n hx hb dX7_isSolved_0 rfl (lv_at hl 0 rfl) ?_
  refine va_get (D := G.1) (ci := 7) (v := .ref qB) (C := RX7) (T := TX7) (N := 6) hx hb hts hi7 hown hK hP 0 rfl rfl 0 (by decide) hw0 (fun _ h9 => h9) rfl dX7_isSolved_1 ?_
  obtain ⟨q1, eq1, hq⟩ := ob hq
  have hPc := hP.sub (ws' := [(qB, .inr (0, [.ref qBT, .ref qBC, .ref qBN, .ref qBW, .ref qBL, .int bn, .int bk, .int bs])), (qBT, .inl (G.2.1, 16, .inl bT)), (qBW, .inl (G.2.1, 64, .inl bW))]) [1, 2, 3] rfl
  have hKc := hK
  refine vp_callSi (va_Run.run (va_runV (As := []) (rest := []) ⟨hx, hb, hml, hown, hts⟩ (tX0_countJoined G l eq1) (cwV 0 hts gX7_isSolved_X0_countJoined rfl rfl rfl (by decide +kernel) ⟨Nat.le_of_ble_eq_true rfl, Nat.le_of_ble_eq_true rfl⟩) ⟨pcP_blind, va_recv hKc hPc (ci := 0) (q0 := 0) rfl rfl, pcP_pre hPc hKK⟩ rfl rfl hl.1 rfl (lv_room (Nat.le_of_ble_eq_true rfl)) dX7_isSolved_4 ⟨Nat.zero_le _, Nat.zero_le _⟩)) (fun r0 hr0 => ?_)
  obtain rfl := hr0
  refine lv_istore_n (lv' := [(1, .int q1), (0, .ref qX)]) hx hb dX7_isSolved_7 rfl hl (by decide) rfl (fun ls hl => ?_)
  refine lv_iload_n hx hb dX7_isSolved_8 rfl (lv_at hl 0 rfl) ?_
  refine lv_aload_n hx hb dX7_isSolved_9 rfl (lv_at hl 1 rfl) ?_
  refine va_get (D := G.1) (ci := 7) (v := .ref qB) (C := RX7) (T := TX7) (N := 6) hx hb hts hi7 hown hK hP 0 rfl rfl 0 (by decide) hw0 (fun _ h9 => h9) rfl dX7_isSolved_10 ?_
  obtain ⟨q2, eq2, hq⟩ := ob hq
  have hPc := hP.sub (ws' := [(qB, .inr (0, [.ref qBT, .ref qBC, .ref qBN, .ref qBW, .ref qBL, .int bn, .int bk, .int bs])), (qBT, .inl (G.2.1, 16, .inl bT))]) [1, 2] rfl
  have hKc := hK
  refine vp_callSi (va_Run.run (va_runV (As := []) (rest := [.int q1]) ⟨hx, hb, hml, hown, hts⟩ (tX0_countOpen G l eq2) (cwV 0 hts gX7_isSolved_X0_countOpen rfl rfl rfl (by decide +kernel) ⟨Nat.le_of_ble_eq_true rfl, Nat.le_of_ble_eq_true rfl⟩) ⟨pcP_blind, va_recv hKc hPc (ci := 0) (q0 := 0) rfl rfl, pcP_pre hPc hKK⟩ rfl rfl hl.1 rfl (lv_room (Nat.le_of_ble_eq_true rfl)) dX7_isSolved_13 ⟨Nat.zero_le _, Nat.zero_le _⟩)) (fun r0 hr0 => ?_)
  obtain rfl := hr0
  refine lv_icmp_ne (tgt := 56) hx hb dX7_isSolved_16 (by decide) (fun c_16 => ?_) (fun c_16 => ?_)
  · have hq := k_f c_16 hq
    refine lv_iconst (v := 0) hx hb dX7_isSolved_56 (by decide) ?_
    obtain rfl := Option.some.inj hq
    rw [hQ]
    exact W.zret hx hb hr rfl (fun t ht hW => ⟨⟨_, (), rfl, rfl, va_Pat ht hP⟩, hS.F ht⟩) hS.2.2 dX7_isSolved_57
  · have hq := k_t c_16 hq
    refine lv_iload_n hx hb dX7_isSolved_19 rfl (lv_at hl 0 rfl) ?_
    refine lv_iconst (v := 2) hx hb dX7_isSolved_20 (by decide) ?_
    refine lv_aload_n hx hb dX7_isSolved_21 rfl (lv_at hl 1 rfl) ?_
    refine va_get (D := G.1) (ci := 7) (v := .ref qB) (C := RX7) (T := TX7) (N := 6) hx hb hts hi7 hown hK hP 0 rfl rfl 0 (by decide) hw0 (fun _ h9 => h9) rfl dX7_isSolved_22 ?_
    obtain ⟨q8, eq8, hq⟩ := ob hq
    have hPc := hP.sub (ws' := [(qB, .inr (0, [.ref qBT, .ref qBC, .ref qBN, .ref qBW, .ref qBL, .int bn, .int bk, .int bs]))]) [1] rfl
    have hKc := hK
    refine vp_callSi (va_Run.run (va_runV (As := []) (rest := [.int 2, .int q1]) ⟨hx, hb, hml, hown, hts⟩ (tX0_count G l eq8) (cwV 0 hts gX7_isSolved_X0_count rfl rfl rfl (by decide +kernel) ⟨Nat.le_of_ble_eq_true rfl, Nat.le_of_ble_eq_true rfl⟩) ⟨pcP_blind, va_recv hKc hPc (ci := 0) (q0 := 0) rfl rfl, pcP_pre hPc hKK⟩ rfl rfl hl.1 rfl (lv_room (Nat.le_of_ble_eq_true rfl)) dX7_isSolved_25 ⟨Nat.zero_le _, Nat.zero_le _⟩)) (fun r0 hr0 => ?_)
    obtain rfl := hr0
    refine lv_iconst (v := 1) hx hb dX7_isSolved_28 (by decide) ?_
    refine lv_isub hx hb dX7_isSolved_29 ?_
    refine lv_imul hx hb dX7_isSolved_30 ?_
    refine lv_icmp_ne (tgt := 56) hx hb dX7_isSolved_31 (by decide) (fun c_31 => ?_) (fun c_31 => ?_)
    · have hq := k_f c_31 hq
      refine lv_iconst (v := 0) hx hb dX7_isSolved_56 (by decide) ?_
      obtain rfl := Option.some.inj hq
      rw [hQ]
      exact W.zret hx hb hr rfl (fun t ht hW => ⟨⟨_, (), rfl, rfl, va_Pat ht hP⟩, hS.F ht⟩) hS.2.2 dX7_isSolved_57
    · have hq := k_t c_31 hq
      refine lv_aload_n hx hb dX7_isSolved_34 rfl (lv_at hl 1 rfl) ?_
      refine va_get (D := G.1) (ci := 7) (v := .ref qB) (C := RX7) (T := TX7) (N := 6) hx hb hts hi7 hown hK hP 0 rfl rfl 0 (by decide) hw0 (fun _ h9 => h9) rfl dX7_isSolved_35 ?_
      refine lv_iconst (v := 0) hx hb dX7_isSolved_38 (by decide) ?_
      obtain ⟨q13, eq13, hq⟩ := ob hq
      have hPc := hP.sub (ws' := [(qB, .inr (0, [.ref qBT, .ref qBC, .ref qBN, .ref qBW, .ref qBL, .int bn, .int bk, .int bs])), (qBT, .inl (G.2.1, 16, .inl bT)), (qBW, .inl (G.2.1, 64, .inl bW)), (qBL, .inl (G.2.1, 16, .inl bL))]) [1, 2, 3, 4] rfl
      have hKc := hK
      have hDc := hD.sub (ws' := [(qB, .inr (0, [.ref qBT, .ref qBC, .ref qBN, .ref qBW, .ref qBL, .int bn, .int bk, .int bs])), (qBT, .inl (G.2.1, 16, .inl bT)), (qBW, .inl (G.2.1, 64, .inl bW)), (qBL, .inl (G.2.1, 16, .inl bL))]) [1, 2, 3, 4] (by decide) rfl
      have hFc := va_free (wc := [(qB, .inr (0, [.ref qBT, .ref qBC, .ref qBN, .ref qBW, .ref qBL, .int bn, .int bk, .int bs])), (qBT, .inl (G.2.1, 16, .inl bT)), (qBW, .inl (G.2.1, 64, .inl bW)), (qBL, .inl (G.2.1, 16, .inl bL))]) hD hS hA [1, 2, 3, 4] rfl
      refine va_calli (va_runV (As := [.int 0]) (rest := []) ⟨hx, hb, hml, hown, hts⟩ (tX0_reachedFrom G l eq13) (cwV 1 hts gX7_isSolved_X0_reachedFrom rfl rfl rfl (by decide +kernel) ⟨Nat.le_of_ble_eq_true rfl, Nat.le_of_ble_eq_true rfl⟩) ⟨pcW_blind, va_recv hKc hPc (ci := 0) (q0 := 0) rfl rfl, pcW_pre hPc hKK hDc⟩ rfl rfl hl.1 rfl (lv_room (Nat.le_of_ble_eq_true rfl)) dX7_isSolved_39 ⟨Nat.zero_le _, Nat.zero_le _⟩) hS (fun q _ h => hFc q h) hFc (fun r0 u t H1 locs ht hvm hw hB hz1 hk1 hS => ?_)
      obtain rfl := hw
      have hB := va_Pto ht hB
      obtain ⟨hP, hD⟩ := jn (ws' := [(qX, .inr (7, [.ref qB, .ref qH, .ref qK, .ref qV, .ref qS, .ref qW])), (qB, .inr (0, [.ref qBT, .ref qBC, .ref qBN, .ref qBW, .ref qBL, .int bn, .int bk, .int bs])), (qBT, .inl (G.2.1, 16, .inl bT)), (qBW, .inl (G.2.1, 64, .inl bW)), (qBL, .inl (G.2.1, 16, .inl q13.2))]) hP hD hk1 hB [1, 2, 3, 4] rfl rfl rfl rfl
      generalize H1 = H at hP hS ⊢
      refine lv_aload_n hx hb dX7_isSolved_42 rfl (lv_at hl 1 rfl) ?_
      refine va_get (D := G.1) (ci := 7) (v := .ref qB) (C := RX7) (T := TX7) (N := 6) hx hb hts hi7 hown hK hP 0 rfl rfl 0 (by decide) hw0 (fun _ h9 => h9) rfl dX7_isSolved_43 ?_
      obtain ⟨q14, eq14, hq⟩ := ob hq
      have hPc := hP.sub (ws' := [(qB, .inr (0, [.ref qBT, .ref qBC, .ref qBN, .ref qBW, .ref qBL, .int bn, .int bk, .int bs]))]) [1] rfl
      have hKc := hK
      refine vp_callSi (va_Run.run (va_runV (As := []) (rest := [.int q13.1]) ⟨hx, hb, hml, hown, hts⟩ (tX0_allCells G l eq14) (cwV 0 hts gX7_isSolved_X0_allCells rfl rfl rfl (by decide +kernel) ⟨Nat.le_of_ble_eq_true rfl, Nat.le_of_ble_eq_true rfl⟩) ⟨pcP_blind, va_recv hKc hPc (ci := 0) (q0 := 0) rfl rfl, pcP_pre hPc hKK⟩ rfl rfl hl.1 rfl (lv_room (Nat.le_of_ble_eq_true rfl)) dX7_isSolved_46 ⟨Nat.zero_le _, Nat.zero_le _⟩)) (fun r0 hr0 => ?_)
      obtain rfl := hr0
      refine lv_icmp_ne (tgt := 56) hx hb dX7_isSolved_49 (by decide) (fun c_49 => ?_) (fun c_49 => ?_)
      · have hq := k_f c_49 hq
        refine lv_iconst (v := 0) hx hb dX7_isSolved_56 (by decide) ?_
        obtain rfl := Option.some.inj hq
        rw [hQ]
        exact W.zret hx hb hr rfl (fun t ht hW => ⟨⟨_, (), rfl, rfl, va_Pat ht hP⟩, hS.F ht⟩) hS.2.2 dX7_isSolved_57
      · have hq := k_t c_49 hq
        refine lv_iconst (v := 1) hx hb dX7_isSolved_52 (by decide) ?_
        refine lv_goto (tgt := 57) hx hb dX7_isSolved_53 (by decide) ?_
        obtain rfl := Option.some.inj hq
        rw [hQ]
        exact W.zret hx hb hr rfl (fun t ht hW => ⟨⟨_, (), rfl, rfl, va_Pat ht hP⟩, hS.F ht⟩) hS.2.2 dX7_isSolved_57

abbrev rmX7_startBoard : Room := { frames := 3, cells := 0, slots := 0, locals := 106 }
set_option maxHeartbeats 40000000 in
set_option maxRecDepth 100000 in
theorem tX7_startBoard (G : GG) (l : Launch) {qX qB qH qK qV qS qW qBT qBC qBN qBW qBL qHM : Nat} {bn : Int32} {bk : Int32} {bs : Int32} {bT : Nat → Int32} {bC : Nat → Int32} {bN : Nat → Int32} {bW : Nat → Int32} {hd : Int32} {hk : Int32} {x1 : Int32} {x2 : Int32} {x3 : Int32} {sz : Nat} {F : Nat} {r : Int32 × Int32 × Int32 × (Nat → Int32) × (Nat → Int32) × (Nat → Int32) × (Nat → Int32) × Int32 × Int32} (hq : kX7_startBoard F bn bk bs bT bC bN bW hd hk x1 x2 x3 = some r) : Met l yX7_startBoard wsX7_startBoard rmX7_startBoard (pcW G [(qX, .inr (7, [.ref qB, .ref qH, .ref qK, .ref qV, .ref qS, .ref qW])), (qB, .inr (0, [.ref qBT, .ref qBC, .ref qBN, .ref qBW, .ref qBL, .int bn, .int bk, .int bs])), (qBT, .inl (G.2.1, 16, .inl bT)), (qBC, .inl (G.2.1, 16, .inl bC)), (qBN, .inl (G.2.1, 64, .inl bN)), (qBW, .inl (G.2.1, 64, .inl bW)), (qH, .inr (2, [.ref qHM, .int hd, .int hk]))] sz [.ref qX, .int x1, .int x2, .int x3]) (qcV G [(qX, .inr (7, [.ref qB, .ref qH, .ref qK, .ref qV, .ref qS, .ref qW])), (qB, .inr (0, [.ref qBT, .ref qBC, .ref qBN, .ref qBW, .ref qBL, .int r.1, .int r.2.1, .int r.2.2.1])), (qBT, .inl (G.2.1, 16, .inl r.2.2.2.1)), (qBC, .inl (G.2.1, 16, .inl r.2.2.2.2.1)), (qBN, .inl (G.2.1, 64, .inl r.2.2.2.2.2.1)), (qBW, .inl (G.2.1, 64, .inl r.2.2.2.2.2.2.1)), (qH, .inr (2, [.ref qHM, .int r.2.2.2.2.2.2.2.1, .int r.2.2.2.2.2.2.2.2]))] (va_A [(qX, .inr (7, [.ref qB, .ref qH, .ref qK, .ref qV, .ref qS, .ref qW])), (qB, .inr (0, [.ref qBT, .ref qBC, .ref qBN, .ref qBW, .ref qBL, .int bn, .int bk, .int bs])), (qBT, .inl (G.2.1, 16, .inl bT)), (qBC, .inl (G.2.1, 16, .inl bC)), (qBN, .inl (G.2.1, 64, .inl bN)), (qBW, .inl (G.2.1, 64, .inl bW)), (qH, .inr (2, [.ref qHM, .int hd, .int hk]))] sz)) 0 0 (va_A [(qX, .inr (7, [.ref qB, .ref qH, .ref qK, .ref qV, .ref qS, .ref qW])), (qB, .inr (0, [.ref qBT, .ref qBC, .ref qBN, .ref qBW, .ref qBL, .int bn, .int bk, .int bs])), (qBT, .inl (G.2.1, 16, .inl bT)), (qBC, .inl (G.2.1, 16, .inl bC)), (qBN, .inl (G.2.1, 64, .inl bN)), (qBW, .inl (G.2.1, 64, .inl bW)), (qH, .inr (2, [.ref qHM, .int hd, .int hk]))] sz) := by
  refine Met.ofW (cc := cX7_startBoard) (maxL := 4) (ret := none) (by decide) rfl ?_
  intro p e s m args below meth c s₁ B hml hv
  obtain ⟨rfl, hsz, hP, hKK, hD0⟩ := hv
  have hK := hKK.1
  have hx := B.exec
  have hb := B.bytes
  have hr := B.returns
  have hts := atoms_spec (ws := wsX7_startBoard) B.pre
  have hown : s.vm.findClass RX7 = some m.cls := findClass_of_methodNamed B.named
  have hlocks := B.notSynchronized
  subst hsz
  have hD := hD0.self (sz := s.heap.size)
  generalize hAe : va_A [(qX, .inr (7, [.ref qB, .ref qH, .ref qK, .ref qV, .ref qS, .ref qW])), (qB, .inr (0, [.ref qBT, .ref qBC, .ref qBN, .ref qBW, .ref qBL, .int bn, .int bk, .int bs])), (qBT, .inl (G.2.1, 16, .inl bT)), (qBC, .inl (G.2.1, 16, .inl bC)), (qBN, .inl (G.2.1, 64, .inl bN)), (qBW, .inl (G.2.1, 64, .inl bW)), (qH, .inr (2, [.ref qHM, .int hd, .int hk]))] s.heap.size = A at hD ⊢
  have hA : ∀ q : Nat, s.heap.size ≤ q → A q := fun q h => by rw [← hAe]; exact Or.inr h
  have hS : va_S A s.heap s.heap [] := va_S.rf
  have hl := lv_entry ([.ref qX, .int x1, .int x2, .int x3] : List Value) (n := 4) (Nat.le_of_ble_eq_true rfl)
  rw [lg_entry_eq]
  generalize (lg_sl ([.ref qX, .int x1, .int x2, .int x3] : List Value) ++ List.replicate (4 - (lg_sl ([.ref qX, .int x1, .int x2, .int x3] : List Value)).length) Slot.unset).toArray = ls at hl ⊢
  have hl : lv_has ls 4 [(0, .ref qX), (1, .int x1), (2, .int x2), (3, .int x3)] := hl
  have hi7 : ∀ w ∈ u_ws RX7 TX7 6, w ∈ wsX7_startBoard := by decide +kernel
  have hw0 : (Cond.fieldLink RX7 10 "NetPlumber" "board" "LNetPlumber$Board;").before #[Value.ref qX, Value.int x1, Value.int x2, Value.int x3] s = true := hts _ (by decide +kernel)
  have hw1 : (Cond.fieldLink RX7 19 "NetPlumber" "history" "LNetPlumber$History;").before #[Value.ref qX, Value.int x1, Value.int x2, Value.int x3] s = true := hts _ (by decide +kernel)
  refine wq (fun Q hQ => ?_)
  unfold kX7_startBoard at hq
  refine lv_aload_n hx hb dX7_startBoard_0 rfl (lv_at hl 0 rfl) ?_
  refine va_get (D := G.1) (ci := 7) (v := .ref qB) (C := RX7) (T := TX7) (N := 6) hx hb hts hi7 hown hK hP 0 rfl rfl 0 (by decide) hw0 (fun _ h9 => h9) rfl dX7_startBoard_1 ?_
  refine lv_iload_n hx hb dX7_startBoard_4 rfl (lv_at hl 1 rfl) ?_
  refine lv_iload_n hx hb dX7_startBoard_5 rfl (lv_at hl 2 rfl) ?_
  refine lv_iload_n hx hb dX7_startBoard_6 rfl (lv_at hl 3 rfl) ?_
  obtain ⟨q1, eq1, hq⟩ := ob hq
  have hPc := hP.sub (ws' := [(qB, .inr (0, [.ref qBT, .ref qBC, .ref qBN, .ref qBW, .ref qBL, .int bn, .int bk, .int bs])), (qBT, .inl (G.2.1, 16, .inl bT)), (qBC, .inl (G.2.1, 16, .inl bC)), (qBN, .inl (G.2.1, 64, .inl bN)), (qBW, .inl (G.2.1, 64, .inl bW))]) [1, 2, 3, 4, 5] rfl
  have hKc := hK
  have hDc := hD.sub (ws' := [(qB, .inr (0, [.ref qBT, .ref qBC, .ref qBN, .ref qBW, .ref qBL, .int bn, .int bk, .int bs])), (qBT, .inl (G.2.1, 16, .inl bT)), (qBC, .inl (G.2.1, 16, .inl bC)), (qBN, .inl (G.2.1, 64, .inl bN)), (qBW, .inl (G.2.1, 64, .inl bW))]) [1, 2, 3, 4, 5] (by decide) rfl
  have hFc := va_free (wc := [(qB, .inr (0, [.ref qBT, .ref qBC, .ref qBN, .ref qBW, .ref qBL, .int bn, .int bk, .int bs])), (qBT, .inl (G.2.1, 16, .inl bT)), (qBC, .inl (G.2.1, 16, .inl bC)), (qBN, .inl (G.2.1, 64, .inl bN)), (qBW, .inl (G.2.1, 64, .inl bW))]) hD hS hA [1, 2, 3, 4, 5] rfl
  refine va_callv (va_runV (As := [.int x1, .int x2, .int x3]) (rest := []) ⟨hx, hb, hml, hown, hts⟩ (tX0_clear G l eq1) (cwV 3 hts gX7_startBoard_X0_clear rfl rfl rfl (by decide +kernel) ⟨Nat.le_of_ble_eq_true rfl, Nat.le_of_ble_eq_true rfl⟩) ⟨pcW_blind, va_recv hKc hPc (ci := 0) (q0 := 0) rfl rfl, pcW_pre hPc hKK hDc⟩ rfl rfl hl.1 rfl (lv_room (Nat.le_of_ble_eq_true rfl)) dX7_startBoard_7 ⟨Nat.zero_le _, Nat.zero_le _⟩) hS (fun q _ h => hFc q h) hFc (fun u t H1 locs ht hvm hw hB hz1 hk1 hS => ?_)
  have hB := va_Pto ht hB
  obtain ⟨hP, hD⟩ := jn (ws' := [(qX, .inr (7, [.ref qB, .ref qH, .ref qK, .ref qV, .ref qS, .ref qW])), (qB, .inr (0, [.ref qBT, .ref qBC, .ref qBN, .ref qBW, .ref qBL, .int q1.1, .int q1.2.1, .int q1.2.2.1])), (qBT, .inl (G.2.1, 16, .inl q1.2.2.2.1)), (qBC, .inl (G.2.1, 16, .inl q1.2.2.2.2.1)), (qBN, .inl (G.2.1, 64, .inl q1.2.2.2.2.2.1)), (qBW, .inl (G.2.1, 64, .inl q1.2.2.2.2.2.2)), (qH, .inr (2, [.ref qHM, .int hd, .int hk]))]) hP hD hk1 hB [1, 2, 3, 4, 5] rfl rfl rfl rfl
  generalize H1 = H at hP hS ⊢
  refine lv_aload_n hx hb dX7_startBoard_10 rfl (lv_at hl 0 rfl) ?_
  refine va_get (D := G.1) (ci := 7) (v := .ref qH) (C := RX7) (T := TX7) (N := 6) hx hb hts hi7 hown hK hP 0 rfl rfl 1 (by decide) hw1 (fun _ h9 => h9) rfl dX7_startBoard_11 ?_
  obtain ⟨q2, eq2, hq⟩ := ob hq
  have hPc := hP.sub (ws' := [(qH, .inr (2, [.ref qHM, .int hd, .int hk]))]) [6] rfl
  have hKc := hK
  have hDc := hD.sub (ws' := [(qH, .inr (2, [.ref qHM, .int hd, .int hk]))]) [6] (by decide) rfl
  have hFc := va_free (wc := [(qH, .inr (2, [.ref qHM, .int hd, .int hk]))]) hD hS hA [6] rfl
  refine va_callv (va_runV (As := []) (rest := []) ⟨hx, hb, hml, hown, hts⟩ (tX2_forget G l eq2) (cwV 0 hts gX7_startBoard_X2_forget rfl rfl rfl (by decide +kernel) ⟨Nat.le_of_ble_eq_true rfl, Nat.le_of_ble_eq_true rfl⟩) ⟨pcW_blind, va_recv hKc hPc (ci := 2) (q0 := 0) rfl rfl, pcW_pre hPc hKK hDc⟩ rfl rfl hl.1 rfl (lv_room (Nat.le_of_ble_eq_true rfl)) dX7_startBoard_14 ⟨Nat.zero_le _, Nat.zero_le _⟩) hS (fun q _ h => hFc q h) hFc (fun u t H1 locs ht hvm hw hB hz1 hk1 hS => ?_)
  have hB := va_Pto ht hB
  obtain ⟨hP, hD⟩ := jn (ws' := [(qX, .inr (7, [.ref qB, .ref qH, .ref qK, .ref qV, .ref qS, .ref qW])), (qB, .inr (0, [.ref qBT, .ref qBC, .ref qBN, .ref qBW, .ref qBL, .int q1.1, .int q1.2.1, .int q1.2.2.1])), (qBT, .inl (G.2.1, 16, .inl q1.2.2.2.1)), (qBC, .inl (G.2.1, 16, .inl q1.2.2.2.2.1)), (qBN, .inl (G.2.1, 64, .inl q1.2.2.2.2.2.1)), (qBW, .inl (G.2.1, 64, .inl q1.2.2.2.2.2.2)), (qH, .inr (2, [.ref qHM, .int q2.1, .int q2.2]))]) hP hD hk1 hB [6] rfl rfl rfl rfl
  generalize H1 = H at hP hS ⊢
  obtain rfl := Option.some.inj hq
  rw [hQ]
  exact W.vret hx hb hr (fun t ht hW => ⟨⟨(), rfl, trivial, va_Pat ht hP⟩, hS.F ht⟩) hS.2.2 dX7_startBoard_17
