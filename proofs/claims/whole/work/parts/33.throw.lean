/-! methods that throw (laid by wip/whole/gen.py) -/
def kX7_requireBoard (F : Nat) (x1 : Int32) (x2 : Int32) (x3 : Int32) : Option ((Unit) ⊕ (Nat)) :=
  ((kX0_allows F x1 x2 x3).bind fun q1 => (if q1 = 0 then some (.inr 0) else some (.inl ())))
abbrev rmX7_requireBoard : Room := { frames := 8, cells := 1, slots := 6, locals := 120 }
set_option maxHeartbeats 40000000 in
set_option maxRecDepth 100000 in
theorem tX7_requireBoard (G : GG) (l : Launch) (hfl : l.stackTraces = false) {qX qB qH qK qV qS qW : Nat} {x1 : Int32} {x2 : Int32} {x3 : Int32} {sz : Nat} {F : Nat} {r : (Unit) ⊕ (Nat)} (hq : kX7_requireBoard F x1 x2 x3 = some r) : vx_Met l yX7_requireBoard wsX7_requireBoard rmX7_requireBoard (pcX G [(qX, .inr (7, [.ref qB, .ref qH, .ref qK, .ref qV, .ref qS, .ref qW]))] sz [.ref qX, .int x1, .int x2, .int x3]) (qxV G r (fun u => [(qX, .inr (7, [.ref qB, .ref qH, .ref qK, .ref qV, .ref qS, .ref qW]))]) (va_A [(qX, .inr (7, [.ref qB, .ref qH, .ref qK, .ref qV, .ref qS, .ref qW]))] sz)) (xcX G r (fun u => u) (fun u => [(qX, .inr (7, [.ref qB, .ref qH, .ref qK, .ref qV, .ref qS, .ref qW]))]) (va_A [(qX, .inr (7, [.ref qB, .ref qH, .ref qK, .ref qV, .ref qS, .ref qW]))] sz)) 1 6 (va_A [(qX, .inr (7, [.ref qB, .ref qH, .ref qK, .ref qV, .ref qS, .ref qW]))] sz) := by
  refine vx_ofW (cc := cX7_requireBoard) (maxL := 4) (ret := none) (by decide) rfl ?_
  intro p e s m args below meth c s₁ B hml hno hv
  obtain ⟨rfl, hsz, hP, hKK, hD0, hT⟩ := hv
  have hK := hKK.1
  have hx := B.exec
  have hb := B.bytes
  have hr := B.returns
  have hts := atoms_spec (ws := wsX7_requireBoard) B.pre
  have hown : s.vm.findClass RX7 = some m.cls := findClass_of_methodNamed B.named
  have hlocks := B.notSynchronized
  subst hsz
  have hD := hD0.self (sz := s.heap.size)
  generalize hAe : va_A [(qX, .inr (7, [.ref qB, .ref qH, .ref qK, .ref qV, .ref qS, .ref qW]))] s.heap.size = A at hD hT ⊢
  have hA : ∀ q : Nat, s.heap.size ≤ q → A q := fun q h => by rw [← hAe]; exact Or.inr h
  have hS : va_S A s.heap s.heap [] := va_S.rf
  have hl := lv_entry ([.ref qX, .int x1, .int x2, .int x3] : List Value) (n := 4) (Nat.le_of_ble_eq_true rfl)
  rw [lg_entry_eq]
  generalize (lg_sl ([.ref qX, .int x1, .int x2, .int x3] : List Value) ++ List.replicate (4 - (lg_sl ([.ref qX, .int x1, .int x2, .int x3] : List Value)).length) Slot.unset).toArray = ls at hl ⊢
  have hl : lv_has ls 4 [(0, .ref qX), (1, .int x1), (2, .int x2), (3, .int x3)] := hl
  have hw0 : (Cond.classLink RX7 70 "java/lang/IllegalArgumentException").before #[Value.ref qX, Value.int x1, Value.int x2, Value.int x3] s = true := hts _ (by decide +kernel)
  have hw1 : (Cond.initialized "java/lang/IllegalArgumentException").before #[Value.ref qX, Value.int x1, Value.int x2, Value.int x3] s = true := hts _ (by decide +kernel)
  refine wq (fun Q hQ => ?_)
  unfold kX7_requireBoard at hq
  refine lv_iload_n hx hb dX7_requireBoard_0 rfl (lv_at hl 1 rfl) ?_
  refine lv_iload_n hx hb dX7_requireBoard_1 rfl (lv_at hl 2 rfl) ?_
  refine lv_iload_n hx hb dX7_requireBoard_2 rfl (lv_at hl 3 rfl) ?_
  obtain ⟨q1, eq1, hq⟩ := ob hq
  have hPc := hP.sub (ws' := []) [] rfl
  refine vp_callSi (va_Run.run (va_runS (As := [.int x1, .int x2, .int x3]) (rest := []) ⟨hx, hb, hml, hown, hts⟩ (tX0_allows G l eq1) (va_cwS 3 hts gX7_requireBoard_X0_allows rfl rfl rfl (by decide +kernel) ⟨Nat.le_of_ble_eq_true rfl, Nat.le_of_ble_eq_true rfl⟩) ⟨pcP_blind, pcP_pre hPc hKK⟩ rfl rfl hl.1 rfl (lv_room (Nat.le_of_ble_eq_true rfl)) dX7_requireBoard_3 ⟨Nat.le_of_ble_eq_true rfl, Nat.le_of_ble_eq_true rfl⟩)) (fun r0 hr0 => ?_)
  obtain rfl := hr0
  refine lv_if_ne (tgt := 19) hx hb dX7_requireBoard_6 (by decide) (fun c_6 => ?_) (fun c_6 => ?_)
  · have hq := k_f c_6 hq
    obtain rfl := Option.some.inj hq
    rw [hQ]
    refine vx_ret ?_
    refine W.widen (k := 1) (n := 6) (Nat.le_of_ble_eq_true rfl) (Nat.le_of_ble_eq_true rfl) ?_
    exact W.vret hx hb hr (fun t ht hW => ⟨⟨_, rfl, rfl, va_Pat ht hP⟩, hS.F ht⟩) hS.2.2 dX7_requireBoard_19
  · have hq := k_t c_6 hq
    obtain rfl := Option.some.inj hq
    rw [hQ]
    obtain ⟨sa, hsa⟩ := hT.2.2.1 (205, "there is no board of this width and height") (List.mem_of_getElem? (i := 8) rfl)
    have hat : ∀ w ∈ vx_atS RX7 74 "java/lang/IllegalArgumentException" ["java/lang/RuntimeException", "java/lang/Exception"], w.before ([.ref qX, .int x1, .int x2, .int x3] : List Value).toArray s = true := vx_hat (B := thB 0) (fun w h => hts w (by first | exact List.mem_cons_of_mem _ (List.mem_append_right _ h) | exact (show w ∈ wsX7_requireBoard from by have h2 := h; revert h2; revert w; decide +kernel))) (by decide +kernel) (hT.bad (by decide))
    exact vx_throwS hx hb hfl (own := RX7) (cls := "java/lang/IllegalArgumentException") (text := "there is no board of this width and height") (names := ["java/lang/RuntimeException", "java/lang/Exception"]) hown (by decide +kernel) (by decide +kernel) hw0 hw1 hsa hat (by decide +kernel) hT.1 hT.2.1 hS (hl.1.trans hml.symm) dX7_requireBoard_9 dX7_requireBoard_12 dX7_requireBoard_13 dX7_requireBoard_15 dX7_requireBoard_18 (fun x h => (hno x h).elim) (Nat.le_of_ble_eq_true rfl) (Nat.le_of_ble_eq_true rfl) (Nat.le_of_ble_eq_true rfl) (Nat.le_of_ble_eq_true rfl) hlocks (fun t hW hsz hk => ⟨_, rfl, ⟨rfl, thP hP hk⟩, thF hS hsz hk⟩) hS.2.2 (Nat.le_of_ble_eq_true rfl) (Nat.le_of_ble_eq_true rfl)

def kX7_requireCell (F : Nat) (bn : Int32) (x1 : Int32) : Option ((Unit) ⊕ (Nat)) :=
  ((kX0_has F bn x1).bind fun q1 => (if q1 = 0 then some (.inr 1) else some (.inl ())))
abbrev rmX7_requireCell : Room := { frames := 8, cells := 1, slots := 6, locals := 120 }
set_option maxHeartbeats 40000000 in
set_option maxRecDepth 100000 in
theorem tX7_requireCell (G : GG) (l : Launch) (hfl : l.stackTraces = false) {qX qB qH qK qV qS qW qBT qBC qBN qBW qBL : Nat} {bn : Int32} {bk : Int32} {bs : Int32} {x1 : Int32} {sz : Nat} {F : Nat} {r : (Unit) ⊕ (Nat)} (hq : kX7_requireCell F bn x1 = some r) : vx_Met l yX7_requireCell wsX7_requireCell rmX7_requireCell (pcX G [(qX, .inr (7, [.ref qB, .ref qH, .ref qK, .ref qV, .ref qS, .ref qW])), (qB, .inr (0, [.ref qBT, .ref qBC, .ref qBN, .ref qBW, .ref qBL, .int bn, .int bk, .int bs]))] sz [.ref qX, .int x1]) (qxV G r (fun u => [(qX, .inr (7, [.ref qB, .ref qH, .ref qK, .ref qV, .ref qS, .ref qW])), (qB, .inr (0, [.ref qBT, .ref qBC, .ref qBN, .ref qBW, .ref qBL, .int bn, .int bk, .int bs]))]) (va_A [(qX, .inr (7, [.ref qB, .ref qH, .ref qK, .ref qV, .ref qS, .ref qW])), (qB, .inr (0, [.ref qBT, .ref qBC, .ref qBN, .ref qBW, .ref qBL, .int bn, .int bk, .int bs]))] sz)) (xcX G r (fun u => u) (fun u => [(qX, .inr (7, [.ref qB, .ref qH, .ref qK, .ref qV, .ref qS, .ref qW])), (qB, .inr (0, [.ref qBT, .ref qBC, .ref qBN, .ref qBW, .ref qBL, .int bn, .int bk, .int bs]))]) (va_A [(qX, .inr (7, [.ref qB, .ref qH, .ref qK, .ref qV, .ref qS, .ref qW])), (qB, .inr (0, [.ref qBT, .ref qBC, .ref qBN, .ref qBW, .ref qBL, .int bn, .int bk, .int bs]))] sz)) 1 6 (va_A [(qX, .inr (7, [.ref qB, .ref qH, .ref qK, .ref qV, .ref qS, .ref qW])), (qB, .inr (0, [.ref qBT, .ref qBC, .ref qBN, .ref qBW, .ref qBL, .int bn, .int bk, .int bs]))] sz) := by
  refine vx_ofW (cc := cX7_requireCell) (maxL := 2) (ret := none) (by decide) rfl ?_
  intro p e s m args below meth c s₁ B hml hno hv
  obtain ⟨rfl, hsz, hP, hKK, hD0, hT⟩ := hv
  have hK := hKK.1
  have hx := B.exec
  have hb := B.bytes
  have hr := B.returns
  have hts := atoms_spec (ws := wsX7_requireCell) B.pre
  have hown : s.vm.findClass RX7 = some m.cls := findClass_of_methodNamed B.named
  have hlocks := B.notSynchronized
  subst hsz
  have hD := hD0.self (sz := s.heap.size)
  generalize hAe : va_A [(qX, .inr (7, [.ref qB, .ref qH, .ref qK, .ref qV, .ref qS, .ref qW])), (qB, .inr (0, [.ref qBT, .ref qBC, .ref qBN, .ref qBW, .ref qBL, .int bn, .int bk, .int bs]))] s.heap.size = A at hD hT ⊢
  have hA : ∀ q : Nat, s.heap.size ≤ q → A q := fun q h => by rw [← hAe]; exact Or.inr h
  have hS : va_S A s.heap s.heap [] := va_S.rf
  have hl := lv_entry ([.ref qX, .int x1] : List Value) (n := 2) (Nat.le_of_ble_eq_true rfl)
  rw [lg_entry_eq]
  generalize (lg_sl ([.ref qX, .int x1] : List Value) ++ List.replicate (2 - (lg_sl ([.ref qX, .int x1] : List Value)).length) Slot.unset).toArray = ls at hl ⊢
  have hl : lv_has ls 2 [(0, .ref qX), (1, .int x1)] := hl
  have hi7 : ∀ w ∈ u_ws RX7 TX7 6, w ∈ wsX7_requireCell := by decide +kernel
  have hw0 : (Cond.fieldLink RX7 10 "NetPlumber" "board" "LNetPlumber$Board;").before #[Value.ref qX, Value.int x1] s = true := hts _ (by decide +kernel)
  have hw1 : (Cond.classLink RX7 210 "java/lang/IndexOutOfBoundsException").before #[Value.ref qX, Value.int x1] s = true := hts _ (by decide +kernel)
  have hw2 : (Cond.initialized "java/lang/IndexOutOfBoundsException").before #[Value.ref qX, Value.int x1] s = true := hts _ (by decide +kernel)
  refine wq (fun Q hQ => ?_)
  unfold kX7_requireCell at hq
  refine lv_aload_n hx hb dX7_requireCell_0 rfl (lv_at hl 0 rfl) ?_
  refine va_get (D := G.1) (ci := 7) (v := .ref qB) (C := RX7) (T := TX7) (N := 6) hx hb hts hi7 hown hK hP 0 rfl rfl 0 (by decide) hw0 (fun _ h9 => h9) rfl dX7_requireCell_1 ?_
  refine lv_iload_n hx hb dX7_requireCell_4 rfl (lv_at hl 1 rfl) ?_
  obtain ⟨q1, eq1, hq⟩ := ob hq
  have hPc := hP.sub (ws' := [(qB, .inr (0, [.ref qBT, .ref qBC, .ref qBN, .ref qBW, .ref qBL, .int bn, .int bk, .int bs]))]) [1] rfl
  have hKc := hK
  refine vp_callSi (va_Run.run (va_runV (As := [.int x1]) (rest := []) ⟨hx, hb, hml, hown, hts⟩ (tX0_has G l eq1) (cwV 1 hts gX7_requireCell_X0_has rfl rfl rfl (by decide +kernel) ⟨Nat.le_of_ble_eq_true rfl, Nat.le_of_ble_eq_true rfl⟩) ⟨pcP_blind, va_recv hKc hPc (ci := 0) (q0 := 0) rfl rfl, pcP_pre hPc hKK⟩ rfl rfl hl.1 rfl (lv_room (Nat.le_of_ble_eq_true rfl)) dX7_requireCell_5 ⟨Nat.le_of_ble_eq_true rfl, Nat.le_of_ble_eq_true rfl⟩)) (fun r0 hr0 => ?_)
  obtain rfl := hr0
  refine lv_if_ne (tgt := 21) hx hb dX7_requireCell_8 (by decide) (fun c_8 => ?_) (fun c_8 => ?_)
  · have hq := k_f c_8 hq
    obtain rfl := Option.some.inj hq
    rw [hQ]
    refine vx_ret ?_
    refine W.widen (k := 1) (n := 6) (Nat.le_of_ble_eq_true rfl) (Nat.le_of_ble_eq_true rfl) ?_
    exact W.vret hx hb hr (fun t ht hW => ⟨⟨_, rfl, rfl, va_Pat ht hP⟩, hS.F ht⟩) hS.2.2 dX7_requireCell_21
  · have hq := k_t c_8 hq
    obtain rfl := Option.some.inj hq
    rw [hQ]
    obtain ⟨sa, hsa⟩ := hT.2.2.1 (212, "there is no such cell") (List.mem_of_getElem? (i := 9) rfl)
    have hat : ∀ w ∈ vx_atS RX7 214 "java/lang/IndexOutOfBoundsException" ["java/lang/RuntimeException", "java/lang/Exception"], w.before ([.ref qX, .int x1] : List Value).toArray s = true := vx_hat (B := thB 1) (fun w h => hts w (by first | exact List.mem_cons_of_mem _ (List.mem_append_right _ h) | exact (show w ∈ wsX7_requireCell from by have h2 := h; revert h2; revert w; decide +kernel))) (by decide +kernel) (hT.bad (by decide))
    exact vx_throwS hx hb hfl (own := RX7) (cls := "java/lang/IndexOutOfBoundsException") (text := "there is no such cell") (names := ["java/lang/RuntimeException", "java/lang/Exception"]) hown (by decide +kernel) (by decide +kernel) hw1 hw2 hsa hat (by decide +kernel) hT.1 hT.2.1 hS (hl.1.trans hml.symm) dX7_requireCell_11 dX7_requireCell_14 dX7_requireCell_15 dX7_requireCell_17 dX7_requireCell_20 (fun x h => (hno x h).elim) (Nat.le_of_ble_eq_true rfl) (Nat.le_of_ble_eq_true rfl) (Nat.le_of_ble_eq_true rfl) (Nat.le_of_ble_eq_true rfl) hlocks (fun t hW hsz hk => ⟨_, rfl, ⟨rfl, thP hP hk⟩, thF hS hsz hk⟩) hS.2.2 (Nat.le_of_ble_eq_true rfl) (Nat.le_of_ble_eq_true rfl)

def kX7_requireSide (F : Nat) (x1 : Int32) : Option ((Unit) ⊕ (Nat)) :=
  (if x1 < 0 then some (.inr 1) else (if x1 ≤ 3 then some (.inl ()) else some (.inr 1)))
abbrev rmX7_requireSide : Room := { frames := 8, cells := 1, slots := 6, locals := 120 }
set_option maxHeartbeats 40000000 in
set_option maxRecDepth 100000 in
theorem tX7_requireSide (G : GG) (l : Launch) (hfl : l.stackTraces = false) {qX qB qH qK qV qS qW : Nat} {x1 : Int32} {sz : Nat} {F : Nat} {r : (Unit) ⊕ (Nat)} (hq : kX7_requireSide F x1 = some r) : vx_Met l yX7_requireSide wsX7_requireSide rmX7_requireSide (pcX G [(qX, .inr (7, [.ref qB, .ref qH, .ref qK, .ref qV, .ref qS, .ref qW]))] sz [.ref qX, .int x1]) (qxV G r (fun u => [(qX, .inr (7, [.ref qB, .ref qH, .ref qK, .ref qV, .ref qS, .ref qW]))]) (va_A [(qX, .inr (7, [.ref qB, .ref qH, .ref qK, .ref qV, .ref qS, .ref qW]))] sz)) (xcX G r (fun u => u) (fun u => [(qX, .inr (7, [.ref qB, .ref qH, .ref qK, .ref qV, .ref qS, .ref qW]))]) (va_A [(qX, .inr (7, [.ref qB, .ref qH, .ref qK, .ref qV, .ref qS, .ref qW]))] sz)) 1 6 (va_A [(qX, .inr (7, [.ref qB, .ref qH, .ref qK, .ref qV, .ref qS, .ref qW]))] sz) := by
  refine vx_ofW (cc := cX7_requireSide) (maxL := 2) (ret := none) (by decide) rfl ?_
  intro p e s m args below meth c s₁ B hml hno hv
  obtain ⟨rfl, hsz, hP, hKK, hD0, hT⟩ := hv
  have hK := hKK.1
  have hx := B.exec
  have hb := B.bytes
  have hr := B.returns
  have hts := atoms_spec (ws := wsX7_requireSide) B.pre
  have hown : s.vm.findClass RX7 = some m.cls := findClass_of_methodNamed B.named
  have hlocks := B.notSynchronized
  subst hsz
  have hD := hD0.self (sz := s.heap.size)
  generalize hAe : va_A [(qX, .inr (7, [.ref qB, .ref qH, .ref qK, .ref qV, .ref qS, .ref qW]))] s.heap.size = A at hD hT ⊢
  have hA : ∀ q : Nat, s.heap.size ≤ q → A q := fun q h => by rw [← hAe]; exact Or.inr h
  have hS : va_S A s.heap s.heap [] := va_S.rf
  have hl := lv_entry ([.ref qX, .int x1] : List Value) (n := 2) (Nat.le_of_ble_eq_true rfl)
  rw [lg_entry_eq]
  generalize (lg_sl ([.ref qX, .int x1] : List Value) ++ List.replicate (2 - (lg_sl ([.ref qX, .int x1] : List Value)).length) Slot.unset).toArray = ls at hl ⊢
  have hl : lv_has ls 2 [(0, .ref qX), (1, .int x1)] := hl
  have hw0 : (Cond.classLink RX7 210 "java/lang/IndexOutOfBoundsException").before #[Value.ref qX, Value.int x1] s = true := hts _ (by decide +kernel)
  have hw1 : (Cond.initialized "java/lang/IndexOutOfBoundsException").before #[Value.ref qX, Value.int x1] s = true := hts _ (by decide +kernel)
  refine wq (fun Q hQ => ?_)
  unfold kX7_requireSide at hq
  refine lv_iload_n hx hb dX7_requireSide_0 rfl (lv_at hl 1 rfl) ?_
  refine lv_if_lt (tgt := 9) hx hb dX7_requireSide_1 (by decide) (fun c_1 => ?_) (fun c_1 => ?_)
  · have hq := k_t c_1 hq
    obtain rfl := Option.some.inj hq
    rw [hQ]
    obtain ⟨sa, hsa⟩ := hT.2.2.1 (215, "there is no such side") (List.mem_of_getElem? (i := 10) rfl)
    have hat : ∀ w ∈ vx_atS RX7 214 "java/lang/IndexOutOfBoundsException" ["java/lang/RuntimeException", "java/lang/Exception"], w.before ([.ref qX, .int x1] : List Value).toArray s = true := vx_hat (B := thB 1) (fun w h => hts w (by first | exact List.mem_cons_of_mem _ (List.mem_append_right _ h) | exact (show w ∈ wsX7_requireSide from by have h2 := h; revert h2; revert w; decide +kernel))) (by decide +kernel) (hT.bad (by decide))
    exact vx_throwS hx hb hfl (own := RX7) (cls := "java/lang/IndexOutOfBoundsException") (text := "there is no such side") (names := ["java/lang/RuntimeException", "java/lang/Exception"]) hown (by decide +kernel) (by decide +kernel) hw0 hw1 hsa hat (by decide +kernel) hT.1 hT.2.1 hS (hl.1.trans hml.symm) dX7_requireSide_9 dX7_requireSide_12 dX7_requireSide_13 dX7_requireSide_15 dX7_requireSide_18 (fun x h => (hno x h).elim) (Nat.le_of_ble_eq_true rfl) (Nat.le_of_ble_eq_true rfl) (Nat.le_of_ble_eq_true rfl) (Nat.le_of_ble_eq_true rfl) hlocks (fun t hW hsz hk => ⟨_, rfl, ⟨rfl, thP hP hk⟩, thF hS hsz hk⟩) hS.2.2 (Nat.le_of_ble_eq_true rfl) (Nat.le_of_ble_eq_true rfl)
  · have hq := k_f c_1 hq
    refine lv_iload_n hx hb dX7_requireSide_4 rfl (lv_at hl 1 rfl) ?_
    refine lv_iconst (v := 3) hx hb dX7_requireSide_5 (by decide) ?_
    refine lv_icmp_le (tgt := 19) hx hb dX7_requireSide_6 (by decide) (fun c_6 => ?_) (fun c_6 => ?_)
    · have hq := k_t c_6 hq
      obtain rfl := Option.some.inj hq
      rw [hQ]
      refine vx_ret ?_
      refine W.widen (k := 1) (n := 6) (Nat.le_of_ble_eq_true rfl) (Nat.le_of_ble_eq_true rfl) ?_
      exact W.vret hx hb hr (fun t ht hW => ⟨⟨_, rfl, rfl, va_Pat ht hP⟩, hS.F ht⟩) hS.2.2 dX7_requireSide_19
    · have hq := k_f c_6 hq
      obtain rfl := Option.some.inj hq
      rw [hQ]
      obtain ⟨sa, hsa⟩ := hT.2.2.1 (215, "there is no such side") (List.mem_of_getElem? (i := 10) rfl)
      have hat : ∀ w ∈ vx_atS RX7 214 "java/lang/IndexOutOfBoundsException" ["java/lang/RuntimeException", "java/lang/Exception"], w.before ([.ref qX, .int x1] : List Value).toArray s = true := vx_hat (B := thB 1) (fun w h => hts w (by first | exact List.mem_cons_of_mem _ (List.mem_append_right _ h) | exact (show w ∈ wsX7_requireSide from by have h2 := h; revert h2; revert w; decide +kernel))) (by decide +kernel) (hT.bad (by decide))
      exact vx_throwS hx hb hfl (own := RX7) (cls := "java/lang/IndexOutOfBoundsException") (text := "there is no such side") (names := ["java/lang/RuntimeException", "java/lang/Exception"]) hown (by decide +kernel) (by decide +kernel) hw0 hw1 hsa hat (by decide +kernel) hT.1 hT.2.1 hS (hl.1.trans hml.symm) dX7_requireSide_9 dX7_requireSide_12 dX7_requireSide_13 dX7_requireSide_15 dX7_requireSide_18 (fun x h => (hno x h).elim) (Nat.le_of_ble_eq_true rfl) (Nat.le_of_ble_eq_true rfl) (Nat.le_of_ble_eq_true rfl) (Nat.le_of_ble_eq_true rfl) hlocks (fun t hW hsz hk => ⟨_, rfl, ⟨rfl, thP hP hk⟩, thF hS hsz hk⟩) hS.2.2 (Nat.le_of_ble_eq_true rfl) (Nat.le_of_ble_eq_true rfl)

def kX7_setTile (F : Nat) (bn : Int32) (bT : Nat → Int32) (hd : Int32) (hk : Int32) (x1 : Int32) (x2 : Int32) : Option ((Int32 × (Nat → Int32) × Int32 × Int32) ⊕ (Nat × (Nat → Int32) × Int32 × Int32)) :=
  ((kX7_requireCell F bn x1).bind fun q1 => onR q1 (fun u2 => (if x2 < 0 then some (.inr (0, bT, hd, hk)) else (if x2 ≤ 15 then ((kX0_sidesOf F bT x1).bind fun q4 => ((kX0_lay F bn bT x1 x2).bind fun q5 => ((kX2_forget F hd hk).bind fun q6 => some (.inl (q4, q5, q6.1, q6.2))))) else some (.inr (0, bT, hd, hk))))) (fun e3 => (e3, bT, hd, hk)))
abbrev rmX7_setTile : Room := { frames := 9, cells := 2, slots := 12, locals := 141 }
set_option maxHeartbeats 40000000 in
set_option maxRecDepth 100000 in
theorem tX7_setTile (G : GG) (l : Launch) (hfl : l.stackTraces = false) {qX qB qH qK qV qS qW qBT qBC qBN qBW qBL qHM : Nat} {bn : Int32} {bk : Int32} {bs : Int32} {bT : Nat → Int32} {hd : Int32} {hk : Int32} {x1 : Int32} {x2 : Int32} {sz : Nat} {F : Nat} {r : (Int32 × (Nat → Int32) × Int32 × Int32) ⊕ (Nat × (Nat → Int32) × Int32 × Int32)} (hq : kX7_setTile F bn bT hd hk x1 x2 = some r) : vx_Met l yX7_setTile wsX7_setTile rmX7_setTile (pcX G [(qX, .inr (7, [.ref qB, .ref qH, .ref qK, .ref qV, .ref qS, .ref qW])), (qB, .inr (0, [.ref qBT, .ref qBC, .ref qBN, .ref qBW, .ref qBL, .int bn, .int bk, .int bs])), (qBT, .inl (G.2.1, 16, .inl bT)), (qH, .inr (2, [.ref qHM, .int hd, .int hk]))] sz [.ref qX, .int x1, .int x2]) (qxI G r (fun u => u.1) (fun u => [(qX, .inr (7, [.ref qB, .ref qH, .ref qK, .ref qV, .ref qS, .ref qW])), (qB, .inr (0, [.ref qBT, .ref qBC, .ref qBN, .ref qBW, .ref qBL, .int bn, .int bk, .int bs])), (qBT, .inl (G.2.1, 16, .inl u.2.1)), (qH, .inr (2, [.ref qHM, .int u.2.2.1, .int u.2.2.2]))]) (va_A [(qX, .inr (7, [.ref qB, .ref qH, .ref qK, .ref qV, .ref qS, .ref qW])), (qB, .inr (0, [.ref qBT, .ref qBC, .ref qBN, .ref qBW, .ref qBL, .int bn, .int bk, .int bs])), (qBT, .inl (G.2.1, 16, .inl bT)), (qH, .inr (2, [.ref qHM, .int hd, .int hk]))] sz)) (xcX G r (fun u => u.1) (fun u => [(qX, .inr (7, [.ref qB, .ref qH, .ref qK, .ref qV, .ref qS, .ref qW])), (qB, .inr (0, [.ref qBT, .ref qBC, .ref qBN, .ref qBW, .ref qBL, .int bn, .int bk, .int bs])), (qBT, .inl (G.2.1, 16, .inl u.2.1)), (qH, .inr (2, [.ref qHM, .int u.2.2.1, .int u.2.2.2]))]) (va_A [(qX, .inr (7, [.ref qB, .ref qH, .ref qK, .ref qV, .ref qS, .ref qW])), (qB, .inr (0, [.ref qBT, .ref qBC, .ref qBN, .ref qBW, .ref qBL, .int bn, .int bk, .int bs])), (qBT, .inl (G.2.1, 16, .inl bT)), (qH, .inr (2, [.ref qHM, .int hd, .int hk]))] sz)) 2 12 (va_A [(qX, .inr (7, [.ref qB, .ref qH, .ref qK, .ref qV, .ref qS, .ref qW])), (qB, .inr (0, [.ref qBT, .ref qBC, .ref qBN, .ref qBW, .ref qBL, .int bn, .int bk, .int bs])), (qBT, .inl (G.2.1, 16, .inl bT)), (qH, .inr (2, [.ref qHM, .int hd, .int hk]))] sz) := by
  refine vx_ofW (cc := cX7_setTile) (maxL := 4) (ret := (some .int)) (by decide) rfl ?_
  intro p e s m args below meth c s₁ B hml hno hv
  obtain ⟨rfl, hsz, hP, hKK, hD0, hT⟩ := hv
  have hK := hKK.1
  have hx := B.exec
  have hb := B.bytes
  have hr := B.returns
  have hts := atoms_spec (ws := wsX7_setTile) B.pre
  have hown : s.vm.findClass RX7 = some m.cls := findClass_of_methodNamed B.named
  have hlocks := B.notSynchronized
  subst hsz
  have hD := hD0.self (sz := s.heap.size)
  generalize hAe : va_A [(qX, .inr (7, [.ref qB, .ref qH, .ref qK, .ref qV, .ref qS, .ref qW])), (qB, .inr (0, [.ref qBT, .ref qBC, .ref qBN, .ref qBW, .ref qBL, .int bn, .int bk, .int bs])), (qBT, .inl (G.2.1, 16, .inl bT)), (qH, .inr (2, [.ref qHM, .int hd, .int hk]))] s.heap.size = A at hD hT ⊢
  have hA : ∀ q : Nat, s.heap.size ≤ q → A q := fun q h => by rw [← hAe]; exact Or.inr h
  have hS : va_S A s.heap s.heap [] := va_S.rf
  have hl := lv_entry ([.ref qX, .int x1, .int x2] : List Value) (n := 4) (Nat.le_of_ble_eq_true rfl)
  rw [lg_entry_eq]
  generalize (lg_sl ([.ref qX, .int x1, .int x2] : List Value) ++ List.replicate (4 - (lg_sl ([.ref qX, .int x1, .int x2] : List Value)).length) Slot.unset).toArray = ls at hl ⊢
  have hl : lv_has ls 4 [(0, .ref qX), (1, .int x1), (2, .int x2)] := hl
  have hi7 : ∀ w ∈ u_ws RX7 TX7 6, w ∈ wsX7_setTile := by decide +kernel
  have hw0 : (Cond.classLink RX7 70 "java/lang/IllegalArgumentException").before #[Value.ref qX, Value.int x1, Value.int x2] s = true := hts _ (by decide +kernel)
  have hw1 : (Cond.initialized "java/lang/IllegalArgumentException").before #[Value.ref qX, Value.int x1, Value.int x2] s = true := hts _ (by decide +kernel)
  have hw2 : (Cond.fieldLink RX7 10 "NetPlumber" "board" "LNetPlumber$Board;").before #[Value.ref qX, Value.int x1, Value.int x2] s = true := hts _ (by decide +kernel)
  have hw3 : (Cond.fieldLink RX7 19 "NetPlumber" "history" "LNetPlumber$History;").before #[Value.ref qX, Value.int x1, Value.int x2] s = true := hts _ (by decide +kernel)
  refine wq (fun Q hQ => ?_)
  unfold kX7_setTile at hq
  refine lv_aload_n hx hb dX7_setTile_0 rfl (lv_at hl 0 rfl) ?_
  refine lv_iload_n hx hb dX7_setTile_1 rfl (lv_at hl 1 rfl) ?_
  obtain ⟨q1, eq1, hq⟩ := ob hq
  have hPc := hP.sub (ws' := [(qX, .inr (7, [.ref qB, .ref qH, .ref qK, .ref qV, .ref qS, .ref qW])), (qB, .inr (0, [.ref qBT, .ref qBC, .ref qBN, .ref qBW, .ref qBL, .int bn, .int bk, .int bs]))]) [0, 1] rfl
  have hKc := hK
  have hDc := hD.sub (ws' := [(qX, .inr (7, [.ref qB, .ref qH, .ref qK, .ref qV, .ref qS, .ref qW])), (qB, .inr (0, [.ref qBT, .ref qBC, .ref qBN, .ref qBW, .ref qBL, .int bn, .int bk, .int bs]))]) [0, 1] (by decide) rfl
  have hFc := va_free (wc := [(qX, .inr (7, [.ref qB, .ref qH, .ref qK, .ref qV, .ref qS, .ref qW])), (qB, .inr (0, [.ref qBT, .ref qBC, .ref qBN, .ref qBW, .ref qBL, .int bn, .int bk, .int bs]))]) hD hS hA [0, 1] rfl
  refine vx_callv (vx_runV (As := [.int x1]) (rest := []) ⟨hx, hb, hml, hown, hts⟩ (tX7_requireCell G l hfl eq1) (cwV 1 hts gX7_setTile_X7_requireCell rfl rfl rfl (by decide +kernel) ⟨Nat.le_of_ble_eq_true rfl, Nat.le_of_ble_eq_true rfl⟩) ⟨pcX_blind, va_recv hKc hPc (ci := 7) (q0 := 0) rfl rfl, pcX_pre hPc hKK hDc hT hS hFc⟩ rfl rfl hl.1 rfl (lv_room (Nat.le_of_ble_eq_true rfl)) dX7_setTile_2 ⟨Nat.le_of_ble_eq_true rfl, Nat.le_of_ble_eq_true rfl⟩) hS (fun q _ h => hFc q h) hFc (fun q _ h => hFc q h) (fun E ce q9 u t H1 locs ht hvm hpx hB hz1 hk1 hS hc1 hv1 hcl1 => ?_) (fun u t H1 locs ht hvm hw hB hz1 hk1 hS => ?_)
  · obtain ⟨e3, rfl⟩ : ∃ z, z = u := ⟨_, rfl⟩
    subst hpx
    obtain rfl := onR_r hq
    obtain ⟨hE, hB⟩ := hB
    have hB := va_Pto ht hB
    obtain ⟨hP, hD⟩ := jn (ws' := [(qX, .inr (7, [.ref qB, .ref qH, .ref qK, .ref qV, .ref qS, .ref qW])), (qB, .inr (0, [.ref qBT, .ref qBC, .ref qBN, .ref qBW, .ref qBL, .int bn, .int bk, .int bs])), (qBT, .inl (G.2.1, 16, .inl bT)), (qH, .inr (2, [.ref qHM, .int hd, .int hk]))]) hP hD hk1 hB [0, 1] rfl rfl rfl rfl
    rw [hQ]
    exact vx_out (fun x h => (hno x h).elim) hlocks hc1 hv1 hcl1 (fun t ht hW => ⟨_, rfl, ⟨hE, va_Pat ht hP⟩, hS.F ht⟩) hS.2.2 (Nat.le_of_ble_eq_true rfl) (Nat.le_of_ble_eq_true rfl)
  · obtain ⟨u2, rfl⟩ : ∃ z, z = u := ⟨_, rfl⟩
    subst hw
    have hq := onR_l hq
    have hB := va_Pto ht hB
    obtain ⟨hP, hD⟩ := jn (ws' := [(qX, .inr (7, [.ref qB, .ref qH, .ref qK, .ref qV, .ref qS, .ref qW])), (qB, .inr (0, [.ref qBT, .ref qBC, .ref qBN, .ref qBW, .ref qBL, .int bn, .int bk, .int bs])), (qBT, .inl (G.2.1, 16, .inl bT)), (qH, .inr (2, [.ref qHM, .int hd, .int hk]))]) hP hD hk1 hB [0, 1] rfl rfl rfl rfl
    generalize H1 = H at hP hS ⊢
    refine lv_iload_n hx hb dX7_setTile_5 rfl (lv_at hl 2 rfl) ?_
    refine lv_if_lt (tgt := 15) hx hb dX7_setTile_6 (by decide) (fun c_6 => ?_) (fun c_6 => ?_)
    · have hq := k_t c_6 hq
      obtain rfl := Option.some.inj hq
      rw [hQ]
      obtain ⟨sa, hsa⟩ := hT.2.2.1 (87, "the open sides are 0 to 15") (List.mem_of_getElem? (i := 1) rfl)
      have hat : ∀ w ∈ vx_atS RX7 74 "java/lang/IllegalArgumentException" ["java/lang/RuntimeException", "java/lang/Exception"], w.before ([.ref qX, .int x1, .int x2] : List Value).toArray s = true := vx_hat (B := thB 0) (fun w h => hts w (by first | exact List.mem_cons_of_mem _ (List.mem_append_right _ h) | exact (show w ∈ wsX7_setTile from by have h2 := h; revert h2; revert w; decide +kernel))) (by decide +kernel) (hT.bad (by decide))
      exact vx_throwS hx hb hfl (own := RX7) (cls := "java/lang/IllegalArgumentException") (text := "the open sides are 0 to 15") (names := ["java/lang/RuntimeException", "java/lang/Exception"]) hown (by decide +kernel) (by decide +kernel) hw0 hw1 hsa hat (by decide +kernel) hT.1 hT.2.1 hS (hl.1.trans hml.symm) dX7_setTile_15 dX7_setTile_18 dX7_setTile_19 dX7_setTile_21 dX7_setTile_24 (fun x h => (hno x h).elim) (Nat.le_of_ble_eq_true rfl) (Nat.le_of_ble_eq_true rfl) (Nat.le_of_ble_eq_true rfl) (Nat.le_of_ble_eq_true rfl) hlocks (fun t hW hsz hk => ⟨_, rfl, ⟨rfl, thP hP hk⟩, thF hS hsz hk⟩) hS.2.2 (Nat.le_of_ble_eq_true rfl) (Nat.le_of_ble_eq_true rfl)
    · have hq := k_f c_6 hq
      refine lv_iload_n hx hb dX7_setTile_9 rfl (lv_at hl 2 rfl) ?_
      refine lv_bipush (v := 15) hx hb dX7_setTile_10 (by decide) ?_
      refine lv_icmp_le (tgt := 25) hx hb dX7_setTile_12 (by decide) (fun c_12 => ?_) (fun c_12 => ?_)
      · have hq := k_t c_12 hq
        refine lv_aload_n hx hb dX7_setTile_25 rfl (lv_at hl 0 rfl) ?_
        refine va_get (D := G.1) (ci := 7) (v := .ref qB) (C := RX7) (T := TX7) (N := 6) hx hb hts hi7 hown hK hP 0 rfl rfl 0 (by decide) hw2 (fun _ h9 => h9) rfl dX7_setTile_26 ?_
        refine lv_iload_n hx hb dX7_setTile_29 rfl (lv_at hl 1 rfl) ?_
        obtain ⟨q4, eq4, hq⟩ := ob hq
        have hPc := hP.sub (ws' := [(qB, .inr (0, [.ref qBT, .ref qBC, .ref qBN, .ref qBW, .ref qBL, .int bn, .int bk, .int bs])), (qBT, .inl (G.2.1, 16, .inl bT))]) [1, 2] rfl
        have hKc := hK
        refine vp_callSi (va_Run.run (va_runV (As := [.int x1]) (rest := []) ⟨hx, hb, hml, hown, hts⟩ (tX0_sidesOf G l eq4) (cwV 1 hts gX7_setTile_X0_sidesOf rfl rfl rfl (by decide +kernel) ⟨Nat.le_of_ble_eq_true rfl, Nat.le_of_ble_eq_true rfl⟩) ⟨pcP_blind, va_recv hKc hPc (ci := 0) (q0 := 0) rfl rfl, pcP_pre hPc hKK⟩ rfl rfl hl.1 rfl (lv_room (Nat.le_of_ble_eq_true rfl)) dX7_setTile_30 ⟨Nat.le_of_ble_eq_true rfl, Nat.le_of_ble_eq_true rfl⟩)) (fun r0 hr0 => ?_)
        obtain rfl := hr0
        refine lv_istore_n (lv' := [(3, .int q4), (0, .ref qX), (1, .int x1), (2, .int x2)]) hx hb dX7_setTile_33 rfl hl (by decide) rfl (fun ls hl => ?_)
        refine lv_aload_n hx hb dX7_setTile_34 rfl (lv_at hl 1 rfl) ?_
        refine va_get (D := G.1) (ci := 7) (v := .ref qB) (C := RX7) (T := TX7) (N := 6) hx hb hts hi7 hown hK hP 0 rfl rfl 0 (by decide) hw2 (fun _ h9 => h9) rfl dX7_setTile_35 ?_
        refine lv_iload_n hx hb dX7_setTile_38 rfl (lv_at hl 2 rfl) ?_
        refine lv_iload_n hx hb dX7_setTile_39 rfl (lv_at hl 3 rfl) ?_
        obtain ⟨q5, eq5, hq⟩ := ob hq
        have hPc := hP.sub (ws' := [(qB, .inr (0, [.ref qBT, .ref qBC, .ref qBN, .ref qBW, .ref qBL, .int bn, .int bk, .int bs])), (qBT, .inl (G.2.1, 16, .inl bT))]) [1, 2] rfl
        have hKc := hK
        have hDc := hD.sub (ws' := [(qB, .inr (0, [.ref qBT, .ref qBC, .ref qBN, .ref qBW, .ref qBL, .int bn, .int bk, .int bs])), (qBT, .inl (G.2.1, 16, .inl bT))]) [1, 2] (by decide) rfl
        have hFc := va_free (wc := [(qB, .inr (0, [.ref qBT, .ref qBC, .ref qBN, .ref qBW, .ref qBL, .int bn, .int bk, .int bs])), (qBT, .inl (G.2.1, 16, .inl bT))]) hD hS hA [1, 2] rfl
        refine va_callv (va_runV (As := [.int x1, .int x2]) (rest := []) ⟨hx, hb, hml, hown, hts⟩ (tX0_lay G l eq5) (cwV 2 hts gX7_setTile_X0_lay rfl rfl rfl (by decide +kernel) ⟨Nat.le_of_ble_eq_true rfl, Nat.le_of_ble_eq_true rfl⟩) ⟨pcW_blind, va_recv hKc hPc (ci := 0) (q0 := 0) rfl rfl, pcW_pre hPc hKK hDc⟩ rfl rfl hl.1 rfl (lv_room (Nat.le_of_ble_eq_true rfl)) dX7_setTile_40 ⟨Nat.le_of_ble_eq_true rfl, Nat.le_of_ble_eq_true rfl⟩) hS (fun q _ h => hFc q h) hFc (fun u t H1 locs ht hvm hw hB hz1 hk1 hS => ?_)
        have hB := va_Pto ht hB
        obtain ⟨hP, hD⟩ := jn (ws' := [(qX, .inr (7, [.ref qB, .ref qH, .ref qK, .ref qV, .ref qS, .ref qW])), (qB, .inr (0, [.ref qBT, .ref qBC, .ref qBN, .ref qBW, .ref qBL, .int bn, .int bk, .int bs])), (qBT, .inl (G.2.1, 16, .inl q5)), (qH, .inr (2, [.ref qHM, .int hd, .int hk]))]) hP hD hk1 hB [1, 2] rfl rfl rfl rfl
        generalize H1 = H at hP hS ⊢
        refine lv_aload_n hx hb dX7_setTile_43 rfl (lv_at hl 1 rfl) ?_
        refine va_get (D := G.1) (ci := 7) (v := .ref qH) (C := RX7) (T := TX7) (N := 6) hx hb hts hi7 hown hK hP 0 rfl rfl 1 (by decide) hw3 (fun _ h9 => h9) rfl dX7_setTile_44 ?_
        obtain ⟨q6, eq6, hq⟩ := ob hq
        have hPc := hP.sub (ws' := [(qH, .inr (2, [.ref qHM, .int hd, .int hk]))]) [3] rfl
        have hKc := hK
        have hDc := hD.sub (ws' := [(qH, .inr (2, [.ref qHM, .int hd, .int hk]))]) [3] (by decide) rfl
        have hFc := va_free (wc := [(qH, .inr (2, [.ref qHM, .int hd, .int hk]))]) hD hS hA [3] rfl
        refine va_callv (va_runV (As := []) (rest := []) ⟨hx, hb, hml, hown, hts⟩ (tX2_forget G l eq6) (cwV 0 hts gX7_setTile_X2_forget rfl rfl rfl (by decide +kernel) ⟨Nat.le_of_ble_eq_true rfl, Nat.le_of_ble_eq_true rfl⟩) ⟨pcW_blind, va_recv hKc hPc (ci := 2) (q0 := 0) rfl rfl, pcW_pre hPc hKK hDc⟩ rfl rfl hl.1 rfl (lv_room (Nat.le_of_ble_eq_true rfl)) dX7_setTile_47 ⟨Nat.le_of_ble_eq_true rfl, Nat.le_of_ble_eq_true rfl⟩) hS (fun q _ h => hFc q h) hFc (fun u t H1 locs ht hvm hw hB hz1 hk1 hS => ?_)
        have hB := va_Pto ht hB
        obtain ⟨hP, hD⟩ := jn (ws' := [(qX, .inr (7, [.ref qB, .ref qH, .ref qK, .ref qV, .ref qS, .ref qW])), (qB, .inr (0, [.ref qBT, .ref qBC, .ref qBN, .ref qBW, .ref qBL, .int bn, .int bk, .int bs])), (qBT, .inl (G.2.1, 16, .inl q5)), (qH, .inr (2, [.ref qHM, .int q6.1, .int q6.2]))]) hP hD hk1 hB [3] rfl rfl rfl rfl
        generalize H1 = H at hP hS ⊢
        refine lv_iload_n hx hb dX7_setTile_50 rfl (lv_at hl 0 rfl) ?_
        obtain rfl := Option.some.inj hq
        rw [hQ]
        refine vx_ret ?_
        refine W.widen (k := 2) (n := 12) (Nat.le_of_ble_eq_true rfl) (Nat.le_of_ble_eq_true rfl) ?_
        exact W.iret hx hb hr (fun t ht hW => ⟨⟨_, _, rfl, ⟨rfl, rfl⟩, va_Pat ht hP⟩, hS.F ht⟩) hS.2.2 dX7_setTile_51
      · have hq := k_f c_12 hq
        obtain rfl := Option.some.inj hq
        rw [hQ]
        obtain ⟨sa, hsa⟩ := hT.2.2.1 (87, "the open sides are 0 to 15") (List.mem_of_getElem? (i := 1) rfl)
        have hat : ∀ w ∈ vx_atS RX7 74 "java/lang/IllegalArgumentException" ["java/lang/RuntimeException", "java/lang/Exception"], w.before ([.ref qX, .int x1, .int x2] : List Value).toArray s = true := vx_hat (B := thB 0) (fun w h => hts w (by first | exact List.mem_cons_of_mem _ (List.mem_append_right _ h) | exact (show w ∈ wsX7_setTile from by have h2 := h; revert h2; revert w; decide +kernel))) (by decide +kernel) (hT.bad (by decide))
        exact vx_throwS hx hb hfl (own := RX7) (cls := "java/lang/IllegalArgumentException") (text := "the open sides are 0 to 15") (names := ["java/lang/RuntimeException", "java/lang/Exception"]) hown (by decide +kernel) (by decide +kernel) hw0 hw1 hsa hat (by decide +kernel) hT.1 hT.2.1 hS (hl.1.trans hml.symm) dX7_setTile_15 dX7_setTile_18 dX7_setTile_19 dX7_setTile_21 dX7_setTile_24 (fun x h => (hno x h).elim) (Nat.le_of_ble_eq_true rfl) (Nat.le_of_ble_eq_true rfl) (Nat.le_of_ble_eq_true rfl) (Nat.le_of_ble_eq_true rfl) hlocks (fun t hW hsz hk => ⟨_, rfl, ⟨rfl, thP hP hk⟩, thF hS hsz hk⟩) hS.2.2 (Nat.le_of_ble_eq_true rfl) (Nat.le_of_ble_eq_true rfl)

def kX7_setWall_j51 (F : Nat) (bn : Int32) (bN : Nat → Int32) (bW : Nat → Int32) (x1 : Int32) (x2 : Int32) (x3 : Int32) (v9 : Int32) : Option ((Int32 × (Nat → Int32)) ⊕ (Nat × (Nat → Int32))) :=
  ((kX0_putWall F bn bN bW x1 x2 x3).bind fun q10 => (if isZ v9 = true then some (.inl (v9, q10)) else none))
def kX7_setWall (F : Nat) (bn : Int32) (bN : Nat → Int32) (bW : Nat → Int32) (x1 : Int32) (x2 : Int32) (x3 : Int32) : Option ((Int32 × (Nat → Int32)) ⊕ (Nat × (Nat → Int32))) :=
  ((kX7_requireCell F bn x1).bind fun q1 => onR q1 (fun u2 => ((kX7_requireSide F x2).bind fun q4 => onR q4 (fun u5 => ((kX0_beside F bN x1 x2).bind fun q7 => (if q7 = (-1) then some (.inr (2, bW)) else ((kX0_across F bW x1 x2).bind fun q8 => (if q8 = (-1) then kX7_setWall_j51 F bn bN bW x1 x2 x3 1 else kX7_setWall_j51 F bn bN bW x1 x2 x3 0))))) (fun e6 => (e6, bW)))) (fun e3 => (e3, bW)))
abbrev rmX7_setWall : Room := { frames := 9, cells := 3, slots := 18, locals := 141 }
set_option maxHeartbeats 40000000 in
set_option maxRecDepth 100000 in
theorem tX7_setWall (G : GG) (l : Launch) (hfl : l.stackTraces = false) {qX qB qH qK qV qS qW qBT qBC qBN qBW qBL : Nat} {bn : Int32} {bk : Int32} {bs : Int32} {bN : Nat → Int32} {bW : Nat → Int32} {x1 : Int32} {x2 : Int32} {x3 : Int32} {sz : Nat} {F : Nat} {r : (Int32 × (Nat → Int32)) ⊕ (Nat × (Nat → Int32))} (hq : kX7_setWall F bn bN bW x1 x2 x3 = some r) : vx_Met l yX7_setWall wsX7_setWall rmX7_setWall (pcX G [(qX, .inr (7, [.ref qB, .ref qH, .ref qK, .ref qV, .ref qS, .ref qW])), (qB, .inr (0, [.ref qBT, .ref qBC, .ref qBN, .ref qBW, .ref qBL, .int bn, .int bk, .int bs])), (qBN, .inl (G.2.1, 64, .inl bN)), (qBW, .inl (G.2.1, 64, .inl bW))] sz [.ref qX, .int x1, .int x2, .int x3]) (qxI G r (fun u => u.1) (fun u => [(qX, .inr (7, [.ref qB, .ref qH, .ref qK, .ref qV, .ref qS, .ref qW])), (qB, .inr (0, [.ref qBT, .ref qBC, .ref qBN, .ref qBW, .ref qBL, .int bn, .int bk, .int bs])), (qBN, .inl (G.2.1, 64, .inl bN)), (qBW, .inl (G.2.1, 64, .inl u.2))]) (va_A [(qX, .inr (7, [.ref qB, .ref qH, .ref qK, .ref qV, .ref qS, .ref qW])), (qB, .inr (0, [.ref qBT, .ref qBC, .ref qBN, .ref qBW, .ref qBL, .int bn, .int bk, .int bs])), (qBN, .inl (G.2.1, 64, .inl bN)), (qBW, .inl (G.2.1, 64, .inl bW))] sz)) (xcX G r (fun u => u.1) (fun u => [(qX, .inr (7, [.ref qB, .ref qH, .ref qK, .ref qV, .ref qS, .ref qW])), (qB, .inr (0, [.ref qBT, .ref qBC, .ref qBN, .ref qBW, .ref qBL, .int bn, .int bk, .int bs])), (qBN, .inl (G.2.1, 64, .inl bN)), (qBW, .inl (G.2.1, 64, .inl u.2))]) (va_A [(qX, .inr (7, [.ref qB, .ref qH, .ref qK, .ref qV, .ref qS, .ref qW])), (qB, .inr (0, [.ref qBT, .ref qBC, .ref qBN, .ref qBW, .ref qBL, .int bn, .int bk, .int bs])), (qBN, .inl (G.2.1, 64, .inl bN)), (qBW, .inl (G.2.1, 64, .inl bW))] sz)) 3 18 (va_A [(qX, .inr (7, [.ref qB, .ref qH, .ref qK, .ref qV, .ref qS, .ref qW])), (qB, .inr (0, [.ref qBT, .ref qBC, .ref qBN, .ref qBW, .ref qBL, .int bn, .int bk, .int bs])), (qBN, .inl (G.2.1, 64, .inl bN)), (qBW, .inl (G.2.1, 64, .inl bW))] sz) := by
  refine vx_ofW (cc := cX7_setWall) (maxL := 5) (ret := (some .boolean)) (by decide) rfl ?_
  intro p e s m args below meth c s₁ B hml hno hv
  obtain ⟨rfl, hsz, hP, hKK, hD0, hT⟩ := hv
  have hK := hKK.1
  have hx := B.exec
  have hb := B.bytes
  have hr := B.returns
  have hts := atoms_spec (ws := wsX7_setWall) B.pre
  have hown : s.vm.findClass RX7 = some m.cls := findClass_of_methodNamed B.named
  have hlocks := B.notSynchronized
  subst hsz
  have hD := hD0.self (sz := s.heap.size)
  generalize hAe : va_A [(qX, .inr (7, [.ref qB, .ref qH, .ref qK, .ref qV, .ref qS, .ref qW])), (qB, .inr (0, [.ref qBT, .ref qBC, .ref qBN, .ref qBW, .ref qBL, .int bn, .int bk, .int bs])), (qBN, .inl (G.2.1, 64, .inl bN)), (qBW, .inl (G.2.1, 64, .inl bW))] s.heap.size = A at hD hT ⊢
  have hA : ∀ q : Nat, s.heap.size ≤ q → A q := fun q h => by rw [← hAe]; exact Or.inr h
  have hS : va_S A s.heap s.heap [] := va_S.rf
  have hl := lv_entry ([.ref qX, .int x1, .int x2, .int x3] : List Value) (n := 5) (Nat.le_of_ble_eq_true rfl)
  rw [lg_entry_eq]
  generalize (lg_sl ([.ref qX, .int x1, .int x2, .int x3] : List Value) ++ List.replicate (5 - (lg_sl ([.ref qX, .int x1, .int x2, .int x3] : List Value)).length) Slot.unset).toArray = ls at hl ⊢
  have hl : lv_has ls 5 [(0, .ref qX), (1, .int x1), (2, .int x2), (3, .int x3)] := hl
  have hi7 : ∀ w ∈ u_ws RX7 TX7 6, w ∈ wsX7_setWall := by decide +kernel
  have hw0 : (Cond.fieldLink RX7 10 "NetPlumber" "board" "LNetPlumber$Board;").before #[Value.ref qX, Value.int x1, Value.int x2, Value.int x3] s = true := hts _ (by decide +kernel)
  have hw1 : (Cond.classLink RX7 107 "java/lang/IllegalStateException").before #[Value.ref qX, Value.int x1, Value.int x2, Value.int x3] s = true := hts _ (by decide +kernel)
  have hw2 : (Cond.initialized "java/lang/IllegalStateException").before #[Value.ref qX, Value.int x1, Value.int x2, Value.int x3] s = true := hts _ (by decide +kernel)
  refine wq (fun Q hQ => ?_)
  unfold kX7_setWall at hq
  refine lv_aload_n hx hb dX7_setWall_0 rfl (lv_at hl 0 rfl) ?_
  refine lv_iload_n hx hb dX7_setWall_1 rfl (lv_at hl 1 rfl) ?_
  obtain ⟨q1, eq1, hq⟩ := ob hq
  have hPc := hP.sub (ws' := [(qX, .inr (7, [.ref qB, .ref qH, .ref qK, .ref qV, .ref qS, .ref qW])), (qB, .inr (0, [.ref qBT, .ref qBC, .ref qBN, .ref qBW, .ref qBL, .int bn, .int bk, .int bs]))]) [0, 1] rfl
  have hKc := hK
  have hDc := hD.sub (ws' := [(qX, .inr (7, [.ref qB, .ref qH, .ref qK, .ref qV, .ref qS, .ref qW])), (qB, .inr (0, [.ref qBT, .ref qBC, .ref qBN, .ref qBW, .ref qBL, .int bn, .int bk, .int bs]))]) [0, 1] (by decide) rfl
  have hFc := va_free (wc := [(qX, .inr (7, [.ref qB, .ref qH, .ref qK, .ref qV, .ref qS, .ref qW])), (qB, .inr (0, [.ref qBT, .ref qBC, .ref qBN, .ref qBW, .ref qBL, .int bn, .int bk, .int bs]))]) hD hS hA [0, 1] rfl
  refine vx_callv (vx_runV (As := [.int x1]) (rest := []) ⟨hx, hb, hml, hown, hts⟩ (tX7_requireCell G l hfl eq1) (cwV 1 hts gX7_setWall_X7_requireCell rfl rfl rfl (by decide +kernel) ⟨Nat.le_of_ble_eq_true rfl, Nat.le_of_ble_eq_true rfl⟩) ⟨pcX_blind, va_recv hKc hPc (ci := 7) (q0 := 0) rfl rfl, pcX_pre hPc hKK hDc hT hS hFc⟩ rfl rfl hl.1 rfl (lv_room (Nat.le_of_ble_eq_true rfl)) dX7_setWall_2 ⟨Nat.le_of_ble_eq_true rfl, Nat.le_of_ble_eq_true rfl⟩) hS (fun q _ h => hFc q h) hFc (fun q _ h => hFc q h) (fun E ce q9 u t H1 locs ht hvm hpx hB hz1 hk1 hS hc1 hv1 hcl1 => ?_) (fun u t H1 locs ht hvm hw hB hz1 hk1 hS => ?_)
  · obtain ⟨e3, rfl⟩ : ∃ z, z = u := ⟨_, rfl⟩
    subst hpx
    obtain rfl := onR_r hq
    obtain ⟨hE, hB⟩ := hB
    have hB := va_Pto ht hB
    obtain ⟨hP, hD⟩ := jn (ws' := [(qX, .inr (7, [.ref qB, .ref qH, .ref qK, .ref qV, .ref qS, .ref qW])), (qB, .inr (0, [.ref qBT, .ref qBC, .ref qBN, .ref qBW, .ref qBL, .int bn, .int bk, .int bs])), (qBN, .inl (G.2.1, 64, .inl bN)), (qBW, .inl (G.2.1, 64, .inl bW))]) hP hD hk1 hB [0, 1] rfl rfl rfl rfl
    rw [hQ]
    exact vx_out (fun x h => (hno x h).elim) hlocks hc1 hv1 hcl1 (fun t ht hW => ⟨_, rfl, ⟨hE, va_Pat ht hP⟩, hS.F ht⟩) hS.2.2 (Nat.le_of_ble_eq_true rfl) (Nat.le_of_ble_eq_true rfl)
  · obtain ⟨u2, rfl⟩ : ∃ z, z = u := ⟨_, rfl⟩
    subst hw
    have hq := onR_l hq
    have hB := va_Pto ht hB
    obtain ⟨hP, hD⟩ := jn (ws' := [(qX, .inr (7, [.ref qB, .ref qH, .ref qK, .ref qV, .ref qS, .ref qW])), (qB, .inr (0, [.ref qBT, .ref qBC, .ref qBN, .ref qBW, .ref qBL, .int bn, .int bk, .int bs])), (qBN, .inl (G.2.1, 64, .inl bN)), (qBW, .inl (G.2.1, 64, .inl bW))]) hP hD hk1 hB [0, 1] rfl rfl rfl rfl
    generalize H1 = H at hP hS ⊢
    refine lv_aload_n hx hb dX7_setWall_5 rfl (lv_at hl 0 rfl) ?_
    refine lv_iload_n hx hb dX7_setWall_6 rfl (lv_at hl 2 rfl) ?_
    obtain ⟨q4, eq4, hq⟩ := ob hq
    have hPc := hP.sub (ws' := [(qX, .inr (7, [.ref qB, .ref qH, .ref qK, .ref qV, .ref qS, .ref qW]))]) [0] rfl
    have hKc := hK
    have hDc := hD.sub (ws' := [(qX, .inr (7, [.ref qB, .ref qH, .ref qK, .ref qV, .ref qS, .ref qW]))]) [0] (by decide) rfl
    have hFc := va_free (wc := [(qX, .inr (7, [.ref qB, .ref qH, .ref qK, .ref qV, .ref qS, .ref qW]))]) hD hS hA [0] rfl
    refine vx_callv (vx_runV (As := [.int x2]) (rest := []) ⟨hx, hb, hml, hown, hts⟩ (tX7_requireSide G l hfl eq4) (cwV 1 hts gX7_setWall_X7_requireSide rfl rfl rfl (by decide +kernel) ⟨Nat.le_of_ble_eq_true rfl, Nat.le_of_ble_eq_true rfl⟩) ⟨pcX_blind, va_recv hKc hPc (ci := 7) (q0 := 0) rfl rfl, pcX_pre hPc hKK hDc hT hS hFc⟩ rfl rfl hl.1 rfl (lv_room (Nat.le_of_ble_eq_true rfl)) dX7_setWall_7 ⟨Nat.le_of_ble_eq_true rfl, Nat.le_of_ble_eq_true rfl⟩) hS (fun q _ h => hFc q h) hFc (fun q _ h => hFc q h) (fun E ce q9 u t H1 locs ht hvm hpx hB hz1 hk1 hS hc1 hv1 hcl1 => ?_) (fun u t H1 locs ht hvm hw hB hz1 hk1 hS => ?_)
    · obtain ⟨e6, rfl⟩ : ∃ z, z = u := ⟨_, rfl⟩
      subst hpx
      obtain rfl := onR_r hq
      obtain ⟨hE, hB⟩ := hB
      have hB := va_Pto ht hB
      obtain ⟨hP, hD⟩ := jn (ws' := [(qX, .inr (7, [.ref qB, .ref qH, .ref qK, .ref qV, .ref qS, .ref qW])), (qB, .inr (0, [.ref qBT, .ref qBC, .ref qBN, .ref qBW, .ref qBL, .int bn, .int bk, .int bs])), (qBN, .inl (G.2.1, 64, .inl bN)), (qBW, .inl (G.2.1, 64, .inl bW))]) hP hD hk1 hB [0] rfl rfl rfl rfl
      rw [hQ]
      exact vx_out (fun x h => (hno x h).elim) hlocks hc1 hv1 hcl1 (fun t ht hW => ⟨_, rfl, ⟨hE, va_Pat ht hP⟩, hS.F ht⟩) hS.2.2 (Nat.le_of_ble_eq_true rfl) (Nat.le_of_ble_eq_true rfl)
    · obtain ⟨u5, rfl⟩ : ∃ z, z = u := ⟨_, rfl⟩
      subst hw
      have hq := onR_l hq
      have hB := va_Pto ht hB
      obtain ⟨hP, hD⟩ := jn (ws' := [(qX, .inr (7, [.ref qB, .ref qH, .ref qK, .ref qV, .ref qS, .ref qW])), (qB, .inr (0, [.ref qBT, .ref qBC, .ref qBN, .ref qBW, .ref qBL, .int bn, .int bk, .int bs])), (qBN, .inl (G.2.1, 64, .inl bN)), (qBW, .inl (G.2.1, 64, .inl bW))]) hP hD hk1 hB [0] rfl rfl rfl rfl
      generalize H1 = H at hP hS ⊢
      refine lv_aload_n hx hb dX7_setWall_10 rfl (lv_at hl 0 rfl) ?_
      refine va_get (D := G.1) (ci := 7) (v := .ref qB) (C := RX7) (T := TX7) (N := 6) hx hb hts hi7 hown hK hP 0 rfl rfl 0 (by decide) hw0 (fun _ h9 => h9) rfl dX7_setWall_11 ?_
      refine lv_iload_n hx hb dX7_setWall_14 rfl (lv_at hl 1 rfl) ?_
      refine lv_iload_n hx hb dX7_setWall_15 rfl (lv_at hl 2 rfl) ?_
      obtain ⟨q7, eq7, hq⟩ := ob hq
      have hPc := hP.sub (ws' := [(qB, .inr (0, [.ref qBT, .ref qBC, .ref qBN, .ref qBW, .ref qBL, .int bn, .int bk, .int bs])), (qBN, .inl (G.2.1, 64, .inl bN))]) [1, 2] rfl
      have hKc := hK
      refine vp_callSi (va_Run.run (va_runV (As := [.int x1, .int x2]) (rest := []) ⟨hx, hb, hml, hown, hts⟩ (tX0_beside G l eq7) (cwV 2 hts gX7_setWall_X0_beside rfl rfl rfl (by decide +kernel) ⟨Nat.le_of_ble_eq_true rfl, Nat.le_of_ble_eq_true rfl⟩) ⟨pcP_blind, va_recv hKc hPc (ci := 0) (q0 := 0) rfl rfl, pcP_pre hPc hKK⟩ rfl rfl hl.1 rfl (lv_room (Nat.le_of_ble_eq_true rfl)) dX7_setWall_16 ⟨Nat.le_of_ble_eq_true rfl, Nat.le_of_ble_eq_true rfl⟩)) (fun r0 hr0 => ?_)
      obtain rfl := hr0
      refine lv_iconst (v := (-1)) hx hb dX7_setWall_19 (by decide) ?_
      refine lv_icmp_ne (tgt := 33) hx hb dX7_setWall_20 (by decide) (fun c_20 => ?_) (fun c_20 => ?_)
      · have hq := k_f c_20 hq
        refine lv_aload_n hx hb dX7_setWall_33 rfl (lv_at hl 0 rfl) ?_
        refine va_get (D := G.1) (ci := 7) (v := .ref qB) (C := RX7) (T := TX7) (N := 6) hx hb hts hi7 hown hK hP 0 rfl rfl 0 (by decide) hw0 (fun _ h9 => h9) rfl dX7_setWall_34 ?_
        refine lv_iload_n hx hb dX7_setWall_37 rfl (lv_at hl 1 rfl) ?_
        refine lv_iload_n hx hb dX7_setWall_38 rfl (lv_at hl 2 rfl) ?_
        obtain ⟨q8, eq8, hq⟩ := ob hq
        have hPc := hP.sub (ws' := [(qB, .inr (0, [.ref qBT, .ref qBC, .ref qBN, .ref qBW, .ref qBL, .int bn, .int bk, .int bs])), (qBW, .inl (G.2.1, 64, .inl bW))]) [1, 3] rfl
        have hKc := hK
        refine vp_callSi (va_Run.run (va_runV (As := [.int x1, .int x2]) (rest := []) ⟨hx, hb, hml, hown, hts⟩ (tX0_across G l eq8) (cwV 2 hts gX7_setWall_X0_across rfl rfl rfl (by decide +kernel) ⟨Nat.le_of_ble_eq_true rfl, Nat.le_of_ble_eq_true rfl⟩) ⟨pcP_blind, va_recv hKc hPc (ci := 0) (q0 := 0) rfl rfl, pcP_pre hPc hKK⟩ rfl rfl hl.1 rfl (lv_room (Nat.le_of_ble_eq_true rfl)) dX7_setWall_39 ⟨Nat.le_of_ble_eq_true rfl, Nat.le_of_ble_eq_true rfl⟩)) (fun r0 hr0 => ?_)
        obtain rfl := hr0
        refine lv_iconst (v := (-1)) hx hb dX7_setWall_42 (by decide) ?_
        have J51 : ∀ (v9 : Int32) (ls : Array Slot) (H : Heap) (locs : List Loc), kX7_setWall_j51 F bn bN bW x1 x2 x3 v9 = some r → lv_has ls 5 [(0, .ref qX), (1, .int x1), (2, .int x2), (3, .int x3)] → va_P G.1 vwCl [(qX, .inr (7, [.ref qB, .ref qH, .ref qK, .ref qV, .ref qS, .ref qW])), (qB, .inr (0, [.ref qBT, .ref qBC, .ref qBN, .ref qBW, .ref qBL, .int bn, .int bk, .int bs])), (qBN, .inl (G.2.1, 64, .inl bN)), (qBW, .inl (G.2.1, 64, .inl bW))] H → va_D A [(qX, .inr (7, [.ref qB, .ref qH, .ref qK, .ref qV, .ref qS, .ref qW])), (qB, .inr (0, [.ref qBT, .ref qBC, .ref qBN, .ref qBW, .ref qBL, .int bn, .int bk, .int bs])), (qBN, .inl (G.2.1, 64, .inl bN)), (qBW, .inl (G.2.1, 64, .inl bW))] → va_S A s.heap H locs → W p l e (headSpec wsX7_setWall rmX7_setWall).room s m ([.ref qX, .int x1, .int x2, .int x3] : List Value).toArray below meth c H locs 2 12 Q (F0 m 51 ls [.int v9]) := by
          intro v9 ls H locs hq hl hP hD hS
          unfold kX7_setWall_j51 at hq
          refine lv_istore (lv' := [(4, .int v9), (0, .ref qX), (1, .int x1), (2, .int x2), (3, .int x3)]) hx hb dX7_setWall_51 hl (by decide) rfl (fun ls hl => ?_)
          refine lv_aload_n hx hb dX7_setWall_53 rfl (lv_at hl 1 rfl) ?_
          refine va_get (D := G.1) (ci := 7) (v := .ref qB) (C := RX7) (T := TX7) (N := 6) hx hb hts hi7 hown hK hP 0 rfl rfl 0 (by decide) hw0 (fun _ h9 => h9) rfl dX7_setWall_54 ?_
          refine lv_iload_n hx hb dX7_setWall_57 rfl (lv_at hl 2 rfl) ?_
          refine lv_iload_n hx hb dX7_setWall_58 rfl (lv_at hl 3 rfl) ?_
          refine lv_iload_n hx hb dX7_setWall_59 rfl (lv_at hl 4 rfl) ?_
          obtain ⟨q10, eq10, hq⟩ := ob hq
          have hPc := hP.sub (ws' := [(qB, .inr (0, [.ref qBT, .ref qBC, .ref qBN, .ref qBW, .ref qBL, .int bn, .int bk, .int bs])), (qBN, .inl (G.2.1, 64, .inl bN)), (qBW, .inl (G.2.1, 64, .inl bW))]) [1, 2, 3] rfl
          have hKc := hK
          have hDc := hD.sub (ws' := [(qB, .inr (0, [.ref qBT, .ref qBC, .ref qBN, .ref qBW, .ref qBL, .int bn, .int bk, .int bs])), (qBN, .inl (G.2.1, 64, .inl bN)), (qBW, .inl (G.2.1, 64, .inl bW))]) [1, 2, 3] (by decide) rfl
          have hFc := va_free (wc := [(qB, .inr (0, [.ref qBT, .ref qBC, .ref qBN, .ref qBW, .ref qBL, .int bn, .int bk, .int bs])), (qBN, .inl (G.2.1, 64, .inl bN)), (qBW, .inl (G.2.1, 64, .inl bW))]) hD hS hA [1, 2, 3] rfl
          refine va_callv (va_runV (As := [.int x1, .int x2, .int x3]) (rest := []) ⟨hx, hb, hml, hown, hts⟩ (tX0_putWall G l eq10) (cwV 3 hts gX7_setWall_X0_putWall rfl rfl rfl (by decide +kernel) ⟨Nat.le_of_ble_eq_true rfl, Nat.le_of_ble_eq_true rfl⟩) ⟨pcW_blind, va_recv hKc hPc (ci := 0) (q0 := 0) rfl rfl, pcW_pre hPc hKK hDc⟩ rfl rfl hl.1 rfl (lv_room (Nat.le_of_ble_eq_true rfl)) dX7_setWall_60 ⟨Nat.le_of_ble_eq_true rfl, Nat.le_of_ble_eq_true rfl⟩) hS (fun q _ h => hFc q h) hFc (fun u t H1 locs ht hvm hw hB hz1 hk1 hS => ?_)
          have hB := va_Pto ht hB
          obtain ⟨hP, hD⟩ := jn (ws' := [(qX, .inr (7, [.ref qB, .ref qH, .ref qK, .ref qV, .ref qS, .ref qW])), (qB, .inr (0, [.ref qBT, .ref qBC, .ref qBN, .ref qBW, .ref qBL, .int bn, .int bk, .int bs])), (qBN, .inl (G.2.1, 64, .inl bN)), (qBW, .inl (G.2.1, 64, .inl q10))]) hP hD hk1 hB [1, 2, 3] rfl rfl rfl rfl
          generalize H1 = H at hP hS ⊢
          refine lv_iload hx hb dX7_setWall_63 (lv_at hl 0 rfl) ?_
          obtain ⟨hg, hq⟩ := k_g hq
          obtain rfl := Option.some.inj hq
          rw [hQ]
          refine vx_ret ?_
          refine W.widen (k := 3) (n := 18) (Nat.le_of_ble_eq_true rfl) (Nat.le_of_ble_eq_true rfl) ?_
          exact W.zret hx hb hr (isZ_n hg) (fun t ht hW => ⟨⟨_, _, rfl, ⟨rfl, rfl⟩, va_Pat ht hP⟩, hS.F ht⟩) hS.2.2 dX7_setWall_65
        refine lv_icmp_ne (tgt := 50) hx hb dX7_setWall_43 (by decide) (fun c_43 => ?_) (fun c_43 => ?_)
        · have hq := k_f c_43 hq
          refine lv_iconst (v := 0) hx hb dX7_setWall_50 (by decide) ?_
          exact J51 0 ls _ _ hq (lv_sub hl [0, 1, 2, 3] rfl) hP hD hS
        · have hq := k_t c_43 hq
          refine lv_iconst (v := 1) hx hb dX7_setWall_46 (by decide) ?_
          refine lv_goto (tgt := 51) hx hb dX7_setWall_47 (by decide) ?_
          exact J51 1 ls _ _ hq (lv_sub hl [0, 1, 2, 3] rfl) hP hD hS
      · have hq := k_t c_20 hq
        obtain rfl := Option.some.inj hq
        rw [hQ]
        obtain ⟨sa, hsa⟩ := hT.2.2.1 (109, "there is no neighbour at this side") (List.mem_of_getElem? (i := 2) rfl)
        have hat : ∀ w ∈ vx_atS RX7 111 "java/lang/IllegalStateException" ["java/lang/RuntimeException", "java/lang/Exception"], w.before ([.ref qX, .int x1, .int x2, .int x3] : List Value).toArray s = true := vx_hat (B := thB 2) (fun w h => hts w (by first | exact List.mem_cons_of_mem _ (List.mem_append_right _ h) | exact (show w ∈ wsX7_setWall from by have h2 := h; revert h2; revert w; decide +kernel))) (by decide +kernel) (hT.bad (by decide))
        exact vx_throwS hx hb hfl (own := RX7) (cls := "java/lang/IllegalStateException") (text := "there is no neighbour at this side") (names := ["java/lang/RuntimeException", "java/lang/Exception"]) hown (by decide +kernel) (by decide +kernel) hw1 hw2 hsa hat (by decide +kernel) hT.1 hT.2.1 hS (hl.1.trans hml.symm) dX7_setWall_23 dX7_setWall_26 dX7_setWall_27 dX7_setWall_29 dX7_setWall_32 (fun x h => (hno x h).elim) (Nat.le_of_ble_eq_true rfl) (Nat.le_of_ble_eq_true rfl) (Nat.le_of_ble_eq_true rfl) (Nat.le_of_ble_eq_true rfl) hlocks (fun t hW hsz hk => ⟨_, rfl, ⟨rfl, thP hP hk⟩, thF hS hsz hk⟩) hS.2.2 (Nat.le_of_ble_eq_true rfl) (Nat.le_of_ble_eq_true rfl)

def kX7_setLock (F : Nat) (bn : Int32) (bk : Int32) (x1 : Int32) (x2 : Int32) : Option ((Int32 × Int32) ⊕ (Nat × Int32)) :=
  ((kX7_requireCell F bn x1).bind fun q1 => onR q1 (fun u2 => ((kX0_hasLock F bk x1).bind fun q4 => ((kX0_putLock F bk x1 x2).bind fun q5 => (if isZ q4 = true then some (.inl (q4, q5)) else none)))) (fun e3 => (e3, bk)))
abbrev rmX7_setLock : Room := { frames := 9, cells := 1, slots := 6, locals := 141 }
set_option maxHeartbeats 40000000 in
set_option maxRecDepth 100000 in
theorem tX7_setLock (G : GG) (l : Launch) (hfl : l.stackTraces = false) {qX qB qH qK qV qS qW qBT qBC qBN qBW qBL : Nat} {bn : Int32} {bk : Int32} {bs : Int32} {x1 : Int32} {x2 : Int32} {sz : Nat} {F : Nat} {r : (Int32 × Int32) ⊕ (Nat × Int32)} (hq : kX7_setLock F bn bk x1 x2 = some r) : vx_Met l yX7_setLock wsX7_setLock rmX7_setLock (pcX G [(qX, .inr (7, [.ref qB, .ref qH, .ref qK, .ref qV, .ref qS, .ref qW])), (qB, .inr (0, [.ref qBT, .ref qBC, .ref qBN, .ref qBW, .ref qBL, .int bn, .int bk, .int bs]))] sz [.ref qX, .int x1, .int x2]) (qxI G r (fun u => u.1) (fun u => [(qX, .inr (7, [.ref qB, .ref qH, .ref qK, .ref qV, .ref qS, .ref qW])), (qB, .inr (0, [.ref qBT, .ref qBC, .ref qBN, .ref qBW, .ref qBL, .int bn, .int u.2, .int bs]))]) (va_A [(qX, .inr (7, [.ref qB, .ref qH, .ref qK, .ref qV, .ref qS, .ref qW])), (qB, .inr (0, [.ref qBT, .ref qBC, .ref qBN, .ref qBW, .ref qBL, .int bn, .int bk, .int bs]))] sz)) (xcX G r (fun u => u.1) (fun u => [(qX, .inr (7, [.ref qB, .ref qH, .ref qK, .ref qV, .ref qS, .ref qW])), (qB, .inr (0, [.ref qBT, .ref qBC, .ref qBN, .ref qBW, .ref qBL, .int bn, .int u.2, .int bs]))]) (va_A [(qX, .inr (7, [.ref qB, .ref qH, .ref qK, .ref qV, .ref qS, .ref qW])), (qB, .inr (0, [.ref qBT, .ref qBC, .ref qBN, .ref qBW, .ref qBL, .int bn, .int bk, .int bs]))] sz)) 1 6 (va_A [(qX, .inr (7, [.ref qB, .ref qH, .ref qK, .ref qV, .ref qS, .ref qW])), (qB, .inr (0, [.ref qBT, .ref qBC, .ref qBN, .ref qBW, .ref qBL, .int bn, .int bk, .int bs]))] sz) := by
  refine vx_ofW (cc := cX7_setLock) (maxL := 4) (ret := (some .boolean)) (by decide) rfl ?_
  intro p e s m args below meth c s₁ B hml hno hv
  obtain ⟨rfl, hsz, hP, hKK, hD0, hT⟩ := hv
  have hK := hKK.1
  have hx := B.exec
  have hb := B.bytes
  have hr := B.returns
  have hts := atoms_spec (ws := wsX7_setLock) B.pre
  have hown : s.vm.findClass RX7 = some m.cls := findClass_of_methodNamed B.named
  have hlocks := B.notSynchronized
  subst hsz
  have hD := hD0.self (sz := s.heap.size)
  generalize hAe : va_A [(qX, .inr (7, [.ref qB, .ref qH, .ref qK, .ref qV, .ref qS, .ref qW])), (qB, .inr (0, [.ref qBT, .ref qBC, .ref qBN, .ref qBW, .ref qBL, .int bn, .int bk, .int bs]))] s.heap.size = A at hD hT ⊢
  have hA : ∀ q : Nat, s.heap.size ≤ q → A q := fun q h => by rw [← hAe]; exact Or.inr h
  have hS : va_S A s.heap s.heap [] := va_S.rf
  have hl := lv_entry ([.ref qX, .int x1, .int x2] : List Value) (n := 4) (Nat.le_of_ble_eq_true rfl)
  rw [lg_entry_eq]
  generalize (lg_sl ([.ref qX, .int x1, .int x2] : List Value) ++ List.replicate (4 - (lg_sl ([.ref qX, .int x1, .int x2] : List Value)).length) Slot.unset).toArray = ls at hl ⊢
  have hl : lv_has ls 4 [(0, .ref qX), (1, .int x1), (2, .int x2)] := hl
  have hi7 : ∀ w ∈ u_ws RX7 TX7 6, w ∈ wsX7_setLock := by decide +kernel
  have hw0 : (Cond.fieldLink RX7 10 "NetPlumber" "board" "LNetPlumber$Board;").before #[Value.ref qX, Value.int x1, Value.int x2] s = true := hts _ (by decide +kernel)
  refine wq (fun Q hQ => ?_)
  unfold kX7_setLock at hq
  refine lv_aload_n hx hb dX7_setLock_0 rfl (lv_at hl 0 rfl) ?_
  refine lv_iload_n hx hb dX7_setLock_1 rfl (lv_at hl 1 rfl) ?_
  obtain ⟨q1, eq1, hq⟩ := ob hq
  have hPc := hP.sub (ws' := [(qX, .inr (7, [.ref qB, .ref qH, .ref qK, .ref qV, .ref qS, .ref qW])), (qB, .inr (0, [.ref qBT, .ref qBC, .ref qBN, .ref qBW, .ref qBL, .int bn, .int bk, .int bs]))]) [0, 1] rfl
  have hKc := hK
  have hDc := hD.sub (ws' := [(qX, .inr (7, [.ref qB, .ref qH, .ref qK, .ref qV, .ref qS, .ref qW])), (qB, .inr (0, [.ref qBT, .ref qBC, .ref qBN, .ref qBW, .ref qBL, .int bn, .int bk, .int bs]))]) [0, 1] (by decide) rfl
  have hFc := va_free (wc := [(qX, .inr (7, [.ref qB, .ref qH, .ref qK, .ref qV, .ref qS, .ref qW])), (qB, .inr (0, [.ref qBT, .ref qBC, .ref qBN, .ref qBW, .ref qBL, .int bn, .int bk, .int bs]))]) hD hS hA [0, 1] rfl
  refine vx_callv (vx_runV (As := [.int x1]) (rest := []) ⟨hx, hb, hml, hown, hts⟩ (tX7_requireCell G l hfl eq1) (cwV 1 hts gX7_setLock_X7_requireCell rfl rfl rfl (by decide +kernel) ⟨Nat.le_of_ble_eq_true rfl, Nat.le_of_ble_eq_true rfl⟩) ⟨pcX_blind, va_recv hKc hPc (ci := 7) (q0 := 0) rfl rfl, pcX_pre hPc hKK hDc hT hS hFc⟩ rfl rfl hl.1 rfl (lv_room (Nat.le_of_ble_eq_true rfl)) dX7_setLock_2 ⟨Nat.le_of_ble_eq_true rfl, Nat.le_of_ble_eq_true rfl⟩) hS (fun q _ h => hFc q h) hFc (fun q _ h => hFc q h) (fun E ce q9 u t H1 locs ht hvm hpx hB hz1 hk1 hS hc1 hv1 hcl1 => ?_) (fun u t H1 locs ht hvm hw hB hz1 hk1 hS => ?_)
  · obtain ⟨e3, rfl⟩ : ∃ z, z = u := ⟨_, rfl⟩
    subst hpx
    obtain rfl := onR_r hq
    obtain ⟨hE, hB⟩ := hB
    have hB := va_Pto ht hB
    obtain ⟨hP, hD⟩ := jn (ws' := [(qX, .inr (7, [.ref qB, .ref qH, .ref qK, .ref qV, .ref qS, .ref qW])), (qB, .inr (0, [.ref qBT, .ref qBC, .ref qBN, .ref qBW, .ref qBL, .int bn, .int bk, .int bs]))]) hP hD hk1 hB [0, 1] rfl rfl rfl rfl
    rw [hQ]
    exact vx_out (fun x h => (hno x h).elim) hlocks hc1 hv1 hcl1 (fun t ht hW => ⟨_, rfl, ⟨hE, va_Pat ht hP⟩, hS.F ht⟩) hS.2.2 (Nat.le_of_ble_eq_true rfl) (Nat.le_of_ble_eq_true rfl)
  · obtain ⟨u2, rfl⟩ : ∃ z, z = u := ⟨_, rfl⟩
    subst hw
    have hq := onR_l hq
    have hB := va_Pto ht hB
    obtain ⟨hP, hD⟩ := jn (ws' := [(qX, .inr (7, [.ref qB, .ref qH, .ref qK, .ref qV, .ref qS, .ref qW])), (qB, .inr (0, [.ref qBT, .ref qBC, .ref qBN, .ref qBW, .ref qBL, .int bn, .int bk, .int bs]))]) hP hD hk1 hB [0, 1] rfl rfl rfl rfl
    generalize H1 = H at hP hS ⊢
    refine lv_aload_n hx hb dX7_setLock_5 rfl (lv_at hl 0 rfl) ?_
    refine va_get (D := G.1) (ci := 7) (v := .ref qB) (C := RX7) (T := TX7) (N := 6) hx hb hts hi7 hown hK hP 0 rfl rfl 0 (by decide) hw0 (fun _ h9 => h9) rfl dX7_setLock_6 ?_
    refine lv_iload_n hx hb dX7_setLock_9 rfl (lv_at hl 1 rfl) ?_
    obtain ⟨q4, eq4, hq⟩ := ob hq
    have hPc := hP.sub (ws' := [(qB, .inr (0, [.ref qBT, .ref qBC, .ref qBN, .ref qBW, .ref qBL, .int bn, .int bk, .int bs]))]) [1] rfl
    have hKc := hK
    refine vp_callSi (va_Run.run (va_runV (As := [.int x1]) (rest := []) ⟨hx, hb, hml, hown, hts⟩ (tX0_hasLock G l eq4) (cwV 1 hts gX7_setLock_X0_hasLock rfl rfl rfl (by decide +kernel) ⟨Nat.le_of_ble_eq_true rfl, Nat.le_of_ble_eq_true rfl⟩) ⟨pcP_blind, va_recv hKc hPc (ci := 0) (q0 := 0) rfl rfl, pcP_pre hPc hKK⟩ rfl rfl hl.1 rfl (lv_room (Nat.le_of_ble_eq_true rfl)) dX7_setLock_10 ⟨Nat.le_of_ble_eq_true rfl, Nat.le_of_ble_eq_true rfl⟩)) (fun r0 hr0 => ?_)
    obtain rfl := hr0
    refine lv_istore_n (lv' := [(3, .int q4), (0, .ref qX), (1, .int x1), (2, .int x2)]) hx hb dX7_setLock_13 rfl hl (by decide) rfl (fun ls hl => ?_)
    refine lv_aload_n hx hb dX7_setLock_14 rfl (lv_at hl 1 rfl) ?_
    refine va_get (D := G.1) (ci := 7) (v := .ref qB) (C := RX7) (T := TX7) (N := 6) hx hb hts hi7 hown hK hP 0 rfl rfl 0 (by decide) hw0 (fun _ h9 => h9) rfl dX7_setLock_15 ?_
    refine lv_iload_n hx hb dX7_setLock_18 rfl (lv_at hl 2 rfl) ?_
    refine lv_iload_n hx hb dX7_setLock_19 rfl (lv_at hl 3 rfl) ?_
    obtain ⟨q5, eq5, hq⟩ := ob hq
    have hPc := hP.sub (ws' := [(qB, .inr (0, [.ref qBT, .ref qBC, .ref qBN, .ref qBW, .ref qBL, .int bn, .int bk, .int bs]))]) [1] rfl
    have hKc := hK
    have hDc := hD.sub (ws' := [(qB, .inr (0, [.ref qBT, .ref qBC, .ref qBN, .ref qBW, .ref qBL, .int bn, .int bk, .int bs]))]) [1] (by decide) rfl
    have hFc := va_free (wc := [(qB, .inr (0, [.ref qBT, .ref qBC, .ref qBN, .ref qBW, .ref qBL, .int bn, .int bk, .int bs]))]) hD hS hA [1] rfl
    refine va_callv (va_runV (As := [.int x1, .int x2]) (rest := []) ⟨hx, hb, hml, hown, hts⟩ (tX0_putLock G l eq5) (cwV 2 hts gX7_setLock_X0_putLock rfl rfl rfl (by decide +kernel) ⟨Nat.le_of_ble_eq_true rfl, Nat.le_of_ble_eq_true rfl⟩) ⟨pcW_blind, va_recv hKc hPc (ci := 0) (q0 := 0) rfl rfl, pcW_pre hPc hKK hDc⟩ rfl rfl hl.1 rfl (lv_room (Nat.le_of_ble_eq_true rfl)) dX7_setLock_20 ⟨Nat.le_of_ble_eq_true rfl, Nat.le_of_ble_eq_true rfl⟩) hS (fun q _ h => hFc q h) hFc (fun u t H1 locs ht hvm hw hB hz1 hk1 hS => ?_)
    have hB := va_Pto ht hB
    obtain ⟨hP, hD⟩ := jn (ws' := [(qX, .inr (7, [.ref qB, .ref qH, .ref qK, .ref qV, .ref qS, .ref qW])), (qB, .inr (0, [.ref qBT, .ref qBC, .ref qBN, .ref qBW, .ref qBL, .int bn, .int q5, .int bs]))]) hP hD hk1 hB [1] rfl rfl rfl rfl
    generalize H1 = H at hP hS ⊢
    refine lv_iload_n hx hb dX7_setLock_23 rfl (lv_at hl 0 rfl) ?_
    obtain ⟨hg, hq⟩ := k_g hq
    obtain rfl := Option.some.inj hq
    rw [hQ]
    refine vx_ret ?_
    refine W.widen (k := 1) (n := 6) (Nat.le_of_ble_eq_true rfl) (Nat.le_of_ble_eq_true rfl) ?_
    exact W.zret hx hb hr (isZ_n hg) (fun t ht hW => ⟨⟨_, _, rfl, ⟨rfl, rfl⟩, va_Pat ht hP⟩, hS.F ht⟩) hS.2.2 dX7_setLock_24

def kX7_setSource (F : Nat) (bn : Int32) (bs : Int32) (x1 : Int32) : Option ((Int32 × Int32) ⊕ (Nat × Int32)) :=
  ((kX7_requireCell F bn x1).bind fun q1 => onR q1 (fun u2 => ((kX0_source F bs).bind fun q4 => ((kX0_putSource F bs x1).bind fun q5 => some (.inl (q4, q5))))) (fun e3 => (e3, bs)))
abbrev rmX7_setSource : Room := { frames := 9, cells := 1, slots := 6, locals := 141 }
set_option maxHeartbeats 40000000 in
set_option maxRecDepth 100000 in
theorem tX7_setSource (G : GG) (l : Launch) (hfl : l.stackTraces = false) {qX qB qH qK qV qS qW qBT qBC qBN qBW qBL : Nat} {bn : Int32} {bk : Int32} {bs : Int32} {x1 : Int32} {sz : Nat} {F : Nat} {r : (Int32 × Int32) ⊕ (Nat × Int32)} (hq : kX7_setSource F bn bs x1 = some r) : vx_Met l yX7_setSource wsX7_setSource rmX7_setSource (pcX G [(qX, .inr (7, [.ref qB, .ref qH, .ref qK, .ref qV, .ref qS, .ref qW])), (qB, .inr (0, [.ref qBT, .ref qBC, .ref qBN, .ref qBW, .ref qBL, .int bn, .int bk, .int bs]))] sz [.ref qX, .int x1]) (qxI G r (fun u => u.1) (fun u => [(qX, .inr (7, [.ref qB, .ref qH, .ref qK, .ref qV, .ref qS, .ref qW])), (qB, .inr (0, [.ref qBT, .ref qBC, .ref qBN, .ref qBW, .ref qBL, .int bn, .int bk, .int u.2]))]) (va_A [(qX, .inr (7, [.ref qB, .ref qH, .ref qK, .ref qV, .ref qS, .ref qW])), (qB, .inr (0, [.ref qBT, .ref qBC, .ref qBN, .ref qBW, .ref qBL, .int bn, .int bk, .int bs]))] sz)) (xcX G r (fun u => u.1) (fun u => [(qX, .inr (7, [.ref qB, .ref qH, .ref qK, .ref qV, .ref qS, .ref qW])), (qB, .inr (0, [.ref qBT, .ref qBC, .ref qBN, .ref qBW, .ref qBL, .int bn, .int bk, .int u.2]))]) (va_A [(qX, .inr (7, [.ref qB, .ref qH, .ref qK, .ref qV, .ref qS, .ref qW])), (qB, .inr (0, [.ref qBT, .ref qBC, .ref qBN, .ref qBW, .ref qBL, .int bn, .int bk, .int bs]))] sz)) 1 6 (va_A [(qX, .inr (7, [.ref qB, .ref qH, .ref qK, .ref qV, .ref qS, .ref qW])), (qB, .inr (0, [.ref qBT, .ref qBC, .ref qBN, .ref qBW, .ref qBL, .int bn, .int bk, .int bs]))] sz) := by
  refine vx_ofW (cc := cX7_setSource) (maxL := 3) (ret := (some .int)) (by decide) rfl ?_
  intro p e s m args below meth c s₁ B hml hno hv
  obtain ⟨rfl, hsz, hP, hKK, hD0, hT⟩ := hv
  have hK := hKK.1
  have hx := B.exec
  have hb := B.bytes
  have hr := B.returns
  have hts := atoms_spec (ws := wsX7_setSource) B.pre
  have hown : s.vm.findClass RX7 = some m.cls := findClass_of_methodNamed B.named
  have hlocks := B.notSynchronized
  subst hsz
  have hD := hD0.self (sz := s.heap.size)
  generalize hAe : va_A [(qX, .inr (7, [.ref qB, .ref qH, .ref qK, .ref qV, .ref qS, .ref qW])), (qB, .inr (0, [.ref qBT, .ref qBC, .ref qBN, .ref qBW, .ref qBL, .int bn, .int bk, .int bs]))] s.heap.size = A at hD hT ⊢
  have hA : ∀ q : Nat, s.heap.size ≤ q → A q := fun q h => by rw [← hAe]; exact Or.inr h
  have hS : va_S A s.heap s.heap [] := va_S.rf
  have hl := lv_entry ([.ref qX, .int x1] : List Value) (n := 3) (Nat.le_of_ble_eq_true rfl)
  rw [lg_entry_eq]
  generalize (lg_sl ([.ref qX, .int x1] : List Value) ++ List.replicate (3 - (lg_sl ([.ref qX, .int x1] : List Value)).length) Slot.unset).toArray = ls at hl ⊢
  have hl : lv_has ls 3 [(0, .ref qX), (1, .int x1)] := hl
  have hi7 : ∀ w ∈ u_ws RX7 TX7 6, w ∈ wsX7_setSource := by decide +kernel
  have hw0 : (Cond.fieldLink RX7 10 "NetPlumber" "board" "LNetPlumber$Board;").before #[Value.ref qX, Value.int x1] s = true := hts _ (by decide +kernel)
  refine wq (fun Q hQ => ?_)
  unfold kX7_setSource at hq
  refine lv_aload_n hx hb dX7_setSource_0 rfl (lv_at hl 0 rfl) ?_
  refine lv_iload_n hx hb dX7_setSource_1 rfl (lv_at hl 1 rfl) ?_
  obtain ⟨q1, eq1, hq⟩ := ob hq
  have hPc := hP.sub (ws' := [(qX, .inr (7, [.ref qB, .ref qH, .ref qK, .ref qV, .ref qS, .ref qW])), (qB, .inr (0, [.ref qBT, .ref qBC, .ref qBN, .ref qBW, .ref qBL, .int bn, .int bk, .int bs]))]) [0, 1] rfl
  have hKc := hK
  have hDc := hD.sub (ws' := [(qX, .inr (7, [.ref qB, .ref qH, .ref qK, .ref qV, .ref qS, .ref qW])), (qB, .inr (0, [.ref qBT, .ref qBC, .ref qBN, .ref qBW, .ref qBL, .int bn, .int bk, .int bs]))]) [0, 1] (by decide) rfl
  have hFc := va_free (wc := [(qX, .inr (7, [.ref qB, .ref qH, .ref qK, .ref qV, .ref qS, .ref qW])), (qB, .inr (0, [.ref qBT, .ref qBC, .ref qBN, .ref qBW, .ref qBL, .int bn, .int bk, .int bs]))]) hD hS hA [0, 1] rfl
  refine vx_callv (vx_runV (As := [.int x1]) (rest := []) ⟨hx, hb, hml, hown, hts⟩ (tX7_requireCell G l hfl eq1) (cwV 1 hts gX7_setSource_X7_requireCell rfl rfl rfl (by decide +kernel) ⟨Nat.le_of_ble_eq_true rfl, Nat.le_of_ble_eq_true rfl⟩) ⟨pcX_blind, va_recv hKc hPc (ci := 7) (q0 := 0) rfl rfl, pcX_pre hPc hKK hDc hT hS hFc⟩ rfl rfl hl.1 rfl (lv_room (Nat.le_of_ble_eq_true rfl)) dX7_setSource_2 ⟨Nat.le_of_ble_eq_true rfl, Nat.le_of_ble_eq_true rfl⟩) hS (fun q _ h => hFc q h) hFc (fun q _ h => hFc q h) (fun E ce q9 u t H1 locs ht hvm hpx hB hz1 hk1 hS hc1 hv1 hcl1 => ?_) (fun u t H1 locs ht hvm hw hB hz1 hk1 hS => ?_)
  · obtain ⟨e3, rfl⟩ : ∃ z, z = u := ⟨_, rfl⟩
    subst hpx
    obtain rfl := onR_r hq
    obtain ⟨hE, hB⟩ := hB
    have hB := va_Pto ht hB
    obtain ⟨hP, hD⟩ := jn (ws' := [(qX, .inr (7, [.ref qB, .ref qH, .ref qK, .ref qV, .ref qS, .ref qW])), (qB, .inr (0, [.ref qBT, .ref qBC, .ref qBN, .ref qBW, .ref qBL, .int bn, .int bk, .int bs]))]) hP hD hk1 hB [0, 1] rfl rfl rfl rfl
    rw [hQ]
    exact vx_out (fun x h => (hno x h).elim) hlocks hc1 hv1 hcl1 (fun t ht hW => ⟨_, rfl, ⟨hE, va_Pat ht hP⟩, hS.F ht⟩) hS.2.2 (Nat.le_of_ble_eq_true rfl) (Nat.le_of_ble_eq_true rfl)
  · obtain ⟨u2, rfl⟩ : ∃ z, z = u := ⟨_, rfl⟩
    subst hw
    have hq := onR_l hq
    have hB := va_Pto ht hB
    obtain ⟨hP, hD⟩ := jn (ws' := [(qX, .inr (7, [.ref qB, .ref qH, .ref qK, .ref qV, .ref qS, .ref qW])), (qB, .inr (0, [.ref qBT, .ref qBC, .ref qBN, .ref qBW, .ref qBL, .int bn, .int bk, .int bs]))]) hP hD hk1 hB [0, 1] rfl rfl rfl rfl
    generalize H1 = H at hP hS ⊢
    refine lv_aload_n hx hb dX7_setSource_5 rfl (lv_at hl 0 rfl) ?_
    refine va_get (D := G.1) (ci := 7) (v := .ref qB) (C := RX7) (T := TX7) (N := 6) hx hb hts hi7 hown hK hP 0 rfl rfl 0 (by decide) hw0 (fun _ h9 => h9) rfl dX7_setSource_6 ?_
    obtain ⟨q4, eq4, hq⟩ := ob hq
    have hPc := hP.sub (ws' := [(qB, .inr (0, [.ref qBT, .ref qBC, .ref qBN, .ref qBW, .ref qBL, .int bn, .int bk, .int bs]))]) [1] rfl
    have hKc := hK
    refine vp_callSi (va_Run.run (va_runV (As := []) (rest := []) ⟨hx, hb, hml, hown, hts⟩ (tX0_source G l eq4) (cwV 0 hts gX7_setSource_X0_source rfl rfl rfl (by decide +kernel) ⟨Nat.le_of_ble_eq_true rfl, Nat.le_of_ble_eq_true rfl⟩) ⟨pcP_blind, va_recv hKc hPc (ci := 0) (q0 := 0) rfl rfl, pcP_pre hPc hKK⟩ rfl rfl hl.1 rfl (lv_room (Nat.le_of_ble_eq_true rfl)) dX7_setSource_9 ⟨Nat.le_of_ble_eq_true rfl, Nat.le_of_ble_eq_true rfl⟩)) (fun r0 hr0 => ?_)
    obtain rfl := hr0
    refine lv_istore_n (lv' := [(2, .int q4), (0, .ref qX), (1, .int x1)]) hx hb dX7_setSource_12 rfl hl (by decide) rfl (fun ls hl => ?_)
    refine lv_aload_n hx hb dX7_setSource_13 rfl (lv_at hl 1 rfl) ?_
    refine va_get (D := G.1) (ci := 7) (v := .ref qB) (C := RX7) (T := TX7) (N := 6) hx hb hts hi7 hown hK hP 0 rfl rfl 0 (by decide) hw0 (fun _ h9 => h9) rfl dX7_setSource_14 ?_
    refine lv_iload_n hx hb dX7_setSource_17 rfl (lv_at hl 2 rfl) ?_
    obtain ⟨q5, eq5, hq⟩ := ob hq
    have hPc := hP.sub (ws' := [(qB, .inr (0, [.ref qBT, .ref qBC, .ref qBN, .ref qBW, .ref qBL, .int bn, .int bk, .int bs]))]) [1] rfl
    have hKc := hK
    have hDc := hD.sub (ws' := [(qB, .inr (0, [.ref qBT, .ref qBC, .ref qBN, .ref qBW, .ref qBL, .int bn, .int bk, .int bs]))]) [1] (by decide) rfl
    have hFc := va_free (wc := [(qB, .inr (0, [.ref qBT, .ref qBC, .ref qBN, .ref qBW, .ref qBL, .int bn, .int bk, .int bs]))]) hD hS hA [1] rfl
    refine va_callv (va_runV (As := [.int x1]) (rest := []) ⟨hx, hb, hml, hown, hts⟩ (tX0_putSource G l eq5) (cwV 1 hts gX7_setSource_X0_putSource rfl rfl rfl (by decide +kernel) ⟨Nat.le_of_ble_eq_true rfl, Nat.le_of_ble_eq_true rfl⟩) ⟨pcW_blind, va_recv hKc hPc (ci := 0) (q0 := 0) rfl rfl, pcW_pre hPc hKK hDc⟩ rfl rfl hl.1 rfl (lv_room (Nat.le_of_ble_eq_true rfl)) dX7_setSource_18 ⟨Nat.le_of_ble_eq_true rfl, Nat.le_of_ble_eq_true rfl⟩) hS (fun q _ h => hFc q h) hFc (fun u t H1 locs ht hvm hw hB hz1 hk1 hS => ?_)
    have hB := va_Pto ht hB
    obtain ⟨hP, hD⟩ := jn (ws' := [(qX, .inr (7, [.ref qB, .ref qH, .ref qK, .ref qV, .ref qS, .ref qW])), (qB, .inr (0, [.ref qBT, .ref qBC, .ref qBN, .ref qBW, .ref qBL, .int bn, .int bk, .int q5]))]) hP hD hk1 hB [1] rfl rfl rfl rfl
    generalize H1 = H at hP hS ⊢
    refine lv_iload_n hx hb dX7_setSource_21 rfl (lv_at hl 0 rfl) ?_
    obtain rfl := Option.some.inj hq
    rw [hQ]
    refine vx_ret ?_
    refine W.widen (k := 1) (n := 6) (Nat.le_of_ble_eq_true rfl) (Nat.le_of_ble_eq_true rfl) ?_
    exact W.iret hx hb hr (fun t ht hW => ⟨⟨_, _, rfl, ⟨rfl, rfl⟩, va_Pat ht hP⟩, hS.F ht⟩) hS.2.2 dX7_setSource_22

def kX7_turn (F : Nat) (bn : Int32) (bk : Int32) (bT : Nat → Int32) (hd : Int32) (hk : Int32) (hM : Nat → Int32) (x1 : Int32) : Option ((Int32 × (Nat → Int32) × Int32 × Int32 × (Nat → Int32)) ⊕ (Nat × (Nat → Int32) × Int32 × Int32 × (Nat → Int32))) :=
  ((kX7_requireCell F bn x1).bind fun q1 => onR q1 (fun u2 => ((kX0_hasLock F bk x1).bind fun q4 => (if q4 = 0 then ((kX2_isFull F hd).bind fun q5 => (if q5 = 0 then ((kX0_spin F bn bT x1 1).bind fun q6 => ((kX2_note F hd hk hM x1).bind fun q7 => ((kX0_sidesOf F q6 x1).bind fun q8 => some (.inl (q8, q6, q7.1, q7.2.1, q7.2.2))))) else some (.inr (2, bT, hd, hk, hM)))) else some (.inr (2, bT, hd, hk, hM))))) (fun e3 => (e3, bT, hd, hk, hM)))
abbrev rmX7_turn : Room := { frames := 9, cells := 2, slots := 12, locals := 141 }
set_option maxHeartbeats 40000000 in
set_option maxRecDepth 100000 in
theorem tX7_turn (G : GG) (l : Launch) (hfl : l.stackTraces = false) {qX qB qH qK qV qS qW qBT qBC qBN qBW qBL qHM : Nat} {bn : Int32} {bk : Int32} {bs : Int32} {bT : Nat → Int32} {hd : Int32} {hk : Int32} {hM : Nat → Int32} {x1 : Int32} {sz : Nat} {F : Nat} {r : (Int32 × (Nat → Int32) × Int32 × Int32 × (Nat → Int32)) ⊕ (Nat × (Nat → Int32) × Int32 × Int32 × (Nat → Int32))} (hq : kX7_turn F bn bk bT hd hk hM x1 = some r) : vx_Met l yX7_turn wsX7_turn rmX7_turn (pcX G [(qX, .inr (7, [.ref qB, .ref qH, .ref qK, .ref qV, .ref qS, .ref qW])), (qB, .inr (0, [.ref qBT, .ref qBC, .ref qBN, .ref qBW, .ref qBL, .int bn, .int bk, .int bs])), (qBT, .inl (G.2.1, 16, .inl bT)), (qH, .inr (2, [.ref qHM, .int hd, .int hk])), (qHM, .inl (G.2.1, 512, .inl hM))] sz [.ref qX, .int x1]) (qxI G r (fun u => u.1) (fun u => [(qX, .inr (7, [.ref qB, .ref qH, .ref qK, .ref qV, .ref qS, .ref qW])), (qB, .inr (0, [.ref qBT, .ref qBC, .ref qBN, .ref qBW, .ref qBL, .int bn, .int bk, .int bs])), (qBT, .inl (G.2.1, 16, .inl u.2.1)), (qH, .inr (2, [.ref qHM, .int u.2.2.1, .int u.2.2.2.1])), (qHM, .inl (G.2.1, 512, .inl u.2.2.2.2))]) (va_A [(qX, .inr (7, [.ref qB, .ref qH, .ref qK, .ref qV, .ref qS, .ref qW])), (qB, .inr (0, [.ref qBT, .ref qBC, .ref qBN, .ref qBW, .ref qBL, .int bn, .int bk, .int bs])), (qBT, .inl (G.2.1, 16, .inl bT)), (qH, .inr (2, [.ref qHM, .int hd, .int hk])), (qHM, .inl (G.2.1, 512, .inl hM))] sz)) (xcX G r (fun u => u.1) (fun u => [(qX, .inr (7, [.ref qB, .ref qH, .ref qK, .ref qV, .ref qS, .ref qW])), (qB, .inr (0, [.ref qBT, .ref qBC, .ref qBN, .ref qBW, .ref qBL, .int bn, .int bk, .int bs])), (qBT, .inl (G.2.1, 16, .inl u.2.1)), (qH, .inr (2, [.ref qHM, .int u.2.2.1, .int u.2.2.2.1])), (qHM, .inl (G.2.1, 512, .inl u.2.2.2.2))]) (va_A [(qX, .inr (7, [.ref qB, .ref qH, .ref qK, .ref qV, .ref qS, .ref qW])), (qB, .inr (0, [.ref qBT, .ref qBC, .ref qBN, .ref qBW, .ref qBL, .int bn, .int bk, .int bs])), (qBT, .inl (G.2.1, 16, .inl bT)), (qH, .inr (2, [.ref qHM, .int hd, .int hk])), (qHM, .inl (G.2.1, 512, .inl hM))] sz)) 2 12 (va_A [(qX, .inr (7, [.ref qB, .ref qH, .ref qK, .ref qV, .ref qS, .ref qW])), (qB, .inr (0, [.ref qBT, .ref qBC, .ref qBN, .ref qBW, .ref qBL, .int bn, .int bk, .int bs])), (qBT, .inl (G.2.1, 16, .inl bT)), (qH, .inr (2, [.ref qHM, .int hd, .int hk])), (qHM, .inl (G.2.1, 512, .inl hM))] sz) := by
  refine vx_ofW (cc := cX7_turn) (maxL := 2) (ret := (some .int)) (by decide) rfl ?_
  intro p e s m args below meth c s₁ B hml hno hv
  obtain ⟨rfl, hsz, hP, hKK, hD0, hT⟩ := hv
  have hK := hKK.1
  have hx := B.exec
  have hb := B.bytes
  have hr := B.returns
  have hts := atoms_spec (ws := wsX7_turn) B.pre
  have hown : s.vm.findClass RX7 = some m.cls := findClass_of_methodNamed B.named
  have hlocks := B.notSynchronized
  subst hsz
  have hD := hD0.self (sz := s.heap.size)
  generalize hAe : va_A [(qX, .inr (7, [.ref qB, .ref qH, .ref qK, .ref qV, .ref qS, .ref qW])), (qB, .inr (0, [.ref qBT, .ref qBC, .ref qBN, .ref qBW, .ref qBL, .int bn, .int bk, .int bs])), (qBT, .inl (G.2.1, 16, .inl bT)), (qH, .inr (2, [.ref qHM, .int hd, .int hk])), (qHM, .inl (G.2.1, 512, .inl hM))] s.heap.size = A at hD hT ⊢
  have hA : ∀ q : Nat, s.heap.size ≤ q → A q := fun q h => by rw [← hAe]; exact Or.inr h
  have hS : va_S A s.heap s.heap [] := va_S.rf
  have hl := lv_entry ([.ref qX, .int x1] : List Value) (n := 2) (Nat.le_of_ble_eq_true rfl)
  rw [lg_entry_eq]
  generalize (lg_sl ([.ref qX, .int x1] : List Value) ++ List.replicate (2 - (lg_sl ([.ref qX, .int x1] : List Value)).length) Slot.unset).toArray = ls at hl ⊢
  have hl : lv_has ls 2 [(0, .ref qX), (1, .int x1)] := hl
  have hi7 : ∀ w ∈ u_ws RX7 TX7 6, w ∈ wsX7_turn := by decide +kernel
  have hw0 : (Cond.fieldLink RX7 10 "NetPlumber" "board" "LNetPlumber$Board;").before #[Value.ref qX, Value.int x1] s = true := hts _ (by decide +kernel)
  have hw1 : (Cond.fieldLink RX7 19 "NetPlumber" "history" "LNetPlumber$History;").before #[Value.ref qX, Value.int x1] s = true := hts _ (by decide +kernel)
  have hw2 : (Cond.classLink RX7 107 "java/lang/IllegalStateException").before #[Value.ref qX, Value.int x1] s = true := hts _ (by decide +kernel)
  have hw3 : (Cond.initialized "java/lang/IllegalStateException").before #[Value.ref qX, Value.int x1] s = true := hts _ (by decide +kernel)
  refine wq (fun Q hQ => ?_)
  unfold kX7_turn at hq
  refine lv_aload_n hx hb dX7_turn_0 rfl (lv_at hl 0 rfl) ?_
  refine lv_iload_n hx hb dX7_turn_1 rfl (lv_at hl 1 rfl) ?_
  obtain ⟨q1, eq1, hq⟩ := ob hq
  have hPc := hP.sub (ws' := [(qX, .inr (7, [.ref qB, .ref qH, .ref qK, .ref qV, .ref qS, .ref qW])), (qB, .inr (0, [.ref qBT, .ref qBC, .ref qBN, .ref qBW, .ref qBL, .int bn, .int bk, .int bs]))]) [0, 1] rfl
  have hKc := hK
  have hDc := hD.sub (ws' := [(qX, .inr (7, [.ref qB, .ref qH, .ref qK, .ref qV, .ref qS, .ref qW])), (qB, .inr (0, [.ref qBT, .ref qBC, .ref qBN, .ref qBW, .ref qBL, .int bn, .int bk, .int bs]))]) [0, 1] (by decide) rfl
  have hFc := va_free (wc := [(qX, .inr (7, [.ref qB, .ref qH, .ref qK, .ref qV, .ref qS, .ref qW])), (qB, .inr (0, [.ref qBT, .ref qBC, .ref qBN, .ref qBW, .ref qBL, .int bn, .int bk, .int bs]))]) hD hS hA [0, 1] rfl
  refine vx_callv (vx_runV (As := [.int x1]) (rest := []) ⟨hx, hb, hml, hown, hts⟩ (tX7_requireCell G l hfl eq1) (cwV 1 hts gX7_turn_X7_requireCell rfl rfl rfl (by decide +kernel) ⟨Nat.le_of_ble_eq_true rfl, Nat.le_of_ble_eq_true rfl⟩) ⟨pcX_blind, va_recv hKc hPc (ci := 7) (q0 := 0) rfl rfl, pcX_pre hPc hKK hDc hT hS hFc⟩ rfl rfl hl.1 rfl (lv_room (Nat.le_of_ble_eq_true rfl)) dX7_turn_2 ⟨Nat.le_of_ble_eq_true rfl, Nat.le_of_ble_eq_true rfl⟩) hS (fun q _ h => hFc q h) hFc (fun q _ h => hFc q h) (fun E ce q9 u t H1 locs ht hvm hpx hB hz1 hk1 hS hc1 hv1 hcl1 => ?_) (fun u t H1 locs ht hvm hw hB hz1 hk1 hS => ?_)
  · obtain ⟨e3, rfl⟩ : ∃ z, z = u := ⟨_, rfl⟩
    subst hpx
    obtain rfl := onR_r hq
    obtain ⟨hE, hB⟩ := hB
    have hB := va_Pto ht hB
    obtain ⟨hP, hD⟩ := jn (ws' := [(qX, .inr (7, [.ref qB, .ref qH, .ref qK, .ref qV, .ref qS, .ref qW])), (qB, .inr (0, [.ref qBT, .ref qBC, .ref qBN, .ref qBW, .ref qBL, .int bn, .int bk, .int bs])), (qBT, .inl (G.2.1, 16, .inl bT)), (qH, .inr (2, [.ref qHM, .int hd, .int hk])), (qHM, .inl (G.2.1, 512, .inl hM))]) hP hD hk1 hB [0, 1] rfl rfl rfl rfl
    rw [hQ]
    exact vx_out (fun x h => (hno x h).elim) hlocks hc1 hv1 hcl1 (fun t ht hW => ⟨_, rfl, ⟨hE, va_Pat ht hP⟩, hS.F ht⟩) hS.2.2 (Nat.le_of_ble_eq_true rfl) (Nat.le_of_ble_eq_true rfl)
  · obtain ⟨u2, rfl⟩ : ∃ z, z = u := ⟨_, rfl⟩
    subst hw
    have hq := onR_l hq
    have hB := va_Pto ht hB
    obtain ⟨hP, hD⟩ := jn (ws' := [(qX, .inr (7, [.ref qB, .ref qH, .ref qK, .ref qV, .ref qS, .ref qW])), (qB, .inr (0, [.ref qBT, .ref qBC, .ref qBN, .ref qBW, .ref qBL, .int bn, .int bk, .int bs])), (qBT, .inl (G.2.1, 16, .inl bT)), (qH, .inr (2, [.ref qHM, .int hd, .int hk])), (qHM, .inl (G.2.1, 512, .inl hM))]) hP hD hk1 hB [0, 1] rfl rfl rfl rfl
    generalize H1 = H at hP hS ⊢
    refine lv_aload_n hx hb dX7_turn_5 rfl (lv_at hl 0 rfl) ?_
    refine va_get (D := G.1) (ci := 7) (v := .ref qB) (C := RX7) (T := TX7) (N := 6) hx hb hts hi7 hown hK hP 0 rfl rfl 0 (by decide) hw0 (fun _ h9 => h9) rfl dX7_turn_6 ?_
    refine lv_iload_n hx hb dX7_turn_9 rfl (lv_at hl 1 rfl) ?_
    obtain ⟨q4, eq4, hq⟩ := ob hq
    have hPc := hP.sub (ws' := [(qB, .inr (0, [.ref qBT, .ref qBC, .ref qBN, .ref qBW, .ref qBL, .int bn, .int bk, .int bs]))]) [1] rfl
    have hKc := hK
    refine vp_callSi (va_Run.run (va_runV (As := [.int x1]) (rest := []) ⟨hx, hb, hml, hown, hts⟩ (tX0_hasLock G l eq4) (cwV 1 hts gX7_turn_X0_hasLock rfl rfl rfl (by decide +kernel) ⟨Nat.le_of_ble_eq_true rfl, Nat.le_of_ble_eq_true rfl⟩) ⟨pcP_blind, va_recv hKc hPc (ci := 0) (q0 := 0) rfl rfl, pcP_pre hPc hKK⟩ rfl rfl hl.1 rfl (lv_room (Nat.le_of_ble_eq_true rfl)) dX7_turn_10 ⟨Nat.le_of_ble_eq_true rfl, Nat.le_of_ble_eq_true rfl⟩)) (fun r0 hr0 => ?_)
    obtain rfl := hr0
    refine lv_if_eq (tgt := 26) hx hb dX7_turn_13 (by decide) (fun c_13 => ?_) (fun c_13 => ?_)
    · have hq := k_t c_13 hq
      refine lv_aload_n hx hb dX7_turn_26 rfl (lv_at hl 0 rfl) ?_
      refine va_get (D := G.1) (ci := 7) (v := .ref qH) (C := RX7) (T := TX7) (N := 6) hx hb hts hi7 hown hK hP 0 rfl rfl 1 (by decide) hw1 (fun _ h9 => h9) rfl dX7_turn_27 ?_
      obtain ⟨q5, eq5, hq⟩ := ob hq
      have hPc := hP.sub (ws' := [(qH, .inr (2, [.ref qHM, .int hd, .int hk]))]) [3] rfl
      have hKc := hK
      refine vp_callSi (va_Run.run (va_runV (As := []) (rest := []) ⟨hx, hb, hml, hown, hts⟩ (tX2_isFull G l eq5) (cwV 0 hts gX7_turn_X2_isFull rfl rfl rfl (by decide +kernel) ⟨Nat.le_of_ble_eq_true rfl, Nat.le_of_ble_eq_true rfl⟩) ⟨pcP_blind, va_recv hKc hPc (ci := 2) (q0 := 0) rfl rfl, pcP_pre hPc hKK⟩ rfl rfl hl.1 rfl (lv_room (Nat.le_of_ble_eq_true rfl)) dX7_turn_30 ⟨Nat.le_of_ble_eq_true rfl, Nat.le_of_ble_eq_true rfl⟩)) (fun r0 hr0 => ?_)
      obtain rfl := hr0
      refine lv_if_eq (tgt := 46) hx hb dX7_turn_33 (by decide) (fun c_33 => ?_) (fun c_33 => ?_)
      · have hq := k_t c_33 hq
        refine lv_aload_n hx hb dX7_turn_46 rfl (lv_at hl 0 rfl) ?_
        refine va_get (D := G.1) (ci := 7) (v := .ref qB) (C := RX7) (T := TX7) (N := 6) hx hb hts hi7 hown hK hP 0 rfl rfl 0 (by decide) hw0 (fun _ h9 => h9) rfl dX7_turn_47 ?_
        refine lv_iload_n hx hb dX7_turn_50 rfl (lv_at hl 1 rfl) ?_
        refine lv_iconst (v := 1) hx hb dX7_turn_51 (by decide) ?_
        obtain ⟨q6, eq6, hq⟩ := ob hq
        have hPc := hP.sub (ws' := [(qB, .inr (0, [.ref qBT, .ref qBC, .ref qBN, .ref qBW, .ref qBL, .int bn, .int bk, .int bs])), (qBT, .inl (G.2.1, 16, .inl bT))]) [1, 2] rfl
        have hKc := hK
        have hDc := hD.sub (ws' := [(qB, .inr (0, [.ref qBT, .ref qBC, .ref qBN, .ref qBW, .ref qBL, .int bn, .int bk, .int bs])), (qBT, .inl (G.2.1, 16, .inl bT))]) [1, 2] (by decide) rfl
        have hFc := va_free (wc := [(qB, .inr (0, [.ref qBT, .ref qBC, .ref qBN, .ref qBW, .ref qBL, .int bn, .int bk, .int bs])), (qBT, .inl (G.2.1, 16, .inl bT))]) hD hS hA [1, 2] rfl
        refine va_callv (va_runV (As := [.int x1, .int 1]) (rest := []) ⟨hx, hb, hml, hown, hts⟩ (tX0_spin G l eq6) (cwV 2 hts gX7_turn_X0_spin rfl rfl rfl (by decide +kernel) ⟨Nat.le_of_ble_eq_true rfl, Nat.le_of_ble_eq_true rfl⟩) ⟨pcW_blind, va_recv hKc hPc (ci := 0) (q0 := 0) rfl rfl, pcW_pre hPc hKK hDc⟩ rfl rfl hl.1 rfl (lv_room (Nat.le_of_ble_eq_true rfl)) dX7_turn_52 ⟨Nat.le_of_ble_eq_true rfl, Nat.le_of_ble_eq_true rfl⟩) hS (fun q _ h => hFc q h) hFc (fun u t H1 locs ht hvm hw hB hz1 hk1 hS => ?_)
        have hB := va_Pto ht hB
        obtain ⟨hP, hD⟩ := jn (ws' := [(qX, .inr (7, [.ref qB, .ref qH, .ref qK, .ref qV, .ref qS, .ref qW])), (qB, .inr (0, [.ref qBT, .ref qBC, .ref qBN, .ref qBW, .ref qBL, .int bn, .int bk, .int bs])), (qBT, .inl (G.2.1, 16, .inl q6)), (qH, .inr (2, [.ref qHM, .int hd, .int hk])), (qHM, .inl (G.2.1, 512, .inl hM))]) hP hD hk1 hB [1, 2] rfl rfl rfl rfl
        generalize H1 = H at hP hS ⊢
        refine lv_aload_n hx hb dX7_turn_55 rfl (lv_at hl 0 rfl) ?_
        refine va_get (D := G.1) (ci := 7) (v := .ref qH) (C := RX7) (T := TX7) (N := 6) hx hb hts hi7 hown hK hP 0 rfl rfl 1 (by decide) hw1 (fun _ h9 => h9) rfl dX7_turn_56 ?_
        refine lv_iload_n hx hb dX7_turn_59 rfl (lv_at hl 1 rfl) ?_
        obtain ⟨q7, eq7, hq⟩ := ob hq
        have hPc := hP.sub (ws' := [(qH, .inr (2, [.ref qHM, .int hd, .int hk])), (qHM, .inl (G.2.1, 512, .inl hM))]) [3, 4] rfl
        have hKc := hK
        have hDc := hD.sub (ws' := [(qH, .inr (2, [.ref qHM, .int hd, .int hk])), (qHM, .inl (G.2.1, 512, .inl hM))]) [3, 4] (by decide) rfl
        have hFc := va_free (wc := [(qH, .inr (2, [.ref qHM, .int hd, .int hk])), (qHM, .inl (G.2.1, 512, .inl hM))]) hD hS hA [3, 4] rfl
        refine va_callv (va_runV (As := [.int x1]) (rest := []) ⟨hx, hb, hml, hown, hts⟩ (tX2_note G l eq7) (cwV 1 hts gX7_turn_X2_note rfl rfl rfl (by decide +kernel) ⟨Nat.le_of_ble_eq_true rfl, Nat.le_of_ble_eq_true rfl⟩) ⟨pcW_blind, va_recv hKc hPc (ci := 2) (q0 := 0) rfl rfl, pcW_pre hPc hKK hDc⟩ rfl rfl hl.1 rfl (lv_room (Nat.le_of_ble_eq_true rfl)) dX7_turn_60 ⟨Nat.le_of_ble_eq_true rfl, Nat.le_of_ble_eq_true rfl⟩) hS (fun q _ h => hFc q h) hFc (fun u t H1 locs ht hvm hw hB hz1 hk1 hS => ?_)
        have hB := va_Pto ht hB
        obtain ⟨hP, hD⟩ := jn (ws' := [(qX, .inr (7, [.ref qB, .ref qH, .ref qK, .ref qV, .ref qS, .ref qW])), (qB, .inr (0, [.ref qBT, .ref qBC, .ref qBN, .ref qBW, .ref qBL, .int bn, .int bk, .int bs])), (qBT, .inl (G.2.1, 16, .inl q6)), (qH, .inr (2, [.ref qHM, .int q7.1, .int q7.2.1])), (qHM, .inl (G.2.1, 512, .inl q7.2.2))]) hP hD hk1 hB [3, 4] rfl rfl rfl rfl
        generalize H1 = H at hP hS ⊢
        refine lv_aload_n hx hb dX7_turn_63 rfl (lv_at hl 0 rfl) ?_
        refine va_get (D := G.1) (ci := 7) (v := .ref qB) (C := RX7) (T := TX7) (N := 6) hx hb hts hi7 hown hK hP 0 rfl rfl 0 (by decide) hw0 (fun _ h9 => h9) rfl dX7_turn_64 ?_
        refine lv_iload_n hx hb dX7_turn_67 rfl (lv_at hl 1 rfl) ?_
        obtain ⟨q8, eq8, hq⟩ := ob hq
        have hPc := hP.sub (ws' := [(qB, .inr (0, [.ref qBT, .ref qBC, .ref qBN, .ref qBW, .ref qBL, .int bn, .int bk, .int bs])), (qBT, .inl (G.2.1, 16, .inl q6))]) [1, 2] rfl
        have hKc := hK
        refine vp_callSi (va_Run.run (va_runV (As := [.int x1]) (rest := []) ⟨hx, hb, hml, hown, hts⟩ (tX0_sidesOf G l eq8) (cwV 1 hts gX7_turn_X0_sidesOf rfl rfl rfl (by decide +kernel) ⟨Nat.le_of_ble_eq_true rfl, Nat.le_of_ble_eq_true rfl⟩) ⟨pcP_blind, va_recv hKc hPc (ci := 0) (q0 := 0) rfl rfl, pcP_pre hPc hKK⟩ rfl rfl hl.1 rfl (lv_room (Nat.le_of_ble_eq_true rfl)) dX7_turn_68 ⟨Nat.le_of_ble_eq_true rfl, Nat.le_of_ble_eq_true rfl⟩)) (fun r0 hr0 => ?_)
        obtain rfl := hr0
        obtain rfl := Option.some.inj hq
        rw [hQ]
        refine vx_ret ?_
        refine W.widen (k := 2) (n := 12) (Nat.le_of_ble_eq_true rfl) (Nat.le_of_ble_eq_true rfl) ?_
        exact W.iret hx hb hr (fun t ht hW => ⟨⟨_, _, rfl, ⟨rfl, rfl⟩, va_Pat ht hP⟩, hS.F ht⟩) hS.2.2 dX7_turn_71
      · have hq := k_f c_33 hq
        obtain rfl := Option.some.inj hq
        rw [hQ]
        obtain ⟨sa, hsa⟩ := hT.2.2.1 (138, "an object is used for 512 calls at most") (List.mem_of_getElem? (i := 4) rfl)
        have hat : ∀ w ∈ vx_atS RX7 111 "java/lang/IllegalStateException" ["java/lang/RuntimeException", "java/lang/Exception"], w.before ([.ref qX, .int x1] : List Value).toArray s = true := vx_hat (B := thB 2) (fun w h => hts w (by first | exact List.mem_cons_of_mem _ (List.mem_append_right _ h) | exact (show w ∈ wsX7_turn from by have h2 := h; revert h2; revert w; decide +kernel))) (by decide +kernel) (hT.bad (by decide))
        exact vx_throwS hx hb hfl (own := RX7) (cls := "java/lang/IllegalStateException") (text := "an object is used for 512 calls at most") (names := ["java/lang/RuntimeException", "java/lang/Exception"]) hown (by decide +kernel) (by decide +kernel) hw2 hw3 hsa hat (by decide +kernel) hT.1 hT.2.1 hS (hl.1.trans hml.symm) dX7_turn_36 dX7_turn_39 dX7_turn_40 dX7_turn_42 dX7_turn_45 (fun x h => (hno x h).elim) (Nat.le_of_ble_eq_true rfl) (Nat.le_of_ble_eq_true rfl) (Nat.le_of_ble_eq_true rfl) (Nat.le_of_ble_eq_true rfl) hlocks (fun t hW hsz hk => ⟨_, rfl, ⟨rfl, thP hP hk⟩, thF hS hsz hk⟩) hS.2.2 (Nat.le_of_ble_eq_true rfl) (Nat.le_of_ble_eq_true rfl)
    · have hq := k_f c_13 hq
      obtain rfl := Option.some.inj hq
      rw [hQ]
      obtain ⟨sa, hsa⟩ := hT.2.2.1 (132, "the cell is locked") (List.mem_of_getElem? (i := 3) rfl)
      have hat : ∀ w ∈ vx_atS RX7 111 "java/lang/IllegalStateException" ["java/lang/RuntimeException", "java/lang/Exception"], w.before ([.ref qX, .int x1] : List Value).toArray s = true := vx_hat (B := thB 2) (fun w h => hts w (by first | exact List.mem_cons_of_mem _ (List.mem_append_right _ h) | exact (show w ∈ wsX7_turn from by have h2 := h; revert h2; revert w; decide +kernel))) (by decide +kernel) (hT.bad (by decide))
      exact vx_throwS hx hb hfl (own := RX7) (cls := "java/lang/IllegalStateException") (text := "the cell is locked") (names := ["java/lang/RuntimeException", "java/lang/Exception"]) hown (by decide +kernel) (by decide +kernel) hw2 hw3 hsa hat (by decide +kernel) hT.1 hT.2.1 hS (hl.1.trans hml.symm) dX7_turn_16 dX7_turn_19 dX7_turn_20 dX7_turn_22 dX7_turn_25 (fun x h => (hno x h).elim) (Nat.le_of_ble_eq_true rfl) (Nat.le_of_ble_eq_true rfl) (Nat.le_of_ble_eq_true rfl) (Nat.le_of_ble_eq_true rfl) hlocks (fun t hW hsz hk => ⟨_, rfl, ⟨rfl, thP hP hk⟩, thF hS hsz hk⟩) hS.2.2 (Nat.le_of_ble_eq_true rfl) (Nat.le_of_ble_eq_true rfl)

def kX7_undo (F : Nat) (bn : Int32) (bT : Nat → Int32) (hd : Int32) (hM : Nat → Int32) : Option ((Int32 × (Nat → Int32) × Int32) ⊕ (Nat × (Nat → Int32) × Int32)) :=
  ((kX2_stepBack F hd hM).bind fun q1 => (if q1.1 = (-1) then some (.inr (2, bT, q1.2)) else ((kX0_spin F bn bT q1.1 3).bind fun q2 => ((kX2_done F q1.2).bind fun q3 => some (.inl (q3, q2, q1.2))))))
abbrev rmX7_undo : Room := { frames := 8, cells := 1, slots := 6, locals := 120 }
set_option maxHeartbeats 40000000 in
set_option maxRecDepth 100000 in
theorem tX7_undo (G : GG) (l : Launch) (hfl : l.stackTraces = false) {qX qB qH qK qV qS qW qBT qBC qBN qBW qBL qHM : Nat} {bn : Int32} {bk : Int32} {bs : Int32} {bT : Nat → Int32} {hd : Int32} {hk : Int32} {hM : Nat → Int32} {sz : Nat} {F : Nat} {r : (Int32 × (Nat → Int32) × Int32) ⊕ (Nat × (Nat → Int32) × Int32)} (hq : kX7_undo F bn bT hd hM = some r) : vx_Met l yX7_undo wsX7_undo rmX7_undo (pcX G [(qX, .inr (7, [.ref qB, .ref qH, .ref qK, .ref qV, .ref qS, .ref qW])), (qB, .inr (0, [.ref qBT, .ref qBC, .ref qBN, .ref qBW, .ref qBL, .int bn, .int bk, .int bs])), (qBT, .inl (G.2.1, 16, .inl bT)), (qH, .inr (2, [.ref qHM, .int hd, .int hk])), (qHM, .inl (G.2.1, 512, .inl hM))] sz [.ref qX]) (qxI G r (fun u => u.1) (fun u => [(qX, .inr (7, [.ref qB, .ref qH, .ref qK, .ref qV, .ref qS, .ref qW])), (qB, .inr (0, [.ref qBT, .ref qBC, .ref qBN, .ref qBW, .ref qBL, .int bn, .int bk, .int bs])), (qBT, .inl (G.2.1, 16, .inl u.2.1)), (qH, .inr (2, [.ref qHM, .int u.2.2, .int hk])), (qHM, .inl (G.2.1, 512, .inl hM))]) (va_A [(qX, .inr (7, [.ref qB, .ref qH, .ref qK, .ref qV, .ref qS, .ref qW])), (qB, .inr (0, [.ref qBT, .ref qBC, .ref qBN, .ref qBW, .ref qBL, .int bn, .int bk, .int bs])), (qBT, .inl (G.2.1, 16, .inl bT)), (qH, .inr (2, [.ref qHM, .int hd, .int hk])), (qHM, .inl (G.2.1, 512, .inl hM))] sz)) (xcX G r (fun u => u.1) (fun u => [(qX, .inr (7, [.ref qB, .ref qH, .ref qK, .ref qV, .ref qS, .ref qW])), (qB, .inr (0, [.ref qBT, .ref qBC, .ref qBN, .ref qBW, .ref qBL, .int bn, .int bk, .int bs])), (qBT, .inl (G.2.1, 16, .inl u.2.1)), (qH, .inr (2, [.ref qHM, .int u.2.2, .int hk])), (qHM, .inl (G.2.1, 512, .inl hM))]) (va_A [(qX, .inr (7, [.ref qB, .ref qH, .ref qK, .ref qV, .ref qS, .ref qW])), (qB, .inr (0, [.ref qBT, .ref qBC, .ref qBN, .ref qBW, .ref qBL, .int bn, .int bk, .int bs])), (qBT, .inl (G.2.1, 16, .inl bT)), (qH, .inr (2, [.ref qHM, .int hd, .int hk])), (qHM, .inl (G.2.1, 512, .inl hM))] sz)) 1 6 (va_A [(qX, .inr (7, [.ref qB, .ref qH, .ref qK, .ref qV, .ref qS, .ref qW])), (qB, .inr (0, [.ref qBT, .ref qBC, .ref qBN, .ref qBW, .ref qBL, .int bn, .int bk, .int bs])), (qBT, .inl (G.2.1, 16, .inl bT)), (qH, .inr (2, [.ref qHM, .int hd, .int hk])), (qHM, .inl (G.2.1, 512, .inl hM))] sz) := by
  refine vx_ofW (cc := cX7_undo) (maxL := 2) (ret := (some .int)) (by decide) rfl ?_
  intro p e s m args below meth c s₁ B hml hno hv
  obtain ⟨rfl, hsz, hP, hKK, hD0, hT⟩ := hv
  have hK := hKK.1
  have hx := B.exec
  have hb := B.bytes
  have hr := B.returns
  have hts := atoms_spec (ws := wsX7_undo) B.pre
  have hown : s.vm.findClass RX7 = some m.cls := findClass_of_methodNamed B.named
  have hlocks := B.notSynchronized
  subst hsz
  have hD := hD0.self (sz := s.heap.size)
  generalize hAe : va_A [(qX, .inr (7, [.ref qB, .ref qH, .ref qK, .ref qV, .ref qS, .ref qW])), (qB, .inr (0, [.ref qBT, .ref qBC, .ref qBN, .ref qBW, .ref qBL, .int bn, .int bk, .int bs])), (qBT, .inl (G.2.1, 16, .inl bT)), (qH, .inr (2, [.ref qHM, .int hd, .int hk])), (qHM, .inl (G.2.1, 512, .inl hM))] s.heap.size = A at hD hT ⊢
  have hA : ∀ q : Nat, s.heap.size ≤ q → A q := fun q h => by rw [← hAe]; exact Or.inr h
  have hS : va_S A s.heap s.heap [] := va_S.rf
  have hl := lv_entry ([.ref qX] : List Value) (n := 2) (Nat.le_of_ble_eq_true rfl)
  rw [lg_entry_eq]
  generalize (lg_sl ([.ref qX] : List Value) ++ List.replicate (2 - (lg_sl ([.ref qX] : List Value)).length) Slot.unset).toArray = ls at hl ⊢
  have hl : lv_has ls 2 [(0, .ref qX)] := hl
  have hi7 : ∀ w ∈ u_ws RX7 TX7 6, w ∈ wsX7_undo := by decide +kernel
  have hw0 : (Cond.fieldLink RX7 19 "NetPlumber" "history" "LNetPlumber$History;").before #[Value.ref qX] s = true := hts _ (by decide +kernel)
  have hw1 : (Cond.fieldLink RX7 10 "NetPlumber" "board" "LNetPlumber$Board;").before #[Value.ref qX] s = true := hts _ (by decide +kernel)
  have hw2 : (Cond.classLink RX7 107 "java/lang/IllegalStateException").before #[Value.ref qX] s = true := hts _ (by decide +kernel)
  have hw3 : (Cond.initialized "java/lang/IllegalStateException").before #[Value.ref qX] s = true := hts _ (by decide +kernel)
  refine wq (fun Q hQ => ?_)
  unfold kX7_undo at hq
  refine lv_aload_n hx hb dX7_undo_0 rfl (lv_at hl 0 rfl) ?_
  refine va_get (D := G.1) (ci := 7) (v := .ref qH) (C := RX7) (T := TX7) (N := 6) hx hb hts hi7 hown hK hP 0 rfl rfl 1 (by decide) hw0 (fun _ h9 => h9) rfl dX7_undo_1 ?_
  obtain ⟨q1, eq1, hq⟩ := ob hq
  have hPc := hP.sub (ws' := [(qH, .inr (2, [.ref qHM, .int hd, .int hk])), (qHM, .inl (G.2.1, 512, .inl hM))]) [3, 4] rfl
  have hKc := hK
  have hDc := hD.sub (ws' := [(qH, .inr (2, [.ref qHM, .int hd, .int hk])), (qHM, .inl (G.2.1, 512, .inl hM))]) [3, 4] (by decide) rfl
  have hFc := va_free (wc := [(qH, .inr (2, [.ref qHM, .int hd, .int hk])), (qHM, .inl (G.2.1, 512, .inl hM))]) hD hS hA [3, 4] rfl
  refine va_calli (va_runV (As := []) (rest := []) ⟨hx, hb, hml, hown, hts⟩ (tX2_stepBack G l eq1) (cwV 0 hts gX7_undo_X2_stepBack rfl rfl rfl (by decide +kernel) ⟨Nat.le_of_ble_eq_true rfl, Nat.le_of_ble_eq_true rfl⟩) ⟨pcW_blind, va_recv hKc hPc (ci := 2) (q0 := 0) rfl rfl, pcW_pre hPc hKK hDc⟩ rfl rfl hl.1 rfl (lv_room (Nat.le_of_ble_eq_true rfl)) dX7_undo_4 ⟨Nat.le_of_ble_eq_true rfl, Nat.le_of_ble_eq_true rfl⟩) hS (fun q _ h => hFc q h) hFc (fun r0 u t H1 locs ht hvm hw hB hz1 hk1 hS => ?_)
  obtain rfl := hw
  have hB := va_Pto ht hB
  obtain ⟨hP, hD⟩ := jn (ws' := [(qX, .inr (7, [.ref qB, .ref qH, .ref qK, .ref qV, .ref qS, .ref qW])), (qB, .inr (0, [.ref qBT, .ref qBC, .ref qBN, .ref qBW, .ref qBL, .int bn, .int bk, .int bs])), (qBT, .inl (G.2.1, 16, .inl bT)), (qH, .inr (2, [.ref qHM, .int q1.2, .int hk])), (qHM, .inl (G.2.1, 512, .inl hM))]) hP hD hk1 hB [3, 4] rfl rfl rfl rfl
  generalize H1 = H at hP hS ⊢
  refine lv_istore_n (lv' := [(1, .int q1.1), (0, .ref qX)]) hx hb dX7_undo_7 rfl hl (by decide) rfl (fun ls hl => ?_)
  refine lv_iload_n hx hb dX7_undo_8 rfl (lv_at hl 0 rfl) ?_
  refine lv_iconst (v := (-1)) hx hb dX7_undo_9 (by decide) ?_
  refine lv_icmp_ne (tgt := 23) hx hb dX7_undo_10 (by decide) (fun c_10 => ?_) (fun c_10 => ?_)
  · have hq := k_f c_10 hq
    refine lv_aload_n hx hb dX7_undo_23 rfl (lv_at hl 1 rfl) ?_
    refine va_get (D := G.1) (ci := 7) (v := .ref qB) (C := RX7) (T := TX7) (N := 6) hx hb hts hi7 hown hK hP 0 rfl rfl 0 (by decide) hw1 (fun _ h9 => h9) rfl dX7_undo_24 ?_
    refine lv_iload_n hx hb dX7_undo_27 rfl (lv_at hl 0 rfl) ?_
    refine lv_iconst (v := 3) hx hb dX7_undo_28 (by decide) ?_
    obtain ⟨q2, eq2, hq⟩ := ob hq
    have hPc := hP.sub (ws' := [(qB, .inr (0, [.ref qBT, .ref qBC, .ref qBN, .ref qBW, .ref qBL, .int bn, .int bk, .int bs])), (qBT, .inl (G.2.1, 16, .inl bT))]) [1, 2] rfl
    have hKc := hK
    have hDc := hD.sub (ws' := [(qB, .inr (0, [.ref qBT, .ref qBC, .ref qBN, .ref qBW, .ref qBL, .int bn, .int bk, .int bs])), (qBT, .inl (G.2.1, 16, .inl bT))]) [1, 2] (by decide) rfl
    have hFc := va_free (wc := [(qB, .inr (0, [.ref qBT, .ref qBC, .ref qBN, .ref qBW, .ref qBL, .int bn, .int bk, .int bs])), (qBT, .inl (G.2.1, 16, .inl bT))]) hD hS hA [1, 2] rfl
    refine va_callv (va_runV (As := [.int q1.1, .int 3]) (rest := []) ⟨hx, hb, hml, hown, hts⟩ (tX0_spin G l eq2) (cwV 2 hts gX7_undo_X0_spin rfl rfl rfl (by decide +kernel) ⟨Nat.le_of_ble_eq_true rfl, Nat.le_of_ble_eq_true rfl⟩) ⟨pcW_blind, va_recv hKc hPc (ci := 0) (q0 := 0) rfl rfl, pcW_pre hPc hKK hDc⟩ rfl rfl hl.1 rfl (lv_room (Nat.le_of_ble_eq_true rfl)) dX7_undo_29 ⟨Nat.le_of_ble_eq_true rfl, Nat.le_of_ble_eq_true rfl⟩) hS (fun q _ h => hFc q h) hFc (fun u t H1 locs ht hvm hw hB hz1 hk1 hS => ?_)
    have hB := va_Pto ht hB
    obtain ⟨hP, hD⟩ := jn (ws' := [(qX, .inr (7, [.ref qB, .ref qH, .ref qK, .ref qV, .ref qS, .ref qW])), (qB, .inr (0, [.ref qBT, .ref qBC, .ref qBN, .ref qBW, .ref qBL, .int bn, .int bk, .int bs])), (qBT, .inl (G.2.1, 16, .inl q2)), (qH, .inr (2, [.ref qHM, .int q1.2, .int hk])), (qHM, .inl (G.2.1, 512, .inl hM))]) hP hD hk1 hB [1, 2] rfl rfl rfl rfl
    generalize H1 = H at hP hS ⊢
    refine lv_aload_n hx hb dX7_undo_32 rfl (lv_at hl 1 rfl) ?_
    refine va_get (D := G.1) (ci := 7) (v := .ref qH) (C := RX7) (T := TX7) (N := 6) hx hb hts hi7 hown hK hP 0 rfl rfl 1 (by decide) hw0 (fun _ h9 => h9) rfl dX7_undo_33 ?_
    obtain ⟨q3, eq3, hq⟩ := ob hq
    have hPc := hP.sub (ws' := [(qH, .inr (2, [.ref qHM, .int q1.2, .int hk]))]) [3] rfl
    have hKc := hK
    refine vp_callSi (va_Run.run (va_runV (As := []) (rest := []) ⟨hx, hb, hml, hown, hts⟩ (tX2_done G l eq3) (cwV 0 hts gX7_undo_X2_done rfl rfl rfl (by decide +kernel) ⟨Nat.le_of_ble_eq_true rfl, Nat.le_of_ble_eq_true rfl⟩) ⟨pcP_blind, va_recv hKc hPc (ci := 2) (q0 := 0) rfl rfl, pcP_pre hPc hKK⟩ rfl rfl hl.1 rfl (lv_room (Nat.le_of_ble_eq_true rfl)) dX7_undo_36 ⟨Nat.le_of_ble_eq_true rfl, Nat.le_of_ble_eq_true rfl⟩)) (fun r0 hr0 => ?_)
    obtain rfl := hr0
    obtain rfl := Option.some.inj hq
    rw [hQ]
    refine vx_ret ?_
    refine W.widen (k := 1) (n := 6) (Nat.le_of_ble_eq_true rfl) (Nat.le_of_ble_eq_true rfl) ?_
    exact W.iret hx hb hr (fun t ht hW => ⟨⟨_, _, rfl, ⟨rfl, rfl⟩, va_Pat ht hP⟩, hS.F ht⟩) hS.2.2 dX7_undo_39
  · have hq := k_t c_10 hq
    obtain rfl := Option.some.inj hq
    rw [hQ]
    obtain ⟨sa, hsa⟩ := hT.2.2.1 (149, "there is no move to undo") (List.mem_of_getElem? (i := 5) rfl)
    have hat : ∀ w ∈ vx_atS RX7 111 "java/lang/IllegalStateException" ["java/lang/RuntimeException", "java/lang/Exception"], w.before ([.ref qX] : List Value).toArray s = true := vx_hat (B := thB 2) (fun w h => hts w (by first | exact List.mem_cons_of_mem _ (List.mem_append_right _ h) | exact (show w ∈ wsX7_undo from by have h2 := h; revert h2; revert w; decide +kernel))) (by decide +kernel) (hT.bad (by decide))
    exact vx_throwS hx hb hfl (own := RX7) (cls := "java/lang/IllegalStateException") (text := "there is no move to undo") (names := ["java/lang/RuntimeException", "java/lang/Exception"]) hown (by decide +kernel) (by decide +kernel) hw2 hw3 hsa hat (by decide +kernel) hT.1 hT.2.1 hS (hl.1.trans hml.symm) dX7_undo_13 dX7_undo_16 dX7_undo_17 dX7_undo_19 dX7_undo_22 (fun x h => (hno x h).elim) (Nat.le_of_ble_eq_true rfl) (Nat.le_of_ble_eq_true rfl) (Nat.le_of_ble_eq_true rfl) (Nat.le_of_ble_eq_true rfl) hlocks (fun t hW hsz hk => ⟨_, rfl, ⟨rfl, thP hP hk⟩, thF hS hsz hk⟩) hS.2.2 (Nat.le_of_ble_eq_true rfl) (Nat.le_of_ble_eq_true rfl)

def kX7_redo (F : Nat) (bn : Int32) (bT : Nat → Int32) (hd : Int32) (hk : Int32) (hM : Nat → Int32) : Option ((Int32 × (Nat → Int32) × Int32) ⊕ (Nat × (Nat → Int32) × Int32)) :=
  ((kX2_stepOn F hd hk hM).bind fun q1 => (if q1.1 = (-1) then some (.inr (2, bT, q1.2)) else ((kX0_spin F bn bT q1.1 1).bind fun q2 => ((kX2_done F q1.2).bind fun q3 => some (.inl (q3, q2, q1.2))))))
abbrev rmX7_redo : Room := { frames := 8, cells := 1, slots := 6, locals := 120 }
set_option maxHeartbeats 40000000 in
set_option maxRecDepth 100000 in
theorem tX7_redo (G : GG) (l : Launch) (hfl : l.stackTraces = false) {qX qB qH qK qV qS qW qBT qBC qBN qBW qBL qHM : Nat} {bn : Int32} {bk : Int32} {bs : Int32} {bT : Nat → Int32} {hd : Int32} {hk : Int32} {hM : Nat → Int32} {sz : Nat} {F : Nat} {r : (Int32 × (Nat → Int32) × Int32) ⊕ (Nat × (Nat → Int32) × Int32)} (hq : kX7_redo F bn bT hd hk hM = some r) : vx_Met l yX7_redo wsX7_redo rmX7_redo (pcX G [(qX, .inr (7, [.ref qB, .ref qH, .ref qK, .ref qV, .ref qS, .ref qW])), (qB, .inr (0, [.ref qBT, .ref qBC, .ref qBN, .ref qBW, .ref qBL, .int bn, .int bk, .int bs])), (qBT, .inl (G.2.1, 16, .inl bT)), (qH, .inr (2, [.ref qHM, .int hd, .int hk])), (qHM, .inl (G.2.1, 512, .inl hM))] sz [.ref qX]) (qxI G r (fun u => u.1) (fun u => [(qX, .inr (7, [.ref qB, .ref qH, .ref qK, .ref qV, .ref qS, .ref qW])), (qB, .inr (0, [.ref qBT, .ref qBC, .ref qBN, .ref qBW, .ref qBL, .int bn, .int bk, .int bs])), (qBT, .inl (G.2.1, 16, .inl u.2.1)), (qH, .inr (2, [.ref qHM, .int u.2.2, .int hk])), (qHM, .inl (G.2.1, 512, .inl hM))]) (va_A [(qX, .inr (7, [.ref qB, .ref qH, .ref qK, .ref qV, .ref qS, .ref qW])), (qB, .inr (0, [.ref qBT, .ref qBC, .ref qBN, .ref qBW, .ref qBL, .int bn, .int bk, .int bs])), (qBT, .inl (G.2.1, 16, .inl bT)), (qH, .inr (2, [.ref qHM, .int hd, .int hk])), (qHM, .inl (G.2.1, 512, .inl hM))] sz)) (xcX G r (fun u => u.1) (fun u => [(qX, .inr (7, [.ref qB, .ref qH, .ref qK, .ref qV, .ref qS, .ref qW])), (qB, .inr (0, [.ref qBT, .ref qBC, .ref qBN, .ref qBW, .ref qBL, .int bn, .int bk, .int bs])), (qBT, .inl (G.2.1, 16, .inl u.2.1)), (qH, .inr (2, [.ref qHM, .int u.2.2, .int hk])), (qHM, .inl (G.2.1, 512, .inl hM))]) (va_A [(qX, .inr (7, [.ref qB, .ref qH, .ref qK, .ref qV, .ref qS, .ref qW])), (qB, .inr (0, [.ref qBT, .ref qBC, .ref qBN, .ref qBW, .ref qBL, .int bn, .int bk, .int bs])), (qBT, .inl (G.2.1, 16, .inl bT)), (qH, .inr (2, [.ref qHM, .int hd, .int hk])), (qHM, .inl (G.2.1, 512, .inl hM))] sz)) 1 6 (va_A [(qX, .inr (7, [.ref qB, .ref qH, .ref qK, .ref qV, .ref qS, .ref qW])), (qB, .inr (0, [.ref qBT, .ref qBC, .ref qBN, .ref qBW, .ref qBL, .int bn, .int bk, .int bs])), (qBT, .inl (G.2.1, 16, .inl bT)), (qH, .inr (2, [.ref qHM, .int hd, .int hk])), (qHM, .inl (G.2.1, 512, .inl hM))] sz) := by
  refine vx_ofW (cc := cX7_redo) (maxL := 2) (ret := (some .int)) (by decide) rfl ?_
  intro p e s m args below meth c s₁ B hml hno hv
  obtain ⟨rfl, hsz, hP, hKK, hD0, hT⟩ := hv
  have hK := hKK.1
  have hx := B.exec
  have hb := B.bytes
  have hr := B.returns
  have hts := atoms_spec (ws := wsX7_redo) B.pre
  have hown : s.vm.findClass RX7 = some m.cls := findClass_of_methodNamed B.named
  have hlocks := B.notSynchronized
  subst hsz
  have hD := hD0.self (sz := s.heap.size)
  generalize hAe : va_A [(qX, .inr (7, [.ref qB, .ref qH, .ref qK, .ref qV, .ref qS, .ref qW])), (qB, .inr (0, [.ref qBT, .ref qBC, .ref qBN, .ref qBW, .ref qBL, .int bn, .int bk, .int bs])), (qBT, .inl (G.2.1, 16, .inl bT)), (qH, .inr (2, [.ref qHM, .int hd, .int hk])), (qHM, .inl (G.2.1, 512, .inl hM))] s.heap.size = A at hD hT ⊢
  have hA : ∀ q : Nat, s.heap.size ≤ q → A q := fun q h => by rw [← hAe]; exact Or.inr h
  have hS : va_S A s.heap s.heap [] := va_S.rf
  have hl := lv_entry ([.ref qX] : List Value) (n := 2) (Nat.le_of_ble_eq_true rfl)
  rw [lg_entry_eq]
  generalize (lg_sl ([.ref qX] : List Value) ++ List.replicate (2 - (lg_sl ([.ref qX] : List Value)).length) Slot.unset).toArray = ls at hl ⊢
  have hl : lv_has ls 2 [(0, .ref qX)] := hl
  have hi7 : ∀ w ∈ u_ws RX7 TX7 6, w ∈ wsX7_redo := by decide +kernel
  have hw0 : (Cond.fieldLink RX7 19 "NetPlumber" "history" "LNetPlumber$History;").before #[Value.ref qX] s = true := hts _ (by decide +kernel)
  have hw1 : (Cond.fieldLink RX7 10 "NetPlumber" "board" "LNetPlumber$Board;").before #[Value.ref qX] s = true := hts _ (by decide +kernel)
  have hw2 : (Cond.classLink RX7 107 "java/lang/IllegalStateException").before #[Value.ref qX] s = true := hts _ (by decide +kernel)
  have hw3 : (Cond.initialized "java/lang/IllegalStateException").before #[Value.ref qX] s = true := hts _ (by decide +kernel)
  refine wq (fun Q hQ => ?_)
  unfold kX7_redo at hq
  refine lv_aload_n hx hb dX7_redo_0 rfl (lv_at hl 0 rfl) ?_
  refine va_get (D := G.1) (ci := 7) (v := .ref qH) (C := RX7) (T := TX7) (N := 6) hx hb hts hi7 hown hK hP 0 rfl rfl 1 (by decide) hw0 (fun _ h9 => h9) rfl dX7_redo_1 ?_
  obtain ⟨q1, eq1, hq⟩ := ob hq
  have hPc := hP.sub (ws' := [(qH, .inr (2, [.ref qHM, .int hd, .int hk])), (qHM, .inl (G.2.1, 512, .inl hM))]) [3, 4] rfl
  have hKc := hK
  have hDc := hD.sub (ws' := [(qH, .inr (2, [.ref qHM, .int hd, .int hk])), (qHM, .inl (G.2.1, 512, .inl hM))]) [3, 4] (by decide) rfl
  have hFc := va_free (wc := [(qH, .inr (2, [.ref qHM, .int hd, .int hk])), (qHM, .inl (G.2.1, 512, .inl hM))]) hD hS hA [3, 4] rfl
  refine va_calli (va_runV (As := []) (rest := []) ⟨hx, hb, hml, hown, hts⟩ (tX2_stepOn G l eq1) (cwV 0 hts gX7_redo_X2_stepOn rfl rfl rfl (by decide +kernel) ⟨Nat.le_of_ble_eq_true rfl, Nat.le_of_ble_eq_true rfl⟩) ⟨pcW_blind, va_recv hKc hPc (ci := 2) (q0 := 0) rfl rfl, pcW_pre hPc hKK hDc⟩ rfl rfl hl.1 rfl (lv_room (Nat.le_of_ble_eq_true rfl)) dX7_redo_4 ⟨Nat.le_of_ble_eq_true rfl, Nat.le_of_ble_eq_true rfl⟩) hS (fun q _ h => hFc q h) hFc (fun r0 u t H1 locs ht hvm hw hB hz1 hk1 hS => ?_)
  obtain rfl := hw
  have hB := va_Pto ht hB
  obtain ⟨hP, hD⟩ := jn (ws' := [(qX, .inr (7, [.ref qB, .ref qH, .ref qK, .ref qV, .ref qS, .ref qW])), (qB, .inr (0, [.ref qBT, .ref qBC, .ref qBN, .ref qBW, .ref qBL, .int bn, .int bk, .int bs])), (qBT, .inl (G.2.1, 16, .inl bT)), (qH, .inr (2, [.ref qHM, .int q1.2, .int hk])), (qHM, .inl (G.2.1, 512, .inl hM))]) hP hD hk1 hB [3, 4] rfl rfl rfl rfl
  generalize H1 = H at hP hS ⊢
  refine lv_istore_n (lv' := [(1, .int q1.1), (0, .ref qX)]) hx hb dX7_redo_7 rfl hl (by decide) rfl (fun ls hl => ?_)
  refine lv_iload_n hx hb dX7_redo_8 rfl (lv_at hl 0 rfl) ?_
  refine lv_iconst (v := (-1)) hx hb dX7_redo_9 (by decide) ?_
  refine lv_icmp_ne (tgt := 23) hx hb dX7_redo_10 (by decide) (fun c_10 => ?_) (fun c_10 => ?_)
  · have hq := k_f c_10 hq
    refine lv_aload_n hx hb dX7_redo_23 rfl (lv_at hl 1 rfl) ?_
    refine va_get (D := G.1) (ci := 7) (v := .ref qB) (C := RX7) (T := TX7) (N := 6) hx hb hts hi7 hown hK hP 0 rfl rfl 0 (by decide) hw1 (fun _ h9 => h9) rfl dX7_redo_24 ?_
    refine lv_iload_n hx hb dX7_redo_27 rfl (lv_at hl 0 rfl) ?_
    refine lv_iconst (v := 1) hx hb dX7_redo_28 (by decide) ?_
    obtain ⟨q2, eq2, hq⟩ := ob hq
    have hPc := hP.sub (ws' := [(qB, .inr (0, [.ref qBT, .ref qBC, .ref qBN, .ref qBW, .ref qBL, .int bn, .int bk, .int bs])), (qBT, .inl (G.2.1, 16, .inl bT))]) [1, 2] rfl
    have hKc := hK
    have hDc := hD.sub (ws' := [(qB, .inr (0, [.ref qBT, .ref qBC, .ref qBN, .ref qBW, .ref qBL, .int bn, .int bk, .int bs])), (qBT, .inl (G.2.1, 16, .inl bT))]) [1, 2] (by decide) rfl
    have hFc := va_free (wc := [(qB, .inr (0, [.ref qBT, .ref qBC, .ref qBN, .ref qBW, .ref qBL, .int bn, .int bk, .int bs])), (qBT, .inl (G.2.1, 16, .inl bT))]) hD hS hA [1, 2] rfl
    refine va_callv (va_runV (As := [.int q1.1, .int 1]) (rest := []) ⟨hx, hb, hml, hown, hts⟩ (tX0_spin G l eq2) (cwV 2 hts gX7_redo_X0_spin rfl rfl rfl (by decide +kernel) ⟨Nat.le_of_ble_eq_true rfl, Nat.le_of_ble_eq_true rfl⟩) ⟨pcW_blind, va_recv hKc hPc (ci := 0) (q0 := 0) rfl rfl, pcW_pre hPc hKK hDc⟩ rfl rfl hl.1 rfl (lv_room (Nat.le_of_ble_eq_true rfl)) dX7_redo_29 ⟨Nat.le_of_ble_eq_true rfl, Nat.le_of_ble_eq_true rfl⟩) hS (fun q _ h => hFc q h) hFc (fun u t H1 locs ht hvm hw hB hz1 hk1 hS => ?_)
    have hB := va_Pto ht hB
    obtain ⟨hP, hD⟩ := jn (ws' := [(qX, .inr (7, [.ref qB, .ref qH, .ref qK, .ref qV, .ref qS, .ref qW])), (qB, .inr (0, [.ref qBT, .ref qBC, .ref qBN, .ref qBW, .ref qBL, .int bn, .int bk, .int bs])), (qBT, .inl (G.2.1, 16, .inl q2)), (qH, .inr (2, [.ref qHM, .int q1.2, .int hk])), (qHM, .inl (G.2.1, 512, .inl hM))]) hP hD hk1 hB [1, 2] rfl rfl rfl rfl
    generalize H1 = H at hP hS ⊢
    refine lv_aload_n hx hb dX7_redo_32 rfl (lv_at hl 1 rfl) ?_
    refine va_get (D := G.1) (ci := 7) (v := .ref qH) (C := RX7) (T := TX7) (N := 6) hx hb hts hi7 hown hK hP 0 rfl rfl 1 (by decide) hw0 (fun _ h9 => h9) rfl dX7_redo_33 ?_
    obtain ⟨q3, eq3, hq⟩ := ob hq
    have hPc := hP.sub (ws' := [(qH, .inr (2, [.ref qHM, .int q1.2, .int hk]))]) [3] rfl
    have hKc := hK
    refine vp_callSi (va_Run.run (va_runV (As := []) (rest := []) ⟨hx, hb, hml, hown, hts⟩ (tX2_done G l eq3) (cwV 0 hts gX7_redo_X2_done rfl rfl rfl (by decide +kernel) ⟨Nat.le_of_ble_eq_true rfl, Nat.le_of_ble_eq_true rfl⟩) ⟨pcP_blind, va_recv hKc hPc (ci := 2) (q0 := 0) rfl rfl, pcP_pre hPc hKK⟩ rfl rfl hl.1 rfl (lv_room (Nat.le_of_ble_eq_true rfl)) dX7_redo_36 ⟨Nat.le_of_ble_eq_true rfl, Nat.le_of_ble_eq_true rfl⟩)) (fun r0 hr0 => ?_)
    obtain rfl := hr0
    obtain rfl := Option.some.inj hq
    rw [hQ]
    refine vx_ret ?_
    refine W.widen (k := 1) (n := 6) (Nat.le_of_ble_eq_true rfl) (Nat.le_of_ble_eq_true rfl) ?_
    exact W.iret hx hb hr (fun t ht hW => ⟨⟨_, _, rfl, ⟨rfl, rfl⟩, va_Pat ht hP⟩, hS.F ht⟩) hS.2.2 dX7_redo_39
  · have hq := k_t c_10 hq
    obtain rfl := Option.some.inj hq
    rw [hQ]
    obtain ⟨sa, hsa⟩ := hT.2.2.1 (157, "there is no move to do again") (List.mem_of_getElem? (i := 6) rfl)
    have hat : ∀ w ∈ vx_atS RX7 111 "java/lang/IllegalStateException" ["java/lang/RuntimeException", "java/lang/Exception"], w.before ([.ref qX] : List Value).toArray s = true := vx_hat (B := thB 2) (fun w h => hts w (by first | exact List.mem_cons_of_mem _ (List.mem_append_right _ h) | exact (show w ∈ wsX7_redo from by have h2 := h; revert h2; revert w; decide +kernel))) (by decide +kernel) (hT.bad (by decide))
    exact vx_throwS hx hb hfl (own := RX7) (cls := "java/lang/IllegalStateException") (text := "there is no move to do again") (names := ["java/lang/RuntimeException", "java/lang/Exception"]) hown (by decide +kernel) (by decide +kernel) hw2 hw3 hsa hat (by decide +kernel) hT.1 hT.2.1 hS (hl.1.trans hml.symm) dX7_redo_13 dX7_redo_16 dX7_redo_17 dX7_redo_19 dX7_redo_22 (fun x h => (hno x h).elim) (Nat.le_of_ble_eq_true rfl) (Nat.le_of_ble_eq_true rfl) (Nat.le_of_ble_eq_true rfl) (Nat.le_of_ble_eq_true rfl) hlocks (fun t hW hsz hk => ⟨_, rfl, ⟨rfl, thP hP hk⟩, thF hS hsz hk⟩) hS.2.2 (Nat.le_of_ble_eq_true rfl) (Nat.le_of_ble_eq_true rfl)

def kX7_tile (F : Nat) (bn : Int32) (bT : Nat → Int32) (x1 : Int32) : Option ((Int32) ⊕ (Nat)) :=
  ((kX7_requireCell F bn x1).bind fun q1 => onR q1 (fun u2 => ((kX0_sidesOf F bT x1).bind fun q4 => some (.inl q4))) (fun e3 => e3))
abbrev rmX7_tile : Room := { frames := 9, cells := 1, slots := 6, locals := 141 }
set_option maxHeartbeats 40000000 in
set_option maxRecDepth 100000 in
theorem tX7_tile (G : GG) (l : Launch) (hfl : l.stackTraces = false) {qX qB qH qK qV qS qW qBT qBC qBN qBW qBL : Nat} {bn : Int32} {bk : Int32} {bs : Int32} {bT : Nat → Int32} {x1 : Int32} {sz : Nat} {F : Nat} {r : (Int32) ⊕ (Nat)} (hq : kX7_tile F bn bT x1 = some r) : vx_Met l yX7_tile wsX7_tile rmX7_tile (pcX G [(qX, .inr (7, [.ref qB, .ref qH, .ref qK, .ref qV, .ref qS, .ref qW])), (qB, .inr (0, [.ref qBT, .ref qBC, .ref qBN, .ref qBW, .ref qBL, .int bn, .int bk, .int bs])), (qBT, .inl (G.2.1, 16, .inl bT))] sz [.ref qX, .int x1]) (qxI G r (fun u => u) (fun u => [(qX, .inr (7, [.ref qB, .ref qH, .ref qK, .ref qV, .ref qS, .ref qW])), (qB, .inr (0, [.ref qBT, .ref qBC, .ref qBN, .ref qBW, .ref qBL, .int bn, .int bk, .int bs])), (qBT, .inl (G.2.1, 16, .inl bT))]) (va_A [(qX, .inr (7, [.ref qB, .ref qH, .ref qK, .ref qV, .ref qS, .ref qW])), (qB, .inr (0, [.ref qBT, .ref qBC, .ref qBN, .ref qBW, .ref qBL, .int bn, .int bk, .int bs])), (qBT, .inl (G.2.1, 16, .inl bT))] sz)) (xcX G r (fun u => u) (fun u => [(qX, .inr (7, [.ref qB, .ref qH, .ref qK, .ref qV, .ref qS, .ref qW])), (qB, .inr (0, [.ref qBT, .ref qBC, .ref qBN, .ref qBW, .ref qBL, .int bn, .int bk, .int bs])), (qBT, .inl (G.2.1, 16, .inl bT))]) (va_A [(qX, .inr (7, [.ref qB, .ref qH, .ref qK, .ref qV, .ref qS, .ref qW])), (qB, .inr (0, [.ref qBT, .ref qBC, .ref qBN, .ref qBW, .ref qBL, .int bn, .int bk, .int bs])), (qBT, .inl (G.2.1, 16, .inl bT))] sz)) 1 6 (va_A [(qX, .inr (7, [.ref qB, .ref qH, .ref qK, .ref qV, .ref qS, .ref qW])), (qB, .inr (0, [.ref qBT, .ref qBC, .ref qBN, .ref qBW, .ref qBL, .int bn, .int bk, .int bs])), (qBT, .inl (G.2.1, 16, .inl bT))] sz) := by
  refine vx_ofW (cc := cX7_tile) (maxL := 2) (ret := (some .int)) (by decide) rfl ?_
  intro p e s m args below meth c s₁ B hml hno hv
  obtain ⟨rfl, hsz, hP, hKK, hD0, hT⟩ := hv
  have hK := hKK.1
  have hx := B.exec
  have hb := B.bytes
  have hr := B.returns
  have hts := atoms_spec (ws := wsX7_tile) B.pre
  have hown : s.vm.findClass RX7 = some m.cls := findClass_of_methodNamed B.named
  have hlocks := B.notSynchronized
  subst hsz
  have hD := hD0.self (sz := s.heap.size)
  generalize hAe : va_A [(qX, .inr (7, [.ref qB, .ref qH, .ref qK, .ref qV, .ref qS, .ref qW])), (qB, .inr (0, [.ref qBT, .ref qBC, .ref qBN, .ref qBW, .ref qBL, .int bn, .int bk, .int bs])), (qBT, .inl (G.2.1, 16, .inl bT))] s.heap.size = A at hD hT ⊢
  have hA : ∀ q : Nat, s.heap.size ≤ q → A q := fun q h => by rw [← hAe]; exact Or.inr h
  have hS : va_S A s.heap s.heap [] := va_S.rf
  have hl := lv_entry ([.ref qX, .int x1] : List Value) (n := 2) (Nat.le_of_ble_eq_true rfl)
  rw [lg_entry_eq]
  generalize (lg_sl ([.ref qX, .int x1] : List Value) ++ List.replicate (2 - (lg_sl ([.ref qX, .int x1] : List Value)).length) Slot.unset).toArray = ls at hl ⊢
  have hl : lv_has ls 2 [(0, .ref qX), (1, .int x1)] := hl
  have hi7 : ∀ w ∈ u_ws RX7 TX7 6, w ∈ wsX7_tile := by decide +kernel
  have hw0 : (Cond.fieldLink RX7 10 "NetPlumber" "board" "LNetPlumber$Board;").before #[Value.ref qX, Value.int x1] s = true := hts _ (by decide +kernel)
  refine wq (fun Q hQ => ?_)
  unfold kX7_tile at hq
  refine lv_aload_n hx hb dX7_tile_0 rfl (lv_at hl 0 rfl) ?_
  refine lv_iload_n hx hb dX7_tile_1 rfl (lv_at hl 1 rfl) ?_
  obtain ⟨q1, eq1, hq⟩ := ob hq
  have hPc := hP.sub (ws' := [(qX, .inr (7, [.ref qB, .ref qH, .ref qK, .ref qV, .ref qS, .ref qW])), (qB, .inr (0, [.ref qBT, .ref qBC, .ref qBN, .ref qBW, .ref qBL, .int bn, .int bk, .int bs]))]) [0, 1] rfl
  have hKc := hK
  have hDc := hD.sub (ws' := [(qX, .inr (7, [.ref qB, .ref qH, .ref qK, .ref qV, .ref qS, .ref qW])), (qB, .inr (0, [.ref qBT, .ref qBC, .ref qBN, .ref qBW, .ref qBL, .int bn, .int bk, .int bs]))]) [0, 1] (by decide) rfl
  have hFc := va_free (wc := [(qX, .inr (7, [.ref qB, .ref qH, .ref qK, .ref qV, .ref qS, .ref qW])), (qB, .inr (0, [.ref qBT, .ref qBC, .ref qBN, .ref qBW, .ref qBL, .int bn, .int bk, .int bs]))]) hD hS hA [0, 1] rfl
  refine vx_callv (vx_runV (As := [.int x1]) (rest := []) ⟨hx, hb, hml, hown, hts⟩ (tX7_requireCell G l hfl eq1) (cwV 1 hts gX7_tile_X7_requireCell rfl rfl rfl (by decide +kernel) ⟨Nat.le_of_ble_eq_true rfl, Nat.le_of_ble_eq_true rfl⟩) ⟨pcX_blind, va_recv hKc hPc (ci := 7) (q0 := 0) rfl rfl, pcX_pre hPc hKK hDc hT hS hFc⟩ rfl rfl hl.1 rfl (lv_room (Nat.le_of_ble_eq_true rfl)) dX7_tile_2 ⟨Nat.le_of_ble_eq_true rfl, Nat.le_of_ble_eq_true rfl⟩) hS (fun q _ h => hFc q h) hFc (fun q _ h => hFc q h) (fun E ce q9 u t H1 locs ht hvm hpx hB hz1 hk1 hS hc1 hv1 hcl1 => ?_) (fun u t H1 locs ht hvm hw hB hz1 hk1 hS => ?_)
  · obtain ⟨e3, rfl⟩ : ∃ z, z = u := ⟨_, rfl⟩
    subst hpx
    obtain rfl := onR_r hq
    obtain ⟨hE, hB⟩ := hB
    have hB := va_Pto ht hB
    obtain ⟨hP, hD⟩ := jn (ws' := [(qX, .inr (7, [.ref qB, .ref qH, .ref qK, .ref qV, .ref qS, .ref qW])), (qB, .inr (0, [.ref qBT, .ref qBC, .ref qBN, .ref qBW, .ref qBL, .int bn, .int bk, .int bs])), (qBT, .inl (G.2.1, 16, .inl bT))]) hP hD hk1 hB [0, 1] rfl rfl rfl rfl
    rw [hQ]
    exact vx_out (fun x h => (hno x h).elim) hlocks hc1 hv1 hcl1 (fun t ht hW => ⟨_, rfl, ⟨hE, va_Pat ht hP⟩, hS.F ht⟩) hS.2.2 (Nat.le_of_ble_eq_true rfl) (Nat.le_of_ble_eq_true rfl)
  · obtain ⟨u2, rfl⟩ : ∃ z, z = u := ⟨_, rfl⟩
    subst hw
    have hq := onR_l hq
    have hB := va_Pto ht hB
    obtain ⟨hP, hD⟩ := jn (ws' := [(qX, .inr (7, [.ref qB, .ref qH, .ref qK, .ref qV, .ref qS, .ref qW])), (qB, .inr (0, [.ref qBT, .ref qBC, .ref qBN, .ref qBW, .ref qBL, .int bn, .int bk, .int bs])), (qBT, .inl (G.2.1, 16, .inl bT))]) hP hD hk1 hB [0, 1] rfl rfl rfl rfl
    generalize H1 = H at hP hS ⊢
    refine lv_aload_n hx hb dX7_tile_5 rfl (lv_at hl 0 rfl) ?_
    refine va_get (D := G.1) (ci := 7) (v := .ref qB) (C := RX7) (T := TX7) (N := 6) hx hb hts hi7 hown hK hP 0 rfl rfl 0 (by decide) hw0 (fun _ h9 => h9) rfl dX7_tile_6 ?_
    refine lv_iload_n hx hb dX7_tile_9 rfl (lv_at hl 1 rfl) ?_
    obtain ⟨q4, eq4, hq⟩ := ob hq
    have hPc := hP.sub (ws' := [(qB, .inr (0, [.ref qBT, .ref qBC, .ref qBN, .ref qBW, .ref qBL, .int bn, .int bk, .int bs])), (qBT, .inl (G.2.1, 16, .inl bT))]) [1, 2] rfl
    have hKc := hK
    refine vp_callSi (va_Run.run (va_runV (As := [.int x1]) (rest := []) ⟨hx, hb, hml, hown, hts⟩ (tX0_sidesOf G l eq4) (cwV 1 hts gX7_tile_X0_sidesOf rfl rfl rfl (by decide +kernel) ⟨Nat.le_of_ble_eq_true rfl, Nat.le_of_ble_eq_true rfl⟩) ⟨pcP_blind, va_recv hKc hPc (ci := 0) (q0 := 0) rfl rfl, pcP_pre hPc hKK⟩ rfl rfl hl.1 rfl (lv_room (Nat.le_of_ble_eq_true rfl)) dX7_tile_10 ⟨Nat.le_of_ble_eq_true rfl, Nat.le_of_ble_eq_true rfl⟩)) (fun r0 hr0 => ?_)
    obtain rfl := hr0
    obtain rfl := Option.some.inj hq
    rw [hQ]
    refine vx_ret ?_
    refine W.widen (k := 1) (n := 6) (Nat.le_of_ble_eq_true rfl) (Nat.le_of_ble_eq_true rfl) ?_
    exact W.iret hx hb hr (fun t ht hW => ⟨⟨_, _, rfl, ⟨rfl, rfl⟩, va_Pat ht hP⟩, hS.F ht⟩) hS.2.2 dX7_tile_13

def kX7_neighbour (F : Nat) (bn : Int32) (bN : Nat → Int32) (x1 : Int32) (x2 : Int32) : Option ((Int32) ⊕ (Nat)) :=
  ((kX7_requireCell F bn x1).bind fun q1 => onR q1 (fun u2 => ((kX7_requireSide F x2).bind fun q4 => onR q4 (fun u5 => ((kX0_beside F bN x1 x2).bind fun q7 => some (.inl q7))) (fun e6 => e6))) (fun e3 => e3))
abbrev rmX7_neighbour : Room := { frames := 9, cells := 2, slots := 12, locals := 141 }
set_option maxHeartbeats 40000000 in
set_option maxRecDepth 100000 in
theorem tX7_neighbour (G : GG) (l : Launch) (hfl : l.stackTraces = false) {qX qB qH qK qV qS qW qBT qBC qBN qBW qBL : Nat} {bn : Int32} {bk : Int32} {bs : Int32} {bN : Nat → Int32} {x1 : Int32} {x2 : Int32} {sz : Nat} {F : Nat} {r : (Int32) ⊕ (Nat)} (hq : kX7_neighbour F bn bN x1 x2 = some r) : vx_Met l yX7_neighbour wsX7_neighbour rmX7_neighbour (pcX G [(qX, .inr (7, [.ref qB, .ref qH, .ref qK, .ref qV, .ref qS, .ref qW])), (qB, .inr (0, [.ref qBT, .ref qBC, .ref qBN, .ref qBW, .ref qBL, .int bn, .int bk, .int bs])), (qBN, .inl (G.2.1, 64, .inl bN))] sz [.ref qX, .int x1, .int x2]) (qxI G r (fun u => u) (fun u => [(qX, .inr (7, [.ref qB, .ref qH, .ref qK, .ref qV, .ref qS, .ref qW])), (qB, .inr (0, [.ref qBT, .ref qBC, .ref qBN, .ref qBW, .ref qBL, .int bn, .int bk, .int bs])), (qBN, .inl (G.2.1, 64, .inl bN))]) (va_A [(qX, .inr (7, [.ref qB, .ref qH, .ref qK, .ref qV, .ref qS, .ref qW])), (qB, .inr (0, [.ref qBT, .ref qBC, .ref qBN, .ref qBW, .ref qBL, .int bn, .int bk, .int bs])), (qBN, .inl (G.2.1, 64, .inl bN))] sz)) (xcX G r (fun u => u) (fun u => [(qX, .inr (7, [.ref qB, .ref qH, .ref qK, .ref qV, .ref qS, .ref qW])), (qB, .inr (0, [.ref qBT, .ref qBC, .ref qBN, .ref qBW, .ref qBL, .int bn, .int bk, .int bs])), (qBN, .inl (G.2.1, 64, .inl bN))]) (va_A [(qX, .inr (7, [.ref qB, .ref qH, .ref qK, .ref qV, .ref qS, .ref qW])), (qB, .inr (0, [.ref qBT, .ref qBC, .ref qBN, .ref qBW, .ref qBL, .int bn, .int bk, .int bs])), (qBN, .inl (G.2.1, 64, .inl bN))] sz)) 2 12 (va_A [(qX, .inr (7, [.ref qB, .ref qH, .ref qK, .ref qV, .ref qS, .ref qW])), (qB, .inr (0, [.ref qBT, .ref qBC, .ref qBN, .ref qBW, .ref qBL, .int bn, .int bk, .int bs])), (qBN, .inl (G.2.1, 64, .inl bN))] sz) := by
  refine vx_ofW (cc := cX7_neighbour) (maxL := 3) (ret := (some .int)) (by decide) rfl ?_
  intro p e s m args below meth c s₁ B hml hno hv
  obtain ⟨rfl, hsz, hP, hKK, hD0, hT⟩ := hv
  have hK := hKK.1
  have hx := B.exec
  have hb := B.bytes
  have hr := B.returns
  have hts := atoms_spec (ws := wsX7_neighbour) B.pre
  have hown : s.vm.findClass RX7 = some m.cls := findClass_of_methodNamed B.named
  have hlocks := B.notSynchronized
  subst hsz
  have hD := hD0.self (sz := s.heap.size)
  generalize hAe : va_A [(qX, .inr (7, [.ref qB, .ref qH, .ref qK, .ref qV, .ref qS, .ref qW])), (qB, .inr (0, [.ref qBT, .ref qBC, .ref qBN, .ref qBW, .ref qBL, .int bn, .int bk, .int bs])), (qBN, .inl (G.2.1, 64, .inl bN))] s.heap.size = A at hD hT ⊢
  have hA : ∀ q : Nat, s.heap.size ≤ q → A q := fun q h => by rw [← hAe]; exact Or.inr h
  have hS : va_S A s.heap s.heap [] := va_S.rf
  have hl := lv_entry ([.ref qX, .int x1, .int x2] : List Value) (n := 3) (Nat.le_of_ble_eq_true rfl)
  rw [lg_entry_eq]
  generalize (lg_sl ([.ref qX, .int x1, .int x2] : List Value) ++ List.replicate (3 - (lg_sl ([.ref qX, .int x1, .int x2] : List Value)).length) Slot.unset).toArray = ls at hl ⊢
  have hl : lv_has ls 3 [(0, .ref qX), (1, .int x1), (2, .int x2)] := hl
  have hi7 : ∀ w ∈ u_ws RX7 TX7 6, w ∈ wsX7_neighbour := by decide +kernel
  have hw0 : (Cond.fieldLink RX7 10 "NetPlumber" "board" "LNetPlumber$Board;").before #[Value.ref qX, Value.int x1, Value.int x2] s = true := hts _ (by decide +kernel)
  refine wq (fun Q hQ => ?_)
  unfold kX7_neighbour at hq
  refine lv_aload_n hx hb dX7_neighbour_0 rfl (lv_at hl 0 rfl) ?_
  refine lv_iload_n hx hb dX7_neighbour_1 rfl (lv_at hl 1 rfl) ?_
  obtain ⟨q1, eq1, hq⟩ := ob hq
  have hPc := hP.sub (ws' := [(qX, .inr (7, [.ref qB, .ref qH, .ref qK, .ref qV, .ref qS, .ref qW])), (qB, .inr (0, [.ref qBT, .ref qBC, .ref qBN, .ref qBW, .ref qBL, .int bn, .int bk, .int bs]))]) [0, 1] rfl
  have hKc := hK
  have hDc := hD.sub (ws' := [(qX, .inr (7, [.ref qB, .ref qH, .ref qK, .ref qV, .ref qS, .ref qW])), (qB, .inr (0, [.ref qBT, .ref qBC, .ref qBN, .ref qBW, .ref qBL, .int bn, .int bk, .int bs]))]) [0, 1] (by decide) rfl
  have hFc := va_free (wc := [(qX, .inr (7, [.ref qB, .ref qH, .ref qK, .ref qV, .ref qS, .ref qW])), (qB, .inr (0, [.ref qBT, .ref qBC, .ref qBN, .ref qBW, .ref qBL, .int bn, .int bk, .int bs]))]) hD hS hA [0, 1] rfl
  refine vx_callv (vx_runV (As := [.int x1]) (rest := []) ⟨hx, hb, hml, hown, hts⟩ (tX7_requireCell G l hfl eq1) (cwV 1 hts gX7_neighbour_X7_requireCell rfl rfl rfl (by decide +kernel) ⟨Nat.le_of_ble_eq_true rfl, Nat.le_of_ble_eq_true rfl⟩) ⟨pcX_blind, va_recv hKc hPc (ci := 7) (q0 := 0) rfl rfl, pcX_pre hPc hKK hDc hT hS hFc⟩ rfl rfl hl.1 rfl (lv_room (Nat.le_of_ble_eq_true rfl)) dX7_neighbour_2 ⟨Nat.le_of_ble_eq_true rfl, Nat.le_of_ble_eq_true rfl⟩) hS (fun q _ h => hFc q h) hFc (fun q _ h => hFc q h) (fun E ce q9 u t H1 locs ht hvm hpx hB hz1 hk1 hS hc1 hv1 hcl1 => ?_) (fun u t H1 locs ht hvm hw hB hz1 hk1 hS => ?_)
  · obtain ⟨e3, rfl⟩ : ∃ z, z = u := ⟨_, rfl⟩
    subst hpx
    obtain rfl := onR_r hq
    obtain ⟨hE, hB⟩ := hB
    have hB := va_Pto ht hB
    obtain ⟨hP, hD⟩ := jn (ws' := [(qX, .inr (7, [.ref qB, .ref qH, .ref qK, .ref qV, .ref qS, .ref qW])), (qB, .inr (0, [.ref qBT, .ref qBC, .ref qBN, .ref qBW, .ref qBL, .int bn, .int bk, .int bs])), (qBN, .inl (G.2.1, 64, .inl bN))]) hP hD hk1 hB [0, 1] rfl rfl rfl rfl
    rw [hQ]
    exact vx_out (fun x h => (hno x h).elim) hlocks hc1 hv1 hcl1 (fun t ht hW => ⟨_, rfl, ⟨hE, va_Pat ht hP⟩, hS.F ht⟩) hS.2.2 (Nat.le_of_ble_eq_true rfl) (Nat.le_of_ble_eq_true rfl)
  · obtain ⟨u2, rfl⟩ : ∃ z, z = u := ⟨_, rfl⟩
    subst hw
    have hq := onR_l hq
    have hB := va_Pto ht hB
    obtain ⟨hP, hD⟩ := jn (ws' := [(qX, .inr (7, [.ref qB, .ref qH, .ref qK, .ref qV, .ref qS, .ref qW])), (qB, .inr (0, [.ref qBT, .ref qBC, .ref qBN, .ref qBW, .ref qBL, .int bn, .int bk, .int bs])), (qBN, .inl (G.2.1, 64, .inl bN))]) hP hD hk1 hB [0, 1] rfl rfl rfl rfl
    generalize H1 = H at hP hS ⊢
    refine lv_aload_n hx hb dX7_neighbour_5 rfl (lv_at hl 0 rfl) ?_
    refine lv_iload_n hx hb dX7_neighbour_6 rfl (lv_at hl 2 rfl) ?_
    obtain ⟨q4, eq4, hq⟩ := ob hq
    have hPc := hP.sub (ws' := [(qX, .inr (7, [.ref qB, .ref qH, .ref qK, .ref qV, .ref qS, .ref qW]))]) [0] rfl
    have hKc := hK
    have hDc := hD.sub (ws' := [(qX, .inr (7, [.ref qB, .ref qH, .ref qK, .ref qV, .ref qS, .ref qW]))]) [0] (by decide) rfl
    have hFc := va_free (wc := [(qX, .inr (7, [.ref qB, .ref qH, .ref qK, .ref qV, .ref qS, .ref qW]))]) hD hS hA [0] rfl
    refine vx_callv (vx_runV (As := [.int x2]) (rest := []) ⟨hx, hb, hml, hown, hts⟩ (tX7_requireSide G l hfl eq4) (cwV 1 hts gX7_neighbour_X7_requireSide rfl rfl rfl (by decide +kernel) ⟨Nat.le_of_ble_eq_true rfl, Nat.le_of_ble_eq_true rfl⟩) ⟨pcX_blind, va_recv hKc hPc (ci := 7) (q0 := 0) rfl rfl, pcX_pre hPc hKK hDc hT hS hFc⟩ rfl rfl hl.1 rfl (lv_room (Nat.le_of_ble_eq_true rfl)) dX7_neighbour_7 ⟨Nat.le_of_ble_eq_true rfl, Nat.le_of_ble_eq_true rfl⟩) hS (fun q _ h => hFc q h) hFc (fun q _ h => hFc q h) (fun E ce q9 u t H1 locs ht hvm hpx hB hz1 hk1 hS hc1 hv1 hcl1 => ?_) (fun u t H1 locs ht hvm hw hB hz1 hk1 hS => ?_)
    · obtain ⟨e6, rfl⟩ : ∃ z, z = u := ⟨_, rfl⟩
      subst hpx
      obtain rfl := onR_r hq
      obtain ⟨hE, hB⟩ := hB
      have hB := va_Pto ht hB
      obtain ⟨hP, hD⟩ := jn (ws' := [(qX, .inr (7, [.ref qB, .ref qH, .ref qK, .ref qV, .ref qS, .ref qW])), (qB, .inr (0, [.ref qBT, .ref qBC, .ref qBN, .ref qBW, .ref qBL, .int bn, .int bk, .int bs])), (qBN, .inl (G.2.1, 64, .inl bN))]) hP hD hk1 hB [0] rfl rfl rfl rfl
      rw [hQ]
      exact vx_out (fun x h => (hno x h).elim) hlocks hc1 hv1 hcl1 (fun t ht hW => ⟨_, rfl, ⟨hE, va_Pat ht hP⟩, hS.F ht⟩) hS.2.2 (Nat.le_of_ble_eq_true rfl) (Nat.le_of_ble_eq_true rfl)
    · obtain ⟨u5, rfl⟩ : ∃ z, z = u := ⟨_, rfl⟩
      subst hw
      have hq := onR_l hq
      have hB := va_Pto ht hB
      obtain ⟨hP, hD⟩ := jn (ws' := [(qX, .inr (7, [.ref qB, .ref qH, .ref qK, .ref qV, .ref qS, .ref qW])), (qB, .inr (0, [.ref qBT, .ref qBC, .ref qBN, .ref qBW, .ref qBL, .int bn, .int bk, .int bs])), (qBN, .inl (G.2.1, 64, .inl bN))]) hP hD hk1 hB [0] rfl rfl rfl rfl
      generalize H1 = H at hP hS ⊢
      refine lv_aload_n hx hb dX7_neighbour_10 rfl (lv_at hl 0 rfl) ?_
      refine va_get (D := G.1) (ci := 7) (v := .ref qB) (C := RX7) (T := TX7) (N := 6) hx hb hts hi7 hown hK hP 0 rfl rfl 0 (by decide) hw0 (fun _ h9 => h9) rfl dX7_neighbour_11 ?_
      refine lv_iload_n hx hb dX7_neighbour_14 rfl (lv_at hl 1 rfl) ?_
      refine lv_iload_n hx hb dX7_neighbour_15 rfl (lv_at hl 2 rfl) ?_
      obtain ⟨q7, eq7, hq⟩ := ob hq
      have hPc := hP.sub (ws' := [(qB, .inr (0, [.ref qBT, .ref qBC, .ref qBN, .ref qBW, .ref qBL, .int bn, .int bk, .int bs])), (qBN, .inl (G.2.1, 64, .inl bN))]) [1, 2] rfl
      have hKc := hK
      refine vp_callSi (va_Run.run (va_runV (As := [.int x1, .int x2]) (rest := []) ⟨hx, hb, hml, hown, hts⟩ (tX0_beside G l eq7) (cwV 2 hts gX7_neighbour_X0_beside rfl rfl rfl (by decide +kernel) ⟨Nat.le_of_ble_eq_true rfl, Nat.le_of_ble_eq_true rfl⟩) ⟨pcP_blind, va_recv hKc hPc (ci := 0) (q0 := 0) rfl rfl, pcP_pre hPc hKK⟩ rfl rfl hl.1 rfl (lv_room (Nat.le_of_ble_eq_true rfl)) dX7_neighbour_16 ⟨Nat.le_of_ble_eq_true rfl, Nat.le_of_ble_eq_true rfl⟩)) (fun r0 hr0 => ?_)
      obtain rfl := hr0
      obtain rfl := Option.some.inj hq
      rw [hQ]
      refine vx_ret ?_
      refine W.widen (k := 2) (n := 12) (Nat.le_of_ble_eq_true rfl) (Nat.le_of_ble_eq_true rfl) ?_
      exact W.iret hx hb hr (fun t ht hW => ⟨⟨_, _, rfl, ⟨rfl, rfl⟩, va_Pat ht hP⟩, hS.F ht⟩) hS.2.2 dX7_neighbour_19

def kX7_isJoined (F : Nat) (bn : Int32) (bT : Nat → Int32) (bW : Nat → Int32) (x1 : Int32) (x2 : Int32) : Option ((Int32) ⊕ (Nat)) :=
  ((kX7_requireCell F bn x1).bind fun q1 => onR q1 (fun u2 => ((kX7_requireSide F x2).bind fun q4 => onR q4 (fun u5 => ((kX0_joins F bT bW x1 x2).bind fun q7 => (if isZ q7 = true then some (.inl q7) else none))) (fun e6 => e6))) (fun e3 => e3))
abbrev rmX7_isJoined : Room := { frames := 9, cells := 2, slots := 12, locals := 141 }
set_option maxHeartbeats 40000000 in
set_option maxRecDepth 100000 in
theorem tX7_isJoined (G : GG) (l : Launch) (hfl : l.stackTraces = false) {qX qB qH qK qV qS qW qBT qBC qBN qBW qBL : Nat} {bn : Int32} {bk : Int32} {bs : Int32} {bT : Nat → Int32} {bW : Nat → Int32} {x1 : Int32} {x2 : Int32} {sz : Nat} {F : Nat} {r : (Int32) ⊕ (Nat)} (hq : kX7_isJoined F bn bT bW x1 x2 = some r) : vx_Met l yX7_isJoined wsX7_isJoined rmX7_isJoined (pcX G [(qX, .inr (7, [.ref qB, .ref qH, .ref qK, .ref qV, .ref qS, .ref qW])), (qB, .inr (0, [.ref qBT, .ref qBC, .ref qBN, .ref qBW, .ref qBL, .int bn, .int bk, .int bs])), (qBT, .inl (G.2.1, 16, .inl bT)), (qBW, .inl (G.2.1, 64, .inl bW))] sz [.ref qX, .int x1, .int x2]) (qxI G r (fun u => u) (fun u => [(qX, .inr (7, [.ref qB, .ref qH, .ref qK, .ref qV, .ref qS, .ref qW])), (qB, .inr (0, [.ref qBT, .ref qBC, .ref qBN, .ref qBW, .ref qBL, .int bn, .int bk, .int bs])), (qBT, .inl (G.2.1, 16, .inl bT)), (qBW, .inl (G.2.1, 64, .inl bW))]) (va_A [(qX, .inr (7, [.ref qB, .ref qH, .ref qK, .ref qV, .ref qS, .ref qW])), (qB, .inr (0, [.ref qBT, .ref qBC, .ref qBN, .ref qBW, .ref qBL, .int bn, .int bk, .int bs])), (qBT, .inl (G.2.1, 16, .inl bT)), (qBW, .inl (G.2.1, 64, .inl bW))] sz)) (xcX G r (fun u => u) (fun u => [(qX, .inr (7, [.ref qB, .ref qH, .ref qK, .ref qV, .ref qS, .ref qW])), (qB, .inr (0, [.ref qBT, .ref qBC, .ref qBN, .ref qBW, .ref qBL, .int bn, .int bk, .int bs])), (qBT, .inl (G.2.1, 16, .inl bT)), (qBW, .inl (G.2.1, 64, .inl bW))]) (va_A [(qX, .inr (7, [.ref qB, .ref qH, .ref qK, .ref qV, .ref qS, .ref qW])), (qB, .inr (0, [.ref qBT, .ref qBC, .ref qBN, .ref qBW, .ref qBL, .int bn, .int bk, .int bs])), (qBT, .inl (G.2.1, 16, .inl bT)), (qBW, .inl (G.2.1, 64, .inl bW))] sz)) 2 12 (va_A [(qX, .inr (7, [.ref qB, .ref qH, .ref qK, .ref qV, .ref qS, .ref qW])), (qB, .inr (0, [.ref qBT, .ref qBC, .ref qBN, .ref qBW, .ref qBL, .int bn, .int bk, .int bs])), (qBT, .inl (G.2.1, 16, .inl bT)), (qBW, .inl (G.2.1, 64, .inl bW))] sz) := by
  refine vx_ofW (cc := cX7_isJoined) (maxL := 3) (ret := (some .boolean)) (by decide) rfl ?_
  intro p e s m args below meth c s₁ B hml hno hv
  obtain ⟨rfl, hsz, hP, hKK, hD0, hT⟩ := hv
  have hK := hKK.1
  have hx := B.exec
  have hb := B.bytes
  have hr := B.returns
  have hts := atoms_spec (ws := wsX7_isJoined) B.pre
  have hown : s.vm.findClass RX7 = some m.cls := findClass_of_methodNamed B.named
  have hlocks := B.notSynchronized
  subst hsz
  have hD := hD0.self (sz := s.heap.size)
  generalize hAe : va_A [(qX, .inr (7, [.ref qB, .ref qH, .ref qK, .ref qV, .ref qS, .ref qW])), (qB, .inr (0, [.ref qBT, .ref qBC, .ref qBN, .ref qBW, .ref qBL, .int bn, .int bk, .int bs])), (qBT, .inl (G.2.1, 16, .inl bT)), (qBW, .inl (G.2.1, 64, .inl bW))] s.heap.size = A at hD hT ⊢
  have hA : ∀ q : Nat, s.heap.size ≤ q → A q := fun q h => by rw [← hAe]; exact Or.inr h
  have hS : va_S A s.heap s.heap [] := va_S.rf
  have hl := lv_entry ([.ref qX, .int x1, .int x2] : List Value) (n := 3) (Nat.le_of_ble_eq_true rfl)
  rw [lg_entry_eq]
  generalize (lg_sl ([.ref qX, .int x1, .int x2] : List Value) ++ List.replicate (3 - (lg_sl ([.ref qX, .int x1, .int x2] : List Value)).length) Slot.unset).toArray = ls at hl ⊢
  have hl : lv_has ls 3 [(0, .ref qX), (1, .int x1), (2, .int x2)] := hl
  have hi7 : ∀ w ∈ u_ws RX7 TX7 6, w ∈ wsX7_isJoined := by decide +kernel
  have hw0 : (Cond.fieldLink RX7 10 "NetPlumber" "board" "LNetPlumber$Board;").before #[Value.ref qX, Value.int x1, Value.int x2] s = true := hts _ (by decide +kernel)
  refine wq (fun Q hQ => ?_)
  unfold kX7_isJoined at hq
  refine lv_aload_n hx hb dX7_isJoined_0 rfl (lv_at hl 0 rfl) ?_
  refine lv_iload_n hx hb dX7_isJoined_1 rfl (lv_at hl 1 rfl) ?_
  obtain ⟨q1, eq1, hq⟩ := ob hq
  have hPc := hP.sub (ws' := [(qX, .inr (7, [.ref qB, .ref qH, .ref qK, .ref qV, .ref qS, .ref qW])), (qB, .inr (0, [.ref qBT, .ref qBC, .ref qBN, .ref qBW, .ref qBL, .int bn, .int bk, .int bs]))]) [0, 1] rfl
  have hKc := hK
  have hDc := hD.sub (ws' := [(qX, .inr (7, [.ref qB, .ref qH, .ref qK, .ref qV, .ref qS, .ref qW])), (qB, .inr (0, [.ref qBT, .ref qBC, .ref qBN, .ref qBW, .ref qBL, .int bn, .int bk, .int bs]))]) [0, 1] (by decide) rfl
  have hFc := va_free (wc := [(qX, .inr (7, [.ref qB, .ref qH, .ref qK, .ref qV, .ref qS, .ref qW])), (qB, .inr (0, [.ref qBT, .ref qBC, .ref qBN, .ref qBW, .ref qBL, .int bn, .int bk, .int bs]))]) hD hS hA [0, 1] rfl
  refine vx_callv (vx_runV (As := [.int x1]) (rest := []) ⟨hx, hb, hml, hown, hts⟩ (tX7_requireCell G l hfl eq1) (cwV 1 hts gX7_isJoined_X7_requireCell rfl rfl rfl (by decide +kernel) ⟨Nat.le_of_ble_eq_true rfl, Nat.le_of_ble_eq_true rfl⟩) ⟨pcX_blind, va_recv hKc hPc (ci := 7) (q0 := 0) rfl rfl, pcX_pre hPc hKK hDc hT hS hFc⟩ rfl rfl hl.1 rfl (lv_room (Nat.le_of_ble_eq_true rfl)) dX7_isJoined_2 ⟨Nat.le_of_ble_eq_true rfl, Nat.le_of_ble_eq_true rfl⟩) hS (fun q _ h => hFc q h) hFc (fun q _ h => hFc q h) (fun E ce q9 u t H1 locs ht hvm hpx hB hz1 hk1 hS hc1 hv1 hcl1 => ?_) (fun u t H1 locs ht hvm hw hB hz1 hk1 hS => ?_)
  · obtain ⟨e3, rfl⟩ : ∃ z, z = u := ⟨_, rfl⟩
    subst hpx
    obtain rfl := onR_r hq
    obtain ⟨hE, hB⟩ := hB
    have hB := va_Pto ht hB
    obtain ⟨hP, hD⟩ := jn (ws' := [(qX, .inr (7, [.ref qB, .ref qH, .ref qK, .ref qV, .ref qS, .ref qW])), (qB, .inr (0, [.ref qBT, .ref qBC, .ref qBN, .ref qBW, .ref qBL, .int bn, .int bk, .int bs])), (qBT, .inl (G.2.1, 16, .inl bT)), (qBW, .inl (G.2.1, 64, .inl bW))]) hP hD hk1 hB [0, 1] rfl rfl rfl rfl
    rw [hQ]
    exact vx_out (fun x h => (hno x h).elim) hlocks hc1 hv1 hcl1 (fun t ht hW => ⟨_, rfl, ⟨hE, va_Pat ht hP⟩, hS.F ht⟩) hS.2.2 (Nat.le_of_ble_eq_true rfl) (Nat.le_of_ble_eq_true rfl)
  · obtain ⟨u2, rfl⟩ : ∃ z, z = u := ⟨_, rfl⟩
    subst hw
    have hq := onR_l hq
    have hB := va_Pto ht hB
    obtain ⟨hP, hD⟩ := jn (ws' := [(qX, .inr (7, [.ref qB, .ref qH, .ref qK, .ref qV, .ref qS, .ref qW])), (qB, .inr (0, [.ref qBT, .ref qBC, .ref qBN, .ref qBW, .ref qBL, .int bn, .int bk, .int bs])), (qBT, .inl (G.2.1, 16, .inl bT)), (qBW, .inl (G.2.1, 64, .inl bW))]) hP hD hk1 hB [0, 1] rfl rfl rfl rfl
    generalize H1 = H at hP hS ⊢
    refine lv_aload_n hx hb dX7_isJoined_5 rfl (lv_at hl 0 rfl) ?_
    refine lv_iload_n hx hb dX7_isJoined_6 rfl (lv_at hl 2 rfl) ?_
    obtain ⟨q4, eq4, hq⟩ := ob hq
    have hPc := hP.sub (ws' := [(qX, .inr (7, [.ref qB, .ref qH, .ref qK, .ref qV, .ref qS, .ref qW]))]) [0] rfl
    have hKc := hK
    have hDc := hD.sub (ws' := [(qX, .inr (7, [.ref qB, .ref qH, .ref qK, .ref qV, .ref qS, .ref qW]))]) [0] (by decide) rfl
    have hFc := va_free (wc := [(qX, .inr (7, [.ref qB, .ref qH, .ref qK, .ref qV, .ref qS, .ref qW]))]) hD hS hA [0] rfl
    refine vx_callv (vx_runV (As := [.int x2]) (rest := []) ⟨hx, hb, hml, hown, hts⟩ (tX7_requireSide G l hfl eq4) (cwV 1 hts gX7_isJoined_X7_requireSide rfl rfl rfl (by decide +kernel) ⟨Nat.le_of_ble_eq_true rfl, Nat.le_of_ble_eq_true rfl⟩) ⟨pcX_blind, va_recv hKc hPc (ci := 7) (q0 := 0) rfl rfl, pcX_pre hPc hKK hDc hT hS hFc⟩ rfl rfl hl.1 rfl (lv_room (Nat.le_of_ble_eq_true rfl)) dX7_isJoined_7 ⟨Nat.le_of_ble_eq_true rfl, Nat.le_of_ble_eq_true rfl⟩) hS (fun q _ h => hFc q h) hFc (fun q _ h => hFc q h) (fun E ce q9 u t H1 locs ht hvm hpx hB hz1 hk1 hS hc1 hv1 hcl1 => ?_) (fun u t H1 locs ht hvm hw hB hz1 hk1 hS => ?_)
    · obtain ⟨e6, rfl⟩ : ∃ z, z = u := ⟨_, rfl⟩
      subst hpx
      obtain rfl := onR_r hq
      obtain ⟨hE, hB⟩ := hB
      have hB := va_Pto ht hB
      obtain ⟨hP, hD⟩ := jn (ws' := [(qX, .inr (7, [.ref qB, .ref qH, .ref qK, .ref qV, .ref qS, .ref qW])), (qB, .inr (0, [.ref qBT, .ref qBC, .ref qBN, .ref qBW, .ref qBL, .int bn, .int bk, .int bs])), (qBT, .inl (G.2.1, 16, .inl bT)), (qBW, .inl (G.2.1, 64, .inl bW))]) hP hD hk1 hB [0] rfl rfl rfl rfl
      rw [hQ]
      exact vx_out (fun x h => (hno x h).elim) hlocks hc1 hv1 hcl1 (fun t ht hW => ⟨_, rfl, ⟨hE, va_Pat ht hP⟩, hS.F ht⟩) hS.2.2 (Nat.le_of_ble_eq_true rfl) (Nat.le_of_ble_eq_true rfl)
    · obtain ⟨u5, rfl⟩ : ∃ z, z = u := ⟨_, rfl⟩
      subst hw
      have hq := onR_l hq
      have hB := va_Pto ht hB
      obtain ⟨hP, hD⟩ := jn (ws' := [(qX, .inr (7, [.ref qB, .ref qH, .ref qK, .ref qV, .ref qS, .ref qW])), (qB, .inr (0, [.ref qBT, .ref qBC, .ref qBN, .ref qBW, .ref qBL, .int bn, .int bk, .int bs])), (qBT, .inl (G.2.1, 16, .inl bT)), (qBW, .inl (G.2.1, 64, .inl bW))]) hP hD hk1 hB [0] rfl rfl rfl rfl
      generalize H1 = H at hP hS ⊢
      refine lv_aload_n hx hb dX7_isJoined_10 rfl (lv_at hl 0 rfl) ?_
      refine va_get (D := G.1) (ci := 7) (v := .ref qB) (C := RX7) (T := TX7) (N := 6) hx hb hts hi7 hown hK hP 0 rfl rfl 0 (by decide) hw0 (fun _ h9 => h9) rfl dX7_isJoined_11 ?_
      refine lv_iload_n hx hb dX7_isJoined_14 rfl (lv_at hl 1 rfl) ?_
      refine lv_iload_n hx hb dX7_isJoined_15 rfl (lv_at hl 2 rfl) ?_
      obtain ⟨q7, eq7, hq⟩ := ob hq
      have hPc := hP.sub (ws' := [(qB, .inr (0, [.ref qBT, .ref qBC, .ref qBN, .ref qBW, .ref qBL, .int bn, .int bk, .int bs])), (qBT, .inl (G.2.1, 16, .inl bT)), (qBW, .inl (G.2.1, 64, .inl bW))]) [1, 2, 3] rfl
      have hKc := hK
      refine vp_callSi (va_Run.run (va_runV (As := [.int x1, .int x2]) (rest := []) ⟨hx, hb, hml, hown, hts⟩ (tX0_joins G l eq7) (cwV 2 hts gX7_isJoined_X0_joins rfl rfl rfl (by decide +kernel) ⟨Nat.le_of_ble_eq_true rfl, Nat.le_of_ble_eq_true rfl⟩) ⟨pcP_blind, va_recv hKc hPc (ci := 0) (q0 := 0) rfl rfl, pcP_pre hPc hKK⟩ rfl rfl hl.1 rfl (lv_room (Nat.le_of_ble_eq_true rfl)) dX7_isJoined_16 ⟨Nat.le_of_ble_eq_true rfl, Nat.le_of_ble_eq_true rfl⟩)) (fun r0 hr0 => ?_)
      obtain rfl := hr0
      obtain ⟨hg, hq⟩ := k_g hq
      obtain rfl := Option.some.inj hq
      rw [hQ]
      refine vx_ret ?_
      refine W.widen (k := 2) (n := 12) (Nat.le_of_ble_eq_true rfl) (Nat.le_of_ble_eq_true rfl) ?_
      exact W.zret hx hb hr (isZ_n hg) (fun t ht hW => ⟨⟨_, _, rfl, ⟨rfl, rfl⟩, va_Pat ht hP⟩, hS.F ht⟩) hS.2.2 dX7_isJoined_19

def kX7_isWatered (F : Nat) (bn : Int32) (bs : Int32) (bT : Nat → Int32) (bW : Nat → Int32) (bL : Nat → Int32) (x1 : Int32) : Option ((Int32 × (Nat → Int32)) ⊕ (Nat × (Nat → Int32))) :=
  ((kX7_requireCell F bn x1).bind fun q1 => onR q1 (fun u2 => ((kX0_source F bs).bind fun q4 => ((kX0_reachedFrom F bT bW bL q4).bind fun q5 => ((kX7_holds F q5.1 x1).bind fun q6 => (if isZ q6 = true then some (.inl (q6, q5.2)) else none))))) (fun e3 => (e3, bL)))
abbrev rmX7_isWatered : Room := { frames := 9, cells := 1, slots := 6, locals := 141 }
set_option maxHeartbeats 40000000 in
set_option maxRecDepth 100000 in
theorem tX7_isWatered (G : GG) (l : Launch) (hfl : l.stackTraces = false) {qX qB qH qK qV qS qW qBT qBC qBN qBW qBL : Nat} {bn : Int32} {bk : Int32} {bs : Int32} {bT : Nat → Int32} {bW : Nat → Int32} {bL : Nat → Int32} {x1 : Int32} {sz : Nat} {F : Nat} {r : (Int32 × (Nat → Int32)) ⊕ (Nat × (Nat → Int32))} (hq : kX7_isWatered F bn bs bT bW bL x1 = some r) : vx_Met l yX7_isWatered wsX7_isWatered rmX7_isWatered (pcX G [(qX, .inr (7, [.ref qB, .ref qH, .ref qK, .ref qV, .ref qS, .ref qW])), (qB, .inr (0, [.ref qBT, .ref qBC, .ref qBN, .ref qBW, .ref qBL, .int bn, .int bk, .int bs])), (qBT, .inl (G.2.1, 16, .inl bT)), (qBW, .inl (G.2.1, 64, .inl bW)), (qBL, .inl (G.2.1, 16, .inl bL))] sz [.ref qX, .int x1]) (qxI G r (fun u => u.1) (fun u => [(qX, .inr (7, [.ref qB, .ref qH, .ref qK, .ref qV, .ref qS, .ref qW])), (qB, .inr (0, [.ref qBT, .ref qBC, .ref qBN, .ref qBW, .ref qBL, .int bn, .int bk, .int bs])), (qBT, .inl (G.2.1, 16, .inl bT)), (qBW, .inl (G.2.1, 64, .inl bW)), (qBL, .inl (G.2.1, 16, .inl u.2))]) (va_A [(qX, .inr (7, [.ref qB, .ref qH, .ref qK, .ref qV, .ref qS, .ref qW])), (qB, .inr (0, [.ref qBT, .ref qBC, .ref qBN, .ref qBW, .ref qBL, .int bn, .int bk, .int bs])), (qBT, .inl (G.2.1, 16, .inl bT)), (qBW, .inl (G.2.1, 64, .inl bW)), (qBL, .inl (G.2.1, 16, .inl bL))] sz)) (xcX G r (fun u => u.1) (fun u => [(qX, .inr (7, [.ref qB, .ref qH, .ref qK, .ref qV, .ref qS, .ref qW])), (qB, .inr (0, [.ref qBT, .ref qBC, .ref qBN, .ref qBW, .ref qBL, .int bn, .int bk, .int bs])), (qBT, .inl (G.2.1, 16, .inl bT)), (qBW, .inl (G.2.1, 64, .inl bW)), (qBL, .inl (G.2.1, 16, .inl u.2))]) (va_A [(qX, .inr (7, [.ref qB, .ref qH, .ref qK, .ref qV, .ref qS, .ref qW])), (qB, .inr (0, [.ref qBT, .ref qBC, .ref qBN, .ref qBW, .ref qBL, .int bn, .int bk, .int bs])), (qBT, .inl (G.2.1, 16, .inl bT)), (qBW, .inl (G.2.1, 64, .inl bW)), (qBL, .inl (G.2.1, 16, .inl bL))] sz)) 1 6 (va_A [(qX, .inr (7, [.ref qB, .ref qH, .ref qK, .ref qV, .ref qS, .ref qW])), (qB, .inr (0, [.ref qBT, .ref qBC, .ref qBN, .ref qBW, .ref qBL, .int bn, .int bk, .int bs])), (qBT, .inl (G.2.1, 16, .inl bT)), (qBW, .inl (G.2.1, 64, .inl bW)), (qBL, .inl (G.2.1, 16, .inl bL))] sz) := by
  refine vx_ofW (cc := cX7_isWatered) (maxL := 2) (ret := (some .boolean)) (by decide) rfl ?_
  intro p e s m args below meth c s₁ B hml hno hv
  obtain ⟨rfl, hsz, hP, hKK, hD0, hT⟩ := hv
  have hK := hKK.1
  have hx := B.exec
  have hb := B.bytes
  have hr := B.returns
  have hts := atoms_spec (ws := wsX7_isWatered) B.pre
  have hown : s.vm.findClass RX7 = some m.cls := findClass_of_methodNamed B.named
  have hlocks := B.notSynchronized
  subst hsz
  have hD := hD0.self (sz := s.heap.size)
  generalize hAe : va_A [(qX, .inr (7, [.ref qB, .ref qH, .ref qK, .ref qV, .ref qS, .ref qW])), (qB, .inr (0, [.ref qBT, .ref qBC, .ref qBN, .ref qBW, .ref qBL, .int bn, .int bk, .int bs])), (qBT, .inl (G.2.1, 16, .inl bT)), (qBW, .inl (G.2.1, 64, .inl bW)), (qBL, .inl (G.2.1, 16, .inl bL))] s.heap.size = A at hD hT ⊢
  have hA : ∀ q : Nat, s.heap.size ≤ q → A q := fun q h => by rw [← hAe]; exact Or.inr h
  have hS : va_S A s.heap s.heap [] := va_S.rf
  have hl := lv_entry ([.ref qX, .int x1] : List Value) (n := 2) (Nat.le_of_ble_eq_true rfl)
  rw [lg_entry_eq]
  generalize (lg_sl ([.ref qX, .int x1] : List Value) ++ List.replicate (2 - (lg_sl ([.ref qX, .int x1] : List Value)).length) Slot.unset).toArray = ls at hl ⊢
  have hl : lv_has ls 2 [(0, .ref qX), (1, .int x1)] := hl
  have hi7 : ∀ w ∈ u_ws RX7 TX7 6, w ∈ wsX7_isWatered := by decide +kernel
  have hw0 : (Cond.fieldLink RX7 10 "NetPlumber" "board" "LNetPlumber$Board;").before #[Value.ref qX, Value.int x1] s = true := hts _ (by decide +kernel)
  refine wq (fun Q hQ => ?_)
  unfold kX7_isWatered at hq
  refine lv_aload_n hx hb dX7_isWatered_0 rfl (lv_at hl 0 rfl) ?_
  refine lv_iload_n hx hb dX7_isWatered_1 rfl (lv_at hl 1 rfl) ?_
  obtain ⟨q1, eq1, hq⟩ := ob hq
  have hPc := hP.sub (ws' := [(qX, .inr (7, [.ref qB, .ref qH, .ref qK, .ref qV, .ref qS, .ref qW])), (qB, .inr (0, [.ref qBT, .ref qBC, .ref qBN, .ref qBW, .ref qBL, .int bn, .int bk, .int bs]))]) [0, 1] rfl
  have hKc := hK
  have hDc := hD.sub (ws' := [(qX, .inr (7, [.ref qB, .ref qH, .ref qK, .ref qV, .ref qS, .ref qW])), (qB, .inr (0, [.ref qBT, .ref qBC, .ref qBN, .ref qBW, .ref qBL, .int bn, .int bk, .int bs]))]) [0, 1] (by decide) rfl
  have hFc := va_free (wc := [(qX, .inr (7, [.ref qB, .ref qH, .ref qK, .ref qV, .ref qS, .ref qW])), (qB, .inr (0, [.ref qBT, .ref qBC, .ref qBN, .ref qBW, .ref qBL, .int bn, .int bk, .int bs]))]) hD hS hA [0, 1] rfl
  refine vx_callv (vx_runV (As := [.int x1]) (rest := []) ⟨hx, hb, hml, hown, hts⟩ (tX7_requireCell G l hfl eq1) (cwV 1 hts gX7_isWatered_X7_requireCell rfl rfl rfl (by decide +kernel) ⟨Nat.le_of_ble_eq_true rfl, Nat.le_of_ble_eq_true rfl⟩) ⟨pcX_blind, va_recv hKc hPc (ci := 7) (q0 := 0) rfl rfl, pcX_pre hPc hKK hDc hT hS hFc⟩ rfl rfl hl.1 rfl (lv_room (Nat.le_of_ble_eq_true rfl)) dX7_isWatered_2 ⟨Nat.le_of_ble_eq_true rfl, Nat.le_of_ble_eq_true rfl⟩) hS (fun q _ h => hFc q h) hFc (fun q _ h => hFc q h) (fun E ce q9 u t H1 locs ht hvm hpx hB hz1 hk1 hS hc1 hv1 hcl1 => ?_) (fun u t H1 locs ht hvm hw hB hz1 hk1 hS => ?_)
  · obtain ⟨e3, rfl⟩ : ∃ z, z = u := ⟨_, rfl⟩
    subst hpx
    obtain rfl := onR_r hq
    obtain ⟨hE, hB⟩ := hB
    have hB := va_Pto ht hB
    obtain ⟨hP, hD⟩ := jn (ws' := [(qX, .inr (7, [.ref qB, .ref qH, .ref qK, .ref qV, .ref qS, .ref qW])), (qB, .inr (0, [.ref qBT, .ref qBC, .ref qBN, .ref qBW, .ref qBL, .int bn, .int bk, .int bs])), (qBT, .inl (G.2.1, 16, .inl bT)), (qBW, .inl (G.2.1, 64, .inl bW)), (qBL, .inl (G.2.1, 16, .inl bL))]) hP hD hk1 hB [0, 1] rfl rfl rfl rfl
    rw [hQ]
    exact vx_out (fun x h => (hno x h).elim) hlocks hc1 hv1 hcl1 (fun t ht hW => ⟨_, rfl, ⟨hE, va_Pat ht hP⟩, hS.F ht⟩) hS.2.2 (Nat.le_of_ble_eq_true rfl) (Nat.le_of_ble_eq_true rfl)
  · obtain ⟨u2, rfl⟩ : ∃ z, z = u := ⟨_, rfl⟩
    subst hw
    have hq := onR_l hq
    have hB := va_Pto ht hB
    obtain ⟨hP, hD⟩ := jn (ws' := [(qX, .inr (7, [.ref qB, .ref qH, .ref qK, .ref qV, .ref qS, .ref qW])), (qB, .inr (0, [.ref qBT, .ref qBC, .ref qBN, .ref qBW, .ref qBL, .int bn, .int bk, .int bs])), (qBT, .inl (G.2.1, 16, .inl bT)), (qBW, .inl (G.2.1, 64, .inl bW)), (qBL, .inl (G.2.1, 16, .inl bL))]) hP hD hk1 hB [0, 1] rfl rfl rfl rfl
    generalize H1 = H at hP hS ⊢
    refine lv_aload_n hx hb dX7_isWatered_5 rfl (lv_at hl 0 rfl) ?_
    refine va_get (D := G.1) (ci := 7) (v := .ref qB) (C := RX7) (T := TX7) (N := 6) hx hb hts hi7 hown hK hP 0 rfl rfl 0 (by decide) hw0 (fun _ h9 => h9) rfl dX7_isWatered_6 ?_
    refine lv_aload_n hx hb dX7_isWatered_9 rfl (lv_at hl 0 rfl) ?_
    refine va_get (D := G.1) (ci := 7) (v := .ref qB) (C := RX7) (T := TX7) (N := 6) hx hb hts hi7 hown hK hP 0 rfl rfl 0 (by decide) hw0 (fun _ h9 => h9) rfl dX7_isWatered_10 ?_
    obtain ⟨q4, eq4, hq⟩ := ob hq
    have hPc := hP.sub (ws' := [(qB, .inr (0, [.ref qBT, .ref qBC, .ref qBN, .ref qBW, .ref qBL, .int bn, .int bk, .int bs]))]) [1] rfl
    have hKc := hK
    refine vp_callSi (va_Run.run (va_runV (As := []) (rest := [.ref qB]) ⟨hx, hb, hml, hown, hts⟩ (tX0_source G l eq4) (cwV 0 hts gX7_isWatered_X0_source rfl rfl rfl (by decide +kernel) ⟨Nat.le_of_ble_eq_true rfl, Nat.le_of_ble_eq_true rfl⟩) ⟨pcP_blind, va_recv hKc hPc (ci := 0) (q0 := 0) rfl rfl, pcP_pre hPc hKK⟩ rfl rfl hl.1 rfl (lv_room (Nat.le_of_ble_eq_true rfl)) dX7_isWatered_13 ⟨Nat.le_of_ble_eq_true rfl, Nat.le_of_ble_eq_true rfl⟩)) (fun r0 hr0 => ?_)
    obtain rfl := hr0
    obtain ⟨q5, eq5, hq⟩ := ob hq
    have hPc := hP.sub (ws' := [(qB, .inr (0, [.ref qBT, .ref qBC, .ref qBN, .ref qBW, .ref qBL, .int bn, .int bk, .int bs])), (qBT, .inl (G.2.1, 16, .inl bT)), (qBW, .inl (G.2.1, 64, .inl bW)), (qBL, .inl (G.2.1, 16, .inl bL))]) [1, 2, 3, 4] rfl
    have hKc := hK
    have hDc := hD.sub (ws' := [(qB, .inr (0, [.ref qBT, .ref qBC, .ref qBN, .ref qBW, .ref qBL, .int bn, .int bk, .int bs])), (qBT, .inl (G.2.1, 16, .inl bT)), (qBW, .inl (G.2.1, 64, .inl bW)), (qBL, .inl (G.2.1, 16, .inl bL))]) [1, 2, 3, 4] (by decide) rfl
    have hFc := va_free (wc := [(qB, .inr (0, [.ref qBT, .ref qBC, .ref qBN, .ref qBW, .ref qBL, .int bn, .int bk, .int bs])), (qBT, .inl (G.2.1, 16, .inl bT)), (qBW, .inl (G.2.1, 64, .inl bW)), (qBL, .inl (G.2.1, 16, .inl bL))]) hD hS hA [1, 2, 3, 4] rfl
    refine va_calli (va_runV (As := [.int q4]) (rest := []) ⟨hx, hb, hml, hown, hts⟩ (tX0_reachedFrom G l eq5) (cwV 1 hts gX7_isWatered_X0_reachedFrom rfl rfl rfl (by decide +kernel) ⟨Nat.le_of_ble_eq_true rfl, Nat.le_of_ble_eq_true rfl⟩) ⟨pcW_blind, va_recv hKc hPc (ci := 0) (q0 := 0) rfl rfl, pcW_pre hPc hKK hDc⟩ rfl rfl hl.1 rfl (lv_room (Nat.le_of_ble_eq_true rfl)) dX7_isWatered_16 ⟨Nat.le_of_ble_eq_true rfl, Nat.le_of_ble_eq_true rfl⟩) hS (fun q _ h => hFc q h) hFc (fun r0 u t H1 locs ht hvm hw hB hz1 hk1 hS => ?_)
    obtain rfl := hw
    have hB := va_Pto ht hB
    obtain ⟨hP, hD⟩ := jn (ws' := [(qX, .inr (7, [.ref qB, .ref qH, .ref qK, .ref qV, .ref qS, .ref qW])), (qB, .inr (0, [.ref qBT, .ref qBC, .ref qBN, .ref qBW, .ref qBL, .int bn, .int bk, .int bs])), (qBT, .inl (G.2.1, 16, .inl bT)), (qBW, .inl (G.2.1, 64, .inl bW)), (qBL, .inl (G.2.1, 16, .inl q5.2))]) hP hD hk1 hB [1, 2, 3, 4] rfl rfl rfl rfl
    generalize H1 = H at hP hS ⊢
    refine lv_iload_n hx hb dX7_isWatered_19 rfl (lv_at hl 1 rfl) ?_
    obtain ⟨q6, eq6, hq⟩ := ob hq
    have hPc := hP.sub (ws' := []) [] rfl
    refine vp_callSi (va_Run.run (va_runS (As := [.int q5.1, .int x1]) (rest := []) ⟨hx, hb, hml, hown, hts⟩ (tX7_holds G l eq6) (va_cwS 2 hts gX7_isWatered_X7_holds rfl rfl rfl (by decide +kernel) ⟨Nat.le_of_ble_eq_true rfl, Nat.le_of_ble_eq_true rfl⟩) ⟨pcP_blind, pcP_pre hPc hKK⟩ rfl rfl hl.1 rfl (lv_room (Nat.le_of_ble_eq_true rfl)) dX7_isWatered_20 ⟨Nat.le_of_ble_eq_true rfl, Nat.le_of_ble_eq_true rfl⟩)) (fun r0 hr0 => ?_)
    obtain rfl := hr0
    obtain ⟨hg, hq⟩ := k_g hq
    obtain rfl := Option.some.inj hq
    rw [hQ]
    refine vx_ret ?_
    refine W.widen (k := 1) (n := 6) (Nat.le_of_ble_eq_true rfl) (Nat.le_of_ble_eq_true rfl) ?_
    exact W.zret hx hb hr (isZ_n hg) (fun t ht hW => ⟨⟨_, _, rfl, ⟨rfl, rfl⟩, va_Pat ht hP⟩, hS.F ht⟩) hS.2.2 dX7_isWatered_23

def kX7_begin (F : Nat) (bn : Int32) (bk : Int32) (bs : Int32) (bT : Nat → Int32) (bC : Nat → Int32) (bN : Nat → Int32) (bW : Nat → Int32) (hd : Int32) (hk : Int32) (x1 : Int32) (x2 : Int32) (x3 : Int32) : Option ((Int32 × Int32 × Int32 × Int32 × (Nat → Int32) × (Nat → Int32) × (Nat → Int32) × (Nat → Int32) × Int32 × Int32) ⊕ (Nat × Int32 × Int32 × Int32 × (Nat → Int32) × (Nat → Int32) × (Nat → Int32) × (Nat → Int32) × Int32 × Int32)) :=
  ((kX7_requireBoard F x1 x2 x3).bind fun q1 => onR q1 (fun u2 => ((kX7_startBoard F bn bk bs bT bC bN bW hd hk x1 x2 x3).bind fun q4 => ((kX0_count F q4.1).bind fun q5 => some (.inl (q5, q4.1, q4.2.1, q4.2.2.1, q4.2.2.2.1, q4.2.2.2.2.1, q4.2.2.2.2.2.1, q4.2.2.2.2.2.2.1, q4.2.2.2.2.2.2.2.1, q4.2.2.2.2.2.2.2.2))))) (fun e3 => (e3, bn, bk, bs, bT, bC, bN, bW, hd, hk)))
abbrev rmX7_begin : Room := { frames := 9, cells := 1, slots := 6, locals := 143 }
set_option maxHeartbeats 40000000 in
set_option maxRecDepth 100000 in
theorem tX7_begin (G : GG) (l : Launch) (hfl : l.stackTraces = false) {qX qB qH qK qV qS qW qBT qBC qBN qBW qBL qHM : Nat} {bn : Int32} {bk : Int32} {bs : Int32} {bT : Nat → Int32} {bC : Nat → Int32} {bN : Nat → Int32} {bW : Nat → Int32} {hd : Int32} {hk : Int32} {x1 : Int32} {x2 : Int32} {x3 : Int32} {sz : Nat} {F : Nat} {r : (Int32 × Int32 × Int32 × Int32 × (Nat → Int32) × (Nat → Int32) × (Nat → Int32) × (Nat → Int32) × Int32 × Int32) ⊕ (Nat × Int32 × Int32 × Int32 × (Nat → Int32) × (Nat → Int32) × (Nat → Int32) × (Nat → Int32) × Int32 × Int32)} (hq : kX7_begin F bn bk bs bT bC bN bW hd hk x1 x2 x3 = some r) : vx_Met l yX7_begin wsX7_begin rmX7_begin (pcX G [(qX, .inr (7, [.ref qB, .ref qH, .ref qK, .ref qV, .ref qS, .ref qW])), (qB, .inr (0, [.ref qBT, .ref qBC, .ref qBN, .ref qBW, .ref qBL, .int bn, .int bk, .int bs])), (qBT, .inl (G.2.1, 16, .inl bT)), (qBC, .inl (G.2.1, 16, .inl bC)), (qBN, .inl (G.2.1, 64, .inl bN)), (qBW, .inl (G.2.1, 64, .inl bW)), (qH, .inr (2, [.ref qHM, .int hd, .int hk]))] sz [.ref qX, .int x1, .int x2, .int x3]) (qxI G r (fun u => u.1) (fun u => [(qX, .inr (7, [.ref qB, .ref qH, .ref qK, .ref qV, .ref qS, .ref qW])), (qB, .inr (0, [.ref qBT, .ref qBC, .ref qBN, .ref qBW, .ref qBL, .int u.2.1, .int u.2.2.1, .int u.2.2.2.1])), (qBT, .inl (G.2.1, 16, .inl u.2.2.2.2.1)), (qBC, .inl (G.2.1, 16, .inl u.2.2.2.2.2.1)), (qBN, .inl (G.2.1, 64, .inl u.2.2.2.2.2.2.1)), (qBW, .inl (G.2.1, 64, .inl u.2.2.2.2.2.2.2.1)), (qH, .inr (2, [.ref qHM, .int u.2.2.2.2.2.2.2.2.1, .int u.2.2.2.2.2.2.2.2.2]))]) (va_A [(qX, .inr (7, [.ref qB, .ref qH, .ref qK, .ref qV, .ref qS, .ref qW])), (qB, .inr (0, [.ref qBT, .ref qBC, .ref qBN, .ref qBW, .ref qBL, .int bn, .int bk, .int bs])), (qBT, .inl (G.2.1, 16, .inl bT)), (qBC, .inl (G.2.1, 16, .inl bC)), (qBN, .inl (G.2.1, 64, .inl bN)), (qBW, .inl (G.2.1, 64, .inl bW)), (qH, .inr (2, [.ref qHM, .int hd, .int hk]))] sz)) (xcX G r (fun u => u.1) (fun u => [(qX, .inr (7, [.ref qB, .ref qH, .ref qK, .ref qV, .ref qS, .ref qW])), (qB, .inr (0, [.ref qBT, .ref qBC, .ref qBN, .ref qBW, .ref qBL, .int u.2.1, .int u.2.2.1, .int u.2.2.2.1])), (qBT, .inl (G.2.1, 16, .inl u.2.2.2.2.1)), (qBC, .inl (G.2.1, 16, .inl u.2.2.2.2.2.1)), (qBN, .inl (G.2.1, 64, .inl u.2.2.2.2.2.2.1)), (qBW, .inl (G.2.1, 64, .inl u.2.2.2.2.2.2.2.1)), (qH, .inr (2, [.ref qHM, .int u.2.2.2.2.2.2.2.2.1, .int u.2.2.2.2.2.2.2.2.2]))]) (va_A [(qX, .inr (7, [.ref qB, .ref qH, .ref qK, .ref qV, .ref qS, .ref qW])), (qB, .inr (0, [.ref qBT, .ref qBC, .ref qBN, .ref qBW, .ref qBL, .int bn, .int bk, .int bs])), (qBT, .inl (G.2.1, 16, .inl bT)), (qBC, .inl (G.2.1, 16, .inl bC)), (qBN, .inl (G.2.1, 64, .inl bN)), (qBW, .inl (G.2.1, 64, .inl bW)), (qH, .inr (2, [.ref qHM, .int hd, .int hk]))] sz)) 1 6 (va_A [(qX, .inr (7, [.ref qB, .ref qH, .ref qK, .ref qV, .ref qS, .ref qW])), (qB, .inr (0, [.ref qBT, .ref qBC, .ref qBN, .ref qBW, .ref qBL, .int bn, .int bk, .int bs])), (qBT, .inl (G.2.1, 16, .inl bT)), (qBC, .inl (G.2.1, 16, .inl bC)), (qBN, .inl (G.2.1, 64, .inl bN)), (qBW, .inl (G.2.1, 64, .inl bW)), (qH, .inr (2, [.ref qHM, .int hd, .int hk]))] sz) := by
  refine vx_ofW (cc := cX7_begin) (maxL := 4) (ret := (some .int)) (by decide) rfl ?_
  intro p e s m args below meth c s₁ B hml hno hv
  obtain ⟨rfl, hsz, hP, hKK, hD0, hT⟩ := hv
  have hK := hKK.1
  have hx := B.exec
  have hb := B.bytes
  have hr := B.returns
  have hts := atoms_spec (ws := wsX7_begin) B.pre
  have hown : s.vm.findClass RX7 = some m.cls := findClass_of_methodNamed B.named
  have hlocks := B.notSynchronized
  subst hsz
  have hD := hD0.self (sz := s.heap.size)
  generalize hAe : va_A [(qX, .inr (7, [.ref qB, .ref qH, .ref qK, .ref qV, .ref qS, .ref qW])), (qB, .inr (0, [.ref qBT, .ref qBC, .ref qBN, .ref qBW, .ref qBL, .int bn, .int bk, .int bs])), (qBT, .inl (G.2.1, 16, .inl bT)), (qBC, .inl (G.2.1, 16, .inl bC)), (qBN, .inl (G.2.1, 64, .inl bN)), (qBW, .inl (G.2.1, 64, .inl bW)), (qH, .inr (2, [.ref qHM, .int hd, .int hk]))] s.heap.size = A at hD hT ⊢
  have hA : ∀ q : Nat, s.heap.size ≤ q → A q := fun q h => by rw [← hAe]; exact Or.inr h
  have hS : va_S A s.heap s.heap [] := va_S.rf
  have hl := lv_entry ([.ref qX, .int x1, .int x2, .int x3] : List Value) (n := 4) (Nat.le_of_ble_eq_true rfl)
  rw [lg_entry_eq]
  generalize (lg_sl ([.ref qX, .int x1, .int x2, .int x3] : List Value) ++ List.replicate (4 - (lg_sl ([.ref qX, .int x1, .int x2, .int x3] : List Value)).length) Slot.unset).toArray = ls at hl ⊢
  have hl : lv_has ls 4 [(0, .ref qX), (1, .int x1), (2, .int x2), (3, .int x3)] := hl
  have hi7 : ∀ w ∈ u_ws RX7 TX7 6, w ∈ wsX7_begin := by decide +kernel
  have hw0 : (Cond.fieldLink RX7 10 "NetPlumber" "board" "LNetPlumber$Board;").before #[Value.ref qX, Value.int x1, Value.int x2, Value.int x3] s = true := hts _ (by decide +kernel)
  refine wq (fun Q hQ => ?_)
  unfold kX7_begin at hq
  refine lv_aload_n hx hb dX7_begin_0 rfl (lv_at hl 0 rfl) ?_
  refine lv_iload_n hx hb dX7_begin_1 rfl (lv_at hl 1 rfl) ?_
  refine lv_iload_n hx hb dX7_begin_2 rfl (lv_at hl 2 rfl) ?_
  refine lv_iload_n hx hb dX7_begin_3 rfl (lv_at hl 3 rfl) ?_
  obtain ⟨q1, eq1, hq⟩ := ob hq
  have hPc := hP.sub (ws' := [(qX, .inr (7, [.ref qB, .ref qH, .ref qK, .ref qV, .ref qS, .ref qW]))]) [0] rfl
  have hKc := hK
  have hDc := hD.sub (ws' := [(qX, .inr (7, [.ref qB, .ref qH, .ref qK, .ref qV, .ref qS, .ref qW]))]) [0] (by decide) rfl
  have hFc := va_free (wc := [(qX, .inr (7, [.ref qB, .ref qH, .ref qK, .ref qV, .ref qS, .ref qW]))]) hD hS hA [0] rfl
  refine vx_callv (vx_runV (As := [.int x1, .int x2, .int x3]) (rest := []) ⟨hx, hb, hml, hown, hts⟩ (tX7_requireBoard G l hfl eq1) (cwV 3 hts gX7_begin_X7_requireBoard rfl rfl rfl (by decide +kernel) ⟨Nat.le_of_ble_eq_true rfl, Nat.le_of_ble_eq_true rfl⟩) ⟨pcX_blind, va_recv hKc hPc (ci := 7) (q0 := 0) rfl rfl, pcX_pre hPc hKK hDc hT hS hFc⟩ rfl rfl hl.1 rfl (lv_room (Nat.le_of_ble_eq_true rfl)) dX7_begin_4 ⟨Nat.le_of_ble_eq_true rfl, Nat.le_of_ble_eq_true rfl⟩) hS (fun q _ h => hFc q h) hFc (fun q _ h => hFc q h) (fun E ce q9 u t H1 locs ht hvm hpx hB hz1 hk1 hS hc1 hv1 hcl1 => ?_) (fun u t H1 locs ht hvm hw hB hz1 hk1 hS => ?_)
  · obtain ⟨e3, rfl⟩ : ∃ z, z = u := ⟨_, rfl⟩
    subst hpx
    obtain rfl := onR_r hq
    obtain ⟨hE, hB⟩ := hB
    have hB := va_Pto ht hB
    obtain ⟨hP, hD⟩ := jn (ws' := [(qX, .inr (7, [.ref qB, .ref qH, .ref qK, .ref qV, .ref qS, .ref qW])), (qB, .inr (0, [.ref qBT, .ref qBC, .ref qBN, .ref qBW, .ref qBL, .int bn, .int bk, .int bs])), (qBT, .inl (G.2.1, 16, .inl bT)), (qBC, .inl (G.2.1, 16, .inl bC)), (qBN, .inl (G.2.1, 64, .inl bN)), (qBW, .inl (G.2.1, 64, .inl bW)), (qH, .inr (2, [.ref qHM, .int hd, .int hk]))]) hP hD hk1 hB [0] rfl rfl rfl rfl
    rw [hQ]
    exact vx_out (fun x h => (hno x h).elim) hlocks hc1 hv1 hcl1 (fun t ht hW => ⟨_, rfl, ⟨hE, va_Pat ht hP⟩, hS.F ht⟩) hS.2.2 (Nat.le_of_ble_eq_true rfl) (Nat.le_of_ble_eq_true rfl)
  · obtain ⟨u2, rfl⟩ : ∃ z, z = u := ⟨_, rfl⟩
    subst hw
    have hq := onR_l hq
    have hB := va_Pto ht hB
    obtain ⟨hP, hD⟩ := jn (ws' := [(qX, .inr (7, [.ref qB, .ref qH, .ref qK, .ref qV, .ref qS, .ref qW])), (qB, .inr (0, [.ref qBT, .ref qBC, .ref qBN, .ref qBW, .ref qBL, .int bn, .int bk, .int bs])), (qBT, .inl (G.2.1, 16, .inl bT)), (qBC, .inl (G.2.1, 16, .inl bC)), (qBN, .inl (G.2.1, 64, .inl bN)), (qBW, .inl (G.2.1, 64, .inl bW)), (qH, .inr (2, [.ref qHM, .int hd, .int hk]))]) hP hD hk1 hB [0] rfl rfl rfl rfl
    generalize H1 = H at hP hS ⊢
    refine lv_aload_n hx hb dX7_begin_7 rfl (lv_at hl 0 rfl) ?_
    refine lv_iload_n hx hb dX7_begin_8 rfl (lv_at hl 1 rfl) ?_
    refine lv_iload_n hx hb dX7_begin_9 rfl (lv_at hl 2 rfl) ?_
    refine lv_iload_n hx hb dX7_begin_10 rfl (lv_at hl 3 rfl) ?_
    obtain ⟨q4, eq4, hq⟩ := ob hq
    have hPc := hP.sub (ws' := [(qX, .inr (7, [.ref qB, .ref qH, .ref qK, .ref qV, .ref qS, .ref qW])), (qB, .inr (0, [.ref qBT, .ref qBC, .ref qBN, .ref qBW, .ref qBL, .int bn, .int bk, .int bs])), (qBT, .inl (G.2.1, 16, .inl bT)), (qBC, .inl (G.2.1, 16, .inl bC)), (qBN, .inl (G.2.1, 64, .inl bN)), (qBW, .inl (G.2.1, 64, .inl bW)), (qH, .inr (2, [.ref qHM, .int hd, .int hk]))]) [0, 1, 2, 3, 4, 5, 6] rfl
    have hKc := hK
    have hDc := hD.sub (ws' := [(qX, .inr (7, [.ref qB, .ref qH, .ref qK, .ref qV, .ref qS, .ref qW])), (qB, .inr (0, [.ref qBT, .ref qBC, .ref qBN, .ref qBW, .ref qBL, .int bn, .int bk, .int bs])), (qBT, .inl (G.2.1, 16, .inl bT)), (qBC, .inl (G.2.1, 16, .inl bC)), (qBN, .inl (G.2.1, 64, .inl bN)), (qBW, .inl (G.2.1, 64, .inl bW)), (qH, .inr (2, [.ref qHM, .int hd, .int hk]))]) [0, 1, 2, 3, 4, 5, 6] (by decide) rfl
    have hFc := va_free (wc := [(qX, .inr (7, [.ref qB, .ref qH, .ref qK, .ref qV, .ref qS, .ref qW])), (qB, .inr (0, [.ref qBT, .ref qBC, .ref qBN, .ref qBW, .ref qBL, .int bn, .int bk, .int bs])), (qBT, .inl (G.2.1, 16, .inl bT)), (qBC, .inl (G.2.1, 16, .inl bC)), (qBN, .inl (G.2.1, 64, .inl bN)), (qBW, .inl (G.2.1, 64, .inl bW)), (qH, .inr (2, [.ref qHM, .int hd, .int hk]))]) hD hS hA [0, 1, 2, 3, 4, 5, 6] rfl
    refine va_callv (va_runV (As := [.int x1, .int x2, .int x3]) (rest := []) ⟨hx, hb, hml, hown, hts⟩ (tX7_startBoard G l eq4) (cwV 3 hts gX7_begin_X7_startBoard rfl rfl rfl (by decide +kernel) ⟨Nat.le_of_ble_eq_true rfl, Nat.le_of_ble_eq_true rfl⟩) ⟨pcW_blind, va_recv hKc hPc (ci := 7) (q0 := 0) rfl rfl, pcW_pre hPc hKK hDc⟩ rfl rfl hl.1 rfl (lv_room (Nat.le_of_ble_eq_true rfl)) dX7_begin_11 ⟨Nat.le_of_ble_eq_true rfl, Nat.le_of_ble_eq_true rfl⟩) hS (fun q _ h => hFc q h) hFc (fun u t H1 locs ht hvm hw hB hz1 hk1 hS => ?_)
    have hB := va_Pto ht hB
    obtain ⟨hP, hD⟩ := jn (ws' := [(qX, .inr (7, [.ref qB, .ref qH, .ref qK, .ref qV, .ref qS, .ref qW])), (qB, .inr (0, [.ref qBT, .ref qBC, .ref qBN, .ref qBW, .ref qBL, .int q4.1, .int q4.2.1, .int q4.2.2.1])), (qBT, .inl (G.2.1, 16, .inl q4.2.2.2.1)), (qBC, .inl (G.2.1, 16, .inl q4.2.2.2.2.1)), (qBN, .inl (G.2.1, 64, .inl q4.2.2.2.2.2.1)), (qBW, .inl (G.2.1, 64, .inl q4.2.2.2.2.2.2.1)), (qH, .inr (2, [.ref qHM, .int q4.2.2.2.2.2.2.2.1, .int q4.2.2.2.2.2.2.2.2]))]) hP hD hk1 hB [0, 1, 2, 3, 4, 5, 6] rfl rfl rfl rfl
    generalize H1 = H at hP hS ⊢
    refine lv_aload_n hx hb dX7_begin_14 rfl (lv_at hl 0 rfl) ?_
    refine va_get (D := G.1) (ci := 7) (v := .ref qB) (C := RX7) (T := TX7) (N := 6) hx hb hts hi7 hown hK hP 0 rfl rfl 0 (by decide) hw0 (fun _ h9 => h9) rfl dX7_begin_15 ?_
    obtain ⟨q5, eq5, hq⟩ := ob hq
    have hPc := hP.sub (ws' := [(qB, .inr (0, [.ref qBT, .ref qBC, .ref qBN, .ref qBW, .ref qBL, .int q4.1, .int q4.2.1, .int q4.2.2.1]))]) [1] rfl
    have hKc := hK
    refine vp_callSi (va_Run.run (va_runV (As := []) (rest := []) ⟨hx, hb, hml, hown, hts⟩ (tX0_count G l eq5) (cwV 0 hts gX7_begin_X0_count rfl rfl rfl (by decide +kernel) ⟨Nat.le_of_ble_eq_true rfl, Nat.le_of_ble_eq_true rfl⟩) ⟨pcP_blind, va_recv hKc hPc (ci := 0) (q0 := 0) rfl rfl, pcP_pre hPc hKK⟩ rfl rfl hl.1 rfl (lv_room (Nat.le_of_ble_eq_true rfl)) dX7_begin_18 ⟨Nat.le_of_ble_eq_true rfl, Nat.le_of_ble_eq_true rfl⟩)) (fun r0 hr0 => ?_)
    obtain rfl := hr0
    obtain rfl := Option.some.inj hq
    rw [hQ]
    refine vx_ret ?_
    refine W.widen (k := 1) (n := 6) (Nat.le_of_ble_eq_true rfl) (Nat.le_of_ble_eq_true rfl) ?_
    exact W.iret hx hb hr (fun t ht hW => ⟨⟨_, _, rfl, ⟨rfl, rfl⟩, va_Pat ht hP⟩, hS.F ht⟩) hS.2.2 dX7_begin_21

def kX7_make (F : Nat) (bn : Int32) (bk : Int32) (bs : Int32) (bT : Nat → Int32) (bC : Nat → Int32) (bN : Nat → Int32) (bW : Nat → Int32) (bL : Nat → Int32) (hd : Int32) (hk : Int32) (kp : Int32) (ku : Int32) (kC : Nat → Int32) (kS : Nat → Int32) (x1 : Int32) (x2 : Int32) (x3 : Int32) (x4 : Int32) : Option ((Int32 × Int32 × Int32 × Int32 × (Nat → Int32) × (Nat → Int32) × (Nat → Int32) × (Nat → Int32) × (Nat → Int32) × Int32 × Int32 × Int32 × Int32 × (Nat → Int32) × (Nat → Int32)) ⊕ (Nat × Int32 × Int32 × Int32 × (Nat → Int32) × (Nat → Int32) × (Nat → Int32) × (Nat → Int32) × (Nat → Int32) × Int32 × Int32 × Int32 × Int32 × (Nat → Int32) × (Nat → Int32))) :=
  ((kX7_requireBoard F x1 x2 x3).bind fun q1 => onR q1 (fun u2 => (if x4 < 0 then some (.inr (0, bn, bk, bs, bT, bC, bN, bW, bL, hd, hk, kp, ku, kC, kS)) else (if x4 < 65536 then ((kX7_startBoard F bn bk bs bT bC bN bW hd hk x1 x2 x3).bind fun q4 => ((kX3_fillBoard F q4.1 q4.2.2.2.1 q4.2.2.2.2.2.1 q4.2.2.2.2.2.2.1 bL kp ku kC kS x4).bind fun q5 => ((kX0_countEnds F q4.1 q5.1).bind fun q6 => some (.inl (q6, q4.1, q4.2.1, q4.2.2.1, q5.1, q4.2.2.2.2.1, q4.2.2.2.2.2.1, q4.2.2.2.2.2.2.1, q5.2.1, q4.2.2.2.2.2.2.2.1, q4.2.2.2.2.2.2.2.2, q5.2.2.1, q5.2.2.2.1, q5.2.2.2.2.1, q5.2.2.2.2.2))))) else some (.inr (0, bn, bk, bs, bT, bC, bN, bW, bL, hd, hk, kp, ku, kC, kS))))) (fun e3 => (e3, bn, bk, bs, bT, bC, bN, bW, bL, hd, hk, kp, ku, kC, kS)))
abbrev rmX7_make : Room := { frames := 9, cells := 2, slots := 12, locals := 143 }
set_option maxHeartbeats 40000000 in
set_option maxRecDepth 100000 in
theorem tX7_make (G : GG) (l : Launch) (hfl : l.stackTraces = false) {qX qB qH qK qV qS qW qBT qBC qBN qBW qBL qHM qKC qKS : Nat} {bn : Int32} {bk : Int32} {bs : Int32} {bT : Nat → Int32} {bC : Nat → Int32} {bN : Nat → Int32} {bW : Nat → Int32} {bL : Nat → Int32} {hd : Int32} {hk : Int32} {kp : Int32} {ku : Int32} {kC : Nat → Int32} {kS : Nat → Int32} {x1 : Int32} {x2 : Int32} {x3 : Int32} {x4 : Int32} {sz : Nat} {F : Nat} {r : (Int32 × Int32 × Int32 × Int32 × (Nat → Int32) × (Nat → Int32) × (Nat → Int32) × (Nat → Int32) × (Nat → Int32) × Int32 × Int32 × Int32 × Int32 × (Nat → Int32) × (Nat → Int32)) ⊕ (Nat × Int32 × Int32 × Int32 × (Nat → Int32) × (Nat → Int32) × (Nat → Int32) × (Nat → Int32) × (Nat → Int32) × Int32 × Int32 × Int32 × Int32 × (Nat → Int32) × (Nat → Int32))} (hq : kX7_make F bn bk bs bT bC bN bW bL hd hk kp ku kC kS x1 x2 x3 x4 = some r) : vx_Met l yX7_make wsX7_make rmX7_make (pcX G [(qX, .inr (7, [.ref qB, .ref qH, .ref qK, .ref qV, .ref qS, .ref qW])), (qB, .inr (0, [.ref qBT, .ref qBC, .ref qBN, .ref qBW, .ref qBL, .int bn, .int bk, .int bs])), (qBT, .inl (G.2.1, 16, .inl bT)), (qBC, .inl (G.2.1, 16, .inl bC)), (qBN, .inl (G.2.1, 64, .inl bN)), (qBW, .inl (G.2.1, 64, .inl bW)), (qBL, .inl (G.2.1, 16, .inl bL)), (qH, .inr (2, [.ref qHM, .int hd, .int hk])), (qK, .inr (3, [.ref qB, .ref qKC, .ref qKS, .int kp, .int ku])), (qKC, .inl (G.2.1, 32, .inl kC)), (qKS, .inl (G.2.1, 32, .inl kS))] sz [.ref qX, .int x1, .int x2, .int x3, .int x4]) (qxI G r (fun u => u.1) (fun u => [(qX, .inr (7, [.ref qB, .ref qH, .ref qK, .ref qV, .ref qS, .ref qW])), (qB, .inr (0, [.ref qBT, .ref qBC, .ref qBN, .ref qBW, .ref qBL, .int u.2.1, .int u.2.2.1, .int u.2.2.2.1])), (qBT, .inl (G.2.1, 16, .inl u.2.2.2.2.1)), (qBC, .inl (G.2.1, 16, .inl u.2.2.2.2.2.1)), (qBN, .inl (G.2.1, 64, .inl u.2.2.2.2.2.2.1)), (qBW, .inl (G.2.1, 64, .inl u.2.2.2.2.2.2.2.1)), (qBL, .inl (G.2.1, 16, .inl u.2.2.2.2.2.2.2.2.1)), (qH, .inr (2, [.ref qHM, .int u.2.2.2.2.2.2.2.2.2.1, .int u.2.2.2.2.2.2.2.2.2.2.1])), (qK, .inr (3, [.ref qB, .ref qKC, .ref qKS, .int u.2.2.2.2.2.2.2.2.2.2.2.1, .int u.2.2.2.2.2.2.2.2.2.2.2.2.1])), (qKC, .inl (G.2.1, 32, .inl u.2.2.2.2.2.2.2.2.2.2.2.2.2.1)), (qKS, .inl (G.2.1, 32, .inl u.2.2.2.2.2.2.2.2.2.2.2.2.2.2))]) (va_A [(qX, .inr (7, [.ref qB, .ref qH, .ref qK, .ref qV, .ref qS, .ref qW])), (qB, .inr (0, [.ref qBT, .ref qBC, .ref qBN, .ref qBW, .ref qBL, .int bn, .int bk, .int bs])), (qBT, .inl (G.2.1, 16, .inl bT)), (qBC, .inl (G.2.1, 16, .inl bC)), (qBN, .inl (G.2.1, 64, .inl bN)), (qBW, .inl (G.2.1, 64, .inl bW)), (qBL, .inl (G.2.1, 16, .inl bL)), (qH, .inr (2, [.ref qHM, .int hd, .int hk])), (qK, .inr (3, [.ref qB, .ref qKC, .ref qKS, .int kp, .int ku])), (qKC, .inl (G.2.1, 32, .inl kC)), (qKS, .inl (G.2.1, 32, .inl kS))] sz)) (xcX G r (fun u => u.1) (fun u => [(qX, .inr (7, [.ref qB, .ref qH, .ref qK, .ref qV, .ref qS, .ref qW])), (qB, .inr (0, [.ref qBT, .ref qBC, .ref qBN, .ref qBW, .ref qBL, .int u.2.1, .int u.2.2.1, .int u.2.2.2.1])), (qBT, .inl (G.2.1, 16, .inl u.2.2.2.2.1)), (qBC, .inl (G.2.1, 16, .inl u.2.2.2.2.2.1)), (qBN, .inl (G.2.1, 64, .inl u.2.2.2.2.2.2.1)), (qBW, .inl (G.2.1, 64, .inl u.2.2.2.2.2.2.2.1)), (qBL, .inl (G.2.1, 16, .inl u.2.2.2.2.2.2.2.2.1)), (qH, .inr (2, [.ref qHM, .int u.2.2.2.2.2.2.2.2.2.1, .int u.2.2.2.2.2.2.2.2.2.2.1])), (qK, .inr (3, [.ref qB, .ref qKC, .ref qKS, .int u.2.2.2.2.2.2.2.2.2.2.2.1, .int u.2.2.2.2.2.2.2.2.2.2.2.2.1])), (qKC, .inl (G.2.1, 32, .inl u.2.2.2.2.2.2.2.2.2.2.2.2.2.1)), (qKS, .inl (G.2.1, 32, .inl u.2.2.2.2.2.2.2.2.2.2.2.2.2.2))]) (va_A [(qX, .inr (7, [.ref qB, .ref qH, .ref qK, .ref qV, .ref qS, .ref qW])), (qB, .inr (0, [.ref qBT, .ref qBC, .ref qBN, .ref qBW, .ref qBL, .int bn, .int bk, .int bs])), (qBT, .inl (G.2.1, 16, .inl bT)), (qBC, .inl (G.2.1, 16, .inl bC)), (qBN, .inl (G.2.1, 64, .inl bN)), (qBW, .inl (G.2.1, 64, .inl bW)), (qBL, .inl (G.2.1, 16, .inl bL)), (qH, .inr (2, [.ref qHM, .int hd, .int hk])), (qK, .inr (3, [.ref qB, .ref qKC, .ref qKS, .int kp, .int ku])), (qKC, .inl (G.2.1, 32, .inl kC)), (qKS, .inl (G.2.1, 32, .inl kS))] sz)) 2 12 (va_A [(qX, .inr (7, [.ref qB, .ref qH, .ref qK, .ref qV, .ref qS, .ref qW])), (qB, .inr (0, [.ref qBT, .ref qBC, .ref qBN, .ref qBW, .ref qBL, .int bn, .int bk, .int bs])), (qBT, .inl (G.2.1, 16, .inl bT)), (qBC, .inl (G.2.1, 16, .inl bC)), (qBN, .inl (G.2.1, 64, .inl bN)), (qBW, .inl (G.2.1, 64, .inl bW)), (qBL, .inl (G.2.1, 16, .inl bL)), (qH, .inr (2, [.ref qHM, .int hd, .int hk])), (qK, .inr (3, [.ref qB, .ref qKC, .ref qKS, .int kp, .int ku])), (qKC, .inl (G.2.1, 32, .inl kC)), (qKS, .inl (G.2.1, 32, .inl kS))] sz) := by
  refine vx_ofW (cc := cX7_make) (maxL := 5) (ret := (some .int)) (by decide) rfl ?_
  intro p e s m args below meth c s₁ B hml hno hv
  obtain ⟨rfl, hsz, hP, hKK, hD0, hT⟩ := hv
  have hK := hKK.1
  have hx := B.exec
  have hb := B.bytes
  have hr := B.returns
  have hts := atoms_spec (ws := wsX7_make) B.pre
  have hown : s.vm.findClass RX7 = some m.cls := findClass_of_methodNamed B.named
  have hlocks := B.notSynchronized
  subst hsz
  have hD := hD0.self (sz := s.heap.size)
  generalize hAe : va_A [(qX, .inr (7, [.ref qB, .ref qH, .ref qK, .ref qV, .ref qS, .ref qW])), (qB, .inr (0, [.ref qBT, .ref qBC, .ref qBN, .ref qBW, .ref qBL, .int bn, .int bk, .int bs])), (qBT, .inl (G.2.1, 16, .inl bT)), (qBC, .inl (G.2.1, 16, .inl bC)), (qBN, .inl (G.2.1, 64, .inl bN)), (qBW, .inl (G.2.1, 64, .inl bW)), (qBL, .inl (G.2.1, 16, .inl bL)), (qH, .inr (2, [.ref qHM, .int hd, .int hk])), (qK, .inr (3, [.ref qB, .ref qKC, .ref qKS, .int kp, .int ku])), (qKC, .inl (G.2.1, 32, .inl kC)), (qKS, .inl (G.2.1, 32, .inl kS))] s.heap.size = A at hD hT ⊢
  have hA : ∀ q : Nat, s.heap.size ≤ q → A q := fun q h => by rw [← hAe]; exact Or.inr h
  have hS : va_S A s.heap s.heap [] := va_S.rf
  have hl := lv_entry ([.ref qX, .int x1, .int x2, .int x3, .int x4] : List Value) (n := 5) (Nat.le_of_ble_eq_true rfl)
  rw [lg_entry_eq]
  generalize (lg_sl ([.ref qX, .int x1, .int x2, .int x3, .int x4] : List Value) ++ List.replicate (5 - (lg_sl ([.ref qX, .int x1, .int x2, .int x3, .int x4] : List Value)).length) Slot.unset).toArray = ls at hl ⊢
  have hl : lv_has ls 5 [(0, .ref qX), (1, .int x1), (2, .int x2), (3, .int x3), (4, .int x4)] := hl
  have hi7 : ∀ w ∈ u_ws RX7 TX7 6, w ∈ wsX7_make := by decide +kernel
  have hw0 : (Cond.classLink RX7 70 "java/lang/IllegalArgumentException").before #[Value.ref qX, Value.int x1, Value.int x2, Value.int x3, Value.int x4] s = true := hts _ (by decide +kernel)
  have hw1 : (Cond.initialized "java/lang/IllegalArgumentException").before #[Value.ref qX, Value.int x1, Value.int x2, Value.int x3, Value.int x4] s = true := hts _ (by decide +kernel)
  have hw2 : (Cond.constant RX7 69 (65536)).before #[Value.ref qX, Value.int x1, Value.int x2, Value.int x3, Value.int x4] s = true := hts _ (by decide +kernel)
  have hw3 : (Cond.fieldLink RX7 28 "NetPlumber" "maker" "LNetPlumber$Maker;").before #[Value.ref qX, Value.int x1, Value.int x2, Value.int x3, Value.int x4] s = true := hts _ (by decide +kernel)
  have hw4 : (Cond.fieldLink RX7 10 "NetPlumber" "board" "LNetPlumber$Board;").before #[Value.ref qX, Value.int x1, Value.int x2, Value.int x3, Value.int x4] s = true := hts _ (by decide +kernel)
  refine wq (fun Q hQ => ?_)
  unfold kX7_make at hq
  refine lv_aload_n hx hb dX7_make_0 rfl (lv_at hl 0 rfl) ?_
  refine lv_iload_n hx hb dX7_make_1 rfl (lv_at hl 1 rfl) ?_
  refine lv_iload_n hx hb dX7_make_2 rfl (lv_at hl 2 rfl) ?_
  refine lv_iload_n hx hb dX7_make_3 rfl (lv_at hl 3 rfl) ?_
  obtain ⟨q1, eq1, hq⟩ := ob hq
  have hPc := hP.sub (ws' := [(qX, .inr (7, [.ref qB, .ref qH, .ref qK, .ref qV, .ref qS, .ref qW]))]) [0] rfl
  have hKc := hK
  have hDc := hD.sub (ws' := [(qX, .inr (7, [.ref qB, .ref qH, .ref qK, .ref qV, .ref qS, .ref qW]))]) [0] (by decide) rfl
  have hFc := va_free (wc := [(qX, .inr (7, [.ref qB, .ref qH, .ref qK, .ref qV, .ref qS, .ref qW]))]) hD hS hA [0] rfl
  refine vx_callv (vx_runV (As := [.int x1, .int x2, .int x3]) (rest := []) ⟨hx, hb, hml, hown, hts⟩ (tX7_requireBoard G l hfl eq1) (cwV 3 hts gX7_make_X7_requireBoard rfl rfl rfl (by decide +kernel) ⟨Nat.le_of_ble_eq_true rfl, Nat.le_of_ble_eq_true rfl⟩) ⟨pcX_blind, va_recv hKc hPc (ci := 7) (q0 := 0) rfl rfl, pcX_pre hPc hKK hDc hT hS hFc⟩ rfl rfl hl.1 rfl (lv_room (Nat.le_of_ble_eq_true rfl)) dX7_make_4 ⟨Nat.le_of_ble_eq_true rfl, Nat.le_of_ble_eq_true rfl⟩) hS (fun q _ h => hFc q h) hFc (fun q _ h => hFc q h) (fun E ce q9 u t H1 locs ht hvm hpx hB hz1 hk1 hS hc1 hv1 hcl1 => ?_) (fun u t H1 locs ht hvm hw hB hz1 hk1 hS => ?_)
  · obtain ⟨e3, rfl⟩ : ∃ z, z = u := ⟨_, rfl⟩
    subst hpx
    obtain rfl := onR_r hq
    obtain ⟨hE, hB⟩ := hB
    have hB := va_Pto ht hB
    obtain ⟨hP, hD⟩ := jn (ws' := [(qX, .inr (7, [.ref qB, .ref qH, .ref qK, .ref qV, .ref qS, .ref qW])), (qB, .inr (0, [.ref qBT, .ref qBC, .ref qBN, .ref qBW, .ref qBL, .int bn, .int bk, .int bs])), (qBT, .inl (G.2.1, 16, .inl bT)), (qBC, .inl (G.2.1, 16, .inl bC)), (qBN, .inl (G.2.1, 64, .inl bN)), (qBW, .inl (G.2.1, 64, .inl bW)), (qBL, .inl (G.2.1, 16, .inl bL)), (qH, .inr (2, [.ref qHM, .int hd, .int hk])), (qK, .inr (3, [.ref qB, .ref qKC, .ref qKS, .int kp, .int ku])), (qKC, .inl (G.2.1, 32, .inl kC)), (qKS, .inl (G.2.1, 32, .inl kS))]) hP hD hk1 hB [0] rfl rfl rfl rfl
    rw [hQ]
    exact vx_out (fun x h => (hno x h).elim) hlocks hc1 hv1 hcl1 (fun t ht hW => ⟨_, rfl, ⟨hE, va_Pat ht hP⟩, hS.F ht⟩) hS.2.2 (Nat.le_of_ble_eq_true rfl) (Nat.le_of_ble_eq_true rfl)
  · obtain ⟨u2, rfl⟩ : ∃ z, z = u := ⟨_, rfl⟩
    subst hw
    have hq := onR_l hq
    have hB := va_Pto ht hB
    obtain ⟨hP, hD⟩ := jn (ws' := [(qX, .inr (7, [.ref qB, .ref qH, .ref qK, .ref qV, .ref qS, .ref qW])), (qB, .inr (0, [.ref qBT, .ref qBC, .ref qBN, .ref qBW, .ref qBL, .int bn, .int bk, .int bs])), (qBT, .inl (G.2.1, 16, .inl bT)), (qBC, .inl (G.2.1, 16, .inl bC)), (qBN, .inl (G.2.1, 64, .inl bN)), (qBW, .inl (G.2.1, 64, .inl bW)), (qBL, .inl (G.2.1, 16, .inl bL)), (qH, .inr (2, [.ref qHM, .int hd, .int hk])), (qK, .inr (3, [.ref qB, .ref qKC, .ref qKS, .int kp, .int ku])), (qKC, .inl (G.2.1, 32, .inl kC)), (qKS, .inl (G.2.1, 32, .inl kS))]) hP hD hk1 hB [0] rfl rfl rfl rfl
    generalize H1 = H at hP hS ⊢
    refine lv_iload hx hb dX7_make_7 (lv_at hl 4 rfl) ?_
    refine lv_if_lt (tgt := 19) hx hb dX7_make_9 (by decide) (fun c_9 => ?_) (fun c_9 => ?_)
    · have hq := k_t c_9 hq
      obtain rfl := Option.some.inj hq
      rw [hQ]
      obtain ⟨sa, hsa⟩ := hT.2.2.1 (72, "the number is 0 to 65535") (List.mem_of_getElem? (i := 0) rfl)
      have hat : ∀ w ∈ vx_atS RX7 74 "java/lang/IllegalArgumentException" ["java/lang/RuntimeException", "java/lang/Exception"], w.before ([.ref qX, .int x1, .int x2, .int x3, .int x4] : List Value).toArray s = true := vx_hat (B := thB 0) (fun w h => hts w (by first | exact List.mem_cons_of_mem _ (List.mem_append_right _ h) | exact (show w ∈ wsX7_make from by have h2 := h; revert h2; revert w; decide +kernel))) (by decide +kernel) (hT.bad (by decide))
      exact vx_throwS hx hb hfl (own := RX7) (cls := "java/lang/IllegalArgumentException") (text := "the number is 0 to 65535") (names := ["java/lang/RuntimeException", "java/lang/Exception"]) hown (by decide +kernel) (by decide +kernel) hw0 hw1 hsa hat (by decide +kernel) hT.1 hT.2.1 hS (hl.1.trans hml.symm) dX7_make_19 dX7_make_22 dX7_make_23 dX7_make_25 dX7_make_28 (fun x h => (hno x h).elim) (Nat.le_of_ble_eq_true rfl) (Nat.le_of_ble_eq_true rfl) (Nat.le_of_ble_eq_true rfl) (Nat.le_of_ble_eq_true rfl) hlocks (fun t hW hsz hk => ⟨_, rfl, ⟨rfl, thP hP hk⟩, thF hS hsz hk⟩) hS.2.2 (Nat.le_of_ble_eq_true rfl) (Nat.le_of_ble_eq_true rfl)
    · have hq := k_f c_9 hq
      refine lv_iload hx hb dX7_make_12 (lv_at hl 4 rfl) ?_
      refine lv_ldc (v := 65536) hx hb hown hw2 dX7_make_14 ?_
      refine lv_icmp_lt (tgt := 29) hx hb dX7_make_16 (by decide) (fun c_16 => ?_) (fun c_16 => ?_)
      · have hq := k_t c_16 hq
        refine lv_aload_n hx hb dX7_make_29 rfl (lv_at hl 0 rfl) ?_
        refine lv_iload_n hx hb dX7_make_30 rfl (lv_at hl 1 rfl) ?_
        refine lv_iload_n hx hb dX7_make_31 rfl (lv_at hl 2 rfl) ?_
        refine lv_iload_n hx hb dX7_make_32 rfl (lv_at hl 3 rfl) ?_
        obtain ⟨q4, eq4, hq⟩ := ob hq
        have hPc := hP.sub (ws' := [(qX, .inr (7, [.ref qB, .ref qH, .ref qK, .ref qV, .ref qS, .ref qW])), (qB, .inr (0, [.ref qBT, .ref qBC, .ref qBN, .ref qBW, .ref qBL, .int bn, .int bk, .int bs])), (qBT, .inl (G.2.1, 16, .inl bT)), (qBC, .inl (G.2.1, 16, .inl bC)), (qBN, .inl (G.2.1, 64, .inl bN)), (qBW, .inl (G.2.1, 64, .inl bW)), (qH, .inr (2, [.ref qHM, .int hd, .int hk]))]) [0, 1, 2, 3, 4, 5, 7] rfl
        have hKc := hK
        have hDc := hD.sub (ws' := [(qX, .inr (7, [.ref qB, .ref qH, .ref qK, .ref qV, .ref qS, .ref qW])), (qB, .inr (0, [.ref qBT, .ref qBC, .ref qBN, .ref qBW, .ref qBL, .int bn, .int bk, .int bs])), (qBT, .inl (G.2.1, 16, .inl bT)), (qBC, .inl (G.2.1, 16, .inl bC)), (qBN, .inl (G.2.1, 64, .inl bN)), (qBW, .inl (G.2.1, 64, .inl bW)), (qH, .inr (2, [.ref qHM, .int hd, .int hk]))]) [0, 1, 2, 3, 4, 5, 7] (by decide) rfl
        have hFc := va_free (wc := [(qX, .inr (7, [.ref qB, .ref qH, .ref qK, .ref qV, .ref qS, .ref qW])), (qB, .inr (0, [.ref qBT, .ref qBC, .ref qBN, .ref qBW, .ref qBL, .int bn, .int bk, .int bs])), (qBT, .inl (G.2.1, 16, .inl bT)), (qBC, .inl (G.2.1, 16, .inl bC)), (qBN, .inl (G.2.1, 64, .inl bN)), (qBW, .inl (G.2.1, 64, .inl bW)), (qH, .inr (2, [.ref qHM, .int hd, .int hk]))]) hD hS hA [0, 1, 2, 3, 4, 5, 7] rfl
        refine va_callv (va_runV (As := [.int x1, .int x2, .int x3]) (rest := []) ⟨hx, hb, hml, hown, hts⟩ (tX7_startBoard G l eq4) (cwV 3 hts gX7_make_X7_startBoard rfl rfl rfl (by decide +kernel) ⟨Nat.le_of_ble_eq_true rfl, Nat.le_of_ble_eq_true rfl⟩) ⟨pcW_blind, va_recv hKc hPc (ci := 7) (q0 := 0) rfl rfl, pcW_pre hPc hKK hDc⟩ rfl rfl hl.1 rfl (lv_room (Nat.le_of_ble_eq_true rfl)) dX7_make_33 ⟨Nat.le_of_ble_eq_true rfl, Nat.le_of_ble_eq_true rfl⟩) hS (fun q _ h => hFc q h) hFc (fun u t H1 locs ht hvm hw hB hz1 hk1 hS => ?_)
        have hB := va_Pto ht hB
        obtain ⟨hP, hD⟩ := jn (ws' := [(qX, .inr (7, [.ref qB, .ref qH, .ref qK, .ref qV, .ref qS, .ref qW])), (qB, .inr (0, [.ref qBT, .ref qBC, .ref qBN, .ref qBW, .ref qBL, .int q4.1, .int q4.2.1, .int q4.2.2.1])), (qBT, .inl (G.2.1, 16, .inl q4.2.2.2.1)), (qBC, .inl (G.2.1, 16, .inl q4.2.2.2.2.1)), (qBN, .inl (G.2.1, 64, .inl q4.2.2.2.2.2.1)), (qBW, .inl (G.2.1, 64, .inl q4.2.2.2.2.2.2.1)), (qBL, .inl (G.2.1, 16, .inl bL)), (qH, .inr (2, [.ref qHM, .int q4.2.2.2.2.2.2.2.1, .int q4.2.2.2.2.2.2.2.2])), (qK, .inr (3, [.ref qB, .ref qKC, .ref qKS, .int kp, .int ku])), (qKC, .inl (G.2.1, 32, .inl kC)), (qKS, .inl (G.2.1, 32, .inl kS))]) hP hD hk1 hB [0, 1, 2, 3, 4, 5, 7] rfl rfl rfl rfl
        generalize H1 = H at hP hS ⊢
        refine lv_aload_n hx hb dX7_make_36 rfl (lv_at hl 0 rfl) ?_
        refine va_get (D := G.1) (ci := 7) (v := .ref qK) (C := RX7) (T := TX7) (N := 6) hx hb hts hi7 hown hK hP 0 rfl rfl 2 (by decide) hw3 (fun _ h9 => h9) rfl dX7_make_37 ?_
        refine lv_iload hx hb dX7_make_40 (lv_at hl 4 rfl) ?_
        obtain ⟨q5, eq5, hq⟩ := ob hq
        have hPc := hP.sub (ws' := [(qB, .inr (0, [.ref qBT, .ref qBC, .ref qBN, .ref qBW, .ref qBL, .int q4.1, .int q4.2.1, .int q4.2.2.1])), (qBT, .inl (G.2.1, 16, .inl q4.2.2.2.1)), (qBN, .inl (G.2.1, 64, .inl q4.2.2.2.2.2.1)), (qBW, .inl (G.2.1, 64, .inl q4.2.2.2.2.2.2.1)), (qBL, .inl (G.2.1, 16, .inl bL)), (qK, .inr (3, [.ref qB, .ref qKC, .ref qKS, .int kp, .int ku])), (qKC, .inl (G.2.1, 32, .inl kC)), (qKS, .inl (G.2.1, 32, .inl kS))]) [1, 2, 4, 5, 6, 8, 9, 10] rfl
        have hKc := hK
        have hDc := hD.sub (ws' := [(qB, .inr (0, [.ref qBT, .ref qBC, .ref qBN, .ref qBW, .ref qBL, .int q4.1, .int q4.2.1, .int q4.2.2.1])), (qBT, .inl (G.2.1, 16, .inl q4.2.2.2.1)), (qBN, .inl (G.2.1, 64, .inl q4.2.2.2.2.2.1)), (qBW, .inl (G.2.1, 64, .inl q4.2.2.2.2.2.2.1)), (qBL, .inl (G.2.1, 16, .inl bL)), (qK, .inr (3, [.ref qB, .ref qKC, .ref qKS, .int kp, .int ku])), (qKC, .inl (G.2.1, 32, .inl kC)), (qKS, .inl (G.2.1, 32, .inl kS))]) [1, 2, 4, 5, 6, 8, 9, 10] (by decide) rfl
        have hFc := va_free (wc := [(qB, .inr (0, [.ref qBT, .ref qBC, .ref qBN, .ref qBW, .ref qBL, .int q4.1, .int q4.2.1, .int q4.2.2.1])), (qBT, .inl (G.2.1, 16, .inl q4.2.2.2.1)), (qBN, .inl (G.2.1, 64, .inl q4.2.2.2.2.2.1)), (qBW, .inl (G.2.1, 64, .inl q4.2.2.2.2.2.2.1)), (qBL, .inl (G.2.1, 16, .inl bL)), (qK, .inr (3, [.ref qB, .ref qKC, .ref qKS, .int kp, .int ku])), (qKC, .inl (G.2.1, 32, .inl kC)), (qKS, .inl (G.2.1, 32, .inl kS))]) hD hS hA [1, 2, 4, 5, 6, 8, 9, 10] rfl
        refine va_callv (va_runV (As := [.int x4]) (rest := []) ⟨hx, hb, hml, hown, hts⟩ (tX3_fillBoard G l eq5) (cwV 1 hts gX7_make_X3_fillBoard rfl rfl rfl (by decide +kernel) ⟨Nat.le_of_ble_eq_true rfl, Nat.le_of_ble_eq_true rfl⟩) ⟨pcW_blind, va_recv hKc hPc (ci := 3) (q0 := 5) rfl rfl, pcW_pre hPc hKK hDc⟩ rfl rfl hl.1 rfl (lv_room (Nat.le_of_ble_eq_true rfl)) dX7_make_42 ⟨Nat.le_of_ble_eq_true rfl, Nat.le_of_ble_eq_true rfl⟩) hS (fun q _ h => hFc q h) hFc (fun u t H1 locs ht hvm hw hB hz1 hk1 hS => ?_)
        have hB := va_Pto ht hB
        obtain ⟨hP, hD⟩ := jn (ws' := [(qX, .inr (7, [.ref qB, .ref qH, .ref qK, .ref qV, .ref qS, .ref qW])), (qB, .inr (0, [.ref qBT, .ref qBC, .ref qBN, .ref qBW, .ref qBL, .int q4.1, .int q4.2.1, .int q4.2.2.1])), (qBT, .inl (G.2.1, 16, .inl q5.1)), (qBC, .inl (G.2.1, 16, .inl q4.2.2.2.2.1)), (qBN, .inl (G.2.1, 64, .inl q4.2.2.2.2.2.1)), (qBW, .inl (G.2.1, 64, .inl q4.2.2.2.2.2.2.1)), (qBL, .inl (G.2.1, 16, .inl q5.2.1)), (qH, .inr (2, [.ref qHM, .int q4.2.2.2.2.2.2.2.1, .int q4.2.2.2.2.2.2.2.2])), (qK, .inr (3, [.ref qB, .ref qKC, .ref qKS, .int q5.2.2.1, .int q5.2.2.2.1])), (qKC, .inl (G.2.1, 32, .inl q5.2.2.2.2.1)), (qKS, .inl (G.2.1, 32, .inl q5.2.2.2.2.2))]) hP hD hk1 hB [1, 2, 4, 5, 6, 8, 9, 10] rfl rfl rfl rfl
        generalize H1 = H at hP hS ⊢
        refine lv_aload_n hx hb dX7_make_45 rfl (lv_at hl 0 rfl) ?_
        refine va_get (D := G.1) (ci := 7) (v := .ref qB) (C := RX7) (T := TX7) (N := 6) hx hb hts hi7 hown hK hP 0 rfl rfl 0 (by decide) hw4 (fun _ h9 => h9) rfl dX7_make_46 ?_
        obtain ⟨q6, eq6, hq⟩ := ob hq
        have hPc := hP.sub (ws' := [(qB, .inr (0, [.ref qBT, .ref qBC, .ref qBN, .ref qBW, .ref qBL, .int q4.1, .int q4.2.1, .int q4.2.2.1])), (qBT, .inl (G.2.1, 16, .inl q5.1))]) [1, 2] rfl
        have hKc := hK
        refine vp_callSi (va_Run.run (va_runV (As := []) (rest := []) ⟨hx, hb, hml, hown, hts⟩ (tX0_countEnds G l eq6) (cwV 0 hts gX7_make_X0_countEnds rfl rfl rfl (by decide +kernel) ⟨Nat.le_of_ble_eq_true rfl, Nat.le_of_ble_eq_true rfl⟩) ⟨pcP_blind, va_recv hKc hPc (ci := 0) (q0 := 0) rfl rfl, pcP_pre hPc hKK⟩ rfl rfl hl.1 rfl (lv_room (Nat.le_of_ble_eq_true rfl)) dX7_make_49 ⟨Nat.le_of_ble_eq_true rfl, Nat.le_of_ble_eq_true rfl⟩)) (fun r0 hr0 => ?_)
        obtain rfl := hr0
        obtain rfl := Option.some.inj hq
        rw [hQ]
        refine vx_ret ?_
        refine W.widen (k := 2) (n := 12) (Nat.le_of_ble_eq_true rfl) (Nat.le_of_ble_eq_true rfl) ?_
        exact W.iret hx hb hr (fun t ht hW => ⟨⟨_, _, rfl, ⟨rfl, rfl⟩, va_Pat ht hP⟩, hS.F ht⟩) hS.2.2 dX7_make_52
      · have hq := k_f c_16 hq
        obtain rfl := Option.some.inj hq
        rw [hQ]
        obtain ⟨sa, hsa⟩ := hT.2.2.1 (72, "the number is 0 to 65535") (List.mem_of_getElem? (i := 0) rfl)
        have hat : ∀ w ∈ vx_atS RX7 74 "java/lang/IllegalArgumentException" ["java/lang/RuntimeException", "java/lang/Exception"], w.before ([.ref qX, .int x1, .int x2, .int x3, .int x4] : List Value).toArray s = true := vx_hat (B := thB 0) (fun w h => hts w (by first | exact List.mem_cons_of_mem _ (List.mem_append_right _ h) | exact (show w ∈ wsX7_make from by have h2 := h; revert h2; revert w; decide +kernel))) (by decide +kernel) (hT.bad (by decide))
        exact vx_throwS hx hb hfl (own := RX7) (cls := "java/lang/IllegalArgumentException") (text := "the number is 0 to 65535") (names := ["java/lang/RuntimeException", "java/lang/Exception"]) hown (by decide +kernel) (by decide +kernel) hw0 hw1 hsa hat (by decide +kernel) hT.1 hT.2.1 hS (hl.1.trans hml.symm) dX7_make_19 dX7_make_22 dX7_make_23 dX7_make_25 dX7_make_28 (fun x h => (hno x h).elim) (Nat.le_of_ble_eq_true rfl) (Nat.le_of_ble_eq_true rfl) (Nat.le_of_ble_eq_true rfl) (Nat.le_of_ble_eq_true rfl) hlocks (fun t hW hsz hk => ⟨_, rfl, ⟨rfl, thP hP hk⟩, thF hS hsz hk⟩) hS.2.2 (Nat.le_of_ble_eq_true rfl) (Nat.le_of_ble_eq_true rfl)

def kX7_lays (F : Nat) (bn : Int32) (bk : Int32) (bT : Nat → Int32) (bW : Nat → Int32) (vL : Nat → Int32) (vS : Nat → Int32) (vA : Nat → Int32) (vT : Nat → Int32) (x1 : Int32) : Option ((Int32 × (Nat → Int32) × (Nat → Int32) × (Nat → Int32) × (Nat → Int32)) ⊕ (Nat × (Nat → Int32) × (Nat → Int32) × (Nat → Int32) × (Nat → Int32))) :=
  ((kX7_requireCell F bn x1).bind fun q1 => onR q1 (fun u2 => ((kX5_sift F bn bk bT bW vL vS vA vT).bind fun q4 => ((kX5_leftAt F q4.1 x1).bind fun q5 => some (.inl (q5, q4.1, q4.2.1, q4.2.2.1, q4.2.2.2))))) (fun e3 => (e3, vL, vS, vA, vT)))
abbrev rmX7_lays : Room := { frames := 9, cells := 1, slots := 6, locals := 145 }
set_option maxHeartbeats 40000000 in
set_option maxRecDepth 100000 in
theorem tX7_lays (G : GG) (l : Launch) (hfl : l.stackTraces = false) {qX qB qH qK qV qS qW qBT qBC qBN qBW qBL qVL qVS qVA qVT : Nat} {bn : Int32} {bk : Int32} {bs : Int32} {bT : Nat → Int32} {bW : Nat → Int32} {vL : Nat → Int32} {vS : Nat → Int32} {vA : Nat → Int32} {vT : Nat → Int32} {x1 : Int32} {sz : Nat} {F : Nat} {r : (Int32 × (Nat → Int32) × (Nat → Int32) × (Nat → Int32) × (Nat → Int32)) ⊕ (Nat × (Nat → Int32) × (Nat → Int32) × (Nat → Int32) × (Nat → Int32))} (hq : kX7_lays F bn bk bT bW vL vS vA vT x1 = some r) : vx_Met l yX7_lays wsX7_lays rmX7_lays (pcX G [(qX, .inr (7, [.ref qB, .ref qH, .ref qK, .ref qV, .ref qS, .ref qW])), (qB, .inr (0, [.ref qBT, .ref qBC, .ref qBN, .ref qBW, .ref qBL, .int bn, .int bk, .int bs])), (qBT, .inl (G.2.1, 16, .inl bT)), (qBW, .inl (G.2.1, 64, .inl bW)), (qV, .inr (5, [.ref qB, .ref qVL, .ref qVS, .ref qVA, .ref qVT])), (qVL, .inl (G.2.1, 16, .inl vL)), (qVS, .inl (G.2.1, 16, .inl vS)), (qVA, .inl (G.2.1, 16, .inl vA)), (qVT, .inl (G.2.1, 16, .inl vT))] sz [.ref qX, .int x1]) (qxI G r (fun u => u.1) (fun u => [(qX, .inr (7, [.ref qB, .ref qH, .ref qK, .ref qV, .ref qS, .ref qW])), (qB, .inr (0, [.ref qBT, .ref qBC, .ref qBN, .ref qBW, .ref qBL, .int bn, .int bk, .int bs])), (qBT, .inl (G.2.1, 16, .inl bT)), (qBW, .inl (G.2.1, 64, .inl bW)), (qV, .inr (5, [.ref qB, .ref qVL, .ref qVS, .ref qVA, .ref qVT])), (qVL, .inl (G.2.1, 16, .inl u.2.1)), (qVS, .inl (G.2.1, 16, .inl u.2.2.1)), (qVA, .inl (G.2.1, 16, .inl u.2.2.2.1)), (qVT, .inl (G.2.1, 16, .inl u.2.2.2.2))]) (va_A [(qX, .inr (7, [.ref qB, .ref qH, .ref qK, .ref qV, .ref qS, .ref qW])), (qB, .inr (0, [.ref qBT, .ref qBC, .ref qBN, .ref qBW, .ref qBL, .int bn, .int bk, .int bs])), (qBT, .inl (G.2.1, 16, .inl bT)), (qBW, .inl (G.2.1, 64, .inl bW)), (qV, .inr (5, [.ref qB, .ref qVL, .ref qVS, .ref qVA, .ref qVT])), (qVL, .inl (G.2.1, 16, .inl vL)), (qVS, .inl (G.2.1, 16, .inl vS)), (qVA, .inl (G.2.1, 16, .inl vA)), (qVT, .inl (G.2.1, 16, .inl vT))] sz)) (xcX G r (fun u => u.1) (fun u => [(qX, .inr (7, [.ref qB, .ref qH, .ref qK, .ref qV, .ref qS, .ref qW])), (qB, .inr (0, [.ref qBT, .ref qBC, .ref qBN, .ref qBW, .ref qBL, .int bn, .int bk, .int bs])), (qBT, .inl (G.2.1, 16, .inl bT)), (qBW, .inl (G.2.1, 64, .inl bW)), (qV, .inr (5, [.ref qB, .ref qVL, .ref qVS, .ref qVA, .ref qVT])), (qVL, .inl (G.2.1, 16, .inl u.2.1)), (qVS, .inl (G.2.1, 16, .inl u.2.2.1)), (qVA, .inl (G.2.1, 16, .inl u.2.2.2.1)), (qVT, .inl (G.2.1, 16, .inl u.2.2.2.2))]) (va_A [(qX, .inr (7, [.ref qB, .ref qH, .ref qK, .ref qV, .ref qS, .ref qW])), (qB, .inr (0, [.ref qBT, .ref qBC, .ref qBN, .ref qBW, .ref qBL, .int bn, .int bk, .int bs])), (qBT, .inl (G.2.1, 16, .inl bT)), (qBW, .inl (G.2.1, 64, .inl bW)), (qV, .inr (5, [.ref qB, .ref qVL, .ref qVS, .ref qVA, .ref qVT])), (qVL, .inl (G.2.1, 16, .inl vL)), (qVS, .inl (G.2.1, 16, .inl vS)), (qVA, .inl (G.2.1, 16, .inl vA)), (qVT, .inl (G.2.1, 16, .inl vT))] sz)) 1 6 (va_A [(qX, .inr (7, [.ref qB, .ref qH, .ref qK, .ref qV, .ref qS, .ref qW])), (qB, .inr (0, [.ref qBT, .ref qBC, .ref qBN, .ref qBW, .ref qBL, .int bn, .int bk, .int bs])), (qBT, .inl (G.2.1, 16, .inl bT)), (qBW, .inl (G.2.1, 64, .inl bW)), (qV, .inr (5, [.ref qB, .ref qVL, .ref qVS, .ref qVA, .ref qVT])), (qVL, .inl (G.2.1, 16, .inl vL)), (qVS, .inl (G.2.1, 16, .inl vS)), (qVA, .inl (G.2.1, 16, .inl vA)), (qVT, .inl (G.2.1, 16, .inl vT))] sz) := by
  refine vx_ofW (cc := cX7_lays) (maxL := 2) (ret := (some .int)) (by decide) rfl ?_
  intro p e s m args below meth c s₁ B hml hno hv
  obtain ⟨rfl, hsz, hP, hKK, hD0, hT⟩ := hv
  have hK := hKK.1
  have hx := B.exec
  have hb := B.bytes
  have hr := B.returns
  have hts := atoms_spec (ws := wsX7_lays) B.pre
  have hown : s.vm.findClass RX7 = some m.cls := findClass_of_methodNamed B.named
  have hlocks := B.notSynchronized
  subst hsz
  have hD := hD0.self (sz := s.heap.size)
  generalize hAe : va_A [(qX, .inr (7, [.ref qB, .ref qH, .ref qK, .ref qV, .ref qS, .ref qW])), (qB, .inr (0, [.ref qBT, .ref qBC, .ref qBN, .ref qBW, .ref qBL, .int bn, .int bk, .int bs])), (qBT, .inl (G.2.1, 16, .inl bT)), (qBW, .inl (G.2.1, 64, .inl bW)), (qV, .inr (5, [.ref qB, .ref qVL, .ref qVS, .ref qVA, .ref qVT])), (qVL, .inl (G.2.1, 16, .inl vL)), (qVS, .inl (G.2.1, 16, .inl vS)), (qVA, .inl (G.2.1, 16, .inl vA)), (qVT, .inl (G.2.1, 16, .inl vT))] s.heap.size = A at hD hT ⊢
  have hA : ∀ q : Nat, s.heap.size ≤ q → A q := fun q h => by rw [← hAe]; exact Or.inr h
  have hS : va_S A s.heap s.heap [] := va_S.rf
  have hl := lv_entry ([.ref qX, .int x1] : List Value) (n := 2) (Nat.le_of_ble_eq_true rfl)
  rw [lg_entry_eq]
  generalize (lg_sl ([.ref qX, .int x1] : List Value) ++ List.replicate (2 - (lg_sl ([.ref qX, .int x1] : List Value)).length) Slot.unset).toArray = ls at hl ⊢
  have hl : lv_has ls 2 [(0, .ref qX), (1, .int x1)] := hl
  have hi7 : ∀ w ∈ u_ws RX7 TX7 6, w ∈ wsX7_lays := by decide +kernel
  have hw0 : (Cond.fieldLink RX7 35 "NetPlumber" "sieve" "LNetPlumber$Sieve;").before #[Value.ref qX, Value.int x1] s = true := hts _ (by decide +kernel)
  refine wq (fun Q hQ => ?_)
  unfold kX7_lays at hq
  refine lv_aload_n hx hb dX7_lays_0 rfl (lv_at hl 0 rfl) ?_
  refine lv_iload_n hx hb dX7_lays_1 rfl (lv_at hl 1 rfl) ?_
  obtain ⟨q1, eq1, hq⟩ := ob hq
  have hPc := hP.sub (ws' := [(qX, .inr (7, [.ref qB, .ref qH, .ref qK, .ref qV, .ref qS, .ref qW])), (qB, .inr (0, [.ref qBT, .ref qBC, .ref qBN, .ref qBW, .ref qBL, .int bn, .int bk, .int bs]))]) [0, 1] rfl
  have hKc := hK
  have hDc := hD.sub (ws' := [(qX, .inr (7, [.ref qB, .ref qH, .ref qK, .ref qV, .ref qS, .ref qW])), (qB, .inr (0, [.ref qBT, .ref qBC, .ref qBN, .ref qBW, .ref qBL, .int bn, .int bk, .int bs]))]) [0, 1] (by decide) rfl
  have hFc := va_free (wc := [(qX, .inr (7, [.ref qB, .ref qH, .ref qK, .ref qV, .ref qS, .ref qW])), (qB, .inr (0, [.ref qBT, .ref qBC, .ref qBN, .ref qBW, .ref qBL, .int bn, .int bk, .int bs]))]) hD hS hA [0, 1] rfl
  refine vx_callv (vx_runV (As := [.int x1]) (rest := []) ⟨hx, hb, hml, hown, hts⟩ (tX7_requireCell G l hfl eq1) (cwV 1 hts gX7_lays_X7_requireCell rfl rfl rfl (by decide +kernel) ⟨Nat.le_of_ble_eq_true rfl, Nat.le_of_ble_eq_true rfl⟩) ⟨pcX_blind, va_recv hKc hPc (ci := 7) (q0 := 0) rfl rfl, pcX_pre hPc hKK hDc hT hS hFc⟩ rfl rfl hl.1 rfl (lv_room (Nat.le_of_ble_eq_true rfl)) dX7_lays_2 ⟨Nat.le_of_ble_eq_true rfl, Nat.le_of_ble_eq_true rfl⟩) hS (fun q _ h => hFc q h) hFc (fun q _ h => hFc q h) (fun E ce q9 u t H1 locs ht hvm hpx hB hz1 hk1 hS hc1 hv1 hcl1 => ?_) (fun u t H1 locs ht hvm hw hB hz1 hk1 hS => ?_)
  · obtain ⟨e3, rfl⟩ : ∃ z, z = u := ⟨_, rfl⟩
    subst hpx
    obtain rfl := onR_r hq
    obtain ⟨hE, hB⟩ := hB
    have hB := va_Pto ht hB
    obtain ⟨hP, hD⟩ := jn (ws' := [(qX, .inr (7, [.ref qB, .ref qH, .ref qK, .ref qV, .ref qS, .ref qW])), (qB, .inr (0, [.ref qBT, .ref qBC, .ref qBN, .ref qBW, .ref qBL, .int bn, .int bk, .int bs])), (qBT, .inl (G.2.1, 16, .inl bT)), (qBW, .inl (G.2.1, 64, .inl bW)), (qV, .inr (5, [.ref qB, .ref qVL, .ref qVS, .ref qVA, .ref qVT])), (qVL, .inl (G.2.1, 16, .inl vL)), (qVS, .inl (G.2.1, 16, .inl vS)), (qVA, .inl (G.2.1, 16, .inl vA)), (qVT, .inl (G.2.1, 16, .inl vT))]) hP hD hk1 hB [0, 1] rfl rfl rfl rfl
    rw [hQ]
    exact vx_out (fun x h => (hno x h).elim) hlocks hc1 hv1 hcl1 (fun t ht hW => ⟨_, rfl, ⟨hE, va_Pat ht hP⟩, hS.F ht⟩) hS.2.2 (Nat.le_of_ble_eq_true rfl) (Nat.le_of_ble_eq_true rfl)
  · obtain ⟨u2, rfl⟩ : ∃ z, z = u := ⟨_, rfl⟩
    subst hw
    have hq := onR_l hq
    have hB := va_Pto ht hB
    obtain ⟨hP, hD⟩ := jn (ws' := [(qX, .inr (7, [.ref qB, .ref qH, .ref qK, .ref qV, .ref qS, .ref qW])), (qB, .inr (0, [.ref qBT, .ref qBC, .ref qBN, .ref qBW, .ref qBL, .int bn, .int bk, .int bs])), (qBT, .inl (G.2.1, 16, .inl bT)), (qBW, .inl (G.2.1, 64, .inl bW)), (qV, .inr (5, [.ref qB, .ref qVL, .ref qVS, .ref qVA, .ref qVT])), (qVL, .inl (G.2.1, 16, .inl vL)), (qVS, .inl (G.2.1, 16, .inl vS)), (qVA, .inl (G.2.1, 16, .inl vA)), (qVT, .inl (G.2.1, 16, .inl vT))]) hP hD hk1 hB [0, 1] rfl rfl rfl rfl
    generalize H1 = H at hP hS ⊢
    refine lv_aload_n hx hb dX7_lays_5 rfl (lv_at hl 0 rfl) ?_
    refine va_get (D := G.1) (ci := 7) (v := .ref qV) (C := RX7) (T := TX7) (N := 6) hx hb hts hi7 hown hK hP 0 rfl rfl 3 (by decide) hw0 (fun _ h9 => h9) rfl dX7_lays_6 ?_
    obtain ⟨q4, eq4, hq⟩ := ob hq
    have hPc := hP.sub (ws' := [(qB, .inr (0, [.ref qBT, .ref qBC, .ref qBN, .ref qBW, .ref qBL, .int bn, .int bk, .int bs])), (qBT, .inl (G.2.1, 16, .inl bT)), (qBW, .inl (G.2.1, 64, .inl bW)), (qV, .inr (5, [.ref qB, .ref qVL, .ref qVS, .ref qVA, .ref qVT])), (qVL, .inl (G.2.1, 16, .inl vL)), (qVS, .inl (G.2.1, 16, .inl vS)), (qVA, .inl (G.2.1, 16, .inl vA)), (qVT, .inl (G.2.1, 16, .inl vT))]) [1, 2, 3, 4, 5, 6, 7, 8] rfl
    have hKc := hK
    have hDc := hD.sub (ws' := [(qB, .inr (0, [.ref qBT, .ref qBC, .ref qBN, .ref qBW, .ref qBL, .int bn, .int bk, .int bs])), (qBT, .inl (G.2.1, 16, .inl bT)), (qBW, .inl (G.2.1, 64, .inl bW)), (qV, .inr (5, [.ref qB, .ref qVL, .ref qVS, .ref qVA, .ref qVT])), (qVL, .inl (G.2.1, 16, .inl vL)), (qVS, .inl (G.2.1, 16, .inl vS)), (qVA, .inl (G.2.1, 16, .inl vA)), (qVT, .inl (G.2.1, 16, .inl vT))]) [1, 2, 3, 4, 5, 6, 7, 8] (by decide) rfl
    have hFc := va_free (wc := [(qB, .inr (0, [.ref qBT, .ref qBC, .ref qBN, .ref qBW, .ref qBL, .int bn, .int bk, .int bs])), (qBT, .inl (G.2.1, 16, .inl bT)), (qBW, .inl (G.2.1, 64, .inl bW)), (qV, .inr (5, [.ref qB, .ref qVL, .ref qVS, .ref qVA, .ref qVT])), (qVL, .inl (G.2.1, 16, .inl vL)), (qVS, .inl (G.2.1, 16, .inl vS)), (qVA, .inl (G.2.1, 16, .inl vA)), (qVT, .inl (G.2.1, 16, .inl vT))]) hD hS hA [1, 2, 3, 4, 5, 6, 7, 8] rfl
    refine va_callv (va_runV (As := []) (rest := []) ⟨hx, hb, hml, hown, hts⟩ (tX5_sift G l eq4) (cwV 0 hts gX7_lays_X5_sift rfl rfl rfl (by decide +kernel) ⟨Nat.le_of_ble_eq_true rfl, Nat.le_of_ble_eq_true rfl⟩) ⟨pcW_blind, va_recv hKc hPc (ci := 5) (q0 := 3) rfl rfl, pcW_pre hPc hKK hDc⟩ rfl rfl hl.1 rfl (lv_room (Nat.le_of_ble_eq_true rfl)) dX7_lays_9 ⟨Nat.le_of_ble_eq_true rfl, Nat.le_of_ble_eq_true rfl⟩) hS (fun q _ h => hFc q h) hFc (fun u t H1 locs ht hvm hw hB hz1 hk1 hS => ?_)
    have hB := va_Pto ht hB
    obtain ⟨hP, hD⟩ := jn (ws' := [(qX, .inr (7, [.ref qB, .ref qH, .ref qK, .ref qV, .ref qS, .ref qW])), (qB, .inr (0, [.ref qBT, .ref qBC, .ref qBN, .ref qBW, .ref qBL, .int bn, .int bk, .int bs])), (qBT, .inl (G.2.1, 16, .inl bT)), (qBW, .inl (G.2.1, 64, .inl bW)), (qV, .inr (5, [.ref qB, .ref qVL, .ref qVS, .ref qVA, .ref qVT])), (qVL, .inl (G.2.1, 16, .inl q4.1)), (qVS, .inl (G.2.1, 16, .inl q4.2.1)), (qVA, .inl (G.2.1, 16, .inl q4.2.2.1)), (qVT, .inl (G.2.1, 16, .inl q4.2.2.2))]) hP hD hk1 hB [1, 2, 3, 4, 5, 6, 7, 8] rfl rfl rfl rfl
    generalize H1 = H at hP hS ⊢
    refine lv_aload_n hx hb dX7_lays_12 rfl (lv_at hl 0 rfl) ?_
    refine va_get (D := G.1) (ci := 7) (v := .ref qV) (C := RX7) (T := TX7) (N := 6) hx hb hts hi7 hown hK hP 0 rfl rfl 3 (by decide) hw0 (fun _ h9 => h9) rfl dX7_lays_13 ?_
    refine lv_iload_n hx hb dX7_lays_16 rfl (lv_at hl 1 rfl) ?_
    obtain ⟨q5, eq5, hq⟩ := ob hq
    have hPc := hP.sub (ws' := [(qV, .inr (5, [.ref qB, .ref qVL, .ref qVS, .ref qVA, .ref qVT])), (qVL, .inl (G.2.1, 16, .inl q4.1))]) [4, 5] rfl
    have hKc := hK
    refine vp_callSi (va_Run.run (va_runV (As := [.int x1]) (rest := []) ⟨hx, hb, hml, hown, hts⟩ (tX5_leftAt G l eq5) (cwV 1 hts gX7_lays_X5_leftAt rfl rfl rfl (by decide +kernel) ⟨Nat.le_of_ble_eq_true rfl, Nat.le_of_ble_eq_true rfl⟩) ⟨pcP_blind, va_recv hKc hPc (ci := 5) (q0 := 0) rfl rfl, pcP_pre hPc hKK⟩ rfl rfl hl.1 rfl (lv_room (Nat.le_of_ble_eq_true rfl)) dX7_lays_17 ⟨Nat.le_of_ble_eq_true rfl, Nat.le_of_ble_eq_true rfl⟩)) (fun r0 hr0 => ?_)
    obtain rfl := hr0
    obtain rfl := Option.some.inj hq
    rw [hQ]
    refine vx_ret ?_
    refine W.widen (k := 1) (n := 6) (Nat.le_of_ble_eq_true rfl) (Nat.le_of_ble_eq_true rfl) ?_
    exact W.iret hx hb hr (fun t ht hW => ⟨⟨_, _, rfl, ⟨rfl, rfl⟩, va_Pat ht hP⟩, hS.F ht⟩) hS.2.2 dX7_lays_20

def kX7_first (F : Nat) (bn : Int32) (bk : Int32) (bT : Nat → Int32) (bW : Nat → Int32) (vL : Nat → Int32) (vS : Nat → Int32) (vA : Nat → Int32) (vT : Nat → Int32) (so : Int32) (sw : Int32) (sR : Nat → Int32) (sI : Nat → Int32) (sP : Nat → Nat → Int32) (sF : Nat → Int32) (x1 : Int32) : Option ((Int32 × (Nat → Int32) × (Nat → Int32) × (Nat → Int32) × (Nat → Int32) × Int32 × Int32 × (Nat → Int32) × (Nat → Int32) × (Nat → Nat → Int32) × (Nat → Int32)) ⊕ (Nat × (Nat → Int32) × (Nat → Int32) × (Nat → Int32) × (Nat → Int32) × Int32 × Int32 × (Nat → Int32) × (Nat → Int32) × (Nat → Nat → Int32) × (Nat → Int32))) :=
  ((kX7_requireCell F bn x1).bind fun q1 => onR q1 (fun u2 => ((kX5_sift F bn bk bT bW vL vS vA vT).bind fun q4 => ((kX4_countAll F bn bT bW q4.1 so sw sR sI sP sF).bind fun q5 => (if q5.1 = 0 then some (.inr (2, q4.1, q4.2.1, q4.2.2.1, q4.2.2.2, q5.2.1, q5.2.2.1, q5.2.2.2.1, q5.2.2.2.2.1, q5.2.2.2.2.2.1, q5.2.2.2.2.2.2)) else ((kX4_firstAt F q5.2.2.2.2.2.2 x1).bind fun q6 => some (.inl (q6, q4.1, q4.2.1, q4.2.2.1, q4.2.2.2, q5.2.1, q5.2.2.1, q5.2.2.2.1, q5.2.2.2.2.1, q5.2.2.2.2.2.1, q5.2.2.2.2.2.2))))))) (fun e3 => (e3, vL, vS, vA, vT, so, sw, sR, sI, sP, sF)))
abbrev rmX7_first : Room := { frames := 45, cells := 2, slots := 12, locals := 1067 }
set_option maxHeartbeats 40000000 in
set_option maxRecDepth 100000 in
theorem tX7_first (G : GG) (l : Launch) (hfl : l.stackTraces = false) {qX qB qH qK qV qS qW qBT qBC qBN qBW qBL qVL qVS qVA qVT qSR qSI qSP qSF : Nat} {qR : Nat → Nat} {bn : Int32} {bk : Int32} {bs : Int32} {bT : Nat → Int32} {bW : Nat → Int32} {vL : Nat → Int32} {vS : Nat → Int32} {vA : Nat → Int32} {vT : Nat → Int32} {so : Int32} {sw : Int32} {sR : Nat → Int32} {sI : Nat → Int32} {sP : Nat → Nat → Int32} {sF : Nat → Int32} {x1 : Int32} {sz : Nat} {F : Nat} {r : (Int32 × (Nat → Int32) × (Nat → Int32) × (Nat → Int32) × (Nat → Int32) × Int32 × Int32 × (Nat → Int32) × (Nat → Int32) × (Nat → Nat → Int32) × (Nat → Int32)) ⊕ (Nat × (Nat → Int32) × (Nat → Int32) × (Nat → Int32) × (Nat → Int32) × Int32 × Int32 × (Nat → Int32) × (Nat → Int32) × (Nat → Nat → Int32) × (Nat → Int32))} (hq : kX7_first F bn bk bT bW vL vS vA vT so sw sR sI sP sF x1 = some r) : vx_Met l yX7_first wsX7_first rmX7_first (pcX G ([(qX, .inr (7, [.ref qB, .ref qH, .ref qK, .ref qV, .ref qS, .ref qW])), (qB, .inr (0, [.ref qBT, .ref qBC, .ref qBN, .ref qBW, .ref qBL, .int bn, .int bk, .int bs])), (qBT, .inl (G.2.1, 16, .inl bT)), (qBW, .inl (G.2.1, 64, .inl bW)), (qV, .inr (5, [.ref qB, .ref qVL, .ref qVS, .ref qVA, .ref qVT])), (qVL, .inl (G.2.1, 16, .inl vL)), (qVS, .inl (G.2.1, 16, .inl vS)), (qVA, .inl (G.2.1, 16, .inl vA)), (qVT, .inl (G.2.1, 16, .inl vT)), (qS, .inr (4, [.ref qB, .ref qV, .ref qSR, .ref qSI, .ref qSP, .ref qSF, .int so, .int sw])), (qSR, .inl (G.2.1, 16, .inl sR)), (qSI, .inl (G.2.1, 16, .inl sI)), (qSP, .inl (G.2.2.2.2, 17, .inr (.inr (.inr (.inr (outR qR)))))), (qSF, .inl (G.2.1, 16, .inl sF))] ++ rws G qR sP) sz [.ref qX, .int x1]) (qxI G r (fun u => u.1) (fun u => ([(qX, .inr (7, [.ref qB, .ref qH, .ref qK, .ref qV, .ref qS, .ref qW])), (qB, .inr (0, [.ref qBT, .ref qBC, .ref qBN, .ref qBW, .ref qBL, .int bn, .int bk, .int bs])), (qBT, .inl (G.2.1, 16, .inl bT)), (qBW, .inl (G.2.1, 64, .inl bW)), (qV, .inr (5, [.ref qB, .ref qVL, .ref qVS, .ref qVA, .ref qVT])), (qVL, .inl (G.2.1, 16, .inl u.2.1)), (qVS, .inl (G.2.1, 16, .inl u.2.2.1)), (qVA, .inl (G.2.1, 16, .inl u.2.2.2.1)), (qVT, .inl (G.2.1, 16, .inl u.2.2.2.2.1)), (qS, .inr (4, [.ref qB, .ref qV, .ref qSR, .ref qSI, .ref qSP, .ref qSF, .int u.2.2.2.2.2.1, .int u.2.2.2.2.2.2.1])), (qSR, .inl (G.2.1, 16, .inl u.2.2.2.2.2.2.2.1)), (qSI, .inl (G.2.1, 16, .inl u.2.2.2.2.2.2.2.2.1)), (qSP, .inl (G.2.2.2.2, 17, .inr (.inr (.inr (.inr (outR qR)))))), (qSF, .inl (G.2.1, 16, .inl u.2.2.2.2.2.2.2.2.2.2))] ++ rws G qR u.2.2.2.2.2.2.2.2.2.1)) (va_A ([(qX, .inr (7, [.ref qB, .ref qH, .ref qK, .ref qV, .ref qS, .ref qW])), (qB, .inr (0, [.ref qBT, .ref qBC, .ref qBN, .ref qBW, .ref qBL, .int bn, .int bk, .int bs])), (qBT, .inl (G.2.1, 16, .inl bT)), (qBW, .inl (G.2.1, 64, .inl bW)), (qV, .inr (5, [.ref qB, .ref qVL, .ref qVS, .ref qVA, .ref qVT])), (qVL, .inl (G.2.1, 16, .inl vL)), (qVS, .inl (G.2.1, 16, .inl vS)), (qVA, .inl (G.2.1, 16, .inl vA)), (qVT, .inl (G.2.1, 16, .inl vT)), (qS, .inr (4, [.ref qB, .ref qV, .ref qSR, .ref qSI, .ref qSP, .ref qSF, .int so, .int sw])), (qSR, .inl (G.2.1, 16, .inl sR)), (qSI, .inl (G.2.1, 16, .inl sI)), (qSP, .inl (G.2.2.2.2, 17, .inr (.inr (.inr (.inr (outR qR)))))), (qSF, .inl (G.2.1, 16, .inl sF))] ++ rws G qR sP) sz)) (xcX G r (fun u => u.1) (fun u => ([(qX, .inr (7, [.ref qB, .ref qH, .ref qK, .ref qV, .ref qS, .ref qW])), (qB, .inr (0, [.ref qBT, .ref qBC, .ref qBN, .ref qBW, .ref qBL, .int bn, .int bk, .int bs])), (qBT, .inl (G.2.1, 16, .inl bT)), (qBW, .inl (G.2.1, 64, .inl bW)), (qV, .inr (5, [.ref qB, .ref qVL, .ref qVS, .ref qVA, .ref qVT])), (qVL, .inl (G.2.1, 16, .inl u.2.1)), (qVS, .inl (G.2.1, 16, .inl u.2.2.1)), (qVA, .inl (G.2.1, 16, .inl u.2.2.2.1)), (qVT, .inl (G.2.1, 16, .inl u.2.2.2.2.1)), (qS, .inr (4, [.ref qB, .ref qV, .ref qSR, .ref qSI, .ref qSP, .ref qSF, .int u.2.2.2.2.2.1, .int u.2.2.2.2.2.2.1])), (qSR, .inl (G.2.1, 16, .inl u.2.2.2.2.2.2.2.1)), (qSI, .inl (G.2.1, 16, .inl u.2.2.2.2.2.2.2.2.1)), (qSP, .inl (G.2.2.2.2, 17, .inr (.inr (.inr (.inr (outR qR)))))), (qSF, .inl (G.2.1, 16, .inl u.2.2.2.2.2.2.2.2.2.2))] ++ rws G qR u.2.2.2.2.2.2.2.2.2.1)) (va_A ([(qX, .inr (7, [.ref qB, .ref qH, .ref qK, .ref qV, .ref qS, .ref qW])), (qB, .inr (0, [.ref qBT, .ref qBC, .ref qBN, .ref qBW, .ref qBL, .int bn, .int bk, .int bs])), (qBT, .inl (G.2.1, 16, .inl bT)), (qBW, .inl (G.2.1, 64, .inl bW)), (qV, .inr (5, [.ref qB, .ref qVL, .ref qVS, .ref qVA, .ref qVT])), (qVL, .inl (G.2.1, 16, .inl vL)), (qVS, .inl (G.2.1, 16, .inl vS)), (qVA, .inl (G.2.1, 16, .inl vA)), (qVT, .inl (G.2.1, 16, .inl vT)), (qS, .inr (4, [.ref qB, .ref qV, .ref qSR, .ref qSI, .ref qSP, .ref qSF, .int so, .int sw])), (qSR, .inl (G.2.1, 16, .inl sR)), (qSI, .inl (G.2.1, 16, .inl sI)), (qSP, .inl (G.2.2.2.2, 17, .inr (.inr (.inr (.inr (outR qR)))))), (qSF, .inl (G.2.1, 16, .inl sF))] ++ rws G qR sP) sz)) 2 12 (va_A ([(qX, .inr (7, [.ref qB, .ref qH, .ref qK, .ref qV, .ref qS, .ref qW])), (qB, .inr (0, [.ref qBT, .ref qBC, .ref qBN, .ref qBW, .ref qBL, .int bn, .int bk, .int bs])), (qBT, .inl (G.2.1, 16, .inl bT)), (qBW, .inl (G.2.1, 64, .inl bW)), (qV, .inr (5, [.ref qB, .ref qVL, .ref qVS, .ref qVA, .ref qVT])), (qVL, .inl (G.2.1, 16, .inl vL)), (qVS, .inl (G.2.1, 16, .inl vS)), (qVA, .inl (G.2.1, 16, .inl vA)), (qVT, .inl (G.2.1, 16, .inl vT)), (qS, .inr (4, [.ref qB, .ref qV, .ref qSR, .ref qSI, .ref qSP, .ref qSF, .int so, .int sw])), (qSR, .inl (G.2.1, 16, .inl sR)), (qSI, .inl (G.2.1, 16, .inl sI)), (qSP, .inl (G.2.2.2.2, 17, .inr (.inr (.inr (.inr (outR qR)))))), (qSF, .inl (G.2.1, 16, .inl sF))] ++ rws G qR sP) sz) := by
  refine vx_ofW (cc := cX7_first) (maxL := 2) (ret := (some .int)) (by decide) rfl ?_
  intro p e s m args below meth c s₁ B hml hno hv
  obtain ⟨rfl, hsz, hP, hKK, hD0, hT⟩ := hv
  have hK := hKK.1
  have hx := B.exec
  have hb := B.bytes
  have hr := B.returns
  have hts := atoms_spec (ws := wsX7_first) B.pre
  have hown : s.vm.findClass RX7 = some m.cls := findClass_of_methodNamed B.named
  have hlocks := B.notSynchronized
  subst hsz
  have hD := hD0.self (sz := s.heap.size)
  generalize hAe : va_A ([(qX, .inr (7, [.ref qB, .ref qH, .ref qK, .ref qV, .ref qS, .ref qW])), (qB, .inr (0, [.ref qBT, .ref qBC, .ref qBN, .ref qBW, .ref qBL, .int bn, .int bk, .int bs])), (qBT, .inl (G.2.1, 16, .inl bT)), (qBW, .inl (G.2.1, 64, .inl bW)), (qV, .inr (5, [.ref qB, .ref qVL, .ref qVS, .ref qVA, .ref qVT])), (qVL, .inl (G.2.1, 16, .inl vL)), (qVS, .inl (G.2.1, 16, .inl vS)), (qVA, .inl (G.2.1, 16, .inl vA)), (qVT, .inl (G.2.1, 16, .inl vT)), (qS, .inr (4, [.ref qB, .ref qV, .ref qSR, .ref qSI, .ref qSP, .ref qSF, .int so, .int sw])), (qSR, .inl (G.2.1, 16, .inl sR)), (qSI, .inl (G.2.1, 16, .inl sI)), (qSP, .inl (G.2.2.2.2, 17, .inr (.inr (.inr (.inr (outR qR)))))), (qSF, .inl (G.2.1, 16, .inl sF))] ++ rws G qR sP) s.heap.size = A at hD hT ⊢
  have hA : ∀ q : Nat, s.heap.size ≤ q → A q := fun q h => by rw [← hAe]; exact Or.inr h
  have hS : va_S A s.heap s.heap [] := va_S.rf
  have hl := lv_entry ([.ref qX, .int x1] : List Value) (n := 2) (Nat.le_of_ble_eq_true rfl)
  rw [lg_entry_eq]
  generalize (lg_sl ([.ref qX, .int x1] : List Value) ++ List.replicate (2 - (lg_sl ([.ref qX, .int x1] : List Value)).length) Slot.unset).toArray = ls at hl ⊢
  have hl : lv_has ls 2 [(0, .ref qX), (1, .int x1)] := hl
  have hi7 : ∀ w ∈ u_ws RX7 TX7 6, w ∈ wsX7_first := by decide +kernel
  have hw0 : (Cond.fieldLink RX7 35 "NetPlumber" "sieve" "LNetPlumber$Sieve;").before #[Value.ref qX, Value.int x1] s = true := hts _ (by decide +kernel)
  have hw1 : (Cond.fieldLink RX7 44 "NetPlumber" "search" "LNetPlumber$Search;").before #[Value.ref qX, Value.int x1] s = true := hts _ (by decide +kernel)
  have hw2 : (Cond.classLink RX7 107 "java/lang/IllegalStateException").before #[Value.ref qX, Value.int x1] s = true := hts _ (by decide +kernel)
  have hw3 : (Cond.initialized "java/lang/IllegalStateException").before #[Value.ref qX, Value.int x1] s = true := hts _ (by decide +kernel)
  refine wq (fun Q hQ => ?_)
  unfold kX7_first at hq
  refine lv_aload_n hx hb dX7_first_0 rfl (lv_at hl 0 rfl) ?_
  refine lv_iload_n hx hb dX7_first_1 rfl (lv_at hl 1 rfl) ?_
  obtain ⟨q1, eq1, hq⟩ := ob hq
  have hPc := hP.sub (ws' := [(qX, .inr (7, [.ref qB, .ref qH, .ref qK, .ref qV, .ref qS, .ref qW])), (qB, .inr (0, [.ref qBT, .ref qBC, .ref qBN, .ref qBW, .ref qBL, .int bn, .int bk, .int bs]))]) [0, 1] rfl
  have hKc := hK
  have hDc := hD.sub (ws' := [(qX, .inr (7, [.ref qB, .ref qH, .ref qK, .ref qV, .ref qS, .ref qW])), (qB, .inr (0, [.ref qBT, .ref qBC, .ref qBN, .ref qBW, .ref qBL, .int bn, .int bk, .int bs]))]) [0, 1] (by decide) rfl
  have hFc := va_free (wc := [(qX, .inr (7, [.ref qB, .ref qH, .ref qK, .ref qV, .ref qS, .ref qW])), (qB, .inr (0, [.ref qBT, .ref qBC, .ref qBN, .ref qBW, .ref qBL, .int bn, .int bk, .int bs]))]) hD hS hA [0, 1] rfl
  refine vx_callv (vx_runV (As := [.int x1]) (rest := []) ⟨hx, hb, hml, hown, hts⟩ (tX7_requireCell G l hfl eq1) (cwV 1 hts gX7_first_X7_requireCell rfl rfl rfl (by decide +kernel) ⟨Nat.le_of_ble_eq_true rfl, Nat.le_of_ble_eq_true rfl⟩) ⟨pcX_blind, va_recv hKc hPc (ci := 7) (q0 := 0) rfl rfl, pcX_pre hPc hKK hDc hT hS hFc⟩ rfl rfl hl.1 rfl (lv_room (Nat.le_of_ble_eq_true rfl)) dX7_first_2 ⟨Nat.le_of_ble_eq_true rfl, Nat.le_of_ble_eq_true rfl⟩) hS (fun q _ h => hFc q h) hFc (fun q _ h => hFc q h) (fun E ce q9 u t H1 locs ht hvm hpx hB hz1 hk1 hS hc1 hv1 hcl1 => ?_) (fun u t H1 locs ht hvm hw hB hz1 hk1 hS => ?_)
  · obtain ⟨e3, rfl⟩ : ∃ z, z = u := ⟨_, rfl⟩
    subst hpx
    obtain rfl := onR_r hq
    obtain ⟨hE, hB⟩ := hB
    have hB := va_Pto ht hB
    obtain ⟨hP, hD⟩ := jnL (X' := [(qX, .inr (7, [.ref qB, .ref qH, .ref qK, .ref qV, .ref qS, .ref qW])), (qB, .inr (0, [.ref qBT, .ref qBC, .ref qBN, .ref qBW, .ref qBL, .int bn, .int bk, .int bs])), (qBT, .inl (G.2.1, 16, .inl bT)), (qBW, .inl (G.2.1, 64, .inl bW)), (qV, .inr (5, [.ref qB, .ref qVL, .ref qVS, .ref qVA, .ref qVT])), (qVL, .inl (G.2.1, 16, .inl vL)), (qVS, .inl (G.2.1, 16, .inl vS)), (qVA, .inl (G.2.1, 16, .inl vA)), (qVT, .inl (G.2.1, 16, .inl vT)), (qS, .inr (4, [.ref qB, .ref qV, .ref qSR, .ref qSI, .ref qSP, .ref qSF, .int so, .int sw])), (qSR, .inl (G.2.1, 16, .inl sR)), (qSI, .inl (G.2.1, 16, .inl sI)), (qSP, .inl (G.2.2.2.2, 17, .inr (.inr (.inr (.inr (outR qR)))))), (qSF, .inl (G.2.1, 16, .inl sF))]) hP hD hk1 hB [0, 1] rfl rfl rfl rfl
    rw [hQ]
    exact vx_out (fun x h => (hno x h).elim) hlocks hc1 hv1 hcl1 (fun t ht hW => ⟨_, rfl, ⟨hE, va_Pat ht hP⟩, hS.F ht⟩) hS.2.2 (Nat.le_of_ble_eq_true rfl) (Nat.le_of_ble_eq_true rfl)
  · obtain ⟨u2, rfl⟩ : ∃ z, z = u := ⟨_, rfl⟩
    subst hw
    have hq := onR_l hq
    have hB := va_Pto ht hB
    obtain ⟨hP, hD⟩ := jnL (X' := [(qX, .inr (7, [.ref qB, .ref qH, .ref qK, .ref qV, .ref qS, .ref qW])), (qB, .inr (0, [.ref qBT, .ref qBC, .ref qBN, .ref qBW, .ref qBL, .int bn, .int bk, .int bs])), (qBT, .inl (G.2.1, 16, .inl bT)), (qBW, .inl (G.2.1, 64, .inl bW)), (qV, .inr (5, [.ref qB, .ref qVL, .ref qVS, .ref qVA, .ref qVT])), (qVL, .inl (G.2.1, 16, .inl vL)), (qVS, .inl (G.2.1, 16, .inl vS)), (qVA, .inl (G.2.1, 16, .inl vA)), (qVT, .inl (G.2.1, 16, .inl vT)), (qS, .inr (4, [.ref qB, .ref qV, .ref qSR, .ref qSI, .ref qSP, .ref qSF, .int so, .int sw])), (qSR, .inl (G.2.1, 16, .inl sR)), (qSI, .inl (G.2.1, 16, .inl sI)), (qSP, .inl (G.2.2.2.2, 17, .inr (.inr (.inr (.inr (outR qR)))))), (qSF, .inl (G.2.1, 16, .inl sF))]) hP hD hk1 hB [0, 1] rfl rfl rfl rfl
    generalize H1 = H at hP hS ⊢
    refine lv_aload_n hx hb dX7_first_5 rfl (lv_at hl 0 rfl) ?_
    refine va_get (D := G.1) (ci := 7) (v := .ref qV) (C := RX7) (T := TX7) (N := 6) hx hb hts hi7 hown hK hP 0 rfl rfl 3 (by decide) hw0 (fun _ h9 => h9) rfl dX7_first_6 ?_
    obtain ⟨q4, eq4, hq⟩ := ob hq
    have hPc := hP.sub (ws' := [(qB, .inr (0, [.ref qBT, .ref qBC, .ref qBN, .ref qBW, .ref qBL, .int bn, .int bk, .int bs])), (qBT, .inl (G.2.1, 16, .inl bT)), (qBW, .inl (G.2.1, 64, .inl bW)), (qV, .inr (5, [.ref qB, .ref qVL, .ref qVS, .ref qVA, .ref qVT])), (qVL, .inl (G.2.1, 16, .inl vL)), (qVS, .inl (G.2.1, 16, .inl vS)), (qVA, .inl (G.2.1, 16, .inl vA)), (qVT, .inl (G.2.1, 16, .inl vT))]) [1, 2, 3, 4, 5, 6, 7, 8] rfl
    have hKc := hK
    have hDc := hD.sub (ws' := [(qB, .inr (0, [.ref qBT, .ref qBC, .ref qBN, .ref qBW, .ref qBL, .int bn, .int bk, .int bs])), (qBT, .inl (G.2.1, 16, .inl bT)), (qBW, .inl (G.2.1, 64, .inl bW)), (qV, .inr (5, [.ref qB, .ref qVL, .ref qVS, .ref qVA, .ref qVT])), (qVL, .inl (G.2.1, 16, .inl vL)), (qVS, .inl (G.2.1, 16, .inl vS)), (qVA, .inl (G.2.1, 16, .inl vA)), (qVT, .inl (G.2.1, 16, .inl vT))]) [1, 2, 3, 4, 5, 6, 7, 8] (by decide) rfl
    have hFc := va_free (wc := [(qB, .inr (0, [.ref qBT, .ref qBC, .ref qBN, .ref qBW, .ref qBL, .int bn, .int bk, .int bs])), (qBT, .inl (G.2.1, 16, .inl bT)), (qBW, .inl (G.2.1, 64, .inl bW)), (qV, .inr (5, [.ref qB, .ref qVL, .ref qVS, .ref qVA, .ref qVT])), (qVL, .inl (G.2.1, 16, .inl vL)), (qVS, .inl (G.2.1, 16, .inl vS)), (qVA, .inl (G.2.1, 16, .inl vA)), (qVT, .inl (G.2.1, 16, .inl vT))]) hD hS hA [1, 2, 3, 4, 5, 6, 7, 8] rfl
    refine va_callv (va_runV (As := []) (rest := []) ⟨hx, hb, hml, hown, hts⟩ (tX5_sift G l eq4) (cwV 0 hts gX7_first_X5_sift rfl rfl rfl (by decide +kernel) ⟨Nat.le_of_ble_eq_true rfl, Nat.le_of_ble_eq_true rfl⟩) ⟨pcW_blind, va_recv hKc hPc (ci := 5) (q0 := 3) rfl rfl, pcW_pre hPc hKK hDc⟩ rfl rfl hl.1 rfl (lv_room (Nat.le_of_ble_eq_true rfl)) dX7_first_9 ⟨Nat.le_of_ble_eq_true rfl, Nat.le_of_ble_eq_true rfl⟩) hS (fun q _ h => hFc q h) hFc (fun u t H1 locs ht hvm hw hB hz1 hk1 hS => ?_)
    have hB := va_Pto ht hB
    obtain ⟨hP, hD⟩ := jnL (X' := [(qX, .inr (7, [.ref qB, .ref qH, .ref qK, .ref qV, .ref qS, .ref qW])), (qB, .inr (0, [.ref qBT, .ref qBC, .ref qBN, .ref qBW, .ref qBL, .int bn, .int bk, .int bs])), (qBT, .inl (G.2.1, 16, .inl bT)), (qBW, .inl (G.2.1, 64, .inl bW)), (qV, .inr (5, [.ref qB, .ref qVL, .ref qVS, .ref qVA, .ref qVT])), (qVL, .inl (G.2.1, 16, .inl q4.1)), (qVS, .inl (G.2.1, 16, .inl q4.2.1)), (qVA, .inl (G.2.1, 16, .inl q4.2.2.1)), (qVT, .inl (G.2.1, 16, .inl q4.2.2.2)), (qS, .inr (4, [.ref qB, .ref qV, .ref qSR, .ref qSI, .ref qSP, .ref qSF, .int so, .int sw])), (qSR, .inl (G.2.1, 16, .inl sR)), (qSI, .inl (G.2.1, 16, .inl sI)), (qSP, .inl (G.2.2.2.2, 17, .inr (.inr (.inr (.inr (outR qR)))))), (qSF, .inl (G.2.1, 16, .inl sF))]) hP hD hk1 hB [1, 2, 3, 4, 5, 6, 7, 8] rfl rfl rfl rfl
    generalize H1 = H at hP hS ⊢
    refine lv_aload_n hx hb dX7_first_12 rfl (lv_at hl 0 rfl) ?_
    refine va_get (D := G.1) (ci := 7) (v := .ref qS) (C := RX7) (T := TX7) (N := 6) hx hb hts hi7 hown hK hP 0 rfl rfl 4 (by decide) hw1 (fun _ h9 => h9) rfl dX7_first_13 ?_
    obtain ⟨q5, eq5, hq⟩ := ob hq
    have hPc := hP.part (cx := [(qB, .inr (0, [.ref qBT, .ref qBC, .ref qBN, .ref qBW, .ref qBL, .int bn, .int bk, .int bs])), (qBT, .inl (G.2.1, 16, .inl bT)), (qBW, .inl (G.2.1, 64, .inl bW)), (qV, .inr (5, [.ref qB, .ref qVL, .ref qVS, .ref qVA, .ref qVT])), (qVL, .inl (G.2.1, 16, .inl q4.1)), (qS, .inr (4, [.ref qB, .ref qV, .ref qSR, .ref qSI, .ref qSP, .ref qSF, .int so, .int sw])), (qSR, .inl (G.2.1, 16, .inl sR)), (qSI, .inl (G.2.1, 16, .inl sI)), (qSP, .inl (G.2.2.2.2, 17, .inr (.inr (.inr (.inr (outR qR)))))), (qSF, .inl (G.2.1, 16, .inl sF))]) [1, 2, 3, 4, 5, 9, 10, 11, 12, 13] rfl
    have hKc := hK
    have hDc := hD.part (cx := [(qB, .inr (0, [.ref qBT, .ref qBC, .ref qBN, .ref qBW, .ref qBL, .int bn, .int bk, .int bs])), (qBT, .inl (G.2.1, 16, .inl bT)), (qBW, .inl (G.2.1, 64, .inl bW)), (qV, .inr (5, [.ref qB, .ref qVL, .ref qVS, .ref qVA, .ref qVT])), (qVL, .inl (G.2.1, 16, .inl q4.1)), (qS, .inr (4, [.ref qB, .ref qV, .ref qSR, .ref qSI, .ref qSP, .ref qSF, .int so, .int sw])), (qSR, .inl (G.2.1, 16, .inl sR)), (qSI, .inl (G.2.1, 16, .inl sI)), (qSP, .inl (G.2.2.2.2, 17, .inr (.inr (.inr (.inr (outR qR)))))), (qSF, .inl (G.2.1, 16, .inl sF))]) [1, 2, 3, 4, 5, 9, 10, 11, 12, 13] (by decide) rfl
    have hFc := va_freeP (cx := [(qB, .inr (0, [.ref qBT, .ref qBC, .ref qBN, .ref qBW, .ref qBL, .int bn, .int bk, .int bs])), (qBT, .inl (G.2.1, 16, .inl bT)), (qBW, .inl (G.2.1, 64, .inl bW)), (qV, .inr (5, [.ref qB, .ref qVL, .ref qVS, .ref qVA, .ref qVT])), (qVL, .inl (G.2.1, 16, .inl q4.1)), (qS, .inr (4, [.ref qB, .ref qV, .ref qSR, .ref qSI, .ref qSP, .ref qSF, .int so, .int sw])), (qSR, .inl (G.2.1, 16, .inl sR)), (qSI, .inl (G.2.1, 16, .inl sI)), (qSP, .inl (G.2.2.2.2, 17, .inr (.inr (.inr (.inr (outR qR)))))), (qSF, .inl (G.2.1, 16, .inl sF))]) hD hS hA [1, 2, 3, 4, 5, 9, 10, 11, 12, 13] rfl
    refine va_calli (va_runV (As := []) (rest := []) ⟨hx, hb, hml, hown, hts⟩ (tX4_countAll G l eq5) (cwV 0 hts gX7_first_X4_countAll rfl rfl rfl (by decide +kernel) ⟨Nat.le_of_ble_eq_true rfl, Nat.le_of_ble_eq_true rfl⟩) ⟨pcW_blind, va_recv hKc hPc (ci := 4) (q0 := 5) rfl rfl, pcW_pre hPc hKK hDc⟩ rfl rfl hl.1 rfl (lv_room (Nat.le_of_ble_eq_true rfl)) dX7_first_16 ⟨Nat.le_of_ble_eq_true rfl, Nat.le_of_ble_eq_true rfl⟩) hS (fun q _ h => hFc q h) hFc (fun r0 u t H1 locs ht hvm hw hB hz1 hk1 hS => ?_)
    obtain rfl := hw
    have hB := va_Pto ht hB
    obtain ⟨hP, hD⟩ := jnR (X' := [(qX, .inr (7, [.ref qB, .ref qH, .ref qK, .ref qV, .ref qS, .ref qW])), (qB, .inr (0, [.ref qBT, .ref qBC, .ref qBN, .ref qBW, .ref qBL, .int bn, .int bk, .int bs])), (qBT, .inl (G.2.1, 16, .inl bT)), (qBW, .inl (G.2.1, 64, .inl bW)), (qV, .inr (5, [.ref qB, .ref qVL, .ref qVS, .ref qVA, .ref qVT])), (qVL, .inl (G.2.1, 16, .inl q4.1)), (qVS, .inl (G.2.1, 16, .inl q4.2.1)), (qVA, .inl (G.2.1, 16, .inl q4.2.2.1)), (qVT, .inl (G.2.1, 16, .inl q4.2.2.2)), (qS, .inr (4, [.ref qB, .ref qV, .ref qSR, .ref qSI, .ref qSP, .ref qSF, .int q5.2.1, .int q5.2.2.1])), (qSR, .inl (G.2.1, 16, .inl q5.2.2.2.1)), (qSI, .inl (G.2.1, 16, .inl q5.2.2.2.2.1)), (qSP, .inl (G.2.2.2.2, 17, .inr (.inr (.inr (.inr (outR qR)))))), (qSF, .inl (G.2.1, 16, .inl q5.2.2.2.2.2.2))]) hP hD hk1 hB [1, 2, 3, 4, 5, 9, 10, 11, 12, 13] rfl rfl rfl rfl
    generalize H1 = H at hP hS ⊢
    refine lv_if_ne (tgt := 32) hx hb dX7_first_19 (by decide) (fun c_19 => ?_) (fun c_19 => ?_)
    · have hq := k_f c_19 hq
      refine lv_aload_n hx hb dX7_first_32 rfl (lv_at hl 0 rfl) ?_
      refine va_get (D := G.1) (ci := 7) (v := .ref qS) (C := RX7) (T := TX7) (N := 6) hx hb hts hi7 hown hK hP 0 rfl rfl 4 (by decide) hw1 (fun _ h9 => h9) rfl dX7_first_33 ?_
      refine lv_iload_n hx hb dX7_first_36 rfl (lv_at hl 1 rfl) ?_
      obtain ⟨q6, eq6, hq⟩ := ob hq
      have hPc := hP.sub (ws' := [(qS, .inr (4, [.ref qB, .ref qV, .ref qSR, .ref qSI, .ref qSP, .ref qSF, .int q5.2.1, .int q5.2.2.1])), (qSF, .inl (G.2.1, 16, .inl q5.2.2.2.2.2.2))]) [9, 13] rfl
      have hKc := hK
      refine vp_callSi (va_Run.run (va_runV (As := [.int x1]) (rest := []) ⟨hx, hb, hml, hown, hts⟩ (tX4_firstAt G l eq6) (cwV 1 hts gX7_first_X4_firstAt rfl rfl rfl (by decide +kernel) ⟨Nat.le_of_ble_eq_true rfl, Nat.le_of_ble_eq_true rfl⟩) ⟨pcP_blind, va_recv hKc hPc (ci := 4) (q0 := 0) rfl rfl, pcP_pre hPc hKK⟩ rfl rfl hl.1 rfl (lv_room (Nat.le_of_ble_eq_true rfl)) dX7_first_37 ⟨Nat.le_of_ble_eq_true rfl, Nat.le_of_ble_eq_true rfl⟩)) (fun r0 hr0 => ?_)
      obtain rfl := hr0
      obtain rfl := Option.some.inj hq
      rw [hQ]
      refine vx_ret ?_
      refine W.widen (k := 2) (n := 12) (Nat.le_of_ble_eq_true rfl) (Nat.le_of_ble_eq_true rfl) ?_
      exact W.iret hx hb hr (fun t ht hW => ⟨⟨_, _, rfl, ⟨rfl, rfl⟩, va_Pat ht hP⟩, hS.F ht⟩) hS.2.2 dX7_first_40
    · have hq := k_t c_19 hq
      obtain rfl := Option.some.inj hq
      rw [hQ]
      obtain ⟨sa, hsa⟩ := hT.2.2.1 (193, "there is no solution") (List.mem_of_getElem? (i := 7) rfl)
      have hat : ∀ w ∈ vx_atS RX7 111 "java/lang/IllegalStateException" ["java/lang/RuntimeException", "java/lang/Exception"], w.before ([.ref qX, .int x1] : List Value).toArray s = true := vx_hat (B := thB 2) (fun w h => hts w (by first | exact List.mem_cons_of_mem _ (List.mem_append_right _ h) | exact (show w ∈ wsX7_first from by have h2 := h; revert h2; revert w; decide +kernel))) (by decide +kernel) (hT.bad (by decide))
      exact vx_throwS hx hb hfl (own := RX7) (cls := "java/lang/IllegalStateException") (text := "there is no solution") (names := ["java/lang/RuntimeException", "java/lang/Exception"]) hown (by decide +kernel) (by decide +kernel) hw2 hw3 hsa hat (by decide +kernel) hT.1 hT.2.1 hS (hl.1.trans hml.symm) dX7_first_22 dX7_first_25 dX7_first_26 dX7_first_28 dX7_first_31 (fun x h => (hno x h).elim) (Nat.le_of_ble_eq_true rfl) (Nat.le_of_ble_eq_true rfl) (Nat.le_of_ble_eq_true rfl) (Nat.le_of_ble_eq_true rfl) hlocks (fun t hW hsz hk => ⟨_, rfl, ⟨rfl, thP hP hk⟩, thF hS hsz hk⟩) hS.2.2 (Nat.le_of_ble_eq_true rfl) (Nat.le_of_ble_eq_true rfl)

def kX7_fewestTurns (F : Nat) (bn : Int32) (bk : Int32) (bT : Nat → Int32) (bW : Nat → Int32) (vL : Nat → Int32) (vS : Nat → Int32) (vA : Nat → Int32) (vT : Nat → Int32) (so : Int32) (sw : Int32) (sR : Nat → Int32) (sI : Nat → Int32) (sP : Nat → Nat → Int32) (sF : Nat → Int32) : Option ((Int32 × (Nat → Int32) × (Nat → Int32) × (Nat → Int32) × (Nat → Int32) × Int32 × Int32 × (Nat → Int32) × (Nat → Int32) × (Nat → Nat → Int32) × (Nat → Int32)) ⊕ (Nat × (Nat → Int32) × (Nat → Int32) × (Nat → Int32) × (Nat → Int32) × Int32 × Int32 × (Nat → Int32) × (Nat → Int32) × (Nat → Nat → Int32) × (Nat → Int32))) :=
  ((kX5_sift F bn bk bT bW vL vS vA vT).bind fun q1 => ((kX4_countAll F bn bT bW q1.1 so sw sR sI sP sF).bind fun q2 => (if q2.1 = 0 then some (.inr (2, q1.1, q1.2.1, q1.2.2.1, q1.2.2.2, q2.2.1, q2.2.2.1, q2.2.2.2.1, q2.2.2.2.2.1, q2.2.2.2.2.2.1, q2.2.2.2.2.2.2)) else ((kX4_fewest F q2.2.2.1).bind fun q3 => some (.inl (q3, q1.1, q1.2.1, q1.2.2.1, q1.2.2.2, q2.2.1, q2.2.2.1, q2.2.2.2.1, q2.2.2.2.2.1, q2.2.2.2.2.2.1, q2.2.2.2.2.2.2))))))
abbrev rmX7_fewestTurns : Room := { frames := 45, cells := 1, slots := 6, locals := 1067 }
set_option maxHeartbeats 40000000 in
set_option maxRecDepth 100000 in
theorem tX7_fewestTurns (G : GG) (l : Launch) (hfl : l.stackTraces = false) {qX qB qH qK qV qS qW qBT qBC qBN qBW qBL qVL qVS qVA qVT qSR qSI qSP qSF : Nat} {qR : Nat → Nat} {bn : Int32} {bk : Int32} {bs : Int32} {bT : Nat → Int32} {bW : Nat → Int32} {vL : Nat → Int32} {vS : Nat → Int32} {vA : Nat → Int32} {vT : Nat → Int32} {so : Int32} {sw : Int32} {sR : Nat → Int32} {sI : Nat → Int32} {sP : Nat → Nat → Int32} {sF : Nat → Int32} {sz : Nat} {F : Nat} {r : (Int32 × (Nat → Int32) × (Nat → Int32) × (Nat → Int32) × (Nat → Int32) × Int32 × Int32 × (Nat → Int32) × (Nat → Int32) × (Nat → Nat → Int32) × (Nat → Int32)) ⊕ (Nat × (Nat → Int32) × (Nat → Int32) × (Nat → Int32) × (Nat → Int32) × Int32 × Int32 × (Nat → Int32) × (Nat → Int32) × (Nat → Nat → Int32) × (Nat → Int32))} (hq : kX7_fewestTurns F bn bk bT bW vL vS vA vT so sw sR sI sP sF = some r) : vx_Met l yX7_fewestTurns wsX7_fewestTurns rmX7_fewestTurns (pcX G ([(qX, .inr (7, [.ref qB, .ref qH, .ref qK, .ref qV, .ref qS, .ref qW])), (qB, .inr (0, [.ref qBT, .ref qBC, .ref qBN, .ref qBW, .ref qBL, .int bn, .int bk, .int bs])), (qBT, .inl (G.2.1, 16, .inl bT)), (qBW, .inl (G.2.1, 64, .inl bW)), (qV, .inr (5, [.ref qB, .ref qVL, .ref qVS, .ref qVA, .ref qVT])), (qVL, .inl (G.2.1, 16, .inl vL)), (qVS, .inl (G.2.1, 16, .inl vS)), (qVA, .inl (G.2.1, 16, .inl vA)), (qVT, .inl (G.2.1, 16, .inl vT)), (qS, .inr (4, [.ref qB, .ref qV, .ref qSR, .ref qSI, .ref qSP, .ref qSF, .int so, .int sw])), (qSR, .inl (G.2.1, 16, .inl sR)), (qSI, .inl (G.2.1, 16, .inl sI)), (qSP, .inl (G.2.2.2.2, 17, .inr (.inr (.inr (.inr (outR qR)))))), (qSF, .inl (G.2.1, 16, .inl sF))] ++ rws G qR sP) sz [.ref qX]) (qxI G r (fun u => u.1) (fun u => ([(qX, .inr (7, [.ref qB, .ref qH, .ref qK, .ref qV, .ref qS, .ref qW])), (qB, .inr (0, [.ref qBT, .ref qBC, .ref qBN, .ref qBW, .ref qBL, .int bn, .int bk, .int bs])), (qBT, .inl (G.2.1, 16, .inl bT)), (qBW, .inl (G.2.1, 64, .inl bW)), (qV, .inr (5, [.ref qB, .ref qVL, .ref qVS, .ref qVA, .ref qVT])), (qVL, .inl (G.2.1, 16, .inl u.2.1)), (qVS, .inl (G.2.1, 16, .inl u.2.2.1)), (qVA, .inl (G.2.1, 16, .inl u.2.2.2.1)), (qVT, .inl (G.2.1, 16, .inl u.2.2.2.2.1)), (qS, .inr (4, [.ref qB, .ref qV, .ref qSR, .ref qSI, .ref qSP, .ref qSF, .int u.2.2.2.2.2.1, .int u.2.2.2.2.2.2.1])), (qSR, .inl (G.2.1, 16, .inl u.2.2.2.2.2.2.2.1)), (qSI, .inl (G.2.1, 16, .inl u.2.2.2.2.2.2.2.2.1)), (qSP, .inl (G.2.2.2.2, 17, .inr (.inr (.inr (.inr (outR qR)))))), (qSF, .inl (G.2.1, 16, .inl u.2.2.2.2.2.2.2.2.2.2))] ++ rws G qR u.2.2.2.2.2.2.2.2.2.1)) (va_A ([(qX, .inr (7, [.ref qB, .ref qH, .ref qK, .ref qV, .ref qS, .ref qW])), (qB, .inr (0, [.ref qBT, .ref qBC, .ref qBN, .ref qBW, .ref qBL, .int bn, .int bk, .int bs])), (qBT, .inl (G.2.1, 16, .inl bT)), (qBW, .inl (G.2.1, 64, .inl bW)), (qV, .inr (5, [.ref qB, .ref qVL, .ref qVS, .ref qVA, .ref qVT])), (qVL, .inl (G.2.1, 16, .inl vL)), (qVS, .inl (G.2.1, 16, .inl vS)), (qVA, .inl (G.2.1, 16, .inl vA)), (qVT, .inl (G.2.1, 16, .inl vT)), (qS, .inr (4, [.ref qB, .ref qV, .ref qSR, .ref qSI, .ref qSP, .ref qSF, .int so, .int sw])), (qSR, .inl (G.2.1, 16, .inl sR)), (qSI, .inl (G.2.1, 16, .inl sI)), (qSP, .inl (G.2.2.2.2, 17, .inr (.inr (.inr (.inr (outR qR)))))), (qSF, .inl (G.2.1, 16, .inl sF))] ++ rws G qR sP) sz)) (xcX G r (fun u => u.1) (fun u => ([(qX, .inr (7, [.ref qB, .ref qH, .ref qK, .ref qV, .ref qS, .ref qW])), (qB, .inr (0, [.ref qBT, .ref qBC, .ref qBN, .ref qBW, .ref qBL, .int bn, .int bk, .int bs])), (qBT, .inl (G.2.1, 16, .inl bT)), (qBW, .inl (G.2.1, 64, .inl bW)), (qV, .inr (5, [.ref qB, .ref qVL, .ref qVS, .ref qVA, .ref qVT])), (qVL, .inl (G.2.1, 16, .inl u.2.1)), (qVS, .inl (G.2.1, 16, .inl u.2.2.1)), (qVA, .inl (G.2.1, 16, .inl u.2.2.2.1)), (qVT, .inl (G.2.1, 16, .inl u.2.2.2.2.1)), (qS, .inr (4, [.ref qB, .ref qV, .ref qSR, .ref qSI, .ref qSP, .ref qSF, .int u.2.2.2.2.2.1, .int u.2.2.2.2.2.2.1])), (qSR, .inl (G.2.1, 16, .inl u.2.2.2.2.2.2.2.1)), (qSI, .inl (G.2.1, 16, .inl u.2.2.2.2.2.2.2.2.1)), (qSP, .inl (G.2.2.2.2, 17, .inr (.inr (.inr (.inr (outR qR)))))), (qSF, .inl (G.2.1, 16, .inl u.2.2.2.2.2.2.2.2.2.2))] ++ rws G qR u.2.2.2.2.2.2.2.2.2.1)) (va_A ([(qX, .inr (7, [.ref qB, .ref qH, .ref qK, .ref qV, .ref qS, .ref qW])), (qB, .inr (0, [.ref qBT, .ref qBC, .ref qBN, .ref qBW, .ref qBL, .int bn, .int bk, .int bs])), (qBT, .inl (G.2.1, 16, .inl bT)), (qBW, .inl (G.2.1, 64, .inl bW)), (qV, .inr (5, [.ref qB, .ref qVL, .ref qVS, .ref qVA, .ref qVT])), (qVL, .inl (G.2.1, 16, .inl vL)), (qVS, .inl (G.2.1, 16, .inl vS)), (qVA, .inl (G.2.1, 16, .inl vA)), (qVT, .inl (G.2.1, 16, .inl vT)), (qS, .inr (4, [.ref qB, .ref qV, .ref qSR, .ref qSI, .ref qSP, .ref qSF, .int so, .int sw])), (qSR, .inl (G.2.1, 16, .inl sR)), (qSI, .inl (G.2.1, 16, .inl sI)), (qSP, .inl (G.2.2.2.2, 17, .inr (.inr (.inr (.inr (outR qR)))))), (qSF, .inl (G.2.1, 16, .inl sF))] ++ rws G qR sP) sz)) 1 6 (va_A ([(qX, .inr (7, [.ref qB, .ref qH, .ref qK, .ref qV, .ref qS, .ref qW])), (qB, .inr (0, [.ref qBT, .ref qBC, .ref qBN, .ref qBW, .ref qBL, .int bn, .int bk, .int bs])), (qBT, .inl (G.2.1, 16, .inl bT)), (qBW, .inl (G.2.1, 64, .inl bW)), (qV, .inr (5, [.ref qB, .ref qVL, .ref qVS, .ref qVA, .ref qVT])), (qVL, .inl (G.2.1, 16, .inl vL)), (qVS, .inl (G.2.1, 16, .inl vS)), (qVA, .inl (G.2.1, 16, .inl vA)), (qVT, .inl (G.2.1, 16, .inl vT)), (qS, .inr (4, [.ref qB, .ref qV, .ref qSR, .ref qSI, .ref qSP, .ref qSF, .int so, .int sw])), (qSR, .inl (G.2.1, 16, .inl sR)), (qSI, .inl (G.2.1, 16, .inl sI)), (qSP, .inl (G.2.2.2.2, 17, .inr (.inr (.inr (.inr (outR qR)))))), (qSF, .inl (G.2.1, 16, .inl sF))] ++ rws G qR sP) sz) := by
  refine vx_ofW (cc := cX7_fewestTurns) (maxL := 1) (ret := (some .int)) (by decide) rfl ?_
  intro p e s m args below meth c s₁ B hml hno hv
  obtain ⟨rfl, hsz, hP, hKK, hD0, hT⟩ := hv
  have hK := hKK.1
  have hx := B.exec
  have hb := B.bytes
  have hr := B.returns
  have hts := atoms_spec (ws := wsX7_fewestTurns) B.pre
  have hown : s.vm.findClass RX7 = some m.cls := findClass_of_methodNamed B.named
  have hlocks := B.notSynchronized
  subst hsz
  have hD := hD0.self (sz := s.heap.size)
  generalize hAe : va_A ([(qX, .inr (7, [.ref qB, .ref qH, .ref qK, .ref qV, .ref qS, .ref qW])), (qB, .inr (0, [.ref qBT, .ref qBC, .ref qBN, .ref qBW, .ref qBL, .int bn, .int bk, .int bs])), (qBT, .inl (G.2.1, 16, .inl bT)), (qBW, .inl (G.2.1, 64, .inl bW)), (qV, .inr (5, [.ref qB, .ref qVL, .ref qVS, .ref qVA, .ref qVT])), (qVL, .inl (G.2.1, 16, .inl vL)), (qVS, .inl (G.2.1, 16, .inl vS)), (qVA, .inl (G.2.1, 16, .inl vA)), (qVT, .inl (G.2.1, 16, .inl vT)), (qS, .inr (4, [.ref qB, .ref qV, .ref qSR, .ref qSI, .ref qSP, .ref qSF, .int so, .int sw])), (qSR, .inl (G.2.1, 16, .inl sR)), (qSI, .inl (G.2.1, 16, .inl sI)), (qSP, .inl (G.2.2.2.2, 17, .inr (.inr (.inr (.inr (outR qR)))))), (qSF, .inl (G.2.1, 16, .inl sF))] ++ rws G qR sP) s.heap.size = A at hD hT ⊢
  have hA : ∀ q : Nat, s.heap.size ≤ q → A q := fun q h => by rw [← hAe]; exact Or.inr h
  have hS : va_S A s.heap s.heap [] := va_S.rf
  have hl := lv_entry ([.ref qX] : List Value) (n := 1) (Nat.le_of_ble_eq_true rfl)
  rw [lg_entry_eq]
  generalize (lg_sl ([.ref qX] : List Value) ++ List.replicate (1 - (lg_sl ([.ref qX] : List Value)).length) Slot.unset).toArray = ls at hl ⊢
  have hl : lv_has ls 1 [(0, .ref qX)] := hl
  have hi7 : ∀ w ∈ u_ws RX7 TX7 6, w ∈ wsX7_fewestTurns := by decide +kernel
  have hw0 : (Cond.fieldLink RX7 35 "NetPlumber" "sieve" "LNetPlumber$Sieve;").before #[Value.ref qX] s = true := hts _ (by decide +kernel)
  have hw1 : (Cond.fieldLink RX7 44 "NetPlumber" "search" "LNetPlumber$Search;").before #[Value.ref qX] s = true := hts _ (by decide +kernel)
  have hw2 : (Cond.classLink RX7 107 "java/lang/IllegalStateException").before #[Value.ref qX] s = true := hts _ (by decide +kernel)
  have hw3 : (Cond.initialized "java/lang/IllegalStateException").before #[Value.ref qX] s = true := hts _ (by decide +kernel)
  refine wq (fun Q hQ => ?_)
  unfold kX7_fewestTurns at hq
  refine lv_aload_n hx hb dX7_fewestTurns_0 rfl (lv_at hl 0 rfl) ?_
  refine va_get (D := G.1) (ci := 7) (v := .ref qV) (C := RX7) (T := TX7) (N := 6) hx hb hts hi7 hown hK hP 0 rfl rfl 3 (by decide) hw0 (fun _ h9 => h9) rfl dX7_fewestTurns_1 ?_
  obtain ⟨q1, eq1, hq⟩ := ob hq
  have hPc := hP.sub (ws' := [(qB, .inr (0, [.ref qBT, .ref qBC, .ref qBN, .ref qBW, .ref qBL, .int bn, .int bk, .int bs])), (qBT, .inl (G.2.1, 16, .inl bT)), (qBW, .inl (G.2.1, 64, .inl bW)), (qV, .inr (5, [.ref qB, .ref qVL, .ref qVS, .ref qVA, .ref qVT])), (qVL, .inl (G.2.1, 16, .inl vL)), (qVS, .inl (G.2.1, 16, .inl vS)), (qVA, .inl (G.2.1, 16, .inl vA)), (qVT, .inl (G.2.1, 16, .inl vT))]) [1, 2, 3, 4, 5, 6, 7, 8] rfl
  have hKc := hK
  have hDc := hD.sub (ws' := [(qB, .inr (0, [.ref qBT, .ref qBC, .ref qBN, .ref qBW, .ref qBL, .int bn, .int bk, .int bs])), (qBT, .inl (G.2.1, 16, .inl bT)), (qBW, .inl (G.2.1, 64, .inl bW)), (qV, .inr (5, [.ref qB, .ref qVL, .ref qVS, .ref qVA, .ref qVT])), (qVL, .inl (G.2.1, 16, .inl vL)), (qVS, .inl (G.2.1, 16, .inl vS)), (qVA, .inl (G.2.1, 16, .inl vA)), (qVT, .inl (G.2.1, 16, .inl vT))]) [1, 2, 3, 4, 5, 6, 7, 8] (by decide) rfl
  have hFc := va_free (wc := [(qB, .inr (0, [.ref qBT, .ref qBC, .ref qBN, .ref qBW, .ref qBL, .int bn, .int bk, .int bs])), (qBT, .inl (G.2.1, 16, .inl bT)), (qBW, .inl (G.2.1, 64, .inl bW)), (qV, .inr (5, [.ref qB, .ref qVL, .ref qVS, .ref qVA, .ref qVT])), (qVL, .inl (G.2.1, 16, .inl vL)), (qVS, .inl (G.2.1, 16, .inl vS)), (qVA, .inl (G.2.1, 16, .inl vA)), (qVT, .inl (G.2.1, 16, .inl vT))]) hD hS hA [1, 2, 3, 4, 5, 6, 7, 8] rfl
  refine va_callv (va_runV (As := []) (rest := []) ⟨hx, hb, hml, hown, hts⟩ (tX5_sift G l eq1) (cwV 0 hts gX7_fewestTurns_X5_sift rfl rfl rfl (by decide +kernel) ⟨Nat.le_of_ble_eq_true rfl, Nat.le_of_ble_eq_true rfl⟩) ⟨pcW_blind, va_recv hKc hPc (ci := 5) (q0 := 3) rfl rfl, pcW_pre hPc hKK hDc⟩ rfl rfl hl.1 rfl (lv_room (Nat.le_of_ble_eq_true rfl)) dX7_fewestTurns_4 ⟨Nat.le_of_ble_eq_true rfl, Nat.le_of_ble_eq_true rfl⟩) hS (fun q _ h => hFc q h) hFc (fun u t H1 locs ht hvm hw hB hz1 hk1 hS => ?_)
  have hB := va_Pto ht hB
  obtain ⟨hP, hD⟩ := jnL (X' := [(qX, .inr (7, [.ref qB, .ref qH, .ref qK, .ref qV, .ref qS, .ref qW])), (qB, .inr (0, [.ref qBT, .ref qBC, .ref qBN, .ref qBW, .ref qBL, .int bn, .int bk, .int bs])), (qBT, .inl (G.2.1, 16, .inl bT)), (qBW, .inl (G.2.1, 64, .inl bW)), (qV, .inr (5, [.ref qB, .ref qVL, .ref qVS, .ref qVA, .ref qVT])), (qVL, .inl (G.2.1, 16, .inl q1.1)), (qVS, .inl (G.2.1, 16, .inl q1.2.1)), (qVA, .inl (G.2.1, 16, .inl q1.2.2.1)), (qVT, .inl (G.2.1, 16, .inl q1.2.2.2)), (qS, .inr (4, [.ref qB, .ref qV, .ref qSR, .ref qSI, .ref qSP, .ref qSF, .int so, .int sw])), (qSR, .inl (G.2.1, 16, .inl sR)), (qSI, .inl (G.2.1, 16, .inl sI)), (qSP, .inl (G.2.2.2.2, 17, .inr (.inr (.inr (.inr (outR qR)))))), (qSF, .inl (G.2.1, 16, .inl sF))]) hP hD hk1 hB [1, 2, 3, 4, 5, 6, 7, 8] rfl rfl rfl rfl
  generalize H1 = H at hP hS ⊢
  refine lv_aload_n hx hb dX7_fewestTurns_7 rfl (lv_at hl 0 rfl) ?_
  refine va_get (D := G.1) (ci := 7) (v := .ref qS) (C := RX7) (T := TX7) (N := 6) hx hb hts hi7 hown hK hP 0 rfl rfl 4 (by decide) hw1 (fun _ h9 => h9) rfl dX7_fewestTurns_8 ?_
  obtain ⟨q2, eq2, hq⟩ := ob hq
  have hPc := hP.part (cx := [(qB, .inr (0, [.ref qBT, .ref qBC, .ref qBN, .ref qBW, .ref qBL, .int bn, .int bk, .int bs])), (qBT, .inl (G.2.1, 16, .inl bT)), (qBW, .inl (G.2.1, 64, .inl bW)), (qV, .inr (5, [.ref qB, .ref qVL, .ref qVS, .ref qVA, .ref qVT])), (qVL, .inl (G.2.1, 16, .inl q1.1)), (qS, .inr (4, [.ref qB, .ref qV, .ref qSR, .ref qSI, .ref qSP, .ref qSF, .int so, .int sw])), (qSR, .inl (G.2.1, 16, .inl sR)), (qSI, .inl (G.2.1, 16, .inl sI)), (qSP, .inl (G.2.2.2.2, 17, .inr (.inr (.inr (.inr (outR qR)))))), (qSF, .inl (G.2.1, 16, .inl sF))]) [1, 2, 3, 4, 5, 9, 10, 11, 12, 13] rfl
  have hKc := hK
  have hDc := hD.part (cx := [(qB, .inr (0, [.ref qBT, .ref qBC, .ref qBN, .ref qBW, .ref qBL, .int bn, .int bk, .int bs])), (qBT, .inl (G.2.1, 16, .inl bT)), (qBW, .inl (G.2.1, 64, .inl bW)), (qV, .inr (5, [.ref qB, .ref qVL, .ref qVS, .ref qVA, .ref qVT])), (qVL, .inl (G.2.1, 16, .inl q1.1)), (qS, .inr (4, [.ref qB, .ref qV, .ref qSR, .ref qSI, .ref qSP, .ref qSF, .int so, .int sw])), (qSR, .inl (G.2.1, 16, .inl sR)), (qSI, .inl (G.2.1, 16, .inl sI)), (qSP, .inl (G.2.2.2.2, 17, .inr (.inr (.inr (.inr (outR qR)))))), (qSF, .inl (G.2.1, 16, .inl sF))]) [1, 2, 3, 4, 5, 9, 10, 11, 12, 13] (by decide) rfl
  have hFc := va_freeP (cx := [(qB, .inr (0, [.ref qBT, .ref qBC, .ref qBN, .ref qBW, .ref qBL, .int bn, .int bk, .int bs])), (qBT, .inl (G.2.1, 16, .inl bT)), (qBW, .inl (G.2.1, 64, .inl bW)), (qV, .inr (5, [.ref qB, .ref qVL, .ref qVS, .ref qVA, .ref qVT])), (qVL, .inl (G.2.1, 16, .inl q1.1)), (qS, .inr (4, [.ref qB, .ref qV, .ref qSR, .ref qSI, .ref qSP, .ref qSF, .int so, .int sw])), (qSR, .inl (G.2.1, 16, .inl sR)), (qSI, .inl (G.2.1, 16, .inl sI)), (qSP, .inl (G.2.2.2.2, 17, .inr (.inr (.inr (.inr (outR qR)))))), (qSF, .inl (G.2.1, 16, .inl sF))]) hD hS hA [1, 2, 3, 4, 5, 9, 10, 11, 12, 13] rfl
  refine va_calli (va_runV (As := []) (rest := []) ⟨hx, hb, hml, hown, hts⟩ (tX4_countAll G l eq2) (cwV 0 hts gX7_fewestTurns_X4_countAll rfl rfl rfl (by decide +kernel) ⟨Nat.le_of_ble_eq_true rfl, Nat.le_of_ble_eq_true rfl⟩) ⟨pcW_blind, va_recv hKc hPc (ci := 4) (q0 := 5) rfl rfl, pcW_pre hPc hKK hDc⟩ rfl rfl hl.1 rfl (lv_room (Nat.le_of_ble_eq_true rfl)) dX7_fewestTurns_11 ⟨Nat.le_of_ble_eq_true rfl, Nat.le_of_ble_eq_true rfl⟩) hS (fun q _ h => hFc q h) hFc (fun r0 u t H1 locs ht hvm hw hB hz1 hk1 hS => ?_)
  obtain rfl := hw
  have hB := va_Pto ht hB
  obtain ⟨hP, hD⟩ := jnR (X' := [(qX, .inr (7, [.ref qB, .ref qH, .ref qK, .ref qV, .ref qS, .ref qW])), (qB, .inr (0, [.ref qBT, .ref qBC, .ref qBN, .ref qBW, .ref qBL, .int bn, .int bk, .int bs])), (qBT, .inl (G.2.1, 16, .inl bT)), (qBW, .inl (G.2.1, 64, .inl bW)), (qV, .inr (5, [.ref qB, .ref qVL, .ref qVS, .ref qVA, .ref qVT])), (qVL, .inl (G.2.1, 16, .inl q1.1)), (qVS, .inl (G.2.1, 16, .inl q1.2.1)), (qVA, .inl (G.2.1, 16, .inl q1.2.2.1)), (qVT, .inl (G.2.1, 16, .inl q1.2.2.2)), (qS, .inr (4, [.ref qB, .ref qV, .ref qSR, .ref qSI, .ref qSP, .ref qSF, .int q2.2.1, .int q2.2.2.1])), (qSR, .inl (G.2.1, 16, .inl q2.2.2.2.1)), (qSI, .inl (G.2.1, 16, .inl q2.2.2.2.2.1)), (qSP, .inl (G.2.2.2.2, 17, .inr (.inr (.inr (.inr (outR qR)))))), (qSF, .inl (G.2.1, 16, .inl q2.2.2.2.2.2.2))]) hP hD hk1 hB [1, 2, 3, 4, 5, 9, 10, 11, 12, 13] rfl rfl rfl rfl
  generalize H1 = H at hP hS ⊢
  refine lv_if_ne (tgt := 27) hx hb dX7_fewestTurns_14 (by decide) (fun c_14 => ?_) (fun c_14 => ?_)
  · have hq := k_f c_14 hq
    refine lv_aload_n hx hb dX7_fewestTurns_27 rfl (lv_at hl 0 rfl) ?_
    refine va_get (D := G.1) (ci := 7) (v := .ref qS) (C := RX7) (T := TX7) (N := 6) hx hb hts hi7 hown hK hP 0 rfl rfl 4 (by decide) hw1 (fun _ h9 => h9) rfl dX7_fewestTurns_28 ?_
    obtain ⟨q3, eq3, hq⟩ := ob hq
    have hPc := hP.sub (ws' := [(qS, .inr (4, [.ref qB, .ref qV, .ref qSR, .ref qSI, .ref qSP, .ref qSF, .int q2.2.1, .int q2.2.2.1]))]) [9] rfl
    have hKc := hK
    refine vp_callSi (va_Run.run (va_runV (As := []) (rest := []) ⟨hx, hb, hml, hown, hts⟩ (tX4_fewest G l eq3) (cwV 0 hts gX7_fewestTurns_X4_fewest rfl rfl rfl (by decide +kernel) ⟨Nat.le_of_ble_eq_true rfl, Nat.le_of_ble_eq_true rfl⟩) ⟨pcP_blind, va_recv hKc hPc (ci := 4) (q0 := 0) rfl rfl, pcP_pre hPc hKK⟩ rfl rfl hl.1 rfl (lv_room (Nat.le_of_ble_eq_true rfl)) dX7_fewestTurns_31 ⟨Nat.le_of_ble_eq_true rfl, Nat.le_of_ble_eq_true rfl⟩)) (fun r0 hr0 => ?_)
    obtain rfl := hr0
    obtain rfl := Option.some.inj hq
    rw [hQ]
    refine vx_ret ?_
    refine W.widen (k := 1) (n := 6) (Nat.le_of_ble_eq_true rfl) (Nat.le_of_ble_eq_true rfl) ?_
    exact W.iret hx hb hr (fun t ht hW => ⟨⟨_, _, rfl, ⟨rfl, rfl⟩, va_Pat ht hP⟩, hS.F ht⟩) hS.2.2 dX7_fewestTurns_34
  · have hq := k_t c_14 hq
    obtain rfl := Option.some.inj hq
    rw [hQ]
    obtain ⟨sa, hsa⟩ := hT.2.2.1 (193, "there is no solution") (List.mem_of_getElem? (i := 7) rfl)
    have hat : ∀ w ∈ vx_atS RX7 111 "java/lang/IllegalStateException" ["java/lang/RuntimeException", "java/lang/Exception"], w.before ([.ref qX] : List Value).toArray s = true := vx_hat (B := thB 2) (fun w h => hts w (by first | exact List.mem_cons_of_mem _ (List.mem_append_right _ h) | exact (show w ∈ wsX7_fewestTurns from by have h2 := h; revert h2; revert w; decide +kernel))) (by decide +kernel) (hT.bad (by decide))
    exact vx_throwS hx hb hfl (own := RX7) (cls := "java/lang/IllegalStateException") (text := "there is no solution") (names := ["java/lang/RuntimeException", "java/lang/Exception"]) hown (by decide +kernel) (by decide +kernel) hw2 hw3 hsa hat (by decide +kernel) hT.1 hT.2.1 hS (hl.1.trans hml.symm) dX7_fewestTurns_17 dX7_fewestTurns_20 dX7_fewestTurns_21 dX7_fewestTurns_23 dX7_fewestTurns_26 (fun x h => (hno x h).elim) (Nat.le_of_ble_eq_true rfl) (Nat.le_of_ble_eq_true rfl) (Nat.le_of_ble_eq_true rfl) (Nat.le_of_ble_eq_true rfl) hlocks (fun t hW hsz hk => ⟨_, rfl, ⟨rfl, thP hP hk⟩, thF hS hsz hk⟩) hS.2.2 (Nat.le_of_ble_eq_true rfl) (Nat.le_of_ble_eq_true rfl)
