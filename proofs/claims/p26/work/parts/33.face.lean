/-! the face: none where it throws (laid by wip/p26/gen.py) -/
def kX7_requireBoard (F : Nat) (x1 : Int32) (x2 : Int32) (x3 : Int32) : Option (Unit) :=
  ((kX0_allows F x1 x2 x3).bind fun q1 => (if q1 = 0 then none else some ()))
abbrev rmX7_requireBoard : Room := { frames := 1, cells := 0, slots := 0, locals := 22 }
set_option maxHeartbeats 40000000 in
set_option maxRecDepth 100000 in
theorem tX7_requireBoard (G : GG) (l : Launch) {qX qB qH qK qV qS qW : Nat} {x1 : Int32} {x2 : Int32} {x3 : Int32} {sz : Nat} {F : Nat} {r : Unit} (hq : kX7_requireBoard F x1 x2 x3 = some r) : Met l yX7_requireBoard wsX7_requireBoard rmX7_requireBoard (pcW G [(qX, .inr (7, [.ref qB, .ref qH, .ref qK, .ref qV, .ref qS, .ref qW]))] sz [.ref qX, .int x1, .int x2, .int x3]) (qcV G [(qX, .inr (7, [.ref qB, .ref qH, .ref qK, .ref qV, .ref qS, .ref qW]))] (va_A [(qX, .inr (7, [.ref qB, .ref qH, .ref qK, .ref qV, .ref qS, .ref qW]))] sz)) 0 0 (va_A [(qX, .inr (7, [.ref qB, .ref qH, .ref qK, .ref qV, .ref qS, .ref qW]))] sz) := by
  refine Met.ofW (cc := cX7_requireBoard) (maxL := 4) (ret := none) (by decide) rfl ?_
  intro p e s m args below meth c s₁ B hml hv
  obtain ⟨rfl, hsz, hP, hKK, hD0⟩ := hv
  have hK := hKK.1
  have hx := B.exec
  have hb := B.bytes
  have hr := B.returns
  have hts := atoms_spec (ws := wsX7_requireBoard) B.pre
  have hown : s.vm.findClass RX7 = some m.cls := findClass_of_methodNamed B.named
  have hlocks := B.notSynchronized
  subst hsz
  have hD := hD0.self (sz := s.heap.size)
  generalize hAe : va_A [(qX, .inr (7, [.ref qB, .ref qH, .ref qK, .ref qV, .ref qS, .ref qW]))] s.heap.size = A at hD ⊢
  have hA : ∀ q : Nat, s.heap.size ≤ q → A q := fun q h => by rw [← hAe]; exact Or.inr h
  have hS : va_S A s.heap s.heap [] := va_S.rf
  have hl := lv_entry ([.ref qX, .int x1, .int x2, .int x3] : List Value) (n := 4) (Nat.le_of_ble_eq_true rfl)
  rw [lg_entry_eq]
  generalize (lg_sl ([.ref qX, .int x1, .int x2, .int x3] : List Value) ++ List.replicate (4 - (lg_sl ([.ref qX, .int x1, .int x2, .int x3] : List Value)).length) Slot.unset).toArray = ls at hl ⊢
  have hl : lv_has ls 4 [(0, .ref qX), (1, .int x1), (2, .int x2), (3, .int x3)] := hl
  refine wq (fun Q hQ => ?_)
  unfold kX7_requireBoard at hq
  refine lv_iload_n hx hb dX7_requireBoard_0 rfl (lv_at hl 1 rfl) ?_
  refine lv_iload_n hx hb dX7_requireBoard_1 rfl (lv_at hl 2 rfl) ?_
  refine lv_iload_n hx hb dX7_requireBoard_2 rfl (lv_at hl 3 rfl) ?_
  obtain ⟨q1, eq1, hq⟩ := ob hq
  have hPc := hP.sub (ws' := []) [] rfl
  refine vp_callSi (va_Run.run (va_runS (As := [.int x1, .int x2, .int x3]) (rest := []) ⟨hx, hb, hml, hown, hts⟩ (tX0_allows G l eq1) (va_cwS 3 hts gX7_requireBoard_X0_allows rfl rfl rfl (by decide +kernel) ⟨Nat.le_of_ble_eq_true rfl, Nat.le_of_ble_eq_true rfl⟩) ⟨pcP_blind, pcP_pre hPc hKK⟩ rfl rfl hl.1 rfl (lv_room (Nat.le_of_ble_eq_true rfl)) dX7_requireBoard_3 ⟨Nat.zero_le _, Nat.zero_le _⟩)) (fun r0 hr0 => ?_)
  obtain rfl := hr0
  refine lv_if_ne (tgt := 19) hx hb dX7_requireBoard_6 (by decide) (fun c_6 => ?_) (fun c_6 => ?_)
  · have hq := k_f c_6 hq
    obtain rfl := Option.some.inj hq
    rw [hQ]
    exact W.vret hx hb hr (fun t ht hW => ⟨⟨(), rfl, trivial, va_Pat ht hP⟩, hS.F ht⟩) hS.2.2 dX7_requireBoard_19
  · have hq := k_t c_6 hq
    cases hq

def kX7_requireCell (F : Nat) (bn : Int32) (x1 : Int32) : Option (Unit) :=
  ((kX0_has F bn x1).bind fun q1 => (if q1 = 0 then none else some ()))
abbrev rmX7_requireCell : Room := { frames := 1, cells := 0, slots := 0, locals := 21 }
set_option maxHeartbeats 40000000 in
set_option maxRecDepth 100000 in
theorem tX7_requireCell (G : GG) (l : Launch) {qX qB qH qK qV qS qW qBT qBC qBN qBW qBL : Nat} {bn : Int32} {bk : Int32} {bs : Int32} {x1 : Int32} {sz : Nat} {F : Nat} {r : Unit} (hq : kX7_requireCell F bn x1 = some r) : Met l yX7_requireCell wsX7_requireCell rmX7_requireCell (pcW G [(qX, .inr (7, [.ref qB, .ref qH, .ref qK, .ref qV, .ref qS, .ref qW])), (qB, .inr (0, [.ref qBT, .ref qBC, .ref qBN, .ref qBW, .ref qBL, .int bn, .int bk, .int bs]))] sz [.ref qX, .int x1]) (qcV G [(qX, .inr (7, [.ref qB, .ref qH, .ref qK, .ref qV, .ref qS, .ref qW])), (qB, .inr (0, [.ref qBT, .ref qBC, .ref qBN, .ref qBW, .ref qBL, .int bn, .int bk, .int bs]))] (va_A [(qX, .inr (7, [.ref qB, .ref qH, .ref qK, .ref qV, .ref qS, .ref qW])), (qB, .inr (0, [.ref qBT, .ref qBC, .ref qBN, .ref qBW, .ref qBL, .int bn, .int bk, .int bs]))] sz)) 0 0 (va_A [(qX, .inr (7, [.ref qB, .ref qH, .ref qK, .ref qV, .ref qS, .ref qW])), (qB, .inr (0, [.ref qBT, .ref qBC, .ref qBN, .ref qBW, .ref qBL, .int bn, .int bk, .int bs]))] sz) := by
  refine Met.ofW (cc := cX7_requireCell) (maxL := 2) (ret := none) (by decide) rfl ?_
  intro p e s m args below meth c s₁ B hml hv
  obtain ⟨rfl, hsz, hP, hKK, hD0⟩ := hv
  have hK := hKK.1
  have hx := B.exec
  have hb := B.bytes
  have hr := B.returns
  have hts := atoms_spec (ws := wsX7_requireCell) B.pre
  have hown : s.vm.findClass RX7 = some m.cls := findClass_of_methodNamed B.named
  have hlocks := B.notSynchronized
  subst hsz
  have hD := hD0.self (sz := s.heap.size)
  generalize hAe : va_A [(qX, .inr (7, [.ref qB, .ref qH, .ref qK, .ref qV, .ref qS, .ref qW])), (qB, .inr (0, [.ref qBT, .ref qBC, .ref qBN, .ref qBW, .ref qBL, .int bn, .int bk, .int bs]))] s.heap.size = A at hD ⊢
  have hA : ∀ q : Nat, s.heap.size ≤ q → A q := fun q h => by rw [← hAe]; exact Or.inr h
  have hS : va_S A s.heap s.heap [] := va_S.rf
  have hl := lv_entry ([.ref qX, .int x1] : List Value) (n := 2) (Nat.le_of_ble_eq_true rfl)
  rw [lg_entry_eq]
  generalize (lg_sl ([.ref qX, .int x1] : List Value) ++ List.replicate (2 - (lg_sl ([.ref qX, .int x1] : List Value)).length) Slot.unset).toArray = ls at hl ⊢
  have hl : lv_has ls 2 [(0, .ref qX), (1, .int x1)] := hl
  have hi7 : ∀ w ∈ u_ws RX7 TX7 6, w ∈ wsX7_requireCell := by decide +kernel
  have hw0 : (Cond.fieldLink RX7 10 "NetPlumber" "board" "LNetPlumber$Board;").before #[Value.ref qX, Value.int x1] s = true := hts _ (by decide +kernel)
  refine wq (fun Q hQ => ?_)
  unfold kX7_requireCell at hq
  refine lv_aload_n hx hb dX7_requireCell_0 rfl (lv_at hl 0 rfl) ?_
  refine va_get (D := G.1) (ci := 7) (v := .ref qB) (C := RX7) (T := TX7) (N := 6) hx hb hts hi7 hown hK hP 0 rfl rfl 0 (by decide) hw0 (fun _ h9 => h9) rfl dX7_requireCell_1 ?_
  refine lv_iload_n hx hb dX7_requireCell_4 rfl (lv_at hl 1 rfl) ?_
  obtain ⟨q1, eq1, hq⟩ := ob hq
  have hPc := hP.sub (ws' := [(qB, .inr (0, [.ref qBT, .ref qBC, .ref qBN, .ref qBW, .ref qBL, .int bn, .int bk, .int bs]))]) [1] rfl
  have hKc := hK
  refine vp_callSi (va_Run.run (va_runV (As := [.int x1]) (rest := []) ⟨hx, hb, hml, hown, hts⟩ (tX0_has G l eq1) (cwV 1 hts gX7_requireCell_X0_has rfl rfl rfl (by decide +kernel) ⟨Nat.le_of_ble_eq_true rfl, Nat.le_of_ble_eq_true rfl⟩) ⟨pcP_blind, va_recv hKc hPc (ci := 0) (q0 := 0) rfl rfl, pcP_pre hPc hKK⟩ rfl rfl hl.1 rfl (lv_room (Nat.le_of_ble_eq_true rfl)) dX7_requireCell_5 ⟨Nat.zero_le _, Nat.zero_le _⟩)) (fun r0 hr0 => ?_)
  obtain rfl := hr0
  refine lv_if_ne (tgt := 21) hx hb dX7_requireCell_8 (by decide) (fun c_8 => ?_) (fun c_8 => ?_)
  · have hq := k_f c_8 hq
    obtain rfl := Option.some.inj hq
    rw [hQ]
    exact W.vret hx hb hr (fun t ht hW => ⟨⟨(), rfl, trivial, va_Pat ht hP⟩, hS.F ht⟩) hS.2.2 dX7_requireCell_21
  · have hq := k_t c_8 hq
    cases hq

def kX7_requireSide (F : Nat) (x1 : Int32) : Option (Unit) :=
  (if x1 < 0 then none else (if x1 ≤ 3 then some () else none))
abbrev rmX7_requireSide : Room := { frames := 0, cells := 0, slots := 0, locals := 0 }
set_option maxHeartbeats 40000000 in
set_option maxRecDepth 100000 in
theorem tX7_requireSide (G : GG) (l : Launch) {qX qB qH qK qV qS qW : Nat} {x1 : Int32} {sz : Nat} {F : Nat} {r : Unit} (hq : kX7_requireSide F x1 = some r) : Met l yX7_requireSide wsX7_requireSide rmX7_requireSide (pcW G [(qX, .inr (7, [.ref qB, .ref qH, .ref qK, .ref qV, .ref qS, .ref qW]))] sz [.ref qX, .int x1]) (qcV G [(qX, .inr (7, [.ref qB, .ref qH, .ref qK, .ref qV, .ref qS, .ref qW]))] (va_A [(qX, .inr (7, [.ref qB, .ref qH, .ref qK, .ref qV, .ref qS, .ref qW]))] sz)) 0 0 (va_A [(qX, .inr (7, [.ref qB, .ref qH, .ref qK, .ref qV, .ref qS, .ref qW]))] sz) := by
  refine Met.ofW (cc := cX7_requireSide) (maxL := 2) (ret := none) (by decide) rfl ?_
  intro p e s m args below meth c s₁ B hml hv
  obtain ⟨rfl, hsz, hP, hKK, hD0⟩ := hv
  have hK := hKK.1
  have hx := B.exec
  have hb := B.bytes
  have hr := B.returns
  have hts := atoms_spec (ws := wsX7_requireSide) B.pre
  have hown : s.vm.findClass RX7 = some m.cls := findClass_of_methodNamed B.named
  have hlocks := B.notSynchronized
  subst hsz
  have hD := hD0.self (sz := s.heap.size)
  generalize hAe : va_A [(qX, .inr (7, [.ref qB, .ref qH, .ref qK, .ref qV, .ref qS, .ref qW]))] s.heap.size = A at hD ⊢
  have hA : ∀ q : Nat, s.heap.size ≤ q → A q := fun q h => by rw [← hAe]; exact Or.inr h
  have hS : va_S A s.heap s.heap [] := va_S.rf
  have hl := lv_entry ([.ref qX, .int x1] : List Value) (n := 2) (Nat.le_of_ble_eq_true rfl)
  rw [lg_entry_eq]
  generalize (lg_sl ([.ref qX, .int x1] : List Value) ++ List.replicate (2 - (lg_sl ([.ref qX, .int x1] : List Value)).length) Slot.unset).toArray = ls at hl ⊢
  have hl : lv_has ls 2 [(0, .ref qX), (1, .int x1)] := hl
  refine wq (fun Q hQ => ?_)
  unfold kX7_requireSide at hq
  refine lv_iload_n hx hb dX7_requireSide_0 rfl (lv_at hl 1 rfl) ?_
  refine lv_if_lt (tgt := 9) hx hb dX7_requireSide_1 (by decide) (fun c_1 => ?_) (fun c_1 => ?_)
  · have hq := k_t c_1 hq
    cases hq
  · have hq := k_f c_1 hq
    refine lv_iload_n hx hb dX7_requireSide_4 rfl (lv_at hl 1 rfl) ?_
    refine lv_iconst (v := 3) hx hb dX7_requireSide_5 (by decide) ?_
    refine lv_icmp_le (tgt := 19) hx hb dX7_requireSide_6 (by decide) (fun c_6 => ?_) (fun c_6 => ?_)
    · have hq := k_t c_6 hq
      obtain rfl := Option.some.inj hq
      rw [hQ]
      exact W.vret hx hb hr (fun t ht hW => ⟨⟨(), rfl, trivial, va_Pat ht hP⟩, hS.F ht⟩) hS.2.2 dX7_requireSide_19
    · have hq := k_f c_6 hq
      cases hq

def kX7_setTile (F : Nat) (bn : Int32) (bT : Nat → Int32) (hd : Int32) (hk : Int32) (x1 : Int32) (x2 : Int32) : Option (Int32 × (Nat → Int32) × Int32 × Int32) :=
  ((kX7_requireCell F bn x1).bind fun q1 => (if x2 < 0 then none else (if x2 ≤ 15 then ((kX0_sidesOf F bT x1).bind fun q2 => ((kX0_lay F bn bT x1 x2).bind fun q3 => ((kX2_forget F hd hk).bind fun q4 => some (q2, q3, q4.1, q4.2)))) else none)))
abbrev rmX7_setTile : Room := { frames := 2, cells := 0, slots := 0, locals := 43 }
set_option maxHeartbeats 40000000 in
set_option maxRecDepth 100000 in
theorem tX7_setTile (G : GG) (l : Launch) {qX qB qH qK qV qS qW qBT qBC qBN qBW qBL qHM : Nat} {bn : Int32} {bk : Int32} {bs : Int32} {bT : Nat → Int32} {hd : Int32} {hk : Int32} {x1 : Int32} {x2 : Int32} {sz : Nat} {F : Nat} {r : Int32 × (Nat → Int32) × Int32 × Int32} (hq : kX7_setTile F bn bT hd hk x1 x2 = some r) : Met l yX7_setTile wsX7_setTile rmX7_setTile (pcW G [(qX, .inr (7, [.ref qB, .ref qH, .ref qK, .ref qV, .ref qS, .ref qW])), (qB, .inr (0, [.ref qBT, .ref qBC, .ref qBN, .ref qBW, .ref qBL, .int bn, .int bk, .int bs])), (qBT, .inl (G.2.1, 16, .inl bT)), (qH, .inr (2, [.ref qHM, .int hd, .int hk]))] sz [.ref qX, .int x1, .int x2]) (qcI G r.1 [(qX, .inr (7, [.ref qB, .ref qH, .ref qK, .ref qV, .ref qS, .ref qW])), (qB, .inr (0, [.ref qBT, .ref qBC, .ref qBN, .ref qBW, .ref qBL, .int bn, .int bk, .int bs])), (qBT, .inl (G.2.1, 16, .inl r.2.1)), (qH, .inr (2, [.ref qHM, .int r.2.2.1, .int r.2.2.2]))] (va_A [(qX, .inr (7, [.ref qB, .ref qH, .ref qK, .ref qV, .ref qS, .ref qW])), (qB, .inr (0, [.ref qBT, .ref qBC, .ref qBN, .ref qBW, .ref qBL, .int bn, .int bk, .int bs])), (qBT, .inl (G.2.1, 16, .inl bT)), (qH, .inr (2, [.ref qHM, .int hd, .int hk]))] sz)) 0 0 (va_A [(qX, .inr (7, [.ref qB, .ref qH, .ref qK, .ref qV, .ref qS, .ref qW])), (qB, .inr (0, [.ref qBT, .ref qBC, .ref qBN, .ref qBW, .ref qBL, .int bn, .int bk, .int bs])), (qBT, .inl (G.2.1, 16, .inl bT)), (qH, .inr (2, [.ref qHM, .int hd, .int hk]))] sz) := by
  refine Met.ofW (cc := cX7_setTile) (maxL := 4) (ret := (some .int)) (by decide) rfl ?_
  intro p e s m args below meth c s₁ B hml hv
  obtain ⟨rfl, hsz, hP, hKK, hD0⟩ := hv
  have hK := hKK.1
  have hx := B.exec
  have hb := B.bytes
  have hr := B.returns
  have hts := atoms_spec (ws := wsX7_setTile) B.pre
  have hown : s.vm.findClass RX7 = some m.cls := findClass_of_methodNamed B.named
  have hlocks := B.notSynchronized
  subst hsz
  have hD := hD0.self (sz := s.heap.size)
  generalize hAe : va_A [(qX, .inr (7, [.ref qB, .ref qH, .ref qK, .ref qV, .ref qS, .ref qW])), (qB, .inr (0, [.ref qBT, .ref qBC, .ref qBN, .ref qBW, .ref qBL, .int bn, .int bk, .int bs])), (qBT, .inl (G.2.1, 16, .inl bT)), (qH, .inr (2, [.ref qHM, .int hd, .int hk]))] s.heap.size = A at hD ⊢
  have hA : ∀ q : Nat, s.heap.size ≤ q → A q := fun q h => by rw [← hAe]; exact Or.inr h
  have hS : va_S A s.heap s.heap [] := va_S.rf
  have hl := lv_entry ([.ref qX, .int x1, .int x2] : List Value) (n := 4) (Nat.le_of_ble_eq_true rfl)
  rw [lg_entry_eq]
  generalize (lg_sl ([.ref qX, .int x1, .int x2] : List Value) ++ List.replicate (4 - (lg_sl ([.ref qX, .int x1, .int x2] : List Value)).length) Slot.unset).toArray = ls at hl ⊢
  have hl : lv_has ls 4 [(0, .ref qX), (1, .int x1), (2, .int x2)] := hl
  have hi7 : ∀ w ∈ u_ws RX7 TX7 6, w ∈ wsX7_setTile := by decide +kernel
  have hw0 : (Cond.fieldLink RX7 10 "NetPlumber" "board" "LNetPlumber$Board;").before #[Value.ref qX, Value.int x1, Value.int x2] s = true := hts _ (by decide +kernel)
  have hw1 : (Cond.fieldLink RX7 19 "NetPlumber" "history" "LNetPlumber$History;").before #[Value.ref qX, Value.int x1, Value.int x2] s = true := hts _ (by decide +kernel)
  refine wq (fun Q hQ => ?_)
  unfold kX7_setTile at hq
  refine lv_aload_n hx hb dX7_setTile_0 rfl (lv_at hl 0 rfl) ?_
  refine lv_iload_n hx hb dX7_setTile_1 rfl (lv_at hl 1 rfl) ?_
  obtain ⟨q1, eq1, hq⟩ := ob hq
  have hPc := hP.sub (ws' := [(qX, .inr (7, [.ref qB, .ref qH, .ref qK, .ref qV, .ref qS, .ref qW])), (qB, .inr (0, [.ref qBT, .ref qBC, .ref qBN, .ref qBW, .ref qBL, .int bn, .int bk, .int bs]))]) [0, 1] rfl
  have hKc := hK
  have hDc := hD.sub (ws' := [(qX, .inr (7, [.ref qB, .ref qH, .ref qK, .ref qV, .ref qS, .ref qW])), (qB, .inr (0, [.ref qBT, .ref qBC, .ref qBN, .ref qBW, .ref qBL, .int bn, .int bk, .int bs]))]) [0, 1] (by decide) rfl
  have hFc := va_free (wc := [(qX, .inr (7, [.ref qB, .ref qH, .ref qK, .ref qV, .ref qS, .ref qW])), (qB, .inr (0, [.ref qBT, .ref qBC, .ref qBN, .ref qBW, .ref qBL, .int bn, .int bk, .int bs]))]) hD hS hA [0, 1] rfl
  refine va_callv (va_runV (As := [.int x1]) (rest := []) ⟨hx, hb, hml, hown, hts⟩ (tX7_requireCell G l eq1) (cwV 1 hts gX7_setTile_X7_requireCell rfl rfl rfl (by decide +kernel) ⟨Nat.le_of_ble_eq_true rfl, Nat.le_of_ble_eq_true rfl⟩) ⟨pcW_blind, va_recv hKc hPc (ci := 7) (q0 := 0) rfl rfl, pcW_pre hPc hKK hDc⟩ rfl rfl hl.1 rfl (lv_room (Nat.le_of_ble_eq_true rfl)) dX7_setTile_2 ⟨Nat.zero_le _, Nat.zero_le _⟩) hS (fun q _ h => hFc q h) hFc (fun u t H1 locs ht hvm hw hB hz1 hk1 hS => ?_)
  have hB := va_Pto ht hB
  obtain ⟨hP, hD⟩ := jn (ws' := [(qX, .inr (7, [.ref qB, .ref qH, .ref qK, .ref qV, .ref qS, .ref qW])), (qB, .inr (0, [.ref qBT, .ref qBC, .ref qBN, .ref qBW, .ref qBL, .int bn, .int bk, .int bs])), (qBT, .inl (G.2.1, 16, .inl bT)), (qH, .inr (2, [.ref qHM, .int hd, .int hk]))]) hP hD hk1 hB [0, 1] rfl rfl rfl rfl
  generalize H1 = H at hP hS ⊢
  refine lv_iload_n hx hb dX7_setTile_5 rfl (lv_at hl 2 rfl) ?_
  refine lv_if_lt (tgt := 15) hx hb dX7_setTile_6 (by decide) (fun c_6 => ?_) (fun c_6 => ?_)
  · have hq := k_t c_6 hq
    cases hq
  · have hq := k_f c_6 hq
    refine lv_iload_n hx hb dX7_setTile_9 rfl (lv_at hl 2 rfl) ?_
    refine lv_bipush (v := 15) hx hb dX7_setTile_10 (by decide) ?_
    refine lv_icmp_le (tgt := 25) hx hb dX7_setTile_12 (by decide) (fun c_12 => ?_) (fun c_12 => ?_)
    · have hq := k_t c_12 hq
      refine lv_aload_n hx hb dX7_setTile_25 rfl (lv_at hl 0 rfl) ?_
      refine va_get (D := G.1) (ci := 7) (v := .ref qB) (C := RX7) (T := TX7) (N := 6) hx hb hts hi7 hown hK hP 0 rfl rfl 0 (by decide) hw0 (fun _ h9 => h9) rfl dX7_setTile_26 ?_
      refine lv_iload_n hx hb dX7_setTile_29 rfl (lv_at hl 1 rfl) ?_
      obtain ⟨q2, eq2, hq⟩ := ob hq
      have hPc := hP.sub (ws' := [(qB, .inr (0, [.ref qBT, .ref qBC, .ref qBN, .ref qBW, .ref qBL, .int bn, .int bk, .int bs])), (qBT, .inl (G.2.1, 16, .inl bT))]) [1, 2] rfl
      have hKc := hK
      refine vp_callSi (va_Run.run (va_runV (As := [.int x1]) (rest := []) ⟨hx, hb, hml, hown, hts⟩ (tX0_sidesOf G l eq2) (cwV 1 hts gX7_setTile_X0_sidesOf rfl rfl rfl (by decide +kernel) ⟨Nat.le_of_ble_eq_true rfl, Nat.le_of_ble_eq_true rfl⟩) ⟨pcP_blind, va_recv hKc hPc (ci := 0) (q0 := 0) rfl rfl, pcP_pre hPc hKK⟩ rfl rfl hl.1 rfl (lv_room (Nat.le_of_ble_eq_true rfl)) dX7_setTile_30 ⟨Nat.zero_le _, Nat.zero_le _⟩)) (fun r0 hr0 => ?_)
      obtain rfl := hr0
      refine lv_istore_n (lv' := [(3, .int q2), (0, .ref qX), (1, .int x1), (2, .int x2)]) hx hb dX7_setTile_33 rfl hl (by decide) rfl (fun ls hl => ?_)
      refine lv_aload_n hx hb dX7_setTile_34 rfl (lv_at hl 1 rfl) ?_
      refine va_get (D := G.1) (ci := 7) (v := .ref qB) (C := RX7) (T := TX7) (N := 6) hx hb hts hi7 hown hK hP 0 rfl rfl 0 (by decide) hw0 (fun _ h9 => h9) rfl dX7_setTile_35 ?_
      refine lv_iload_n hx hb dX7_setTile_38 rfl (lv_at hl 2 rfl) ?_
      refine lv_iload_n hx hb dX7_setTile_39 rfl (lv_at hl 3 rfl) ?_
      obtain ⟨q3, eq3, hq⟩ := ob hq
      have hPc := hP.sub (ws' := [(qB, .inr (0, [.ref qBT, .ref qBC, .ref qBN, .ref qBW, .ref qBL, .int bn, .int bk, .int bs])), (qBT, .inl (G.2.1, 16, .inl bT))]) [1, 2] rfl
      have hKc := hK
      have hDc := hD.sub (ws' := [(qB, .inr (0, [.ref qBT, .ref qBC, .ref qBN, .ref qBW, .ref qBL, .int bn, .int bk, .int bs])), (qBT, .inl (G.2.1, 16, .inl bT))]) [1, 2] (by decide) rfl
      have hFc := va_free (wc := [(qB, .inr (0, [.ref qBT, .ref qBC, .ref qBN, .ref qBW, .ref qBL, .int bn, .int bk, .int bs])), (qBT, .inl (G.2.1, 16, .inl bT))]) hD hS hA [1, 2] rfl
      refine va_callv (va_runV (As := [.int x1, .int x2]) (rest := []) ⟨hx, hb, hml, hown, hts⟩ (tX0_lay G l eq3) (cwV 2 hts gX7_setTile_X0_lay rfl rfl rfl (by decide +kernel) ⟨Nat.le_of_ble_eq_true rfl, Nat.le_of_ble_eq_true rfl⟩) ⟨pcW_blind, va_recv hKc hPc (ci := 0) (q0 := 0) rfl rfl, pcW_pre hPc hKK hDc⟩ rfl rfl hl.1 rfl (lv_room (Nat.le_of_ble_eq_true rfl)) dX7_setTile_40 ⟨Nat.zero_le _, Nat.zero_le _⟩) hS (fun q _ h => hFc q h) hFc (fun u t H1 locs ht hvm hw hB hz1 hk1 hS => ?_)
      have hB := va_Pto ht hB
      obtain ⟨hP, hD⟩ := jn (ws' := [(qX, .inr (7, [.ref qB, .ref qH, .ref qK, .ref qV, .ref qS, .ref qW])), (qB, .inr (0, [.ref qBT, .ref qBC, .ref qBN, .ref qBW, .ref qBL, .int bn, .int bk, .int bs])), (qBT, .inl (G.2.1, 16, .inl q3)), (qH, .inr (2, [.ref qHM, .int hd, .int hk]))]) hP hD hk1 hB [1, 2] rfl rfl rfl rfl
      generalize H1 = H at hP hS ⊢
      refine lv_aload_n hx hb dX7_setTile_43 rfl (lv_at hl 1 rfl) ?_
      refine va_get (D := G.1) (ci := 7) (v := .ref qH) (C := RX7) (T := TX7) (N := 6) hx hb hts hi7 hown hK hP 0 rfl rfl 1 (by decide) hw1 (fun _ h9 => h9) rfl dX7_setTile_44 ?_
      obtain ⟨q4, eq4, hq⟩ := ob hq
      have hPc := hP.sub (ws' := [(qH, .inr (2, [.ref qHM, .int hd, .int hk]))]) [3] rfl
      have hKc := hK
      have hDc := hD.sub (ws' := [(qH, .inr (2, [.ref qHM, .int hd, .int hk]))]) [3] (by decide) rfl
      have hFc := va_free (wc := [(qH, .inr (2, [.ref qHM, .int hd, .int hk]))]) hD hS hA [3] rfl
      refine va_callv (va_runV (As := []) (rest := []) ⟨hx, hb, hml, hown, hts⟩ (tX2_forget G l eq4) (cwV 0 hts gX7_setTile_X2_forget rfl rfl rfl (by decide +kernel) ⟨Nat.le_of_ble_eq_true rfl, Nat.le_of_ble_eq_true rfl⟩) ⟨pcW_blind, va_recv hKc hPc (ci := 2) (q0 := 0) rfl rfl, pcW_pre hPc hKK hDc⟩ rfl rfl hl.1 rfl (lv_room (Nat.le_of_ble_eq_true rfl)) dX7_setTile_47 ⟨Nat.zero_le _, Nat.zero_le _⟩) hS (fun q _ h => hFc q h) hFc (fun u t H1 locs ht hvm hw hB hz1 hk1 hS => ?_)
      have hB := va_Pto ht hB
      obtain ⟨hP, hD⟩ := jn (ws' := [(qX, .inr (7, [.ref qB, .ref qH, .ref qK, .ref qV, .ref qS, .ref qW])), (qB, .inr (0, [.ref qBT, .ref qBC, .ref qBN, .ref qBW, .ref qBL, .int bn, .int bk, .int bs])), (qBT, .inl (G.2.1, 16, .inl q3)), (qH, .inr (2, [.ref qHM, .int q4.1, .int q4.2]))]) hP hD hk1 hB [3] rfl rfl rfl rfl
      generalize H1 = H at hP hS ⊢
      refine lv_iload_n hx hb dX7_setTile_50 rfl (lv_at hl 0 rfl) ?_
      obtain rfl := Option.some.inj hq
      rw [hQ]
      exact W.iret hx hb hr (fun t ht hW => ⟨⟨_, (), rfl, rfl, va_Pat ht hP⟩, hS.F ht⟩) hS.2.2 dX7_setTile_51
    · have hq := k_f c_12 hq
      cases hq

def kX7_setWall_j51 (F : Nat) (bn : Int32) (bN : Nat → Int32) (bW : Nat → Int32) (x1 : Int32) (x2 : Int32) (x3 : Int32) (v5 : Int32) : Option (Int32 × (Nat → Int32)) :=
  ((kX0_putWall F bn bN bW x1 x2 x3).bind fun q6 => (if isZ v5 = true then some (v5, q6) else none))
def kX7_setWall (F : Nat) (bn : Int32) (bN : Nat → Int32) (bW : Nat → Int32) (x1 : Int32) (x2 : Int32) (x3 : Int32) : Option (Int32 × (Nat → Int32)) :=
  ((kX7_requireCell F bn x1).bind fun q1 => ((kX7_requireSide F x2).bind fun q2 => ((kX0_beside F bN x1 x2).bind fun q3 => (if q3 = (-1) then none else ((kX0_across F bW x1 x2).bind fun q4 => (if q4 = (-1) then kX7_setWall_j51 F bn bN bW x1 x2 x3 1 else kX7_setWall_j51 F bn bN bW x1 x2 x3 0))))))
abbrev rmX7_setWall : Room := { frames := 2, cells := 0, slots := 0, locals := 47 }
set_option maxHeartbeats 40000000 in
set_option maxRecDepth 100000 in
theorem tX7_setWall (G : GG) (l : Launch) {qX qB qH qK qV qS qW qBT qBC qBN qBW qBL : Nat} {bn : Int32} {bk : Int32} {bs : Int32} {bN : Nat → Int32} {bW : Nat → Int32} {x1 : Int32} {x2 : Int32} {x3 : Int32} {sz : Nat} {F : Nat} {r : Int32 × (Nat → Int32)} (hq : kX7_setWall F bn bN bW x1 x2 x3 = some r) : Met l yX7_setWall wsX7_setWall rmX7_setWall (pcW G [(qX, .inr (7, [.ref qB, .ref qH, .ref qK, .ref qV, .ref qS, .ref qW])), (qB, .inr (0, [.ref qBT, .ref qBC, .ref qBN, .ref qBW, .ref qBL, .int bn, .int bk, .int bs])), (qBN, .inl (G.2.1, 64, .inl bN)), (qBW, .inl (G.2.1, 64, .inl bW))] sz [.ref qX, .int x1, .int x2, .int x3]) (qcI G r.1 [(qX, .inr (7, [.ref qB, .ref qH, .ref qK, .ref qV, .ref qS, .ref qW])), (qB, .inr (0, [.ref qBT, .ref qBC, .ref qBN, .ref qBW, .ref qBL, .int bn, .int bk, .int bs])), (qBN, .inl (G.2.1, 64, .inl bN)), (qBW, .inl (G.2.1, 64, .inl r.2))] (va_A [(qX, .inr (7, [.ref qB, .ref qH, .ref qK, .ref qV, .ref qS, .ref qW])), (qB, .inr (0, [.ref qBT, .ref qBC, .ref qBN, .ref qBW, .ref qBL, .int bn, .int bk, .int bs])), (qBN, .inl (G.2.1, 64, .inl bN)), (qBW, .inl (G.2.1, 64, .inl bW))] sz)) 0 0 (va_A [(qX, .inr (7, [.ref qB, .ref qH, .ref qK, .ref qV, .ref qS, .ref qW])), (qB, .inr (0, [.ref qBT, .ref qBC, .ref qBN, .ref qBW, .ref qBL, .int bn, .int bk, .int bs])), (qBN, .inl (G.2.1, 64, .inl bN)), (qBW, .inl (G.2.1, 64, .inl bW))] sz) := by
  refine Met.ofW (cc := cX7_setWall) (maxL := 5) (ret := (some .boolean)) (by decide) rfl ?_
  intro p e s m args below meth c s₁ B hml hv
  obtain ⟨rfl, hsz, hP, hKK, hD0⟩ := hv
  have hK := hKK.1
  have hx := B.exec
  have hb := B.bytes
  have hr := B.returns
  have hts := atoms_spec (ws := wsX7_setWall) B.pre
  have hown : s.vm.findClass RX7 = some m.cls := findClass_of_methodNamed B.named
  have hlocks := B.notSynchronized
  subst hsz
  have hD := hD0.self (sz := s.heap.size)
  generalize hAe : va_A [(qX, .inr (7, [.ref qB, .ref qH, .ref qK, .ref qV, .ref qS, .ref qW])), (qB, .inr (0, [.ref qBT, .ref qBC, .ref qBN, .ref qBW, .ref qBL, .int bn, .int bk, .int bs])), (qBN, .inl (G.2.1, 64, .inl bN)), (qBW, .inl (G.2.1, 64, .inl bW))] s.heap.size = A at hD ⊢
  have hA : ∀ q : Nat, s.heap.size ≤ q → A q := fun q h => by rw [← hAe]; exact Or.inr h
  have hS : va_S A s.heap s.heap [] := va_S.rf
  have hl := lv_entry ([.ref qX, .int x1, .int x2, .int x3] : List Value) (n := 5) (Nat.le_of_ble_eq_true rfl)
  rw [lg_entry_eq]
  generalize (lg_sl ([.ref qX, .int x1, .int x2, .int x3] : List Value) ++ List.replicate (5 - (lg_sl ([.ref qX, .int x1, .int x2, .int x3] : List Value)).length) Slot.unset).toArray = ls at hl ⊢
  have hl : lv_has ls 5 [(0, .ref qX), (1, .int x1), (2, .int x2), (3, .int x3)] := hl
  have hi7 : ∀ w ∈ u_ws RX7 TX7 6, w ∈ wsX7_setWall := by decide +kernel
  have hw0 : (Cond.fieldLink RX7 10 "NetPlumber" "board" "LNetPlumber$Board;").before #[Value.ref qX, Value.int x1, Value.int x2, Value.int x3] s = true := hts _ (by decide +kernel)
  refine wq (fun Q hQ => ?_)
  unfold kX7_setWall at hq
  refine lv_aload_n hx hb dX7_setWall_0 rfl (lv_at hl 0 rfl) ?_
  refine lv_iload_n hx hb dX7_setWall_1 rfl (lv_at hl 1 rfl) ?_
  obtain ⟨q1, eq1, hq⟩ := ob hq
  have hPc := hP.sub (ws' := [(qX, .inr (7, [.ref qB, .ref qH, .ref qK, .ref qV, .ref qS, .ref qW])), (qB, .inr (0, [.ref qBT, .ref qBC, .ref qBN, .ref qBW, .ref qBL, .int bn, .int bk, .int bs]))]) [0, 1] rfl
  have hKc := hK
  have hDc := hD.sub (ws' := [(qX, .inr (7, [.ref qB, .ref qH, .ref qK, .ref qV, .ref qS, .ref qW])), (qB, .inr (0, [.ref qBT, .ref qBC, .ref qBN, .ref qBW, .ref qBL, .int bn, .int bk, .int bs]))]) [0, 1] (by decide) rfl
  have hFc := va_free (wc := [(qX, .inr (7, [.ref qB, .ref qH, .ref qK, .ref qV, .ref qS, .ref qW])), (qB, .inr (0, [.ref qBT, .ref qBC, .ref qBN, .ref qBW, .ref qBL, .int bn, .int bk, .int bs]))]) hD hS hA [0, 1] rfl
  refine va_callv (va_runV (As := [.int x1]) (rest := []) ⟨hx, hb, hml, hown, hts⟩ (tX7_requireCell G l eq1) (cwV 1 hts gX7_setWall_X7_requireCell rfl rfl rfl (by decide +kernel) ⟨Nat.le_of_ble_eq_true rfl, Nat.le_of_ble_eq_true rfl⟩) ⟨pcW_blind, va_recv hKc hPc (ci := 7) (q0 := 0) rfl rfl, pcW_pre hPc hKK hDc⟩ rfl rfl hl.1 rfl (lv_room (Nat.le_of_ble_eq_true rfl)) dX7_setWall_2 ⟨Nat.zero_le _, Nat.zero_le _⟩) hS (fun q _ h => hFc q h) hFc (fun u t H1 locs ht hvm hw hB hz1 hk1 hS => ?_)
  have hB := va_Pto ht hB
  obtain ⟨hP, hD⟩ := jn (ws' := [(qX, .inr (7, [.ref qB, .ref qH, .ref qK, .ref qV, .ref qS, .ref qW])), (qB, .inr (0, [.ref qBT, .ref qBC, .ref qBN, .ref qBW, .ref qBL, .int bn, .int bk, .int bs])), (qBN, .inl (G.2.1, 64, .inl bN)), (qBW, .inl (G.2.1, 64, .inl bW))]) hP hD hk1 hB [0, 1] rfl rfl rfl rfl
  generalize H1 = H at hP hS ⊢
  refine lv_aload_n hx hb dX7_setWall_5 rfl (lv_at hl 0 rfl) ?_
  refine lv_iload_n hx hb dX7_setWall_6 rfl (lv_at hl 2 rfl) ?_
  obtain ⟨q2, eq2, hq⟩ := ob hq
  have hPc := hP.sub (ws' := [(qX, .inr (7, [.ref qB, .ref qH, .ref qK, .ref qV, .ref qS, .ref qW]))]) [0] rfl
  have hKc := hK
  have hDc := hD.sub (ws' := [(qX, .inr (7, [.ref qB, .ref qH, .ref qK, .ref qV, .ref qS, .ref qW]))]) [0] (by decide) rfl
  have hFc := va_free (wc := [(qX, .inr (7, [.ref qB, .ref qH, .ref qK, .ref qV, .ref qS, .ref qW]))]) hD hS hA [0] rfl
  refine va_callv (va_runV (As := [.int x2]) (rest := []) ⟨hx, hb, hml, hown, hts⟩ (tX7_requireSide G l eq2) (cwV 1 hts gX7_setWall_X7_requireSide rfl rfl rfl (by decide +kernel) ⟨Nat.le_of_ble_eq_true rfl, Nat.le_of_ble_eq_true rfl⟩) ⟨pcW_blind, va_recv hKc hPc (ci := 7) (q0 := 0) rfl rfl, pcW_pre hPc hKK hDc⟩ rfl rfl hl.1 rfl (lv_room (Nat.le_of_ble_eq_true rfl)) dX7_setWall_7 ⟨Nat.zero_le _, Nat.zero_le _⟩) hS (fun q _ h => hFc q h) hFc (fun u t H1 locs ht hvm hw hB hz1 hk1 hS => ?_)
  have hB := va_Pto ht hB
  obtain ⟨hP, hD⟩ := jn (ws' := [(qX, .inr (7, [.ref qB, .ref qH, .ref qK, .ref qV, .ref qS, .ref qW])), (qB, .inr (0, [.ref qBT, .ref qBC, .ref qBN, .ref qBW, .ref qBL, .int bn, .int bk, .int bs])), (qBN, .inl (G.2.1, 64, .inl bN)), (qBW, .inl (G.2.1, 64, .inl bW))]) hP hD hk1 hB [0] rfl rfl rfl rfl
  generalize H1 = H at hP hS ⊢
  refine lv_aload_n hx hb dX7_setWall_10 rfl (lv_at hl 0 rfl) ?_
  refine va_get (D := G.1) (ci := 7) (v := .ref qB) (C := RX7) (T := TX7) (N := 6) hx hb hts hi7 hown hK hP 0 rfl rfl 0 (by decide) hw0 (fun _ h9 => h9) rfl dX7_setWall_11 ?_
  refine lv_iload_n hx hb dX7_setWall_14 rfl (lv_at hl 1 rfl) ?_
  refine lv_iload_n hx hb dX7_setWall_15 rfl (lv_at hl 2 rfl) ?_
  obtain ⟨q3, eq3, hq⟩ := ob hq
  have hPc := hP.sub (ws' := [(qB, .inr (0, [.ref qBT, .ref qBC, .ref qBN, .ref qBW, .ref qBL, .int bn, .int bk, .int bs])), (qBN, .inl (G.2.1, 64, .inl bN))]) [1, 2] rfl
  have hKc := hK
  refine vp_callSi (va_Run.run (va_runV (As := [.int x1, .int x2]) (rest := []) ⟨hx, hb, hml, hown, hts⟩ (tX0_beside G l eq3) (cwV 2 hts gX7_setWall_X0_beside rfl rfl rfl (by decide +kernel) ⟨Nat.le_of_ble_eq_true rfl, Nat.le_of_ble_eq_true rfl⟩) ⟨pcP_blind, va_recv hKc hPc (ci := 0) (q0 := 0) rfl rfl, pcP_pre hPc hKK⟩ rfl rfl hl.1 rfl (lv_room (Nat.le_of_ble_eq_true rfl)) dX7_setWall_16 ⟨Nat.zero_le _, Nat.zero_le _⟩)) (fun r0 hr0 => ?_)
  obtain rfl := hr0
  refine lv_iconst (v := (-1)) hx hb dX7_setWall_19 (by decide) ?_
  refine lv_icmp_ne (tgt := 33) hx hb dX7_setWall_20 (by decide) (fun c_20 => ?_) (fun c_20 => ?_)
  · have hq := k_f c_20 hq
    refine lv_aload_n hx hb dX7_setWall_33 rfl (lv_at hl 0 rfl) ?_
    refine va_get (D := G.1) (ci := 7) (v := .ref qB) (C := RX7) (T := TX7) (N := 6) hx hb hts hi7 hown hK hP 0 rfl rfl 0 (by decide) hw0 (fun _ h9 => h9) rfl dX7_setWall_34 ?_
    refine lv_iload_n hx hb dX7_setWall_37 rfl (lv_at hl 1 rfl) ?_
    refine lv_iload_n hx hb dX7_setWall_38 rfl (lv_at hl 2 rfl) ?_
    obtain ⟨q4, eq4, hq⟩ := ob hq
    have hPc := hP.sub (ws' := [(qB, .inr (0, [.ref qBT, .ref qBC, .ref qBN, .ref qBW, .ref qBL, .int bn, .int bk, .int bs])), (qBW, .inl (G.2.1, 64, .inl bW))]) [1, 3] rfl
    have hKc := hK
    refine vp_callSi (va_Run.run (va_runV (As := [.int x1, .int x2]) (rest := []) ⟨hx, hb, hml, hown, hts⟩ (tX0_across G l eq4) (cwV 2 hts gX7_setWall_X0_across rfl rfl rfl (by decide +kernel) ⟨Nat.le_of_ble_eq_true rfl, Nat.le_of_ble_eq_true rfl⟩) ⟨pcP_blind, va_recv hKc hPc (ci := 0) (q0 := 0) rfl rfl, pcP_pre hPc hKK⟩ rfl rfl hl.1 rfl (lv_room (Nat.le_of_ble_eq_true rfl)) dX7_setWall_39 ⟨Nat.zero_le _, Nat.zero_le _⟩)) (fun r0 hr0 => ?_)
    obtain rfl := hr0
    refine lv_iconst (v := (-1)) hx hb dX7_setWall_42 (by decide) ?_
    have J51 : ∀ (v5 : Int32) (ls : Array Slot) (H : Heap) (locs : List Loc), kX7_setWall_j51 F bn bN bW x1 x2 x3 v5 = some r → lv_has ls 5 [(0, .ref qX), (1, .int x1), (2, .int x2), (3, .int x3)] → va_P G.1 vwCl [(qX, .inr (7, [.ref qB, .ref qH, .ref qK, .ref qV, .ref qS, .ref qW])), (qB, .inr (0, [.ref qBT, .ref qBC, .ref qBN, .ref qBW, .ref qBL, .int bn, .int bk, .int bs])), (qBN, .inl (G.2.1, 64, .inl bN)), (qBW, .inl (G.2.1, 64, .inl bW))] H → va_D A [(qX, .inr (7, [.ref qB, .ref qH, .ref qK, .ref qV, .ref qS, .ref qW])), (qB, .inr (0, [.ref qBT, .ref qBC, .ref qBN, .ref qBW, .ref qBL, .int bn, .int bk, .int bs])), (qBN, .inl (G.2.1, 64, .inl bN)), (qBW, .inl (G.2.1, 64, .inl bW))] → va_S A s.heap H locs → W p l e (headSpec wsX7_setWall rmX7_setWall).room s m ([.ref qX, .int x1, .int x2, .int x3] : List Value).toArray below meth c H locs 0 0 Q (F0 m 51 ls [.int v5]) := by
      intro v5 ls H locs hq hl hP hD hS
      unfold kX7_setWall_j51 at hq
      refine lv_istore (lv' := [(4, .int v5), (0, .ref qX), (1, .int x1), (2, .int x2), (3, .int x3)]) hx hb dX7_setWall_51 hl (by decide) rfl (fun ls hl => ?_)
      refine lv_aload_n hx hb dX7_setWall_53 rfl (lv_at hl 1 rfl) ?_
      refine va_get (D := G.1) (ci := 7) (v := .ref qB) (C := RX7) (T := TX7) (N := 6) hx hb hts hi7 hown hK hP 0 rfl rfl 0 (by decide) hw0 (fun _ h9 => h9) rfl dX7_setWall_54 ?_
      refine lv_iload_n hx hb dX7_setWall_57 rfl (lv_at hl 2 rfl) ?_
      refine lv_iload_n hx hb dX7_setWall_58 rfl (lv_at hl 3 rfl) ?_
      refine lv_iload_n hx hb dX7_setWall_59 rfl (lv_at hl 4 rfl) ?_
      obtain ⟨q6, eq6, hq⟩ := ob hq
      have hPc := hP.sub (ws' := [(qB, .inr (0, [.ref qBT, .ref qBC, .ref qBN, .ref qBW, .ref qBL, .int bn, .int bk, .int bs])), (qBN, .inl (G.2.1, 64, .inl bN)), (qBW, .inl (G.2.1, 64, .inl bW))]) [1, 2, 3] rfl
      have hKc := hK
      have hDc := hD.sub (ws' := [(qB, .inr (0, [.ref qBT, .ref qBC, .ref qBN, .ref qBW, .ref qBL, .int bn, .int bk, .int bs])), (qBN, .inl (G.2.1, 64, .inl bN)), (qBW, .inl (G.2.1, 64, .inl bW))]) [1, 2, 3] (by decide) rfl
      have hFc := va_free (wc := [(qB, .inr (0, [.ref qBT, .ref qBC, .ref qBN, .ref qBW, .ref qBL, .int bn, .int bk, .int bs])), (qBN, .inl (G.2.1, 64, .inl bN)), (qBW, .inl (G.2.1, 64, .inl bW))]) hD hS hA [1, 2, 3] rfl
      refine va_callv (va_runV (As := [.int x1, .int x2, .int x3]) (rest := []) ⟨hx, hb, hml, hown, hts⟩ (tX0_putWall G l eq6) (cwV 3 hts gX7_setWall_X0_putWall rfl rfl rfl (by decide +kernel) ⟨Nat.le_of_ble_eq_true rfl, Nat.le_of_ble_eq_true rfl⟩) ⟨pcW_blind, va_recv hKc hPc (ci := 0) (q0 := 0) rfl rfl, pcW_pre hPc hKK hDc⟩ rfl rfl hl.1 rfl (lv_room (Nat.le_of_ble_eq_true rfl)) dX7_setWall_60 ⟨Nat.zero_le _, Nat.zero_le _⟩) hS (fun q _ h => hFc q h) hFc (fun u t H1 locs ht hvm hw hB hz1 hk1 hS => ?_)
      have hB := va_Pto ht hB
      obtain ⟨hP, hD⟩ := jn (ws' := [(qX, .inr (7, [.ref qB, .ref qH, .ref qK, .ref qV, .ref qS, .ref qW])), (qB, .inr (0, [.ref qBT, .ref qBC, .ref qBN, .ref qBW, .ref qBL, .int bn, .int bk, .int bs])), (qBN, .inl (G.2.1, 64, .inl bN)), (qBW, .inl (G.2.1, 64, .inl q6))]) hP hD hk1 hB [1, 2, 3] rfl rfl rfl rfl
      generalize H1 = H at hP hS ⊢
      refine lv_iload hx hb dX7_setWall_63 (lv_at hl 0 rfl) ?_
      obtain ⟨hg, hq⟩ := k_g hq
      obtain rfl := Option.some.inj hq
      rw [hQ]
      exact W.zret hx hb hr (isZ_n hg) (fun t ht hW => ⟨⟨_, (), rfl, rfl, va_Pat ht hP⟩, hS.F ht⟩) hS.2.2 dX7_setWall_65
    refine lv_icmp_ne (tgt := 50) hx hb dX7_setWall_43 (by decide) (fun c_43 => ?_) (fun c_43 => ?_)
    · have hq := k_f c_43 hq
      refine lv_iconst (v := 0) hx hb dX7_setWall_50 (by decide) ?_
      exact J51 0 ls _ _ hq (lv_sub hl [0, 1, 2, 3] rfl) hP hD hS
    · have hq := k_t c_43 hq
      refine lv_iconst (v := 1) hx hb dX7_setWall_46 (by decide) ?_
      refine lv_goto (tgt := 51) hx hb dX7_setWall_47 (by decide) ?_
      exact J51 1 ls _ _ hq (lv_sub hl [0, 1, 2, 3] rfl) hP hD hS
  · have hq := k_t c_20 hq
    cases hq

def kX7_setLock (F : Nat) (bn : Int32) (bk : Int32) (x1 : Int32) (x2 : Int32) : Option (Int32 × Int32) :=
  ((kX7_requireCell F bn x1).bind fun q1 => ((kX0_hasLock F bk x1).bind fun q2 => ((kX0_putLock F bk x1 x2).bind fun q3 => (if isZ q2 = true then some (q2, q3) else none))))
abbrev rmX7_setLock : Room := { frames := 2, cells := 0, slots := 0, locals := 42 }
set_option maxHeartbeats 40000000 in
set_option maxRecDepth 100000 in
theorem tX7_setLock (G : GG) (l : Launch) {qX qB qH qK qV qS qW qBT qBC qBN qBW qBL : Nat} {bn : Int32} {bk : Int32} {bs : Int32} {x1 : Int32} {x2 : Int32} {sz : Nat} {F : Nat} {r : Int32 × Int32} (hq : kX7_setLock F bn bk x1 x2 = some r) : Met l yX7_setLock wsX7_setLock rmX7_setLock (pcW G [(qX, .inr (7, [.ref qB, .ref qH, .ref qK, .ref qV, .ref qS, .ref qW])), (qB, .inr (0, [.ref qBT, .ref qBC, .ref qBN, .ref qBW, .ref qBL, .int bn, .int bk, .int bs]))] sz [.ref qX, .int x1, .int x2]) (qcI G r.1 [(qX, .inr (7, [.ref qB, .ref qH, .ref qK, .ref qV, .ref qS, .ref qW])), (qB, .inr (0, [.ref qBT, .ref qBC, .ref qBN, .ref qBW, .ref qBL, .int bn, .int r.2, .int bs]))] (va_A [(qX, .inr (7, [.ref qB, .ref qH, .ref qK, .ref qV, .ref qS, .ref qW])), (qB, .inr (0, [.ref qBT, .ref qBC, .ref qBN, .ref qBW, .ref qBL, .int bn, .int bk, .int bs]))] sz)) 0 0 (va_A [(qX, .inr (7, [.ref qB, .ref qH, .ref qK, .ref qV, .ref qS, .ref qW])), (qB, .inr (0, [.ref qBT, .ref qBC, .ref qBN, .ref qBW, .ref qBL, .int bn, .int bk, .int bs]))] sz) := by
  refine Met.ofW (cc := cX7_setLock) (maxL := 4) (ret := (some .boolean)) (by decide) rfl ?_
  intro p e s m args below meth c s₁ B hml hv
  obtain ⟨rfl, hsz, hP, hKK, hD0⟩ := hv
  have hK := hKK.1
  have hx := B.exec
  have hb := B.bytes
  have hr := B.returns
  have hts := atoms_spec (ws := wsX7_setLock) B.pre
  have hown : s.vm.findClass RX7 = some m.cls := findClass_of_methodNamed B.named
  have hlocks := B.notSynchronized
  subst hsz
  have hD := hD0.self (sz := s.heap.size)
  generalize hAe : va_A [(qX, .inr (7, [.ref qB, .ref qH, .ref qK, .ref qV, .ref qS, .ref qW])), (qB, .inr (0, [.ref qBT, .ref qBC, .ref qBN, .ref qBW, .ref qBL, .int bn, .int bk, .int bs]))] s.heap.size = A at hD ⊢
  have hA : ∀ q : Nat, s.heap.size ≤ q → A q := fun q h => by rw [← hAe]; exact Or.inr h
  have hS : va_S A s.heap s.heap [] := va_S.rf
  have hl := lv_entry ([.ref qX, .int x1, .int x2] : List Value) (n := 4) (Nat.le_of_ble_eq_true rfl)
  rw [lg_entry_eq]
  generalize (lg_sl ([.ref qX, .int x1, .int x2] : List Value) ++ List.replicate (4 - (lg_sl ([.ref qX, .int x1, .int x2] : List Value)).length) Slot.unset).toArray = ls at hl ⊢
  have hl : lv_has ls 4 [(0, .ref qX), (1, .int x1), (2, .int x2)] := hl
  have hi7 : ∀ w ∈ u_ws RX7 TX7 6, w ∈ wsX7_setLock := by decide +kernel
  have hw0 : (Cond.fieldLink RX7 10 "NetPlumber" "board" "LNetPlumber$Board;").before #[Value.ref qX, Value.int x1, Value.int x2] s = true := hts _ (by decide +kernel)
  refine wq (fun Q hQ => ?_)
  unfold kX7_setLock at hq
  refine lv_aload_n hx hb dX7_setLock_0 rfl (lv_at hl 0 rfl) ?_
  refine lv_iload_n hx hb dX7_setLock_1 rfl (lv_at hl 1 rfl) ?_
  obtain ⟨q1, eq1, hq⟩ := ob hq
  have hPc := hP.sub (ws' := [(qX, .inr (7, [.ref qB, .ref qH, .ref qK, .ref qV, .ref qS, .ref qW])), (qB, .inr (0, [.ref qBT, .ref qBC, .ref qBN, .ref qBW, .ref qBL, .int bn, .int bk, .int bs]))]) [0, 1] rfl
  have hKc := hK
  have hDc := hD.sub (ws' := [(qX, .inr (7, [.ref qB, .ref qH, .ref qK, .ref qV, .ref qS, .ref qW])), (qB, .inr (0, [.ref qBT, .ref qBC, .ref qBN, .ref qBW, .ref qBL, .int bn, .int bk, .int bs]))]) [0, 1] (by decide) rfl
  have hFc := va_free (wc := [(qX, .inr (7, [.ref qB, .ref qH, .ref qK, .ref qV, .ref qS, .ref qW])), (qB, .inr (0, [.ref qBT, .ref qBC, .ref qBN, .ref qBW, .ref qBL, .int bn, .int bk, .int bs]))]) hD hS hA [0, 1] rfl
  refine va_callv (va_runV (As := [.int x1]) (rest := []) ⟨hx, hb, hml, hown, hts⟩ (tX7_requireCell G l eq1) (cwV 1 hts gX7_setLock_X7_requireCell rfl rfl rfl (by decide +kernel) ⟨Nat.le_of_ble_eq_true rfl, Nat.le_of_ble_eq_true rfl⟩) ⟨pcW_blind, va_recv hKc hPc (ci := 7) (q0 := 0) rfl rfl, pcW_pre hPc hKK hDc⟩ rfl rfl hl.1 rfl (lv_room (Nat.le_of_ble_eq_true rfl)) dX7_setLock_2 ⟨Nat.zero_le _, Nat.zero_le _⟩) hS (fun q _ h => hFc q h) hFc (fun u t H1 locs ht hvm hw hB hz1 hk1 hS => ?_)
  have hB := va_Pto ht hB
  obtain ⟨hP, hD⟩ := jn (ws' := [(qX, .inr (7, [.ref qB, .ref qH, .ref qK, .ref qV, .ref qS, .ref qW])), (qB, .inr (0, [.ref qBT, .ref qBC, .ref qBN, .ref qBW, .ref qBL, .int bn, .int bk, .int bs]))]) hP hD hk1 hB [0, 1] rfl rfl rfl rfl
  generalize H1 = H at hP hS ⊢
  refine lv_aload_n hx hb dX7_setLock_5 rfl (lv_at hl 0 rfl) ?_
  refine va_get (D := G.1) (ci := 7) (v := .ref qB) (C := RX7) (T := TX7) (N := 6) hx hb hts hi7 hown hK hP 0 rfl rfl 0 (by decide) hw0 (fun _ h9 => h9) rfl dX7_setLock_6 ?_
  refine lv_iload_n hx hb dX7_setLock_9 rfl (lv_at hl 1 rfl) ?_
  obtain ⟨q2, eq2, hq⟩ := ob hq
  have hPc := hP.sub (ws' := [(qB, .inr (0, [.ref qBT, .ref qBC, .ref qBN, .ref qBW, .ref qBL, .int bn, .int bk, .int bs]))]) [1] rfl
  have hKc := hK
  refine vp_callSi (va_Run.run (va_runV (As := [.int x1]) (rest := []) ⟨hx, hb, hml, hown, hts⟩ (tX0_hasLock G l eq2) (cwV 1 hts gX7_setLock_X0_hasLock rfl rfl rfl (by decide +kernel) ⟨Nat.le_of_ble_eq_true rfl, Nat.le_of_ble_eq_true rfl⟩) ⟨pcP_blind, va_recv hKc hPc (ci := 0) (q0 := 0) rfl rfl, pcP_pre hPc hKK⟩ rfl rfl hl.1 rfl (lv_room (Nat.le_of_ble_eq_true rfl)) dX7_setLock_10 ⟨Nat.zero_le _, Nat.zero_le _⟩)) (fun r0 hr0 => ?_)
  obtain rfl := hr0
  refine lv_istore_n (lv' := [(3, .int q2), (0, .ref qX), (1, .int x1), (2, .int x2)]) hx hb dX7_setLock_13 rfl hl (by decide) rfl (fun ls hl => ?_)
  refine lv_aload_n hx hb dX7_setLock_14 rfl (lv_at hl 1 rfl) ?_
  refine va_get (D := G.1) (ci := 7) (v := .ref qB) (C := RX7) (T := TX7) (N := 6) hx hb hts hi7 hown hK hP 0 rfl rfl 0 (by decide) hw0 (fun _ h9 => h9) rfl dX7_setLock_15 ?_
  refine lv_iload_n hx hb dX7_setLock_18 rfl (lv_at hl 2 rfl) ?_
  refine lv_iload_n hx hb dX7_setLock_19 rfl (lv_at hl 3 rfl) ?_
  obtain ⟨q3, eq3, hq⟩ := ob hq
  have hPc := hP.sub (ws' := [(qB, .inr (0, [.ref qBT, .ref qBC, .ref qBN, .ref qBW, .ref qBL, .int bn, .int bk, .int bs]))]) [1] rfl
  have hKc := hK
  have hDc := hD.sub (ws' := [(qB, .inr (0, [.ref qBT, .ref qBC, .ref qBN, .ref qBW, .ref qBL, .int bn, .int bk, .int bs]))]) [1] (by decide) rfl
  have hFc := va_free (wc := [(qB, .inr (0, [.ref qBT, .ref qBC, .ref qBN, .ref qBW, .ref qBL, .int bn, .int bk, .int bs]))]) hD hS hA [1] rfl
  refine va_callv (va_runV (As := [.int x1, .int x2]) (rest := []) ⟨hx, hb, hml, hown, hts⟩ (tX0_putLock G l eq3) (cwV 2 hts gX7_setLock_X0_putLock rfl rfl rfl (by decide +kernel) ⟨Nat.le_of_ble_eq_true rfl, Nat.le_of_ble_eq_true rfl⟩) ⟨pcW_blind, va_recv hKc hPc (ci := 0) (q0 := 0) rfl rfl, pcW_pre hPc hKK hDc⟩ rfl rfl hl.1 rfl (lv_room (Nat.le_of_ble_eq_true rfl)) dX7_setLock_20 ⟨Nat.zero_le _, Nat.zero_le _⟩) hS (fun q _ h => hFc q h) hFc (fun u t H1 locs ht hvm hw hB hz1 hk1 hS => ?_)
  have hB := va_Pto ht hB
  obtain ⟨hP, hD⟩ := jn (ws' := [(qX, .inr (7, [.ref qB, .ref qH, .ref qK, .ref qV, .ref qS, .ref qW])), (qB, .inr (0, [.ref qBT, .ref qBC, .ref qBN, .ref qBW, .ref qBL, .int bn, .int q3, .int bs]))]) hP hD hk1 hB [1] rfl rfl rfl rfl
  generalize H1 = H at hP hS ⊢
  refine lv_iload_n hx hb dX7_setLock_23 rfl (lv_at hl 0 rfl) ?_
  obtain ⟨hg, hq⟩ := k_g hq
  obtain rfl := Option.some.inj hq
  rw [hQ]
  exact W.zret hx hb hr (isZ_n hg) (fun t ht hW => ⟨⟨_, (), rfl, rfl, va_Pat ht hP⟩, hS.F ht⟩) hS.2.2 dX7_setLock_24

def kX7_setSource (F : Nat) (bn : Int32) (bs : Int32) (x1 : Int32) : Option (Int32 × Int32) :=
  ((kX7_requireCell F bn x1).bind fun q1 => ((kX0_source F bs).bind fun q2 => ((kX0_putSource F bs x1).bind fun q3 => some (q2, q3))))
abbrev rmX7_setSource : Room := { frames := 2, cells := 0, slots := 0, locals := 42 }
set_option maxHeartbeats 40000000 in
set_option maxRecDepth 100000 in
theorem tX7_setSource (G : GG) (l : Launch) {qX qB qH qK qV qS qW qBT qBC qBN qBW qBL : Nat} {bn : Int32} {bk : Int32} {bs : Int32} {x1 : Int32} {sz : Nat} {F : Nat} {r : Int32 × Int32} (hq : kX7_setSource F bn bs x1 = some r) : Met l yX7_setSource wsX7_setSource rmX7_setSource (pcW G [(qX, .inr (7, [.ref qB, .ref qH, .ref qK, .ref qV, .ref qS, .ref qW])), (qB, .inr (0, [.ref qBT, .ref qBC, .ref qBN, .ref qBW, .ref qBL, .int bn, .int bk, .int bs]))] sz [.ref qX, .int x1]) (qcI G r.1 [(qX, .inr (7, [.ref qB, .ref qH, .ref qK, .ref qV, .ref qS, .ref qW])), (qB, .inr (0, [.ref qBT, .ref qBC, .ref qBN, .ref qBW, .ref qBL, .int bn, .int bk, .int r.2]))] (va_A [(qX, .inr (7, [.ref qB, .ref qH, .ref qK, .ref qV, .ref qS, .ref qW])), (qB, .inr (0, [.ref qBT, .ref qBC, .ref qBN, .ref qBW, .ref qBL, .int bn, .int bk, .int bs]))] sz)) 0 0 (va_A [(qX, .inr (7, [.ref qB, .ref qH, .ref qK, .ref qV, .ref qS, .ref qW])), (qB, .inr (0, [.ref qBT, .ref qBC, .ref qBN, .ref qBW, .ref qBL, .int bn, .int bk, .int bs]))] sz) := by
  refine Met.ofW (cc := cX7_setSource) (maxL := 3) (ret := (some .int)) (by decide) rfl ?_
  intro p e s m args below meth c s₁ B hml hv
  obtain ⟨rfl, hsz, hP, hKK, hD0⟩ := hv
  have hK := hKK.1
  have hx := B.exec
  have hb := B.bytes
  have hr := B.returns
  have hts := atoms_spec (ws := wsX7_setSource) B.pre
  have hown : s.vm.findClass RX7 = some m.cls := findClass_of_methodNamed B.named
  have hlocks := B.notSynchronized
  subst hsz
  have hD := hD0.self (sz := s.heap.size)
  generalize hAe : va_A [(qX, .inr (7, [.ref qB, .ref qH, .ref qK, .ref qV, .ref qS, .ref qW])), (qB, .inr (0, [.ref qBT, .ref qBC, .ref qBN, .ref qBW, .ref qBL, .int bn, .int bk, .int bs]))] s.heap.size = A at hD ⊢
  have hA : ∀ q : Nat, s.heap.size ≤ q → A q := fun q h => by rw [← hAe]; exact Or.inr h
  have hS : va_S A s.heap s.heap [] := va_S.rf
  have hl := lv_entry ([.ref qX, .int x1] : List Value) (n := 3) (Nat.le_of_ble_eq_true rfl)
  rw [lg_entry_eq]
  generalize (lg_sl ([.ref qX, .int x1] : List Value) ++ List.replicate (3 - (lg_sl ([.ref qX, .int x1] : List Value)).length) Slot.unset).toArray = ls at hl ⊢
  have hl : lv_has ls 3 [(0, .ref qX), (1, .int x1)] := hl
  have hi7 : ∀ w ∈ u_ws RX7 TX7 6, w ∈ wsX7_setSource := by decide +kernel
  have hw0 : (Cond.fieldLink RX7 10 "NetPlumber" "board" "LNetPlumber$Board;").before #[Value.ref qX, Value.int x1] s = true := hts _ (by decide +kernel)
  refine wq (fun Q hQ => ?_)
  unfold kX7_setSource at hq
  refine lv_aload_n hx hb dX7_setSource_0 rfl (lv_at hl 0 rfl) ?_
  refine lv_iload_n hx hb dX7_setSource_1 rfl (lv_at hl 1 rfl) ?_
  obtain ⟨q1, eq1, hq⟩ := ob hq
  have hPc := hP.sub (ws' := [(qX, .inr (7, [.ref qB, .ref qH, .ref qK, .ref qV, .ref qS, .ref qW])), (qB, .inr (0, [.ref qBT, .ref qBC, .ref qBN, .ref qBW, .ref qBL, .int bn, .int bk, .int bs]))]) [0, 1] rfl
  have hKc := hK
  have hDc := hD.sub (ws' := [(qX, .inr (7, [.ref qB, .ref qH, .ref qK, .ref qV, .ref qS, .ref qW])), (qB, .inr (0, [.ref qBT, .ref qBC, .ref qBN, .ref qBW, .ref qBL, .int bn, .int bk, .int bs]))]) [0, 1] (by decide) rfl
  have hFc := va_free (wc := [(qX, .inr (7, [.ref qB, .ref qH, .ref qK, .ref qV, .ref qS, .ref qW])), (qB, .inr (0, [.ref qBT, .ref qBC, .ref qBN, .ref qBW, .ref qBL, .int bn, .int bk, .int bs]))]) hD hS hA [0, 1] rfl
  refine va_callv (va_runV (As := [.int x1]) (rest := []) ⟨hx, hb, hml, hown, hts⟩ (tX7_requireCell G l eq1) (cwV 1 hts gX7_setSource_X7_requireCell rfl rfl rfl (by decide +kernel) ⟨Nat.le_of_ble_eq_true rfl, Nat.le_of_ble_eq_true rfl⟩) ⟨pcW_blind, va_recv hKc hPc (ci := 7) (q0 := 0) rfl rfl, pcW_pre hPc hKK hDc⟩ rfl rfl hl.1 rfl (lv_room (Nat.le_of_ble_eq_true rfl)) dX7_setSource_2 ⟨Nat.zero_le _, Nat.zero_le _⟩) hS (fun q _ h => hFc q h) hFc (fun u t H1 locs ht hvm hw hB hz1 hk1 hS => ?_)
  have hB := va_Pto ht hB
  obtain ⟨hP, hD⟩ := jn (ws' := [(qX, .inr (7, [.ref qB, .ref qH, .ref qK, .ref qV, .ref qS, .ref qW])), (qB, .inr (0, [.ref qBT, .ref qBC, .ref qBN, .ref qBW, .ref qBL, .int bn, .int bk, .int bs]))]) hP hD hk1 hB [0, 1] rfl rfl rfl rfl
  generalize H1 = H at hP hS ⊢
  refine lv_aload_n hx hb dX7_setSource_5 rfl (lv_at hl 0 rfl) ?_
  refine va_get (D := G.1) (ci := 7) (v := .ref qB) (C := RX7) (T := TX7) (N := 6) hx hb hts hi7 hown hK hP 0 rfl rfl 0 (by decide) hw0 (fun _ h9 => h9) rfl dX7_setSource_6 ?_
  obtain ⟨q2, eq2, hq⟩ := ob hq
  have hPc := hP.sub (ws' := [(qB, .inr (0, [.ref qBT, .ref qBC, .ref qBN, .ref qBW, .ref qBL, .int bn, .int bk, .int bs]))]) [1] rfl
  have hKc := hK
  refine vp_callSi (va_Run.run (va_runV (As := []) (rest := []) ⟨hx, hb, hml, hown, hts⟩ (tX0_source G l eq2) (cwV 0 hts gX7_setSource_X0_source rfl rfl rfl (by decide +kernel) ⟨Nat.le_of_ble_eq_true rfl, Nat.le_of_ble_eq_true rfl⟩) ⟨pcP_blind, va_recv hKc hPc (ci := 0) (q0 := 0) rfl rfl, pcP_pre hPc hKK⟩ rfl rfl hl.1 rfl (lv_room (Nat.le_of_ble_eq_true rfl)) dX7_setSource_9 ⟨Nat.zero_le _, Nat.zero_le _⟩)) (fun r0 hr0 => ?_)
  obtain rfl := hr0
  refine lv_istore_n (lv' := [(2, .int q2), (0, .ref qX), (1, .int x1)]) hx hb dX7_setSource_12 rfl hl (by decide) rfl (fun ls hl => ?_)
  refine lv_aload_n hx hb dX7_setSource_13 rfl (lv_at hl 1 rfl) ?_
  refine va_get (D := G.1) (ci := 7) (v := .ref qB) (C := RX7) (T := TX7) (N := 6) hx hb hts hi7 hown hK hP 0 rfl rfl 0 (by decide) hw0 (fun _ h9 => h9) rfl dX7_setSource_14 ?_
  refine lv_iload_n hx hb dX7_setSource_17 rfl (lv_at hl 2 rfl) ?_
  obtain ⟨q3, eq3, hq⟩ := ob hq
  have hPc := hP.sub (ws' := [(qB, .inr (0, [.ref qBT, .ref qBC, .ref qBN, .ref qBW, .ref qBL, .int bn, .int bk, .int bs]))]) [1] rfl
  have hKc := hK
  have hDc := hD.sub (ws' := [(qB, .inr (0, [.ref qBT, .ref qBC, .ref qBN, .ref qBW, .ref qBL, .int bn, .int bk, .int bs]))]) [1] (by decide) rfl
  have hFc := va_free (wc := [(qB, .inr (0, [.ref qBT, .ref qBC, .ref qBN, .ref qBW, .ref qBL, .int bn, .int bk, .int bs]))]) hD hS hA [1] rfl
  refine va_callv (va_runV (As := [.int x1]) (rest := []) ⟨hx, hb, hml, hown, hts⟩ (tX0_putSource G l eq3) (cwV 1 hts gX7_setSource_X0_putSource rfl rfl rfl (by decide +kernel) ⟨Nat.le_of_ble_eq_true rfl, Nat.le_of_ble_eq_true rfl⟩) ⟨pcW_blind, va_recv hKc hPc (ci := 0) (q0 := 0) rfl rfl, pcW_pre hPc hKK hDc⟩ rfl rfl hl.1 rfl (lv_room (Nat.le_of_ble_eq_true rfl)) dX7_setSource_18 ⟨Nat.zero_le _, Nat.zero_le _⟩) hS (fun q _ h => hFc q h) hFc (fun u t H1 locs ht hvm hw hB hz1 hk1 hS => ?_)
  have hB := va_Pto ht hB
  obtain ⟨hP, hD⟩ := jn (ws' := [(qX, .inr (7, [.ref qB, .ref qH, .ref qK, .ref qV, .ref qS, .ref qW])), (qB, .inr (0, [.ref qBT, .ref qBC, .ref qBN, .ref qBW, .ref qBL, .int bn, .int bk, .int q3]))]) hP hD hk1 hB [1] rfl rfl rfl rfl
  generalize H1 = H at hP hS ⊢
  refine lv_iload_n hx hb dX7_setSource_21 rfl (lv_at hl 0 rfl) ?_
  obtain rfl := Option.some.inj hq
  rw [hQ]
  exact W.iret hx hb hr (fun t ht hW => ⟨⟨_, (), rfl, rfl, va_Pat ht hP⟩, hS.F ht⟩) hS.2.2 dX7_setSource_22

def kX7_turn (F : Nat) (bn : Int32) (bk : Int32) (bT : Nat → Int32) (hd : Int32) (hk : Int32) (hM : Nat → Int32) (x1 : Int32) : Option (Int32 × (Nat → Int32) × Int32 × Int32 × (Nat → Int32)) :=
  ((kX7_requireCell F bn x1).bind fun q1 => ((kX0_hasLock F bk x1).bind fun q2 => (if q2 = 0 then ((kX2_isFull F hd).bind fun q3 => (if q3 = 0 then ((kX0_spin F bn bT x1 1).bind fun q4 => ((kX2_note F hd hk hM x1).bind fun q5 => ((kX0_sidesOf F q4 x1).bind fun q6 => some (q6, q4, q5.1, q5.2.1, q5.2.2)))) else none)) else none)))
abbrev rmX7_turn : Room := { frames := 3, cells := 0, slots := 0, locals := 65 }
set_option maxHeartbeats 40000000 in
set_option maxRecDepth 100000 in
theorem tX7_turn (G : GG) (l : Launch) {qX qB qH qK qV qS qW qBT qBC qBN qBW qBL qHM : Nat} {bn : Int32} {bk : Int32} {bs : Int32} {bT : Nat → Int32} {hd : Int32} {hk : Int32} {hM : Nat → Int32} {x1 : Int32} {sz : Nat} {F : Nat} {r : Int32 × (Nat → Int32) × Int32 × Int32 × (Nat → Int32)} (hq : kX7_turn F bn bk bT hd hk hM x1 = some r) : Met l yX7_turn wsX7_turn rmX7_turn (pcW G [(qX, .inr (7, [.ref qB, .ref qH, .ref qK, .ref qV, .ref qS, .ref qW])), (qB, .inr (0, [.ref qBT, .ref qBC, .ref qBN, .ref qBW, .ref qBL, .int bn, .int bk, .int bs])), (qBT, .inl (G.2.1, 16, .inl bT)), (qH, .inr (2, [.ref qHM, .int hd, .int hk])), (qHM, .inl (G.2.1, 512, .inl hM))] sz [.ref qX, .int x1]) (qcI G r.1 [(qX, .inr (7, [.ref qB, .ref qH, .ref qK, .ref qV, .ref qS, .ref qW])), (qB, .inr (0, [.ref qBT, .ref qBC, .ref qBN, .ref qBW, .ref qBL, .int bn, .int bk, .int bs])), (qBT, .inl (G.2.1, 16, .inl r.2.1)), (qH, .inr (2, [.ref qHM, .int r.2.2.1, .int r.2.2.2.1])), (qHM, .inl (G.2.1, 512, .inl r.2.2.2.2))] (va_A [(qX, .inr (7, [.ref qB, .ref qH, .ref qK, .ref qV, .ref qS, .ref qW])), (qB, .inr (0, [.ref qBT, .ref qBC, .ref qBN, .ref qBW, .ref qBL, .int bn, .int bk, .int bs])), (qBT, .inl (G.2.1, 16, .inl bT)), (qH, .inr (2, [.ref qHM, .int hd, .int hk])), (qHM, .inl (G.2.1, 512, .inl hM))] sz)) 0 0 (va_A [(qX, .inr (7, [.ref qB, .ref qH, .ref qK, .ref qV, .ref qS, .ref qW])), (qB, .inr (0, [.ref qBT, .ref qBC, .ref qBN, .ref qBW, .ref qBL, .int bn, .int bk, .int bs])), (qBT, .inl (G.2.1, 16, .inl bT)), (qH, .inr (2, [.ref qHM, .int hd, .int hk])), (qHM, .inl (G.2.1, 512, .inl hM))] sz) := by
  refine Met.ofW (cc := cX7_turn) (maxL := 2) (ret := (some .int)) (by decide) rfl ?_
  intro p e s m args below meth c s₁ B hml hv
  obtain ⟨rfl, hsz, hP, hKK, hD0⟩ := hv
  have hK := hKK.1
  have hx := B.exec
  have hb := B.bytes
  have hr := B.returns
  have hts := atoms_spec (ws := wsX7_turn) B.pre
  have hown : s.vm.findClass RX7 = some m.cls := findClass_of_methodNamed B.named
  have hlocks := B.notSynchronized
  subst hsz
  have hD := hD0.self (sz := s.heap.size)
  generalize hAe : va_A [(qX, .inr (7, [.ref qB, .ref qH, .ref qK, .ref qV, .ref qS, .ref qW])), (qB, .inr (0, [.ref qBT, .ref qBC, .ref qBN, .ref qBW, .ref qBL, .int bn, .int bk, .int bs])), (qBT, .inl (G.2.1, 16, .inl bT)), (qH, .inr (2, [.ref qHM, .int hd, .int hk])), (qHM, .inl (G.2.1, 512, .inl hM))] s.heap.size = A at hD ⊢
  have hA : ∀ q : Nat, s.heap.size ≤ q → A q := fun q h => by rw [← hAe]; exact Or.inr h
  have hS : va_S A s.heap s.heap [] := va_S.rf
  have hl := lv_entry ([.ref qX, .int x1] : List Value) (n := 2) (Nat.le_of_ble_eq_true rfl)
  rw [lg_entry_eq]
  generalize (lg_sl ([.ref qX, .int x1] : List Value) ++ List.replicate (2 - (lg_sl ([.ref qX, .int x1] : List Value)).length) Slot.unset).toArray = ls at hl ⊢
  have hl : lv_has ls 2 [(0, .ref qX), (1, .int x1)] := hl
  have hi7 : ∀ w ∈ u_ws RX7 TX7 6, w ∈ wsX7_turn := by decide +kernel
  have hw0 : (Cond.fieldLink RX7 10 "NetPlumber" "board" "LNetPlumber$Board;").before #[Value.ref qX, Value.int x1] s = true := hts _ (by decide +kernel)
  have hw1 : (Cond.fieldLink RX7 19 "NetPlumber" "history" "LNetPlumber$History;").before #[Value.ref qX, Value.int x1] s = true := hts _ (by decide +kernel)
  refine wq (fun Q hQ => ?_)
  unfold kX7_turn at hq
  refine lv_aload_n hx hb dX7_turn_0 rfl (lv_at hl 0 rfl) ?_
  refine lv_iload_n hx hb dX7_turn_1 rfl (lv_at hl 1 rfl) ?_
  obtain ⟨q1, eq1, hq⟩ := ob hq
  have hPc := hP.sub (ws' := [(qX, .inr (7, [.ref qB, .ref qH, .ref qK, .ref qV, .ref qS, .ref qW])), (qB, .inr (0, [.ref qBT, .ref qBC, .ref qBN, .ref qBW, .ref qBL, .int bn, .int bk, .int bs]))]) [0, 1] rfl
  have hKc := hK
  have hDc := hD.sub (ws' := [(qX, .inr (7, [.ref qB, .ref qH, .ref qK, .ref qV, .ref qS, .ref qW])), (qB, .inr (0, [.ref qBT, .ref qBC, .ref qBN, .ref qBW, .ref qBL, .int bn, .int bk, .int bs]))]) [0, 1] (by decide) rfl
  have hFc := va_free (wc := [(qX, .inr (7, [.ref qB, .ref qH, .ref qK, .ref qV, .ref qS, .ref qW])), (qB, .inr (0, [.ref qBT, .ref qBC, .ref qBN, .ref qBW, .ref qBL, .int bn, .int bk, .int bs]))]) hD hS hA [0, 1] rfl
  refine va_callv (va_runV (As := [.int x1]) (rest := []) ⟨hx, hb, hml, hown, hts⟩ (tX7_requireCell G l eq1) (cwV 1 hts gX7_turn_X7_requireCell rfl rfl rfl (by decide +kernel) ⟨Nat.le_of_ble_eq_true rfl, Nat.le_of_ble_eq_true rfl⟩) ⟨pcW_blind, va_recv hKc hPc (ci := 7) (q0 := 0) rfl rfl, pcW_pre hPc hKK hDc⟩ rfl rfl hl.1 rfl (lv_room (Nat.le_of_ble_eq_true rfl)) dX7_turn_2 ⟨Nat.zero_le _, Nat.zero_le _⟩) hS (fun q _ h => hFc q h) hFc (fun u t H1 locs ht hvm hw hB hz1 hk1 hS => ?_)
  have hB := va_Pto ht hB
  obtain ⟨hP, hD⟩ := jn (ws' := [(qX, .inr (7, [.ref qB, .ref qH, .ref qK, .ref qV, .ref qS, .ref qW])), (qB, .inr (0, [.ref qBT, .ref qBC, .ref qBN, .ref qBW, .ref qBL, .int bn, .int bk, .int bs])), (qBT, .inl (G.2.1, 16, .inl bT)), (qH, .inr (2, [.ref qHM, .int hd, .int hk])), (qHM, .inl (G.2.1, 512, .inl hM))]) hP hD hk1 hB [0, 1] rfl rfl rfl rfl
  generalize H1 = H at hP hS ⊢
  refine lv_aload_n hx hb dX7_turn_5 rfl (lv_at hl 0 rfl) ?_
  refine va_get (D := G.1) (ci := 7) (v := .ref qB) (C := RX7) (T := TX7) (N := 6) hx hb hts hi7 hown hK hP 0 rfl rfl 0 (by decide) hw0 (fun _ h9 => h9) rfl dX7_turn_6 ?_
  refine lv_iload_n hx hb dX7_turn_9 rfl (lv_at hl 1 rfl) ?_
  obtain ⟨q2, eq2, hq⟩ := ob hq
  have hPc := hP.sub (ws' := [(qB, .inr (0, [.ref qBT, .ref qBC, .ref qBN, .ref qBW, .ref qBL, .int bn, .int bk, .int bs]))]) [1] rfl
  have hKc := hK
  refine vp_callSi (va_Run.run (va_runV (As := [.int x1]) (rest := []) ⟨hx, hb, hml, hown, hts⟩ (tX0_hasLock G l eq2) (cwV 1 hts gX7_turn_X0_hasLock rfl rfl rfl (by decide +kernel) ⟨Nat.le_of_ble_eq_true rfl, Nat.le_of_ble_eq_true rfl⟩) ⟨pcP_blind, va_recv hKc hPc (ci := 0) (q0 := 0) rfl rfl, pcP_pre hPc hKK⟩ rfl rfl hl.1 rfl (lv_room (Nat.le_of_ble_eq_true rfl)) dX7_turn_10 ⟨Nat.zero_le _, Nat.zero_le _⟩)) (fun r0 hr0 => ?_)
  obtain rfl := hr0
  refine lv_if_eq (tgt := 26) hx hb dX7_turn_13 (by decide) (fun c_13 => ?_) (fun c_13 => ?_)
  · have hq := k_t c_13 hq
    refine lv_aload_n hx hb dX7_turn_26 rfl (lv_at hl 0 rfl) ?_
    refine va_get (D := G.1) (ci := 7) (v := .ref qH) (C := RX7) (T := TX7) (N := 6) hx hb hts hi7 hown hK hP 0 rfl rfl 1 (by decide) hw1 (fun _ h9 => h9) rfl dX7_turn_27 ?_
    obtain ⟨q3, eq3, hq⟩ := ob hq
    have hPc := hP.sub (ws' := [(qH, .inr (2, [.ref qHM, .int hd, .int hk]))]) [3] rfl
    have hKc := hK
    refine vp_callSi (va_Run.run (va_runV (As := []) (rest := []) ⟨hx, hb, hml, hown, hts⟩ (tX2_isFull G l eq3) (cwV 0 hts gX7_turn_X2_isFull rfl rfl rfl (by decide +kernel) ⟨Nat.le_of_ble_eq_true rfl, Nat.le_of_ble_eq_true rfl⟩) ⟨pcP_blind, va_recv hKc hPc (ci := 2) (q0 := 0) rfl rfl, pcP_pre hPc hKK⟩ rfl rfl hl.1 rfl (lv_room (Nat.le_of_ble_eq_true rfl)) dX7_turn_30 ⟨Nat.zero_le _, Nat.zero_le _⟩)) (fun r0 hr0 => ?_)
    obtain rfl := hr0
    refine lv_if_eq (tgt := 46) hx hb dX7_turn_33 (by decide) (fun c_33 => ?_) (fun c_33 => ?_)
    · have hq := k_t c_33 hq
      refine lv_aload_n hx hb dX7_turn_46 rfl (lv_at hl 0 rfl) ?_
      refine va_get (D := G.1) (ci := 7) (v := .ref qB) (C := RX7) (T := TX7) (N := 6) hx hb hts hi7 hown hK hP 0 rfl rfl 0 (by decide) hw0 (fun _ h9 => h9) rfl dX7_turn_47 ?_
      refine lv_iload_n hx hb dX7_turn_50 rfl (lv_at hl 1 rfl) ?_
      refine lv_iconst (v := 1) hx hb dX7_turn_51 (by decide) ?_
      obtain ⟨q4, eq4, hq⟩ := ob hq
      have hPc := hP.sub (ws' := [(qB, .inr (0, [.ref qBT, .ref qBC, .ref qBN, .ref qBW, .ref qBL, .int bn, .int bk, .int bs])), (qBT, .inl (G.2.1, 16, .inl bT))]) [1, 2] rfl
      have hKc := hK
      have hDc := hD.sub (ws' := [(qB, .inr (0, [.ref qBT, .ref qBC, .ref qBN, .ref qBW, .ref qBL, .int bn, .int bk, .int bs])), (qBT, .inl (G.2.1, 16, .inl bT))]) [1, 2] (by decide) rfl
      have hFc := va_free (wc := [(qB, .inr (0, [.ref qBT, .ref qBC, .ref qBN, .ref qBW, .ref qBL, .int bn, .int bk, .int bs])), (qBT, .inl (G.2.1, 16, .inl bT))]) hD hS hA [1, 2] rfl
      refine va_callv (va_runV (As := [.int x1, .int 1]) (rest := []) ⟨hx, hb, hml, hown, hts⟩ (tX0_spin G l eq4) (cwV 2 hts gX7_turn_X0_spin rfl rfl rfl (by decide +kernel) ⟨Nat.le_of_ble_eq_true rfl, Nat.le_of_ble_eq_true rfl⟩) ⟨pcW_blind, va_recv hKc hPc (ci := 0) (q0 := 0) rfl rfl, pcW_pre hPc hKK hDc⟩ rfl rfl hl.1 rfl (lv_room (Nat.le_of_ble_eq_true rfl)) dX7_turn_52 ⟨Nat.zero_le _, Nat.zero_le _⟩) hS (fun q _ h => hFc q h) hFc (fun u t H1 locs ht hvm hw hB hz1 hk1 hS => ?_)
      have hB := va_Pto ht hB
      obtain ⟨hP, hD⟩ := jn (ws' := [(qX, .inr (7, [.ref qB, .ref qH, .ref qK, .ref qV, .ref qS, .ref qW])), (qB, .inr (0, [.ref qBT, .ref qBC, .ref qBN, .ref qBW, .ref qBL, .int bn, .int bk, .int bs])), (qBT, .inl (G.2.1, 16, .inl q4)), (qH, .inr (2, [.ref qHM, .int hd, .int hk])), (qHM, .inl (G.2.1, 512, .inl hM))]) hP hD hk1 hB [1, 2] rfl rfl rfl rfl
      generalize H1 = H at hP hS ⊢
      refine lv_aload_n hx hb dX7_turn_55 rfl (lv_at hl 0 rfl) ?_
      refine va_get (D := G.1) (ci := 7) (v := .ref qH) (C := RX7) (T := TX7) (N := 6) hx hb hts hi7 hown hK hP 0 rfl rfl 1 (by decide) hw1 (fun _ h9 => h9) rfl dX7_turn_56 ?_
      refine lv_iload_n hx hb dX7_turn_59 rfl (lv_at hl 1 rfl) ?_
      obtain ⟨q5, eq5, hq⟩ := ob hq
      have hPc := hP.sub (ws' := [(qH, .inr (2, [.ref qHM, .int hd, .int hk])), (qHM, .inl (G.2.1, 512, .inl hM))]) [3, 4] rfl
      have hKc := hK
      have hDc := hD.sub (ws' := [(qH, .inr (2, [.ref qHM, .int hd, .int hk])), (qHM, .inl (G.2.1, 512, .inl hM))]) [3, 4] (by decide) rfl
      have hFc := va_free (wc := [(qH, .inr (2, [.ref qHM, .int hd, .int hk])), (qHM, .inl (G.2.1, 512, .inl hM))]) hD hS hA [3, 4] rfl
      refine va_callv (va_runV (As := [.int x1]) (rest := []) ⟨hx, hb, hml, hown, hts⟩ (tX2_note G l eq5) (cwV 1 hts gX7_turn_X2_note rfl rfl rfl (by decide +kernel) ⟨Nat.le_of_ble_eq_true rfl, Nat.le_of_ble_eq_true rfl⟩) ⟨pcW_blind, va_recv hKc hPc (ci := 2) (q0 := 0) rfl rfl, pcW_pre hPc hKK hDc⟩ rfl rfl hl.1 rfl (lv_room (Nat.le_of_ble_eq_true rfl)) dX7_turn_60 ⟨Nat.zero_le _, Nat.zero_le _⟩) hS (fun q _ h => hFc q h) hFc (fun u t H1 locs ht hvm hw hB hz1 hk1 hS => ?_)
      have hB := va_Pto ht hB
      obtain ⟨hP, hD⟩ := jn (ws' := [(qX, .inr (7, [.ref qB, .ref qH, .ref qK, .ref qV, .ref qS, .ref qW])), (qB, .inr (0, [.ref qBT, .ref qBC, .ref qBN, .ref qBW, .ref qBL, .int bn, .int bk, .int bs])), (qBT, .inl (G.2.1, 16, .inl q4)), (qH, .inr (2, [.ref qHM, .int q5.1, .int q5.2.1])), (qHM, .inl (G.2.1, 512, .inl q5.2.2))]) hP hD hk1 hB [3, 4] rfl rfl rfl rfl
      generalize H1 = H at hP hS ⊢
      refine lv_aload_n hx hb dX7_turn_63 rfl (lv_at hl 0 rfl) ?_
      refine va_get (D := G.1) (ci := 7) (v := .ref qB) (C := RX7) (T := TX7) (N := 6) hx hb hts hi7 hown hK hP 0 rfl rfl 0 (by decide) hw0 (fun _ h9 => h9) rfl dX7_turn_64 ?_
      refine lv_iload_n hx hb dX7_turn_67 rfl (lv_at hl 1 rfl) ?_
      obtain ⟨q6, eq6, hq⟩ := ob hq
      have hPc := hP.sub (ws' := [(qB, .inr (0, [.ref qBT, .ref qBC, .ref qBN, .ref qBW, .ref qBL, .int bn, .int bk, .int bs])), (qBT, .inl (G.2.1, 16, .inl q4))]) [1, 2] rfl
      have hKc := hK
      refine vp_callSi (va_Run.run (va_runV (As := [.int x1]) (rest := []) ⟨hx, hb, hml, hown, hts⟩ (tX0_sidesOf G l eq6) (cwV 1 hts gX7_turn_X0_sidesOf rfl rfl rfl (by decide +kernel) ⟨Nat.le_of_ble_eq_true rfl, Nat.le_of_ble_eq_true rfl⟩) ⟨pcP_blind, va_recv hKc hPc (ci := 0) (q0 := 0) rfl rfl, pcP_pre hPc hKK⟩ rfl rfl hl.1 rfl (lv_room (Nat.le_of_ble_eq_true rfl)) dX7_turn_68 ⟨Nat.zero_le _, Nat.zero_le _⟩)) (fun r0 hr0 => ?_)
      obtain rfl := hr0
      obtain rfl := Option.some.inj hq
      rw [hQ]
      exact W.iret hx hb hr (fun t ht hW => ⟨⟨_, (), rfl, rfl, va_Pat ht hP⟩, hS.F ht⟩) hS.2.2 dX7_turn_71
    · have hq := k_f c_33 hq
      cases hq
  · have hq := k_f c_13 hq
    cases hq

def kX7_undo (F : Nat) (bn : Int32) (bT : Nat → Int32) (hd : Int32) (hM : Nat → Int32) : Option (Int32 × (Nat → Int32) × Int32) :=
  ((kX2_stepBack F hd hM).bind fun q1 => (if q1.1 = (-1) then none else ((kX0_spin F bn bT q1.1 3).bind fun q2 => ((kX2_done F q1.2).bind fun q3 => some (q3, q2, q1.2)))))
abbrev rmX7_undo : Room := { frames := 3, cells := 0, slots := 0, locals := 65 }
set_option maxHeartbeats 40000000 in
set_option maxRecDepth 100000 in
theorem tX7_undo (G : GG) (l : Launch) {qX qB qH qK qV qS qW qBT qBC qBN qBW qBL qHM : Nat} {bn : Int32} {bk : Int32} {bs : Int32} {bT : Nat → Int32} {hd : Int32} {hk : Int32} {hM : Nat → Int32} {sz : Nat} {F : Nat} {r : Int32 × (Nat → Int32) × Int32} (hq : kX7_undo F bn bT hd hM = some r) : Met l yX7_undo wsX7_undo rmX7_undo (pcW G [(qX, .inr (7, [.ref qB, .ref qH, .ref qK, .ref qV, .ref qS, .ref qW])), (qB, .inr (0, [.ref qBT, .ref qBC, .ref qBN, .ref qBW, .ref qBL, .int bn, .int bk, .int bs])), (qBT, .inl (G.2.1, 16, .inl bT)), (qH, .inr (2, [.ref qHM, .int hd, .int hk])), (qHM, .inl (G.2.1, 512, .inl hM))] sz [.ref qX]) (qcI G r.1 [(qX, .inr (7, [.ref qB, .ref qH, .ref qK, .ref qV, .ref qS, .ref qW])), (qB, .inr (0, [.ref qBT, .ref qBC, .ref qBN, .ref qBW, .ref qBL, .int bn, .int bk, .int bs])), (qBT, .inl (G.2.1, 16, .inl r.2.1)), (qH, .inr (2, [.ref qHM, .int r.2.2, .int hk])), (qHM, .inl (G.2.1, 512, .inl hM))] (va_A [(qX, .inr (7, [.ref qB, .ref qH, .ref qK, .ref qV, .ref qS, .ref qW])), (qB, .inr (0, [.ref qBT, .ref qBC, .ref qBN, .ref qBW, .ref qBL, .int bn, .int bk, .int bs])), (qBT, .inl (G.2.1, 16, .inl bT)), (qH, .inr (2, [.ref qHM, .int hd, .int hk])), (qHM, .inl (G.2.1, 512, .inl hM))] sz)) 0 0 (va_A [(qX, .inr (7, [.ref qB, .ref qH, .ref qK, .ref qV, .ref qS, .ref qW])), (qB, .inr (0, [.ref qBT, .ref qBC, .ref qBN, .ref qBW, .ref qBL, .int bn, .int bk, .int bs])), (qBT, .inl (G.2.1, 16, .inl bT)), (qH, .inr (2, [.ref qHM, .int hd, .int hk])), (qHM, .inl (G.2.1, 512, .inl hM))] sz) := by
  refine Met.ofW (cc := cX7_undo) (maxL := 2) (ret := (some .int)) (by decide) rfl ?_
  intro p e s m args below meth c s₁ B hml hv
  obtain ⟨rfl, hsz, hP, hKK, hD0⟩ := hv
  have hK := hKK.1
  have hx := B.exec
  have hb := B.bytes
  have hr := B.returns
  have hts := atoms_spec (ws := wsX7_undo) B.pre
  have hown : s.vm.findClass RX7 = some m.cls := findClass_of_methodNamed B.named
  have hlocks := B.notSynchronized
  subst hsz
  have hD := hD0.self (sz := s.heap.size)
  generalize hAe : va_A [(qX, .inr (7, [.ref qB, .ref qH, .ref qK, .ref qV, .ref qS, .ref qW])), (qB, .inr (0, [.ref qBT, .ref qBC, .ref qBN, .ref qBW, .ref qBL, .int bn, .int bk, .int bs])), (qBT, .inl (G.2.1, 16, .inl bT)), (qH, .inr (2, [.ref qHM, .int hd, .int hk])), (qHM, .inl (G.2.1, 512, .inl hM))] s.heap.size = A at hD ⊢
  have hA : ∀ q : Nat, s.heap.size ≤ q → A q := fun q h => by rw [← hAe]; exact Or.inr h
  have hS : va_S A s.heap s.heap [] := va_S.rf
  have hl := lv_entry ([.ref qX] : List Value) (n := 2) (Nat.le_of_ble_eq_true rfl)
  rw [lg_entry_eq]
  generalize (lg_sl ([.ref qX] : List Value) ++ List.replicate (2 - (lg_sl ([.ref qX] : List Value)).length) Slot.unset).toArray = ls at hl ⊢
  have hl : lv_has ls 2 [(0, .ref qX)] := hl
  have hi7 : ∀ w ∈ u_ws RX7 TX7 6, w ∈ wsX7_undo := by decide +kernel
  have hw0 : (Cond.fieldLink RX7 19 "NetPlumber" "history" "LNetPlumber$History;").before #[Value.ref qX] s = true := hts _ (by decide +kernel)
  have hw1 : (Cond.fieldLink RX7 10 "NetPlumber" "board" "LNetPlumber$Board;").before #[Value.ref qX] s = true := hts _ (by decide +kernel)
  refine wq (fun Q hQ => ?_)
  unfold kX7_undo at hq
  refine lv_aload_n hx hb dX7_undo_0 rfl (lv_at hl 0 rfl) ?_
  refine va_get (D := G.1) (ci := 7) (v := .ref qH) (C := RX7) (T := TX7) (N := 6) hx hb hts hi7 hown hK hP 0 rfl rfl 1 (by decide) hw0 (fun _ h9 => h9) rfl dX7_undo_1 ?_
  obtain ⟨q1, eq1, hq⟩ := ob hq
  have hPc := hP.sub (ws' := [(qH, .inr (2, [.ref qHM, .int hd, .int hk])), (qHM, .inl (G.2.1, 512, .inl hM))]) [3, 4] rfl
  have hKc := hK
  have hDc := hD.sub (ws' := [(qH, .inr (2, [.ref qHM, .int hd, .int hk])), (qHM, .inl (G.2.1, 512, .inl hM))]) [3, 4] (by decide) rfl
  have hFc := va_free (wc := [(qH, .inr (2, [.ref qHM, .int hd, .int hk])), (qHM, .inl (G.2.1, 512, .inl hM))]) hD hS hA [3, 4] rfl
  refine va_calli (va_runV (As := []) (rest := []) ⟨hx, hb, hml, hown, hts⟩ (tX2_stepBack G l eq1) (cwV 0 hts gX7_undo_X2_stepBack rfl rfl rfl (by decide +kernel) ⟨Nat.le_of_ble_eq_true rfl, Nat.le_of_ble_eq_true rfl⟩) ⟨pcW_blind, va_recv hKc hPc (ci := 2) (q0 := 0) rfl rfl, pcW_pre hPc hKK hDc⟩ rfl rfl hl.1 rfl (lv_room (Nat.le_of_ble_eq_true rfl)) dX7_undo_4 ⟨Nat.zero_le _, Nat.zero_le _⟩) hS (fun q _ h => hFc q h) hFc (fun r0 u t H1 locs ht hvm hw hB hz1 hk1 hS => ?_)
  obtain rfl := hw
  have hB := va_Pto ht hB
  obtain ⟨hP, hD⟩ := jn (ws' := [(qX, .inr (7, [.ref qB, .ref qH, .ref qK, .ref qV, .ref qS, .ref qW])), (qB, .inr (0, [.ref qBT, .ref qBC, .ref qBN, .ref qBW, .ref qBL, .int bn, .int bk, .int bs])), (qBT, .inl (G.2.1, 16, .inl bT)), (qH, .inr (2, [.ref qHM, .int q1.2, .int hk])), (qHM, .inl (G.2.1, 512, .inl hM))]) hP hD hk1 hB [3, 4] rfl rfl rfl rfl
  generalize H1 = H at hP hS ⊢
  refine lv_istore_n (lv' := [(1, .int q1.1), (0, .ref qX)]) hx hb dX7_undo_7 rfl hl (by decide) rfl (fun ls hl => ?_)
  refine lv_iload_n hx hb dX7_undo_8 rfl (lv_at hl 0 rfl) ?_
  refine lv_iconst (v := (-1)) hx hb dX7_undo_9 (by decide) ?_
  refine lv_icmp_ne (tgt := 23) hx hb dX7_undo_10 (by decide) (fun c_10 => ?_) (fun c_10 => ?_)
  · have hq := k_f c_10 hq
    refine lv_aload_n hx hb dX7_undo_23 rfl (lv_at hl 1 rfl) ?_
    refine va_get (D := G.1) (ci := 7) (v := .ref qB) (C := RX7) (T := TX7) (N := 6) hx hb hts hi7 hown hK hP 0 rfl rfl 0 (by decide) hw1 (fun _ h9 => h9) rfl dX7_undo_24 ?_
    refine lv_iload_n hx hb dX7_undo_27 rfl (lv_at hl 0 rfl) ?_
    refine lv_iconst (v := 3) hx hb dX7_undo_28 (by decide) ?_
    obtain ⟨q2, eq2, hq⟩ := ob hq
    have hPc := hP.sub (ws' := [(qB, .inr (0, [.ref qBT, .ref qBC, .ref qBN, .ref qBW, .ref qBL, .int bn, .int bk, .int bs])), (qBT, .inl (G.2.1, 16, .inl bT))]) [1, 2] rfl
    have hKc := hK
    have hDc := hD.sub (ws' := [(qB, .inr (0, [.ref qBT, .ref qBC, .ref qBN, .ref qBW, .ref qBL, .int bn, .int bk, .int bs])), (qBT, .inl (G.2.1, 16, .inl bT))]) [1, 2] (by decide) rfl
    have hFc := va_free (wc := [(qB, .inr (0, [.ref qBT, .ref qBC, .ref qBN, .ref qBW, .ref qBL, .int bn, .int bk, .int bs])), (qBT, .inl (G.2.1, 16, .inl bT))]) hD hS hA [1, 2] rfl
    refine va_callv (va_runV (As := [.int q1.1, .int 3]) (rest := []) ⟨hx, hb, hml, hown, hts⟩ (tX0_spin G l eq2) (cwV 2 hts gX7_undo_X0_spin rfl rfl rfl (by decide +kernel) ⟨Nat.le_of_ble_eq_true rfl, Nat.le_of_ble_eq_true rfl⟩) ⟨pcW_blind, va_recv hKc hPc (ci := 0) (q0 := 0) rfl rfl, pcW_pre hPc hKK hDc⟩ rfl rfl hl.1 rfl (lv_room (Nat.le_of_ble_eq_true rfl)) dX7_undo_29 ⟨Nat.zero_le _, Nat.zero_le _⟩) hS (fun q _ h => hFc q h) hFc (fun u t H1 locs ht hvm hw hB hz1 hk1 hS => ?_)
    have hB := va_Pto ht hB
    obtain ⟨hP, hD⟩ := jn (ws' := [(qX, .inr (7, [.ref qB, .ref qH, .ref qK, .ref qV, .ref qS, .ref qW])), (qB, .inr (0, [.ref qBT, .ref qBC, .ref qBN, .ref qBW, .ref qBL, .int bn, .int bk, .int bs])), (qBT, .inl (G.2.1, 16, .inl q2)), (qH, .inr (2, [.ref qHM, .int q1.2, .int hk])), (qHM, .inl (G.2.1, 512, .inl hM))]) hP hD hk1 hB [1, 2] rfl rfl rfl rfl
    generalize H1 = H at hP hS ⊢
    refine lv_aload_n hx hb dX7_undo_32 rfl (lv_at hl 1 rfl) ?_
    refine va_get (D := G.1) (ci := 7) (v := .ref qH) (C := RX7) (T := TX7) (N := 6) hx hb hts hi7 hown hK hP 0 rfl rfl 1 (by decide) hw0 (fun _ h9 => h9) rfl dX7_undo_33 ?_
    obtain ⟨q3, eq3, hq⟩ := ob hq
    have hPc := hP.sub (ws' := [(qH, .inr (2, [.ref qHM, .int q1.2, .int hk]))]) [3] rfl
    have hKc := hK
    refine vp_callSi (va_Run.run (va_runV (As := []) (rest := []) ⟨hx, hb, hml, hown, hts⟩ (tX2_done G l eq3) (cwV 0 hts gX7_undo_X2_done rfl rfl rfl (by decide +kernel) ⟨Nat.le_of_ble_eq_true rfl, Nat.le_of_ble_eq_true rfl⟩) ⟨pcP_blind, va_recv hKc hPc (ci := 2) (q0 := 0) rfl rfl, pcP_pre hPc hKK⟩ rfl rfl hl.1 rfl (lv_room (Nat.le_of_ble_eq_true rfl)) dX7_undo_36 ⟨Nat.zero_le _, Nat.zero_le _⟩)) (fun r0 hr0 => ?_)
    obtain rfl := hr0
    obtain rfl := Option.some.inj hq
    rw [hQ]
    exact W.iret hx hb hr (fun t ht hW => ⟨⟨_, (), rfl, rfl, va_Pat ht hP⟩, hS.F ht⟩) hS.2.2 dX7_undo_39
  · have hq := k_t c_10 hq
    cases hq

def kX7_redo (F : Nat) (bn : Int32) (bT : Nat → Int32) (hd : Int32) (hk : Int32) (hM : Nat → Int32) : Option (Int32 × (Nat → Int32) × Int32) :=
  ((kX2_stepOn F hd hk hM).bind fun q1 => (if q1.1 = (-1) then none else ((kX0_spin F bn bT q1.1 1).bind fun q2 => ((kX2_done F q1.2).bind fun q3 => some (q3, q2, q1.2)))))
abbrev rmX7_redo : Room := { frames := 3, cells := 0, slots := 0, locals := 65 }
set_option maxHeartbeats 40000000 in
set_option maxRecDepth 100000 in
theorem tX7_redo (G : GG) (l : Launch) {qX qB qH qK qV qS qW qBT qBC qBN qBW qBL qHM : Nat} {bn : Int32} {bk : Int32} {bs : Int32} {bT : Nat → Int32} {hd : Int32} {hk : Int32} {hM : Nat → Int32} {sz : Nat} {F : Nat} {r : Int32 × (Nat → Int32) × Int32} (hq : kX7_redo F bn bT hd hk hM = some r) : Met l yX7_redo wsX7_redo rmX7_redo (pcW G [(qX, .inr (7, [.ref qB, .ref qH, .ref qK, .ref qV, .ref qS, .ref qW])), (qB, .inr (0, [.ref qBT, .ref qBC, .ref qBN, .ref qBW, .ref qBL, .int bn, .int bk, .int bs])), (qBT, .inl (G.2.1, 16, .inl bT)), (qH, .inr (2, [.ref qHM, .int hd, .int hk])), (qHM, .inl (G.2.1, 512, .inl hM))] sz [.ref qX]) (qcI G r.1 [(qX, .inr (7, [.ref qB, .ref qH, .ref qK, .ref qV, .ref qS, .ref qW])), (qB, .inr (0, [.ref qBT, .ref qBC, .ref qBN, .ref qBW, .ref qBL, .int bn, .int bk, .int bs])), (qBT, .inl (G.2.1, 16, .inl r.2.1)), (qH, .inr (2, [.ref qHM, .int r.2.2, .int hk])), (qHM, .inl (G.2.1, 512, .inl hM))] (va_A [(qX, .inr (7, [.ref qB, .ref qH, .ref qK, .ref qV, .ref qS, .ref qW])), (qB, .inr (0, [.ref qBT, .ref qBC, .ref qBN, .ref qBW, .ref qBL, .int bn, .int bk, .int bs])), (qBT, .inl (G.2.1, 16, .inl bT)), (qH, .inr (2, [.ref qHM, .int hd, .int hk])), (qHM, .inl (G.2.1, 512, .inl hM))] sz)) 0 0 (va_A [(qX, .inr (7, [.ref qB, .ref qH, .ref qK, .ref qV, .ref qS, .ref qW])), (qB, .inr (0, [.ref qBT, .ref qBC, .ref qBN, .ref qBW, .ref qBL, .int bn, .int bk, .int bs])), (qBT, .inl (G.2.1, 16, .inl bT)), (qH, .inr (2, [.ref qHM, .int hd, .int hk])), (qHM, .inl (G.2.1, 512, .inl hM))] sz) := by
  refine Met.ofW (cc := cX7_redo) (maxL := 2) (ret := (some .int)) (by decide) rfl ?_
  intro p e s m args below meth c s₁ B hml hv
  obtain ⟨rfl, hsz, hP, hKK, hD0⟩ := hv
  have hK := hKK.1
  have hx := B.exec
  have hb := B.bytes
  have hr := B.returns
  have hts := atoms_spec (ws := wsX7_redo) B.pre
  have hown : s.vm.findClass RX7 = some m.cls := findClass_of_methodNamed B.named
  have hlocks := B.notSynchronized
  subst hsz
  have hD := hD0.self (sz := s.heap.size)
  generalize hAe : va_A [(qX, .inr (7, [.ref qB, .ref qH, .ref qK, .ref qV, .ref qS, .ref qW])), (qB, .inr (0, [.ref qBT, .ref qBC, .ref qBN, .ref qBW, .ref qBL, .int bn, .int bk, .int bs])), (qBT, .inl (G.2.1, 16, .inl bT)), (qH, .inr (2, [.ref qHM, .int hd, .int hk])), (qHM, .inl (G.2.1, 512, .inl hM))] s.heap.size = A at hD ⊢
  have hA : ∀ q : Nat, s.heap.size ≤ q → A q := fun q h => by rw [← hAe]; exact Or.inr h
  have hS : va_S A s.heap s.heap [] := va_S.rf
  have hl := lv_entry ([.ref qX] : List Value) (n := 2) (Nat.le_of_ble_eq_true rfl)
  rw [lg_entry_eq]
  generalize (lg_sl ([.ref qX] : List Value) ++ List.replicate (2 - (lg_sl ([.ref qX] : List Value)).length) Slot.unset).toArray = ls at hl ⊢
  have hl : lv_has ls 2 [(0, .ref qX)] := hl
  have hi7 : ∀ w ∈ u_ws RX7 TX7 6, w ∈ wsX7_redo := by decide +kernel
  have hw0 : (Cond.fieldLink RX7 19 "NetPlumber" "history" "LNetPlumber$History;").before #[Value.ref qX] s = true := hts _ (by decide +kernel)
  have hw1 : (Cond.fieldLink RX7 10 "NetPlumber" "board" "LNetPlumber$Board;").before #[Value.ref qX] s = true := hts _ (by decide +kernel)
  refine wq (fun Q hQ => ?_)
  unfold kX7_redo at hq
  refine lv_aload_n hx hb dX7_redo_0 rfl (lv_at hl 0 rfl) ?_
  refine va_get (D := G.1) (ci := 7) (v := .ref qH) (C := RX7) (T := TX7) (N := 6) hx hb hts hi7 hown hK hP 0 rfl rfl 1 (by decide) hw0 (fun _ h9 => h9) rfl dX7_redo_1 ?_
  obtain ⟨q1, eq1, hq⟩ := ob hq
  have hPc := hP.sub (ws' := [(qH, .inr (2, [.ref qHM, .int hd, .int hk])), (qHM, .inl (G.2.1, 512, .inl hM))]) [3, 4] rfl
  have hKc := hK
  have hDc := hD.sub (ws' := [(qH, .inr (2, [.ref qHM, .int hd, .int hk])), (qHM, .inl (G.2.1, 512, .inl hM))]) [3, 4] (by decide) rfl
  have hFc := va_free (wc := [(qH, .inr (2, [.ref qHM, .int hd, .int hk])), (qHM, .inl (G.2.1, 512, .inl hM))]) hD hS hA [3, 4] rfl
  refine va_calli (va_runV (As := []) (rest := []) ⟨hx, hb, hml, hown, hts⟩ (tX2_stepOn G l eq1) (cwV 0 hts gX7_redo_X2_stepOn rfl rfl rfl (by decide +kernel) ⟨Nat.le_of_ble_eq_true rfl, Nat.le_of_ble_eq_true rfl⟩) ⟨pcW_blind, va_recv hKc hPc (ci := 2) (q0 := 0) rfl rfl, pcW_pre hPc hKK hDc⟩ rfl rfl hl.1 rfl (lv_room (Nat.le_of_ble_eq_true rfl)) dX7_redo_4 ⟨Nat.zero_le _, Nat.zero_le _⟩) hS (fun q _ h => hFc q h) hFc (fun r0 u t H1 locs ht hvm hw hB hz1 hk1 hS => ?_)
  obtain rfl := hw
  have hB := va_Pto ht hB
  obtain ⟨hP, hD⟩ := jn (ws' := [(qX, .inr (7, [.ref qB, .ref qH, .ref qK, .ref qV, .ref qS, .ref qW])), (qB, .inr (0, [.ref qBT, .ref qBC, .ref qBN, .ref qBW, .ref qBL, .int bn, .int bk, .int bs])), (qBT, .inl (G.2.1, 16, .inl bT)), (qH, .inr (2, [.ref qHM, .int q1.2, .int hk])), (qHM, .inl (G.2.1, 512, .inl hM))]) hP hD hk1 hB [3, 4] rfl rfl rfl rfl
  generalize H1 = H at hP hS ⊢
  refine lv_istore_n (lv' := [(1, .int q1.1), (0, .ref qX)]) hx hb dX7_redo_7 rfl hl (by decide) rfl (fun ls hl => ?_)
  refine lv_iload_n hx hb dX7_redo_8 rfl (lv_at hl 0 rfl) ?_
  refine lv_iconst (v := (-1)) hx hb dX7_redo_9 (by decide) ?_
  refine lv_icmp_ne (tgt := 23) hx hb dX7_redo_10 (by decide) (fun c_10 => ?_) (fun c_10 => ?_)
  · have hq := k_f c_10 hq
    refine lv_aload_n hx hb dX7_redo_23 rfl (lv_at hl 1 rfl) ?_
    refine va_get (D := G.1) (ci := 7) (v := .ref qB) (C := RX7) (T := TX7) (N := 6) hx hb hts hi7 hown hK hP 0 rfl rfl 0 (by decide) hw1 (fun _ h9 => h9) rfl dX7_redo_24 ?_
    refine lv_iload_n hx hb dX7_redo_27 rfl (lv_at hl 0 rfl) ?_
    refine lv_iconst (v := 1) hx hb dX7_redo_28 (by decide) ?_
    obtain ⟨q2, eq2, hq⟩ := ob hq
    have hPc := hP.sub (ws' := [(qB, .inr (0, [.ref qBT, .ref qBC, .ref qBN, .ref qBW, .ref qBL, .int bn, .int bk, .int bs])), (qBT, .inl (G.2.1, 16, .inl bT))]) [1, 2] rfl
    have hKc := hK
    have hDc := hD.sub (ws' := [(qB, .inr (0, [.ref qBT, .ref qBC, .ref qBN, .ref qBW, .ref qBL, .int bn, .int bk, .int bs])), (qBT, .inl (G.2.1, 16, .inl bT))]) [1, 2] (by decide) rfl
    have hFc := va_free (wc := [(qB, .inr (0, [.ref qBT, .ref qBC, .ref qBN, .ref qBW, .ref qBL, .int bn, .int bk, .int bs])), (qBT, .inl (G.2.1, 16, .inl bT))]) hD hS hA [1, 2] rfl
    refine va_callv (va_runV (As := [.int q1.1, .int 1]) (rest := []) ⟨hx, hb, hml, hown, hts⟩ (tX0_spin G l eq2) (cwV 2 hts gX7_redo_X0_spin rfl rfl rfl (by decide +kernel) ⟨Nat.le_of_ble_eq_true rfl, Nat.le_of_ble_eq_true rfl⟩) ⟨pcW_blind, va_recv hKc hPc (ci := 0) (q0 := 0) rfl rfl, pcW_pre hPc hKK hDc⟩ rfl rfl hl.1 rfl (lv_room (Nat.le_of_ble_eq_true rfl)) dX7_redo_29 ⟨Nat.zero_le _, Nat.zero_le _⟩) hS (fun q _ h => hFc q h) hFc (fun u t H1 locs ht hvm hw hB hz1 hk1 hS => ?_)
    have hB := va_Pto ht hB
    obtain ⟨hP, hD⟩ := jn (ws' := [(qX, .inr (7, [.ref qB, .ref qH, .ref qK, .ref qV, .ref qS, .ref qW])), (qB, .inr (0, [.ref qBT, .ref qBC, .ref qBN, .ref qBW, .ref qBL, .int bn, .int bk, .int bs])), (qBT, .inl (G.2.1, 16, .inl q2)), (qH, .inr (2, [.ref qHM, .int q1.2, .int hk])), (qHM, .inl (G.2.1, 512, .inl hM))]) hP hD hk1 hB [1, 2] rfl rfl rfl rfl
    generalize H1 = H at hP hS ⊢
    refine lv_aload_n hx hb dX7_redo_32 rfl (lv_at hl 1 rfl) ?_
    refine va_get (D := G.1) (ci := 7) (v := .ref qH) (C := RX7) (T := TX7) (N := 6) hx hb hts hi7 hown hK hP 0 rfl rfl 1 (by decide) hw0 (fun _ h9 => h9) rfl dX7_redo_33 ?_
    obtain ⟨q3, eq3, hq⟩ := ob hq
    have hPc := hP.sub (ws' := [(qH, .inr (2, [.ref qHM, .int q1.2, .int hk]))]) [3] rfl
    have hKc := hK
    refine vp_callSi (va_Run.run (va_runV (As := []) (rest := []) ⟨hx, hb, hml, hown, hts⟩ (tX2_done G l eq3) (cwV 0 hts gX7_redo_X2_done rfl rfl rfl (by decide +kernel) ⟨Nat.le_of_ble_eq_true rfl, Nat.le_of_ble_eq_true rfl⟩) ⟨pcP_blind, va_recv hKc hPc (ci := 2) (q0 := 0) rfl rfl, pcP_pre hPc hKK⟩ rfl rfl hl.1 rfl (lv_room (Nat.le_of_ble_eq_true rfl)) dX7_redo_36 ⟨Nat.zero_le _, Nat.zero_le _⟩)) (fun r0 hr0 => ?_)
    obtain rfl := hr0
    obtain rfl := Option.some.inj hq
    rw [hQ]
    exact W.iret hx hb hr (fun t ht hW => ⟨⟨_, (), rfl, rfl, va_Pat ht hP⟩, hS.F ht⟩) hS.2.2 dX7_redo_39
  · have hq := k_t c_10 hq
    cases hq

def kX7_tile (F : Nat) (bn : Int32) (bT : Nat → Int32) (x1 : Int32) : Option (Int32) :=
  ((kX7_requireCell F bn x1).bind fun q1 => ((kX0_sidesOf F bT x1).bind fun q2 => some q2))
abbrev rmX7_tile : Room := { frames := 2, cells := 0, slots := 0, locals := 42 }
set_option maxHeartbeats 40000000 in
set_option maxRecDepth 100000 in
theorem tX7_tile (G : GG) (l : Launch) {qX qB qH qK qV qS qW qBT qBC qBN qBW qBL : Nat} {bn : Int32} {bk : Int32} {bs : Int32} {bT : Nat → Int32} {x1 : Int32} {sz : Nat} {F : Nat} {r : Int32} (hq : kX7_tile F bn bT x1 = some r) : Met l yX7_tile wsX7_tile rmX7_tile (pcW G [(qX, .inr (7, [.ref qB, .ref qH, .ref qK, .ref qV, .ref qS, .ref qW])), (qB, .inr (0, [.ref qBT, .ref qBC, .ref qBN, .ref qBW, .ref qBL, .int bn, .int bk, .int bs])), (qBT, .inl (G.2.1, 16, .inl bT))] sz [.ref qX, .int x1]) (qcI G r [(qX, .inr (7, [.ref qB, .ref qH, .ref qK, .ref qV, .ref qS, .ref qW])), (qB, .inr (0, [.ref qBT, .ref qBC, .ref qBN, .ref qBW, .ref qBL, .int bn, .int bk, .int bs])), (qBT, .inl (G.2.1, 16, .inl bT))] (va_A [(qX, .inr (7, [.ref qB, .ref qH, .ref qK, .ref qV, .ref qS, .ref qW])), (qB, .inr (0, [.ref qBT, .ref qBC, .ref qBN, .ref qBW, .ref qBL, .int bn, .int bk, .int bs])), (qBT, .inl (G.2.1, 16, .inl bT))] sz)) 0 0 (va_A [(qX, .inr (7, [.ref qB, .ref qH, .ref qK, .ref qV, .ref qS, .ref qW])), (qB, .inr (0, [.ref qBT, .ref qBC, .ref qBN, .ref qBW, .ref qBL, .int bn, .int bk, .int bs])), (qBT, .inl (G.2.1, 16, .inl bT))] sz) := by
  refine Met.ofW (cc := cX7_tile) (maxL := 2) (ret := (some .int)) (by decide) rfl ?_
  intro p e s m args below meth c s₁ B hml hv
  obtain ⟨rfl, hsz, hP, hKK, hD0⟩ := hv
  have hK := hKK.1
  have hx := B.exec
  have hb := B.bytes
  have hr := B.returns
  have hts := atoms_spec (ws := wsX7_tile) B.pre
  have hown : s.vm.findClass RX7 = some m.cls := findClass_of_methodNamed B.named
  have hlocks := B.notSynchronized
  subst hsz
  have hD := hD0.self (sz := s.heap.size)
  generalize hAe : va_A [(qX, .inr (7, [.ref qB, .ref qH, .ref qK, .ref qV, .ref qS, .ref qW])), (qB, .inr (0, [.ref qBT, .ref qBC, .ref qBN, .ref qBW, .ref qBL, .int bn, .int bk, .int bs])), (qBT, .inl (G.2.1, 16, .inl bT))] s.heap.size = A at hD ⊢
  have hA : ∀ q : Nat, s.heap.size ≤ q → A q := fun q h => by rw [← hAe]; exact Or.inr h
  have hS : va_S A s.heap s.heap [] := va_S.rf
  have hl := lv_entry ([.ref qX, .int x1] : List Value) (n := 2) (Nat.le_of_ble_eq_true rfl)
  rw [lg_entry_eq]
  generalize (lg_sl ([.ref qX, .int x1] : List Value) ++ List.replicate (2 - (lg_sl ([.ref qX, .int x1] : List Value)).length) Slot.unset).toArray = ls at hl ⊢
  have hl : lv_has ls 2 [(0, .ref qX), (1, .int x1)] := hl
  have hi7 : ∀ w ∈ u_ws RX7 TX7 6, w ∈ wsX7_tile := by decide +kernel
  have hw0 : (Cond.fieldLink RX7 10 "NetPlumber" "board" "LNetPlumber$Board;").before #[Value.ref qX, Value.int x1] s = true := hts _ (by decide +kernel)
  refine wq (fun Q hQ => ?_)
  unfold kX7_tile at hq
  refine lv_aload_n hx hb dX7_tile_0 rfl (lv_at hl 0 rfl) ?_
  refine lv_iload_n hx hb dX7_tile_1 rfl (lv_at hl 1 rfl) ?_
  obtain ⟨q1, eq1, hq⟩ := ob hq
  have hPc := hP.sub (ws' := [(qX, .inr (7, [.ref qB, .ref qH, .ref qK, .ref qV, .ref qS, .ref qW])), (qB, .inr (0, [.ref qBT, .ref qBC, .ref qBN, .ref qBW, .ref qBL, .int bn, .int bk, .int bs]))]) [0, 1] rfl
  have hKc := hK
  have hDc := hD.sub (ws' := [(qX, .inr (7, [.ref qB, .ref qH, .ref qK, .ref qV, .ref qS, .ref qW])), (qB, .inr (0, [.ref qBT, .ref qBC, .ref qBN, .ref qBW, .ref qBL, .int bn, .int bk, .int bs]))]) [0, 1] (by decide) rfl
  have hFc := va_free (wc := [(qX, .inr (7, [.ref qB, .ref qH, .ref qK, .ref qV, .ref qS, .ref qW])), (qB, .inr (0, [.ref qBT, .ref qBC, .ref qBN, .ref qBW, .ref qBL, .int bn, .int bk, .int bs]))]) hD hS hA [0, 1] rfl
  refine va_callv (va_runV (As := [.int x1]) (rest := []) ⟨hx, hb, hml, hown, hts⟩ (tX7_requireCell G l eq1) (cwV 1 hts gX7_tile_X7_requireCell rfl rfl rfl (by decide +kernel) ⟨Nat.le_of_ble_eq_true rfl, Nat.le_of_ble_eq_true rfl⟩) ⟨pcW_blind, va_recv hKc hPc (ci := 7) (q0 := 0) rfl rfl, pcW_pre hPc hKK hDc⟩ rfl rfl hl.1 rfl (lv_room (Nat.le_of_ble_eq_true rfl)) dX7_tile_2 ⟨Nat.zero_le _, Nat.zero_le _⟩) hS (fun q _ h => hFc q h) hFc (fun u t H1 locs ht hvm hw hB hz1 hk1 hS => ?_)
  have hB := va_Pto ht hB
  obtain ⟨hP, hD⟩ := jn (ws' := [(qX, .inr (7, [.ref qB, .ref qH, .ref qK, .ref qV, .ref qS, .ref qW])), (qB, .inr (0, [.ref qBT, .ref qBC, .ref qBN, .ref qBW, .ref qBL, .int bn, .int bk, .int bs])), (qBT, .inl (G.2.1, 16, .inl bT))]) hP hD hk1 hB [0, 1] rfl rfl rfl rfl
  generalize H1 = H at hP hS ⊢
  refine lv_aload_n hx hb dX7_tile_5 rfl (lv_at hl 0 rfl) ?_
  refine va_get (D := G.1) (ci := 7) (v := .ref qB) (C := RX7) (T := TX7) (N := 6) hx hb hts hi7 hown hK hP 0 rfl rfl 0 (by decide) hw0 (fun _ h9 => h9) rfl dX7_tile_6 ?_
  refine lv_iload_n hx hb dX7_tile_9 rfl (lv_at hl 1 rfl) ?_
  obtain ⟨q2, eq2, hq⟩ := ob hq
  have hPc := hP.sub (ws' := [(qB, .inr (0, [.ref qBT, .ref qBC, .ref qBN, .ref qBW, .ref qBL, .int bn, .int bk, .int bs])), (qBT, .inl (G.2.1, 16, .inl bT))]) [1, 2] rfl
  have hKc := hK
  refine vp_callSi (va_Run.run (va_runV (As := [.int x1]) (rest := []) ⟨hx, hb, hml, hown, hts⟩ (tX0_sidesOf G l eq2) (cwV 1 hts gX7_tile_X0_sidesOf rfl rfl rfl (by decide +kernel) ⟨Nat.le_of_ble_eq_true rfl, Nat.le_of_ble_eq_true rfl⟩) ⟨pcP_blind, va_recv hKc hPc (ci := 0) (q0 := 0) rfl rfl, pcP_pre hPc hKK⟩ rfl rfl hl.1 rfl (lv_room (Nat.le_of_ble_eq_true rfl)) dX7_tile_10 ⟨Nat.zero_le _, Nat.zero_le _⟩)) (fun r0 hr0 => ?_)
  obtain rfl := hr0
  obtain rfl := Option.some.inj hq
  rw [hQ]
  exact W.iret hx hb hr (fun t ht hW => ⟨⟨_, (), rfl, rfl, va_Pat ht hP⟩, hS.F ht⟩) hS.2.2 dX7_tile_13

def kX7_neighbour (F : Nat) (bn : Int32) (bN : Nat → Int32) (x1 : Int32) (x2 : Int32) : Option (Int32) :=
  ((kX7_requireCell F bn x1).bind fun q1 => ((kX7_requireSide F x2).bind fun q2 => ((kX0_beside F bN x1 x2).bind fun q3 => some q3)))
abbrev rmX7_neighbour : Room := { frames := 2, cells := 0, slots := 0, locals := 42 }
set_option maxHeartbeats 40000000 in
set_option maxRecDepth 100000 in
theorem tX7_neighbour (G : GG) (l : Launch) {qX qB qH qK qV qS qW qBT qBC qBN qBW qBL : Nat} {bn : Int32} {bk : Int32} {bs : Int32} {bN : Nat → Int32} {x1 : Int32} {x2 : Int32} {sz : Nat} {F : Nat} {r : Int32} (hq : kX7_neighbour F bn bN x1 x2 = some r) : Met l yX7_neighbour wsX7_neighbour rmX7_neighbour (pcW G [(qX, .inr (7, [.ref qB, .ref qH, .ref qK, .ref qV, .ref qS, .ref qW])), (qB, .inr (0, [.ref qBT, .ref qBC, .ref qBN, .ref qBW, .ref qBL, .int bn, .int bk, .int bs])), (qBN, .inl (G.2.1, 64, .inl bN))] sz [.ref qX, .int x1, .int x2]) (qcI G r [(qX, .inr (7, [.ref qB, .ref qH, .ref qK, .ref qV, .ref qS, .ref qW])), (qB, .inr (0, [.ref qBT, .ref qBC, .ref qBN, .ref qBW, .ref qBL, .int bn, .int bk, .int bs])), (qBN, .inl (G.2.1, 64, .inl bN))] (va_A [(qX, .inr (7, [.ref qB, .ref qH, .ref qK, .ref qV, .ref qS, .ref qW])), (qB, .inr (0, [.ref qBT, .ref qBC, .ref qBN, .ref qBW, .ref qBL, .int bn, .int bk, .int bs])), (qBN, .inl (G.2.1, 64, .inl bN))] sz)) 0 0 (va_A [(qX, .inr (7, [.ref qB, .ref qH, .ref qK, .ref qV, .ref qS, .ref qW])), (qB, .inr (0, [.ref qBT, .ref qBC, .ref qBN, .ref qBW, .ref qBL, .int bn, .int bk, .int bs])), (qBN, .inl (G.2.1, 64, .inl bN))] sz) := by
  refine Met.ofW (cc := cX7_neighbour) (maxL := 3) (ret := (some .int)) (by decide) rfl ?_
  intro p e s m args below meth c s₁ B hml hv
  obtain ⟨rfl, hsz, hP, hKK, hD0⟩ := hv
  have hK := hKK.1
  have hx := B.exec
  have hb := B.bytes
  have hr := B.returns
  have hts := atoms_spec (ws := wsX7_neighbour) B.pre
  have hown : s.vm.findClass RX7 = some m.cls := findClass_of_methodNamed B.named
  have hlocks := B.notSynchronized
  subst hsz
  have hD := hD0.self (sz := s.heap.size)
  generalize hAe : va_A [(qX, .inr (7, [.ref qB, .ref qH, .ref qK, .ref qV, .ref qS, .ref qW])), (qB, .inr (0, [.ref qBT, .ref qBC, .ref qBN, .ref qBW, .ref qBL, .int bn, .int bk, .int bs])), (qBN, .inl (G.2.1, 64, .inl bN))] s.heap.size = A at hD ⊢
  have hA : ∀ q : Nat, s.heap.size ≤ q → A q := fun q h => by rw [← hAe]; exact Or.inr h
  have hS : va_S A s.heap s.heap [] := va_S.rf
  have hl := lv_entry ([.ref qX, .int x1, .int x2] : List Value) (n := 3) (Nat.le_of_ble_eq_true rfl)
  rw [lg_entry_eq]
  generalize (lg_sl ([.ref qX, .int x1, .int x2] : List Value) ++ List.replicate (3 - (lg_sl ([.ref qX, .int x1, .int x2] : List Value)).length) Slot.unset).toArray = ls at hl ⊢
  have hl : lv_has ls 3 [(0, .ref qX), (1, .int x1), (2, .int x2)] := hl
  have hi7 : ∀ w ∈ u_ws RX7 TX7 6, w ∈ wsX7_neighbour := by decide +kernel
  have hw0 : (Cond.fieldLink RX7 10 "NetPlumber" "board" "LNetPlumber$Board;").before #[Value.ref qX, Value.int x1, Value.int x2] s = true := hts _ (by decide +kernel)
  refine wq (fun Q hQ => ?_)
  unfold kX7_neighbour at hq
  refine lv_aload_n hx hb dX7_neighbour_0 rfl (lv_at hl 0 rfl) ?_
  refine lv_iload_n hx hb dX7_neighbour_1 rfl (lv_at hl 1 rfl) ?_
  obtain ⟨q1, eq1, hq⟩ := ob hq
  have hPc := hP.sub (ws' := [(qX, .inr (7, [.ref qB, .ref qH, .ref qK, .ref qV, .ref qS, .ref qW])), (qB, .inr (0, [.ref qBT, .ref qBC, .ref qBN, .ref qBW, .ref qBL, .int bn, .int bk, .int bs]))]) [0, 1] rfl
  have hKc := hK
  have hDc := hD.sub (ws' := [(qX, .inr (7, [.ref qB, .ref qH, .ref qK, .ref qV, .ref qS, .ref qW])), (qB, .inr (0, [.ref qBT, .ref qBC, .ref qBN, .ref qBW, .ref qBL, .int bn, .int bk, .int bs]))]) [0, 1] (by decide) rfl
  have hFc := va_free (wc := [(qX, .inr (7, [.ref qB, .ref qH, .ref qK, .ref qV, .ref qS, .ref qW])), (qB, .inr (0, [.ref qBT, .ref qBC, .ref qBN, .ref qBW, .ref qBL, .int bn, .int bk, .int bs]))]) hD hS hA [0, 1] rfl
  refine va_callv (va_runV (As := [.int x1]) (rest := []) ⟨hx, hb, hml, hown, hts⟩ (tX7_requireCell G l eq1) (cwV 1 hts gX7_neighbour_X7_requireCell rfl rfl rfl (by decide +kernel) ⟨Nat.le_of_ble_eq_true rfl, Nat.le_of_ble_eq_true rfl⟩) ⟨pcW_blind, va_recv hKc hPc (ci := 7) (q0 := 0) rfl rfl, pcW_pre hPc hKK hDc⟩ rfl rfl hl.1 rfl (lv_room (Nat.le_of_ble_eq_true rfl)) dX7_neighbour_2 ⟨Nat.zero_le _, Nat.zero_le _⟩) hS (fun q _ h => hFc q h) hFc (fun u t H1 locs ht hvm hw hB hz1 hk1 hS => ?_)
  have hB := va_Pto ht hB
  obtain ⟨hP, hD⟩ := jn (ws' := [(qX, .inr (7, [.ref qB, .ref qH, .ref qK, .ref qV, .ref qS, .ref qW])), (qB, .inr (0, [.ref qBT, .ref qBC, .ref qBN, .ref qBW, .ref qBL, .int bn, .int bk, .int bs])), (qBN, .inl (G.2.1, 64, .inl bN))]) hP hD hk1 hB [0, 1] rfl rfl rfl rfl
  generalize H1 = H at hP hS ⊢
  refine lv_aload_n hx hb dX7_neighbour_5 rfl (lv_at hl 0 rfl) ?_
  refine lv_iload_n hx hb dX7_neighbour_6 rfl (lv_at hl 2 rfl) ?_
  obtain ⟨q2, eq2, hq⟩ := ob hq
  have hPc := hP.sub (ws' := [(qX, .inr (7, [.ref qB, .ref qH, .ref qK, .ref qV, .ref qS, .ref qW]))]) [0] rfl
  have hKc := hK
  have hDc := hD.sub (ws' := [(qX, .inr (7, [.ref qB, .ref qH, .ref qK, .ref qV, .ref qS, .ref qW]))]) [0] (by decide) rfl
  have hFc := va_free (wc := [(qX, .inr (7, [.ref qB, .ref qH, .ref qK, .ref qV, .ref qS, .ref qW]))]) hD hS hA [0] rfl
  refine va_callv (va_runV (As := [.int x2]) (rest := []) ⟨hx, hb, hml, hown, hts⟩ (tX7_requireSide G l eq2) (cwV 1 hts gX7_neighbour_X7_requireSide rfl rfl rfl (by decide +kernel) ⟨Nat.le_of_ble_eq_true rfl, Nat.le_of_ble_eq_true rfl⟩) ⟨pcW_blind, va_recv hKc hPc (ci := 7) (q0 := 0) rfl rfl, pcW_pre hPc hKK hDc⟩ rfl rfl hl.1 rfl (lv_room (Nat.le_of_ble_eq_true rfl)) dX7_neighbour_7 ⟨Nat.zero_le _, Nat.zero_le _⟩) hS (fun q _ h => hFc q h) hFc (fun u t H1 locs ht hvm hw hB hz1 hk1 hS => ?_)
  have hB := va_Pto ht hB
  obtain ⟨hP, hD⟩ := jn (ws' := [(qX, .inr (7, [.ref qB, .ref qH, .ref qK, .ref qV, .ref qS, .ref qW])), (qB, .inr (0, [.ref qBT, .ref qBC, .ref qBN, .ref qBW, .ref qBL, .int bn, .int bk, .int bs])), (qBN, .inl (G.2.1, 64, .inl bN))]) hP hD hk1 hB [0] rfl rfl rfl rfl
  generalize H1 = H at hP hS ⊢
  refine lv_aload_n hx hb dX7_neighbour_10 rfl (lv_at hl 0 rfl) ?_
  refine va_get (D := G.1) (ci := 7) (v := .ref qB) (C := RX7) (T := TX7) (N := 6) hx hb hts hi7 hown hK hP 0 rfl rfl 0 (by decide) hw0 (fun _ h9 => h9) rfl dX7_neighbour_11 ?_
  refine lv_iload_n hx hb dX7_neighbour_14 rfl (lv_at hl 1 rfl) ?_
  refine lv_iload_n hx hb dX7_neighbour_15 rfl (lv_at hl 2 rfl) ?_
  obtain ⟨q3, eq3, hq⟩ := ob hq
  have hPc := hP.sub (ws' := [(qB, .inr (0, [.ref qBT, .ref qBC, .ref qBN, .ref qBW, .ref qBL, .int bn, .int bk, .int bs])), (qBN, .inl (G.2.1, 64, .inl bN))]) [1, 2] rfl
  have hKc := hK
  refine vp_callSi (va_Run.run (va_runV (As := [.int x1, .int x2]) (rest := []) ⟨hx, hb, hml, hown, hts⟩ (tX0_beside G l eq3) (cwV 2 hts gX7_neighbour_X0_beside rfl rfl rfl (by decide +kernel) ⟨Nat.le_of_ble_eq_true rfl, Nat.le_of_ble_eq_true rfl⟩) ⟨pcP_blind, va_recv hKc hPc (ci := 0) (q0 := 0) rfl rfl, pcP_pre hPc hKK⟩ rfl rfl hl.1 rfl (lv_room (Nat.le_of_ble_eq_true rfl)) dX7_neighbour_16 ⟨Nat.zero_le _, Nat.zero_le _⟩)) (fun r0 hr0 => ?_)
  obtain rfl := hr0
  obtain rfl := Option.some.inj hq
  rw [hQ]
  exact W.iret hx hb hr (fun t ht hW => ⟨⟨_, (), rfl, rfl, va_Pat ht hP⟩, hS.F ht⟩) hS.2.2 dX7_neighbour_19

def kX7_isJoined (F : Nat) (bn : Int32) (bT : Nat → Int32) (bW : Nat → Int32) (x1 : Int32) (x2 : Int32) : Option (Int32) :=
  ((kX7_requireCell F bn x1).bind fun q1 => ((kX7_requireSide F x2).bind fun q2 => ((kX0_joins F bT bW x1 x2).bind fun q3 => (if isZ q3 = true then some q3 else none))))
abbrev rmX7_isJoined : Room := { frames := 2, cells := 0, slots := 0, locals := 46 }
set_option maxHeartbeats 40000000 in
set_option maxRecDepth 100000 in
theorem tX7_isJoined (G : GG) (l : Launch) {qX qB qH qK qV qS qW qBT qBC qBN qBW qBL : Nat} {bn : Int32} {bk : Int32} {bs : Int32} {bT : Nat → Int32} {bW : Nat → Int32} {x1 : Int32} {x2 : Int32} {sz : Nat} {F : Nat} {r : Int32} (hq : kX7_isJoined F bn bT bW x1 x2 = some r) : Met l yX7_isJoined wsX7_isJoined rmX7_isJoined (pcW G [(qX, .inr (7, [.ref qB, .ref qH, .ref qK, .ref qV, .ref qS, .ref qW])), (qB, .inr (0, [.ref qBT, .ref qBC, .ref qBN, .ref qBW, .ref qBL, .int bn, .int bk, .int bs])), (qBT, .inl (G.2.1, 16, .inl bT)), (qBW, .inl (G.2.1, 64, .inl bW))] sz [.ref qX, .int x1, .int x2]) (qcI G r [(qX, .inr (7, [.ref qB, .ref qH, .ref qK, .ref qV, .ref qS, .ref qW])), (qB, .inr (0, [.ref qBT, .ref qBC, .ref qBN, .ref qBW, .ref qBL, .int bn, .int bk, .int bs])), (qBT, .inl (G.2.1, 16, .inl bT)), (qBW, .inl (G.2.1, 64, .inl bW))] (va_A [(qX, .inr (7, [.ref qB, .ref qH, .ref qK, .ref qV, .ref qS, .ref qW])), (qB, .inr (0, [.ref qBT, .ref qBC, .ref qBN, .ref qBW, .ref qBL, .int bn, .int bk, .int bs])), (qBT, .inl (G.2.1, 16, .inl bT)), (qBW, .inl (G.2.1, 64, .inl bW))] sz)) 0 0 (va_A [(qX, .inr (7, [.ref qB, .ref qH, .ref qK, .ref qV, .ref qS, .ref qW])), (qB, .inr (0, [.ref qBT, .ref qBC, .ref qBN, .ref qBW, .ref qBL, .int bn, .int bk, .int bs])), (qBT, .inl (G.2.1, 16, .inl bT)), (qBW, .inl (G.2.1, 64, .inl bW))] sz) := by
  refine Met.ofW (cc := cX7_isJoined) (maxL := 3) (ret := (some .boolean)) (by decide) rfl ?_
  intro p e s m args below meth c s₁ B hml hv
  obtain ⟨rfl, hsz, hP, hKK, hD0⟩ := hv
  have hK := hKK.1
  have hx := B.exec
  have hb := B.bytes
  have hr := B.returns
  have hts := atoms_spec (ws := wsX7_isJoined) B.pre
  have hown : s.vm.findClass RX7 = some m.cls := findClass_of_methodNamed B.named
  have hlocks := B.notSynchronized
  subst hsz
  have hD := hD0.self (sz := s.heap.size)
  generalize hAe : va_A [(qX, .inr (7, [.ref qB, .ref qH, .ref qK, .ref qV, .ref qS, .ref qW])), (qB, .inr (0, [.ref qBT, .ref qBC, .ref qBN, .ref qBW, .ref qBL, .int bn, .int bk, .int bs])), (qBT, .inl (G.2.1, 16, .inl bT)), (qBW, .inl (G.2.1, 64, .inl bW))] s.heap.size = A at hD ⊢
  have hA : ∀ q : Nat, s.heap.size ≤ q → A q := fun q h => by rw [← hAe]; exact Or.inr h
  have hS : va_S A s.heap s.heap [] := va_S.rf
  have hl := lv_entry ([.ref qX, .int x1, .int x2] : List Value) (n := 3) (Nat.le_of_ble_eq_true rfl)
  rw [lg_entry_eq]
  generalize (lg_sl ([.ref qX, .int x1, .int x2] : List Value) ++ List.replicate (3 - (lg_sl ([.ref qX, .int x1, .int x2] : List Value)).length) Slot.unset).toArray = ls at hl ⊢
  have hl : lv_has ls 3 [(0, .ref qX), (1, .int x1), (2, .int x2)] := hl
  have hi7 : ∀ w ∈ u_ws RX7 TX7 6, w ∈ wsX7_isJoined := by decide +kernel
  have hw0 : (Cond.fieldLink RX7 10 "NetPlumber" "board" "LNetPlumber$Board;").before #[Value.ref qX, Value.int x1, Value.int x2] s = true := hts _ (by decide +kernel)
  refine wq (fun Q hQ => ?_)
  unfold kX7_isJoined at hq
  refine lv_aload_n hx hb dX7_isJoined_0 rfl (lv_at hl 0 rfl) ?_
  refine lv_iload_n hx hb dX7_isJoined_1 rfl (lv_at hl 1 rfl) ?_
  obtain ⟨q1, eq1, hq⟩ := ob hq
  have hPc := hP.sub (ws' := [(qX, .inr (7, [.ref qB, .ref qH, .ref qK, .ref qV, .ref qS, .ref qW])), (qB, .inr (0, [.ref qBT, .ref qBC, .ref qBN, .ref qBW, .ref qBL, .int bn, .int bk, .int bs]))]) [0, 1] rfl
  have hKc := hK
  have hDc := hD.sub (ws' := [(qX, .inr (7, [.ref qB, .ref qH, .ref qK, .ref qV, .ref qS, .ref qW])), (qB, .inr (0, [.ref qBT, .ref qBC, .ref qBN, .ref qBW, .ref qBL, .int bn, .int bk, .int bs]))]) [0, 1] (by decide) rfl
  have hFc := va_free (wc := [(qX, .inr (7, [.ref qB, .ref qH, .ref qK, .ref qV, .ref qS, .ref qW])), (qB, .inr (0, [.ref qBT, .ref qBC, .ref qBN, .ref qBW, .ref qBL, .int bn, .int bk, .int bs]))]) hD hS hA [0, 1] rfl
  refine va_callv (va_runV (As := [.int x1]) (rest := []) ⟨hx, hb, hml, hown, hts⟩ (tX7_requireCell G l eq1) (cwV 1 hts gX7_isJoined_X7_requireCell rfl rfl rfl (by decide +kernel) ⟨Nat.le_of_ble_eq_true rfl, Nat.le_of_ble_eq_true rfl⟩) ⟨pcW_blind, va_recv hKc hPc (ci := 7) (q0 := 0) rfl rfl, pcW_pre hPc hKK hDc⟩ rfl rfl hl.1 rfl (lv_room (Nat.le_of_ble_eq_true rfl)) dX7_isJoined_2 ⟨Nat.zero_le _, Nat.zero_le _⟩) hS (fun q _ h => hFc q h) hFc (fun u t H1 locs ht hvm hw hB hz1 hk1 hS => ?_)
  have hB := va_Pto ht hB
  obtain ⟨hP, hD⟩ := jn (ws' := [(qX, .inr (7, [.ref qB, .ref qH, .ref qK, .ref qV, .ref qS, .ref qW])), (qB, .inr (0, [.ref qBT, .ref qBC, .ref qBN, .ref qBW, .ref qBL, .int bn, .int bk, .int bs])), (qBT, .inl (G.2.1, 16, .inl bT)), (qBW, .inl (G.2.1, 64, .inl bW))]) hP hD hk1 hB [0, 1] rfl rfl rfl rfl
  generalize H1 = H at hP hS ⊢
  refine lv_aload_n hx hb dX7_isJoined_5 rfl (lv_at hl 0 rfl) ?_
  refine lv_iload_n hx hb dX7_isJoined_6 rfl (lv_at hl 2 rfl) ?_
  obtain ⟨q2, eq2, hq⟩ := ob hq
  have hPc := hP.sub (ws' := [(qX, .inr (7, [.ref qB, .ref qH, .ref qK, .ref qV, .ref qS, .ref qW]))]) [0] rfl
  have hKc := hK
  have hDc := hD.sub (ws' := [(qX, .inr (7, [.ref qB, .ref qH, .ref qK, .ref qV, .ref qS, .ref qW]))]) [0] (by decide) rfl
  have hFc := va_free (wc := [(qX, .inr (7, [.ref qB, .ref qH, .ref qK, .ref qV, .ref qS, .ref qW]))]) hD hS hA [0] rfl
  refine va_callv (va_runV (As := [.int x2]) (rest := []) ⟨hx, hb, hml, hown, hts⟩ (tX7_requireSide G l eq2) (cwV 1 hts gX7_isJoined_X7_requireSide rfl rfl rfl (by decide +kernel) ⟨Nat.le_of_ble_eq_true rfl, Nat.le_of_ble_eq_true rfl⟩) ⟨pcW_blind, va_recv hKc hPc (ci := 7) (q0 := 0) rfl rfl, pcW_pre hPc hKK hDc⟩ rfl rfl hl.1 rfl (lv_room (Nat.le_of_ble_eq_true rfl)) dX7_isJoined_7 ⟨Nat.zero_le _, Nat.zero_le _⟩) hS (fun q _ h => hFc q h) hFc (fun u t H1 locs ht hvm hw hB hz1 hk1 hS => ?_)
  have hB := va_Pto ht hB
  obtain ⟨hP, hD⟩ := jn (ws' := [(qX, .inr (7, [.ref qB, .ref qH, .ref qK, .ref qV, .ref qS, .ref qW])), (qB, .inr (0, [.ref qBT, .ref qBC, .ref qBN, .ref qBW, .ref qBL, .int bn, .int bk, .int bs])), (qBT, .inl (G.2.1, 16, .inl bT)), (qBW, .inl (G.2.1, 64, .inl bW))]) hP hD hk1 hB [0] rfl rfl rfl rfl
  generalize H1 = H at hP hS ⊢
  refine lv_aload_n hx hb dX7_isJoined_10 rfl (lv_at hl 0 rfl) ?_
  refine va_get (D := G.1) (ci := 7) (v := .ref qB) (C := RX7) (T := TX7) (N := 6) hx hb hts hi7 hown hK hP 0 rfl rfl 0 (by decide) hw0 (fun _ h9 => h9) rfl dX7_isJoined_11 ?_
  refine lv_iload_n hx hb dX7_isJoined_14 rfl (lv_at hl 1 rfl) ?_
  refine lv_iload_n hx hb dX7_isJoined_15 rfl (lv_at hl 2 rfl) ?_
  obtain ⟨q3, eq3, hq⟩ := ob hq
  have hPc := hP.sub (ws' := [(qB, .inr (0, [.ref qBT, .ref qBC, .ref qBN, .ref qBW, .ref qBL, .int bn, .int bk, .int bs])), (qBT, .inl (G.2.1, 16, .inl bT)), (qBW, .inl (G.2.1, 64, .inl bW))]) [1, 2, 3] rfl
  have hKc := hK
  refine vp_callSi (va_Run.run (va_runV (As := [.int x1, .int x2]) (rest := []) ⟨hx, hb, hml, hown, hts⟩ (tX0_joins G l eq3) (cwV 2 hts gX7_isJoined_X0_joins rfl rfl rfl (by decide +kernel) ⟨Nat.le_of_ble_eq_true rfl, Nat.le_of_ble_eq_true rfl⟩) ⟨pcP_blind, va_recv hKc hPc (ci := 0) (q0 := 0) rfl rfl, pcP_pre hPc hKK⟩ rfl rfl hl.1 rfl (lv_room (Nat.le_of_ble_eq_true rfl)) dX7_isJoined_16 ⟨Nat.zero_le _, Nat.zero_le _⟩)) (fun r0 hr0 => ?_)
  obtain rfl := hr0
  obtain ⟨hg, hq⟩ := k_g hq
  obtain rfl := Option.some.inj hq
  rw [hQ]
  exact W.zret hx hb hr (isZ_n hg) (fun t ht hW => ⟨⟨_, (), rfl, rfl, va_Pat ht hP⟩, hS.F ht⟩) hS.2.2 dX7_isJoined_19

def kX7_isWatered (F : Nat) (bn : Int32) (bs : Int32) (bT : Nat → Int32) (bW : Nat → Int32) (bL : Nat → Int32) (x1 : Int32) : Option (Int32 × (Nat → Int32)) :=
  ((kX7_requireCell F bn x1).bind fun q1 => ((kX0_source F bs).bind fun q2 => ((kX0_reachedFrom F bT bW bL q2).bind fun q3 => ((kX7_holds F q3.1 x1).bind fun q4 => (if isZ q4 = true then some (q4, q3.2) else none)))))
abbrev rmX7_isWatered : Room := { frames := 4, cells := 0, slots := 0, locals := 91 }
set_option maxHeartbeats 40000000 in
set_option maxRecDepth 100000 in
theorem tX7_isWatered (G : GG) (l : Launch) {qX qB qH qK qV qS qW qBT qBC qBN qBW qBL : Nat} {bn : Int32} {bk : Int32} {bs : Int32} {bT : Nat → Int32} {bW : Nat → Int32} {bL : Nat → Int32} {x1 : Int32} {sz : Nat} {F : Nat} {r : Int32 × (Nat → Int32)} (hq : kX7_isWatered F bn bs bT bW bL x1 = some r) : Met l yX7_isWatered wsX7_isWatered rmX7_isWatered (pcW G [(qX, .inr (7, [.ref qB, .ref qH, .ref qK, .ref qV, .ref qS, .ref qW])), (qB, .inr (0, [.ref qBT, .ref qBC, .ref qBN, .ref qBW, .ref qBL, .int bn, .int bk, .int bs])), (qBT, .inl (G.2.1, 16, .inl bT)), (qBW, .inl (G.2.1, 64, .inl bW)), (qBL, .inl (G.2.1, 16, .inl bL))] sz [.ref qX, .int x1]) (qcI G r.1 [(qX, .inr (7, [.ref qB, .ref qH, .ref qK, .ref qV, .ref qS, .ref qW])), (qB, .inr (0, [.ref qBT, .ref qBC, .ref qBN, .ref qBW, .ref qBL, .int bn, .int bk, .int bs])), (qBT, .inl (G.2.1, 16, .inl bT)), (qBW, .inl (G.2.1, 64, .inl bW)), (qBL, .inl (G.2.1, 16, .inl r.2))] (va_A [(qX, .inr (7, [.ref qB, .ref qH, .ref qK, .ref qV, .ref qS, .ref qW])), (qB, .inr (0, [.ref qBT, .ref qBC, .ref qBN, .ref qBW, .ref qBL, .int bn, .int bk, .int bs])), (qBT, .inl (G.2.1, 16, .inl bT)), (qBW, .inl (G.2.1, 64, .inl bW)), (qBL, .inl (G.2.1, 16, .inl bL))] sz)) 0 0 (va_A [(qX, .inr (7, [.ref qB, .ref qH, .ref qK, .ref qV, .ref qS, .ref qW])), (qB, .inr (0, [.ref qBT, .ref qBC, .ref qBN, .ref qBW, .ref qBL, .int bn, .int bk, .int bs])), (qBT, .inl (G.2.1, 16, .inl bT)), (qBW, .inl (G.2.1, 64, .inl bW)), (qBL, .inl (G.2.1, 16, .inl bL))] sz) := by
  refine Met.ofW (cc := cX7_isWatered) (maxL := 2) (ret := (some .boolean)) (by decide) rfl ?_
  intro p e s m args below meth c s₁ B hml hv
  obtain ⟨rfl, hsz, hP, hKK, hD0⟩ := hv
  have hK := hKK.1
  have hx := B.exec
  have hb := B.bytes
  have hr := B.returns
  have hts := atoms_spec (ws := wsX7_isWatered) B.pre
  have hown : s.vm.findClass RX7 = some m.cls := findClass_of_methodNamed B.named
  have hlocks := B.notSynchronized
  subst hsz
  have hD := hD0.self (sz := s.heap.size)
  generalize hAe : va_A [(qX, .inr (7, [.ref qB, .ref qH, .ref qK, .ref qV, .ref qS, .ref qW])), (qB, .inr (0, [.ref qBT, .ref qBC, .ref qBN, .ref qBW, .ref qBL, .int bn, .int bk, .int bs])), (qBT, .inl (G.2.1, 16, .inl bT)), (qBW, .inl (G.2.1, 64, .inl bW)), (qBL, .inl (G.2.1, 16, .inl bL))] s.heap.size = A at hD ⊢
  have hA : ∀ q : Nat, s.heap.size ≤ q → A q := fun q h => by rw [← hAe]; exact Or.inr h
  have hS : va_S A s.heap s.heap [] := va_S.rf
  have hl := lv_entry ([.ref qX, .int x1] : List Value) (n := 2) (Nat.le_of_ble_eq_true rfl)
  rw [lg_entry_eq]
  generalize (lg_sl ([.ref qX, .int x1] : List Value) ++ List.replicate (2 - (lg_sl ([.ref qX, .int x1] : List Value)).length) Slot.unset).toArray = ls at hl ⊢
  have hl : lv_has ls 2 [(0, .ref qX), (1, .int x1)] := hl
  have hi7 : ∀ w ∈ u_ws RX7 TX7 6, w ∈ wsX7_isWatered := by decide +kernel
  have hw0 : (Cond.fieldLink RX7 10 "NetPlumber" "board" "LNetPlumber$Board;").before #[Value.ref qX, Value.int x1] s = true := hts _ (by decide +kernel)
  refine wq (fun Q hQ => ?_)
  unfold kX7_isWatered at hq
  refine lv_aload_n hx hb dX7_isWatered_0 rfl (lv_at hl 0 rfl) ?_
  refine lv_iload_n hx hb dX7_isWatered_1 rfl (lv_at hl 1 rfl) ?_
  obtain ⟨q1, eq1, hq⟩ := ob hq
  have hPc := hP.sub (ws' := [(qX, .inr (7, [.ref qB, .ref qH, .ref qK, .ref qV, .ref qS, .ref qW])), (qB, .inr (0, [.ref qBT, .ref qBC, .ref qBN, .ref qBW, .ref qBL, .int bn, .int bk, .int bs]))]) [0, 1] rfl
  have hKc := hK
  have hDc := hD.sub (ws' := [(qX, .inr (7, [.ref qB, .ref qH, .ref qK, .ref qV, .ref qS, .ref qW])), (qB, .inr (0, [.ref qBT, .ref qBC, .ref qBN, .ref qBW, .ref qBL, .int bn, .int bk, .int bs]))]) [0, 1] (by decide) rfl
  have hFc := va_free (wc := [(qX, .inr (7, [.ref qB, .ref qH, .ref qK, .ref qV, .ref qS, .ref qW])), (qB, .inr (0, [.ref qBT, .ref qBC, .ref qBN, .ref qBW, .ref qBL, .int bn, .int bk, .int bs]))]) hD hS hA [0, 1] rfl
  refine va_callv (va_runV (As := [.int x1]) (rest := []) ⟨hx, hb, hml, hown, hts⟩ (tX7_requireCell G l eq1) (cwV 1 hts gX7_isWatered_X7_requireCell rfl rfl rfl (by decide +kernel) ⟨Nat.le_of_ble_eq_true rfl, Nat.le_of_ble_eq_true rfl⟩) ⟨pcW_blind, va_recv hKc hPc (ci := 7) (q0 := 0) rfl rfl, pcW_pre hPc hKK hDc⟩ rfl rfl hl.1 rfl (lv_room (Nat.le_of_ble_eq_true rfl)) dX7_isWatered_2 ⟨Nat.zero_le _, Nat.zero_le _⟩) hS (fun q _ h => hFc q h) hFc (fun u t H1 locs ht hvm hw hB hz1 hk1 hS => ?_)
  have hB := va_Pto ht hB
  obtain ⟨hP, hD⟩ := jn (ws' := [(qX, .inr (7, [.ref qB, .ref qH, .ref qK, .ref qV, .ref qS, .ref qW])), (qB, .inr (0, [.ref qBT, .ref qBC, .ref qBN, .ref qBW, .ref qBL, .int bn, .int bk, .int bs])), (qBT, .inl (G.2.1, 16, .inl bT)), (qBW, .inl (G.2.1, 64, .inl bW)), (qBL, .inl (G.2.1, 16, .inl bL))]) hP hD hk1 hB [0, 1] rfl rfl rfl rfl
  generalize H1 = H at hP hS ⊢
  refine lv_aload_n hx hb dX7_isWatered_5 rfl (lv_at hl 0 rfl) ?_
  refine va_get (D := G.1) (ci := 7) (v := .ref qB) (C := RX7) (T := TX7) (N := 6) hx hb hts hi7 hown hK hP 0 rfl rfl 0 (by decide) hw0 (fun _ h9 => h9) rfl dX7_isWatered_6 ?_
  refine lv_aload_n hx hb dX7_isWatered_9 rfl (lv_at hl 0 rfl) ?_
  refine va_get (D := G.1) (ci := 7) (v := .ref qB) (C := RX7) (T := TX7) (N := 6) hx hb hts hi7 hown hK hP 0 rfl rfl 0 (by decide) hw0 (fun _ h9 => h9) rfl dX7_isWatered_10 ?_
  obtain ⟨q2, eq2, hq⟩ := ob hq
  have hPc := hP.sub (ws' := [(qB, .inr (0, [.ref qBT, .ref qBC, .ref qBN, .ref qBW, .ref qBL, .int bn, .int bk, .int bs]))]) [1] rfl
  have hKc := hK
  refine vp_callSi (va_Run.run (va_runV (As := []) (rest := [.ref qB]) ⟨hx, hb, hml, hown, hts⟩ (tX0_source G l eq2) (cwV 0 hts gX7_isWatered_X0_source rfl rfl rfl (by decide +kernel) ⟨Nat.le_of_ble_eq_true rfl, Nat.le_of_ble_eq_true rfl⟩) ⟨pcP_blind, va_recv hKc hPc (ci := 0) (q0 := 0) rfl rfl, pcP_pre hPc hKK⟩ rfl rfl hl.1 rfl (lv_room (Nat.le_of_ble_eq_true rfl)) dX7_isWatered_13 ⟨Nat.zero_le _, Nat.zero_le _⟩)) (fun r0 hr0 => ?_)
  obtain rfl := hr0
  obtain ⟨q3, eq3, hq⟩ := ob hq
  have hPc := hP.sub (ws' := [(qB, .inr (0, [.ref qBT, .ref qBC, .ref qBN, .ref qBW, .ref qBL, .int bn, .int bk, .int bs])), (qBT, .inl (G.2.1, 16, .inl bT)), (qBW, .inl (G.2.1, 64, .inl bW)), (qBL, .inl (G.2.1, 16, .inl bL))]) [1, 2, 3, 4] rfl
  have hKc := hK
  have hDc := hD.sub (ws' := [(qB, .inr (0, [.ref qBT, .ref qBC, .ref qBN, .ref qBW, .ref qBL, .int bn, .int bk, .int bs])), (qBT, .inl (G.2.1, 16, .inl bT)), (qBW, .inl (G.2.1, 64, .inl bW)), (qBL, .inl (G.2.1, 16, .inl bL))]) [1, 2, 3, 4] (by decide) rfl
  have hFc := va_free (wc := [(qB, .inr (0, [.ref qBT, .ref qBC, .ref qBN, .ref qBW, .ref qBL, .int bn, .int bk, .int bs])), (qBT, .inl (G.2.1, 16, .inl bT)), (qBW, .inl (G.2.1, 64, .inl bW)), (qBL, .inl (G.2.1, 16, .inl bL))]) hD hS hA [1, 2, 3, 4] rfl
  refine va_calli (va_runV (As := [.int q2]) (rest := []) ⟨hx, hb, hml, hown, hts⟩ (tX0_reachedFrom G l eq3) (cwV 1 hts gX7_isWatered_X0_reachedFrom rfl rfl rfl (by decide +kernel) ⟨Nat.le_of_ble_eq_true rfl, Nat.le_of_ble_eq_true rfl⟩) ⟨pcW_blind, va_recv hKc hPc (ci := 0) (q0 := 0) rfl rfl, pcW_pre hPc hKK hDc⟩ rfl rfl hl.1 rfl (lv_room (Nat.le_of_ble_eq_true rfl)) dX7_isWatered_16 ⟨Nat.zero_le _, Nat.zero_le _⟩) hS (fun q _ h => hFc q h) hFc (fun r0 u t H1 locs ht hvm hw hB hz1 hk1 hS => ?_)
  obtain rfl := hw
  have hB := va_Pto ht hB
  obtain ⟨hP, hD⟩ := jn (ws' := [(qX, .inr (7, [.ref qB, .ref qH, .ref qK, .ref qV, .ref qS, .ref qW])), (qB, .inr (0, [.ref qBT, .ref qBC, .ref qBN, .ref qBW, .ref qBL, .int bn, .int bk, .int bs])), (qBT, .inl (G.2.1, 16, .inl bT)), (qBW, .inl (G.2.1, 64, .inl bW)), (qBL, .inl (G.2.1, 16, .inl q3.2))]) hP hD hk1 hB [1, 2, 3, 4] rfl rfl rfl rfl
  generalize H1 = H at hP hS ⊢
  refine lv_iload_n hx hb dX7_isWatered_19 rfl (lv_at hl 1 rfl) ?_
  obtain ⟨q4, eq4, hq⟩ := ob hq
  have hPc := hP.sub (ws' := []) [] rfl
  refine vp_callSi (va_Run.run (va_runS (As := [.int q3.1, .int x1]) (rest := []) ⟨hx, hb, hml, hown, hts⟩ (tX7_holds G l eq4) (va_cwS 2 hts gX7_isWatered_X7_holds rfl rfl rfl (by decide +kernel) ⟨Nat.le_of_ble_eq_true rfl, Nat.le_of_ble_eq_true rfl⟩) ⟨pcP_blind, pcP_pre hPc hKK⟩ rfl rfl hl.1 rfl (lv_room (Nat.le_of_ble_eq_true rfl)) dX7_isWatered_20 ⟨Nat.zero_le _, Nat.zero_le _⟩)) (fun r0 hr0 => ?_)
  obtain rfl := hr0
  obtain ⟨hg, hq⟩ := k_g hq
  obtain rfl := Option.some.inj hq
  rw [hQ]
  exact W.zret hx hb hr (isZ_n hg) (fun t ht hW => ⟨⟨_, (), rfl, rfl, va_Pat ht hP⟩, hS.F ht⟩) hS.2.2 dX7_isWatered_23

def kX7_begin (F : Nat) (bn : Int32) (bk : Int32) (bs : Int32) (bT : Nat → Int32) (bC : Nat → Int32) (bN : Nat → Int32) (bW : Nat → Int32) (hd : Int32) (hk : Int32) (x1 : Int32) (x2 : Int32) (x3 : Int32) : Option (Int32 × Int32 × Int32 × Int32 × (Nat → Int32) × (Nat → Int32) × (Nat → Int32) × (Nat → Int32) × Int32 × Int32) :=
  ((kX7_requireBoard F x1 x2 x3).bind fun q1 => ((kX7_startBoard F bn bk bs bT bC bN bW hd hk x1 x2 x3).bind fun q2 => ((kX0_count F q2.1).bind fun q3 => some (q3, q2.1, q2.2.1, q2.2.2.1, q2.2.2.2.1, q2.2.2.2.2.1, q2.2.2.2.2.2.1, q2.2.2.2.2.2.2.1, q2.2.2.2.2.2.2.2.1, q2.2.2.2.2.2.2.2.2))))
abbrev rmX7_begin : Room := { frames := 4, cells := 0, slots := 0, locals := 129 }
set_option maxHeartbeats 40000000 in
set_option maxRecDepth 100000 in
theorem tX7_begin (G : GG) (l : Launch) {qX qB qH qK qV qS qW qBT qBC qBN qBW qBL qHM : Nat} {bn : Int32} {bk : Int32} {bs : Int32} {bT : Nat → Int32} {bC : Nat → Int32} {bN : Nat → Int32} {bW : Nat → Int32} {hd : Int32} {hk : Int32} {x1 : Int32} {x2 : Int32} {x3 : Int32} {sz : Nat} {F : Nat} {r : Int32 × Int32 × Int32 × Int32 × (Nat → Int32) × (Nat → Int32) × (Nat → Int32) × (Nat → Int32) × Int32 × Int32} (hq : kX7_begin F bn bk bs bT bC bN bW hd hk x1 x2 x3 = some r) : Met l yX7_begin wsX7_begin rmX7_begin (pcW G [(qX, .inr (7, [.ref qB, .ref qH, .ref qK, .ref qV, .ref qS, .ref qW])), (qB, .inr (0, [.ref qBT, .ref qBC, .ref qBN, .ref qBW, .ref qBL, .int bn, .int bk, .int bs])), (qBT, .inl (G.2.1, 16, .inl bT)), (qBC, .inl (G.2.1, 16, .inl bC)), (qBN, .inl (G.2.1, 64, .inl bN)), (qBW, .inl (G.2.1, 64, .inl bW)), (qH, .inr (2, [.ref qHM, .int hd, .int hk]))] sz [.ref qX, .int x1, .int x2, .int x3]) (qcI G r.1 [(qX, .inr (7, [.ref qB, .ref qH, .ref qK, .ref qV, .ref qS, .ref qW])), (qB, .inr (0, [.ref qBT, .ref qBC, .ref qBN, .ref qBW, .ref qBL, .int r.2.1, .int r.2.2.1, .int r.2.2.2.1])), (qBT, .inl (G.2.1, 16, .inl r.2.2.2.2.1)), (qBC, .inl (G.2.1, 16, .inl r.2.2.2.2.2.1)), (qBN, .inl (G.2.1, 64, .inl r.2.2.2.2.2.2.1)), (qBW, .inl (G.2.1, 64, .inl r.2.2.2.2.2.2.2.1)), (qH, .inr (2, [.ref qHM, .int r.2.2.2.2.2.2.2.2.1, .int r.2.2.2.2.2.2.2.2.2]))] (va_A [(qX, .inr (7, [.ref qB, .ref qH, .ref qK, .ref qV, .ref qS, .ref qW])), (qB, .inr (0, [.ref qBT, .ref qBC, .ref qBN, .ref qBW, .ref qBL, .int bn, .int bk, .int bs])), (qBT, .inl (G.2.1, 16, .inl bT)), (qBC, .inl (G.2.1, 16, .inl bC)), (qBN, .inl (G.2.1, 64, .inl bN)), (qBW, .inl (G.2.1, 64, .inl bW)), (qH, .inr (2, [.ref qHM, .int hd, .int hk]))] sz)) 0 0 (va_A [(qX, .inr (7, [.ref qB, .ref qH, .ref qK, .ref qV, .ref qS, .ref qW])), (qB, .inr (0, [.ref qBT, .ref qBC, .ref qBN, .ref qBW, .ref qBL, .int bn, .int bk, .int bs])), (qBT, .inl (G.2.1, 16, .inl bT)), (qBC, .inl (G.2.1, 16, .inl bC)), (qBN, .inl (G.2.1, 64, .inl bN)), (qBW, .inl (G.2.1, 64, .inl bW)), (qH, .inr (2, [.ref qHM, .int hd, .int hk]))] sz) := by
  refine Met.ofW (cc := cX7_begin) (maxL := 4) (ret := (some .int)) (by decide) rfl ?_
  intro p e s m args below meth c s₁ B hml hv
  obtain ⟨rfl, hsz, hP, hKK, hD0⟩ := hv
  have hK := hKK.1
  have hx := B.exec
  have hb := B.bytes
  have hr := B.returns
  have hts := atoms_spec (ws := wsX7_begin) B.pre
  have hown : s.vm.findClass RX7 = some m.cls := findClass_of_methodNamed B.named
  have hlocks := B.notSynchronized
  subst hsz
  have hD := hD0.self (sz := s.heap.size)
  generalize hAe : va_A [(qX, .inr (7, [.ref qB, .ref qH, .ref qK, .ref qV, .ref qS, .ref qW])), (qB, .inr (0, [.ref qBT, .ref qBC, .ref qBN, .ref qBW, .ref qBL, .int bn, .int bk, .int bs])), (qBT, .inl (G.2.1, 16, .inl bT)), (qBC, .inl (G.2.1, 16, .inl bC)), (qBN, .inl (G.2.1, 64, .inl bN)), (qBW, .inl (G.2.1, 64, .inl bW)), (qH, .inr (2, [.ref qHM, .int hd, .int hk]))] s.heap.size = A at hD ⊢
  have hA : ∀ q : Nat, s.heap.size ≤ q → A q := fun q h => by rw [← hAe]; exact Or.inr h
  have hS : va_S A s.heap s.heap [] := va_S.rf
  have hl := lv_entry ([.ref qX, .int x1, .int x2, .int x3] : List Value) (n := 4) (Nat.le_of_ble_eq_true rfl)
  rw [lg_entry_eq]
  generalize (lg_sl ([.ref qX, .int x1, .int x2, .int x3] : List Value) ++ List.replicate (4 - (lg_sl ([.ref qX, .int x1, .int x2, .int x3] : List Value)).length) Slot.unset).toArray = ls at hl ⊢
  have hl : lv_has ls 4 [(0, .ref qX), (1, .int x1), (2, .int x2), (3, .int x3)] := hl
  have hi7 : ∀ w ∈ u_ws RX7 TX7 6, w ∈ wsX7_begin := by decide +kernel
  have hw0 : (Cond.fieldLink RX7 10 "NetPlumber" "board" "LNetPlumber$Board;").before #[Value.ref qX, Value.int x1, Value.int x2, Value.int x3] s = true := hts _ (by decide +kernel)
  refine wq (fun Q hQ => ?_)
  unfold kX7_begin at hq
  refine lv_aload_n hx hb dX7_begin_0 rfl (lv_at hl 0 rfl) ?_
  refine lv_iload_n hx hb dX7_begin_1 rfl (lv_at hl 1 rfl) ?_
  refine lv_iload_n hx hb dX7_begin_2 rfl (lv_at hl 2 rfl) ?_
  refine lv_iload_n hx hb dX7_begin_3 rfl (lv_at hl 3 rfl) ?_
  obtain ⟨q1, eq1, hq⟩ := ob hq
  have hPc := hP.sub (ws' := [(qX, .inr (7, [.ref qB, .ref qH, .ref qK, .ref qV, .ref qS, .ref qW]))]) [0] rfl
  have hKc := hK
  have hDc := hD.sub (ws' := [(qX, .inr (7, [.ref qB, .ref qH, .ref qK, .ref qV, .ref qS, .ref qW]))]) [0] (by decide) rfl
  have hFc := va_free (wc := [(qX, .inr (7, [.ref qB, .ref qH, .ref qK, .ref qV, .ref qS, .ref qW]))]) hD hS hA [0] rfl
  refine va_callv (va_runV (As := [.int x1, .int x2, .int x3]) (rest := []) ⟨hx, hb, hml, hown, hts⟩ (tX7_requireBoard G l eq1) (cwV 3 hts gX7_begin_X7_requireBoard rfl rfl rfl (by decide +kernel) ⟨Nat.le_of_ble_eq_true rfl, Nat.le_of_ble_eq_true rfl⟩) ⟨pcW_blind, va_recv hKc hPc (ci := 7) (q0 := 0) rfl rfl, pcW_pre hPc hKK hDc⟩ rfl rfl hl.1 rfl (lv_room (Nat.le_of_ble_eq_true rfl)) dX7_begin_4 ⟨Nat.zero_le _, Nat.zero_le _⟩) hS (fun q _ h => hFc q h) hFc (fun u t H1 locs ht hvm hw hB hz1 hk1 hS => ?_)
  have hB := va_Pto ht hB
  obtain ⟨hP, hD⟩ := jn (ws' := [(qX, .inr (7, [.ref qB, .ref qH, .ref qK, .ref qV, .ref qS, .ref qW])), (qB, .inr (0, [.ref qBT, .ref qBC, .ref qBN, .ref qBW, .ref qBL, .int bn, .int bk, .int bs])), (qBT, .inl (G.2.1, 16, .inl bT)), (qBC, .inl (G.2.1, 16, .inl bC)), (qBN, .inl (G.2.1, 64, .inl bN)), (qBW, .inl (G.2.1, 64, .inl bW)), (qH, .inr (2, [.ref qHM, .int hd, .int hk]))]) hP hD hk1 hB [0] rfl rfl rfl rfl
  generalize H1 = H at hP hS ⊢
  refine lv_aload_n hx hb dX7_begin_7 rfl (lv_at hl 0 rfl) ?_
  refine lv_iload_n hx hb dX7_begin_8 rfl (lv_at hl 1 rfl) ?_
  refine lv_iload_n hx hb dX7_begin_9 rfl (lv_at hl 2 rfl) ?_
  refine lv_iload_n hx hb dX7_begin_10 rfl (lv_at hl 3 rfl) ?_
  obtain ⟨q2, eq2, hq⟩ := ob hq
  have hPc := hP.sub (ws' := [(qX, .inr (7, [.ref qB, .ref qH, .ref qK, .ref qV, .ref qS, .ref qW])), (qB, .inr (0, [.ref qBT, .ref qBC, .ref qBN, .ref qBW, .ref qBL, .int bn, .int bk, .int bs])), (qBT, .inl (G.2.1, 16, .inl bT)), (qBC, .inl (G.2.1, 16, .inl bC)), (qBN, .inl (G.2.1, 64, .inl bN)), (qBW, .inl (G.2.1, 64, .inl bW)), (qH, .inr (2, [.ref qHM, .int hd, .int hk]))]) [0, 1, 2, 3, 4, 5, 6] rfl
  have hKc := hK
  have hDc := hD.sub (ws' := [(qX, .inr (7, [.ref qB, .ref qH, .ref qK, .ref qV, .ref qS, .ref qW])), (qB, .inr (0, [.ref qBT, .ref qBC, .ref qBN, .ref qBW, .ref qBL, .int bn, .int bk, .int bs])), (qBT, .inl (G.2.1, 16, .inl bT)), (qBC, .inl (G.2.1, 16, .inl bC)), (qBN, .inl (G.2.1, 64, .inl bN)), (qBW, .inl (G.2.1, 64, .inl bW)), (qH, .inr (2, [.ref qHM, .int hd, .int hk]))]) [0, 1, 2, 3, 4, 5, 6] (by decide) rfl
  have hFc := va_free (wc := [(qX, .inr (7, [.ref qB, .ref qH, .ref qK, .ref qV, .ref qS, .ref qW])), (qB, .inr (0, [.ref qBT, .ref qBC, .ref qBN, .ref qBW, .ref qBL, .int bn, .int bk, .int bs])), (qBT, .inl (G.2.1, 16, .inl bT)), (qBC, .inl (G.2.1, 16, .inl bC)), (qBN, .inl (G.2.1, 64, .inl bN)), (qBW, .inl (G.2.1, 64, .inl bW)), (qH, .inr (2, [.ref qHM, .int hd, .int hk]))]) hD hS hA [0, 1, 2, 3, 4, 5, 6] rfl
  refine va_callv (va_runV (As := [.int x1, .int x2, .int x3]) (rest := []) ⟨hx, hb, hml, hown, hts⟩ (tX7_startBoard G l eq2) (cwV 3 hts gX7_begin_X7_startBoard rfl rfl rfl (by decide +kernel) ⟨Nat.le_of_ble_eq_true rfl, Nat.le_of_ble_eq_true rfl⟩) ⟨pcW_blind, va_recv hKc hPc (ci := 7) (q0 := 0) rfl rfl, pcW_pre hPc hKK hDc⟩ rfl rfl hl.1 rfl (lv_room (Nat.le_of_ble_eq_true rfl)) dX7_begin_11 ⟨Nat.zero_le _, Nat.zero_le _⟩) hS (fun q _ h => hFc q h) hFc (fun u t H1 locs ht hvm hw hB hz1 hk1 hS => ?_)
  have hB := va_Pto ht hB
  obtain ⟨hP, hD⟩ := jn (ws' := [(qX, .inr (7, [.ref qB, .ref qH, .ref qK, .ref qV, .ref qS, .ref qW])), (qB, .inr (0, [.ref qBT, .ref qBC, .ref qBN, .ref qBW, .ref qBL, .int q2.1, .int q2.2.1, .int q2.2.2.1])), (qBT, .inl (G.2.1, 16, .inl q2.2.2.2.1)), (qBC, .inl (G.2.1, 16, .inl q2.2.2.2.2.1)), (qBN, .inl (G.2.1, 64, .inl q2.2.2.2.2.2.1)), (qBW, .inl (G.2.1, 64, .inl q2.2.2.2.2.2.2.1)), (qH, .inr (2, [.ref qHM, .int q2.2.2.2.2.2.2.2.1, .int q2.2.2.2.2.2.2.2.2]))]) hP hD hk1 hB [0, 1, 2, 3, 4, 5, 6] rfl rfl rfl rfl
  generalize H1 = H at hP hS ⊢
  refine lv_aload_n hx hb dX7_begin_14 rfl (lv_at hl 0 rfl) ?_
  refine va_get (D := G.1) (ci := 7) (v := .ref qB) (C := RX7) (T := TX7) (N := 6) hx hb hts hi7 hown hK hP 0 rfl rfl 0 (by decide) hw0 (fun _ h9 => h9) rfl dX7_begin_15 ?_
  obtain ⟨q3, eq3, hq⟩ := ob hq
  have hPc := hP.sub (ws' := [(qB, .inr (0, [.ref qBT, .ref qBC, .ref qBN, .ref qBW, .ref qBL, .int q2.1, .int q2.2.1, .int q2.2.2.1]))]) [1] rfl
  have hKc := hK
  refine vp_callSi (va_Run.run (va_runV (As := []) (rest := []) ⟨hx, hb, hml, hown, hts⟩ (tX0_count G l eq3) (cwV 0 hts gX7_begin_X0_count rfl rfl rfl (by decide +kernel) ⟨Nat.le_of_ble_eq_true rfl, Nat.le_of_ble_eq_true rfl⟩) ⟨pcP_blind, va_recv hKc hPc (ci := 0) (q0 := 0) rfl rfl, pcP_pre hPc hKK⟩ rfl rfl hl.1 rfl (lv_room (Nat.le_of_ble_eq_true rfl)) dX7_begin_18 ⟨Nat.zero_le _, Nat.zero_le _⟩)) (fun r0 hr0 => ?_)
  obtain rfl := hr0
  obtain rfl := Option.some.inj hq
  rw [hQ]
  exact W.iret hx hb hr (fun t ht hW => ⟨⟨_, (), rfl, rfl, va_Pat ht hP⟩, hS.F ht⟩) hS.2.2 dX7_begin_21

def kX7_make (F : Nat) (bn : Int32) (bk : Int32) (bs : Int32) (bT : Nat → Int32) (bC : Nat → Int32) (bN : Nat → Int32) (bW : Nat → Int32) (bL : Nat → Int32) (hd : Int32) (hk : Int32) (kp : Int32) (ku : Int32) (kC : Nat → Int32) (kS : Nat → Int32) (x1 : Int32) (x2 : Int32) (x3 : Int32) (x4 : Int32) : Option (Int32 × Int32 × Int32 × Int32 × (Nat → Int32) × (Nat → Int32) × (Nat → Int32) × (Nat → Int32) × (Nat → Int32) × Int32 × Int32 × Int32 × Int32 × (Nat → Int32) × (Nat → Int32)) :=
  ((kX7_requireBoard F x1 x2 x3).bind fun q1 => (if x4 < 0 then none else (if x4 < 65536 then ((kX7_startBoard F bn bk bs bT bC bN bW hd hk x1 x2 x3).bind fun q2 => ((kX3_fillBoard F q2.1 q2.2.2.2.1 q2.2.2.2.2.2.1 q2.2.2.2.2.2.2.1 bL kp ku kC kS x4).bind fun q3 => ((kX0_countEnds F q2.1 q3.1).bind fun q4 => some (q4, q2.1, q2.2.1, q2.2.2.1, q3.1, q2.2.2.2.2.1, q2.2.2.2.2.2.1, q2.2.2.2.2.2.2.1, q3.2.1, q2.2.2.2.2.2.2.2.1, q2.2.2.2.2.2.2.2.2, q3.2.2.1, q3.2.2.2.1, q3.2.2.2.2.1, q3.2.2.2.2.2)))) else none)))
abbrev rmX7_make : Room := { frames := 6, cells := 0, slots := 0, locals := 136 }
set_option maxHeartbeats 40000000 in
set_option maxRecDepth 100000 in
theorem tX7_make (G : GG) (l : Launch) {qX qB qH qK qV qS qW qBT qBC qBN qBW qBL qHM qKC qKS : Nat} {bn : Int32} {bk : Int32} {bs : Int32} {bT : Nat → Int32} {bC : Nat → Int32} {bN : Nat → Int32} {bW : Nat → Int32} {bL : Nat → Int32} {hd : Int32} {hk : Int32} {kp : Int32} {ku : Int32} {kC : Nat → Int32} {kS : Nat → Int32} {x1 : Int32} {x2 : Int32} {x3 : Int32} {x4 : Int32} {sz : Nat} {F : Nat} {r : Int32 × Int32 × Int32 × Int32 × (Nat → Int32) × (Nat → Int32) × (Nat → Int32) × (Nat → Int32) × (Nat → Int32) × Int32 × Int32 × Int32 × Int32 × (Nat → Int32) × (Nat → Int32)} (hq : kX7_make F bn bk bs bT bC bN bW bL hd hk kp ku kC kS x1 x2 x3 x4 = some r) : Met l yX7_make wsX7_make rmX7_make (pcW G [(qX, .inr (7, [.ref qB, .ref qH, .ref qK, .ref qV, .ref qS, .ref qW])), (qB, .inr (0, [.ref qBT, .ref qBC, .ref qBN, .ref qBW, .ref qBL, .int bn, .int bk, .int bs])), (qBT, .inl (G.2.1, 16, .inl bT)), (qBC, .inl (G.2.1, 16, .inl bC)), (qBN, .inl (G.2.1, 64, .inl bN)), (qBW, .inl (G.2.1, 64, .inl bW)), (qBL, .inl (G.2.1, 16, .inl bL)), (qH, .inr (2, [.ref qHM, .int hd, .int hk])), (qK, .inr (3, [.ref qB, .ref qKC, .ref qKS, .int kp, .int ku])), (qKC, .inl (G.2.1, 32, .inl kC)), (qKS, .inl (G.2.1, 32, .inl kS))] sz [.ref qX, .int x1, .int x2, .int x3, .int x4]) (qcI G r.1 [(qX, .inr (7, [.ref qB, .ref qH, .ref qK, .ref qV, .ref qS, .ref qW])), (qB, .inr (0, [.ref qBT, .ref qBC, .ref qBN, .ref qBW, .ref qBL, .int r.2.1, .int r.2.2.1, .int r.2.2.2.1])), (qBT, .inl (G.2.1, 16, .inl r.2.2.2.2.1)), (qBC, .inl (G.2.1, 16, .inl r.2.2.2.2.2.1)), (qBN, .inl (G.2.1, 64, .inl r.2.2.2.2.2.2.1)), (qBW, .inl (G.2.1, 64, .inl r.2.2.2.2.2.2.2.1)), (qBL, .inl (G.2.1, 16, .inl r.2.2.2.2.2.2.2.2.1)), (qH, .inr (2, [.ref qHM, .int r.2.2.2.2.2.2.2.2.2.1, .int r.2.2.2.2.2.2.2.2.2.2.1])), (qK, .inr (3, [.ref qB, .ref qKC, .ref qKS, .int r.2.2.2.2.2.2.2.2.2.2.2.1, .int r.2.2.2.2.2.2.2.2.2.2.2.2.1])), (qKC, .inl (G.2.1, 32, .inl r.2.2.2.2.2.2.2.2.2.2.2.2.2.1)), (qKS, .inl (G.2.1, 32, .inl r.2.2.2.2.2.2.2.2.2.2.2.2.2.2))] (va_A [(qX, .inr (7, [.ref qB, .ref qH, .ref qK, .ref qV, .ref qS, .ref qW])), (qB, .inr (0, [.ref qBT, .ref qBC, .ref qBN, .ref qBW, .ref qBL, .int bn, .int bk, .int bs])), (qBT, .inl (G.2.1, 16, .inl bT)), (qBC, .inl (G.2.1, 16, .inl bC)), (qBN, .inl (G.2.1, 64, .inl bN)), (qBW, .inl (G.2.1, 64, .inl bW)), (qBL, .inl (G.2.1, 16, .inl bL)), (qH, .inr (2, [.ref qHM, .int hd, .int hk])), (qK, .inr (3, [.ref qB, .ref qKC, .ref qKS, .int kp, .int ku])), (qKC, .inl (G.2.1, 32, .inl kC)), (qKS, .inl (G.2.1, 32, .inl kS))] sz)) 0 0 (va_A [(qX, .inr (7, [.ref qB, .ref qH, .ref qK, .ref qV, .ref qS, .ref qW])), (qB, .inr (0, [.ref qBT, .ref qBC, .ref qBN, .ref qBW, .ref qBL, .int bn, .int bk, .int bs])), (qBT, .inl (G.2.1, 16, .inl bT)), (qBC, .inl (G.2.1, 16, .inl bC)), (qBN, .inl (G.2.1, 64, .inl bN)), (qBW, .inl (G.2.1, 64, .inl bW)), (qBL, .inl (G.2.1, 16, .inl bL)), (qH, .inr (2, [.ref qHM, .int hd, .int hk])), (qK, .inr (3, [.ref qB, .ref qKC, .ref qKS, .int kp, .int ku])), (qKC, .inl (G.2.1, 32, .inl kC)), (qKS, .inl (G.2.1, 32, .inl kS))] sz) := by
  refine Met.ofW (cc := cX7_make) (maxL := 5) (ret := (some .int)) (by decide) rfl ?_
  intro p e s m args below meth c s₁ B hml hv
  obtain ⟨rfl, hsz, hP, hKK, hD0⟩ := hv
  have hK := hKK.1
  have hx := B.exec
  have hb := B.bytes
  have hr := B.returns
  have hts := atoms_spec (ws := wsX7_make) B.pre
  have hown : s.vm.findClass RX7 = some m.cls := findClass_of_methodNamed B.named
  have hlocks := B.notSynchronized
  subst hsz
  have hD := hD0.self (sz := s.heap.size)
  generalize hAe : va_A [(qX, .inr (7, [.ref qB, .ref qH, .ref qK, .ref qV, .ref qS, .ref qW])), (qB, .inr (0, [.ref qBT, .ref qBC, .ref qBN, .ref qBW, .ref qBL, .int bn, .int bk, .int bs])), (qBT, .inl (G.2.1, 16, .inl bT)), (qBC, .inl (G.2.1, 16, .inl bC)), (qBN, .inl (G.2.1, 64, .inl bN)), (qBW, .inl (G.2.1, 64, .inl bW)), (qBL, .inl (G.2.1, 16, .inl bL)), (qH, .inr (2, [.ref qHM, .int hd, .int hk])), (qK, .inr (3, [.ref qB, .ref qKC, .ref qKS, .int kp, .int ku])), (qKC, .inl (G.2.1, 32, .inl kC)), (qKS, .inl (G.2.1, 32, .inl kS))] s.heap.size = A at hD ⊢
  have hA : ∀ q : Nat, s.heap.size ≤ q → A q := fun q h => by rw [← hAe]; exact Or.inr h
  have hS : va_S A s.heap s.heap [] := va_S.rf
  have hl := lv_entry ([.ref qX, .int x1, .int x2, .int x3, .int x4] : List Value) (n := 5) (Nat.le_of_ble_eq_true rfl)
  rw [lg_entry_eq]
  generalize (lg_sl ([.ref qX, .int x1, .int x2, .int x3, .int x4] : List Value) ++ List.replicate (5 - (lg_sl ([.ref qX, .int x1, .int x2, .int x3, .int x4] : List Value)).length) Slot.unset).toArray = ls at hl ⊢
  have hl : lv_has ls 5 [(0, .ref qX), (1, .int x1), (2, .int x2), (3, .int x3), (4, .int x4)] := hl
  have hi7 : ∀ w ∈ u_ws RX7 TX7 6, w ∈ wsX7_make := by decide +kernel
  have hw0 : (Cond.constant RX7 69 (65536)).before #[Value.ref qX, Value.int x1, Value.int x2, Value.int x3, Value.int x4] s = true := hts _ (by decide +kernel)
  have hw1 : (Cond.fieldLink RX7 28 "NetPlumber" "maker" "LNetPlumber$Maker;").before #[Value.ref qX, Value.int x1, Value.int x2, Value.int x3, Value.int x4] s = true := hts _ (by decide +kernel)
  have hw2 : (Cond.fieldLink RX7 10 "NetPlumber" "board" "LNetPlumber$Board;").before #[Value.ref qX, Value.int x1, Value.int x2, Value.int x3, Value.int x4] s = true := hts _ (by decide +kernel)
  refine wq (fun Q hQ => ?_)
  unfold kX7_make at hq
  refine lv_aload_n hx hb dX7_make_0 rfl (lv_at hl 0 rfl) ?_
  refine lv_iload_n hx hb dX7_make_1 rfl (lv_at hl 1 rfl) ?_
  refine lv_iload_n hx hb dX7_make_2 rfl (lv_at hl 2 rfl) ?_
  refine lv_iload_n hx hb dX7_make_3 rfl (lv_at hl 3 rfl) ?_
  obtain ⟨q1, eq1, hq⟩ := ob hq
  have hPc := hP.sub (ws' := [(qX, .inr (7, [.ref qB, .ref qH, .ref qK, .ref qV, .ref qS, .ref qW]))]) [0] rfl
  have hKc := hK
  have hDc := hD.sub (ws' := [(qX, .inr (7, [.ref qB, .ref qH, .ref qK, .ref qV, .ref qS, .ref qW]))]) [0] (by decide) rfl
  have hFc := va_free (wc := [(qX, .inr (7, [.ref qB, .ref qH, .ref qK, .ref qV, .ref qS, .ref qW]))]) hD hS hA [0] rfl
  refine va_callv (va_runV (As := [.int x1, .int x2, .int x3]) (rest := []) ⟨hx, hb, hml, hown, hts⟩ (tX7_requireBoard G l eq1) (cwV 3 hts gX7_make_X7_requireBoard rfl rfl rfl (by decide +kernel) ⟨Nat.le_of_ble_eq_true rfl, Nat.le_of_ble_eq_true rfl⟩) ⟨pcW_blind, va_recv hKc hPc (ci := 7) (q0 := 0) rfl rfl, pcW_pre hPc hKK hDc⟩ rfl rfl hl.1 rfl (lv_room (Nat.le_of_ble_eq_true rfl)) dX7_make_4 ⟨Nat.zero_le _, Nat.zero_le _⟩) hS (fun q _ h => hFc q h) hFc (fun u t H1 locs ht hvm hw hB hz1 hk1 hS => ?_)
  have hB := va_Pto ht hB
  obtain ⟨hP, hD⟩ := jn (ws' := [(qX, .inr (7, [.ref qB, .ref qH, .ref qK, .ref qV, .ref qS, .ref qW])), (qB, .inr (0, [.ref qBT, .ref qBC, .ref qBN, .ref qBW, .ref qBL, .int bn, .int bk, .int bs])), (qBT, .inl (G.2.1, 16, .inl bT)), (qBC, .inl (G.2.1, 16, .inl bC)), (qBN, .inl (G.2.1, 64, .inl bN)), (qBW, .inl (G.2.1, 64, .inl bW)), (qBL, .inl (G.2.1, 16, .inl bL)), (qH, .inr (2, [.ref qHM, .int hd, .int hk])), (qK, .inr (3, [.ref qB, .ref qKC, .ref qKS, .int kp, .int ku])), (qKC, .inl (G.2.1, 32, .inl kC)), (qKS, .inl (G.2.1, 32, .inl kS))]) hP hD hk1 hB [0] rfl rfl rfl rfl
  generalize H1 = H at hP hS ⊢
  refine lv_iload hx hb dX7_make_7 (lv_at hl 4 rfl) ?_
  refine lv_if_lt (tgt := 19) hx hb dX7_make_9 (by decide) (fun c_9 => ?_) (fun c_9 => ?_)
  · have hq := k_t c_9 hq
    cases hq
  · have hq := k_f c_9 hq
    refine lv_iload hx hb dX7_make_12 (lv_at hl 4 rfl) ?_
    refine lv_ldc (v := 65536) hx hb hown hw0 dX7_make_14 ?_
    refine lv_icmp_lt (tgt := 29) hx hb dX7_make_16 (by decide) (fun c_16 => ?_) (fun c_16 => ?_)
    · have hq := k_t c_16 hq
      refine lv_aload_n hx hb dX7_make_29 rfl (lv_at hl 0 rfl) ?_
      refine lv_iload_n hx hb dX7_make_30 rfl (lv_at hl 1 rfl) ?_
      refine lv_iload_n hx hb dX7_make_31 rfl (lv_at hl 2 rfl) ?_
      refine lv_iload_n hx hb dX7_make_32 rfl (lv_at hl 3 rfl) ?_
      obtain ⟨q2, eq2, hq⟩ := ob hq
      have hPc := hP.sub (ws' := [(qX, .inr (7, [.ref qB, .ref qH, .ref qK, .ref qV, .ref qS, .ref qW])), (qB, .inr (0, [.ref qBT, .ref qBC, .ref qBN, .ref qBW, .ref qBL, .int bn, .int bk, .int bs])), (qBT, .inl (G.2.1, 16, .inl bT)), (qBC, .inl (G.2.1, 16, .inl bC)), (qBN, .inl (G.2.1, 64, .inl bN)), (qBW, .inl (G.2.1, 64, .inl bW)), (qH, .inr (2, [.ref qHM, .int hd, .int hk]))]) [0, 1, 2, 3, 4, 5, 7] rfl
      have hKc := hK
      have hDc := hD.sub (ws' := [(qX, .inr (7, [.ref qB, .ref qH, .ref qK, .ref qV, .ref qS, .ref qW])), (qB, .inr (0, [.ref qBT, .ref qBC, .ref qBN, .ref qBW, .ref qBL, .int bn, .int bk, .int bs])), (qBT, .inl (G.2.1, 16, .inl bT)), (qBC, .inl (G.2.1, 16, .inl bC)), (qBN, .inl (G.2.1, 64, .inl bN)), (qBW, .inl (G.2.1, 64, .inl bW)), (qH, .inr (2, [.ref qHM, .int hd, .int hk]))]) [0, 1, 2, 3, 4, 5, 7] (by decide) rfl
      have hFc := va_free (wc := [(qX, .inr (7, [.ref qB, .ref qH, .ref qK, .ref qV, .ref qS, .ref qW])), (qB, .inr (0, [.ref qBT, .ref qBC, .ref qBN, .ref qBW, .ref qBL, .int bn, .int bk, .int bs])), (qBT, .inl (G.2.1, 16, .inl bT)), (qBC, .inl (G.2.1, 16, .inl bC)), (qBN, .inl (G.2.1, 64, .inl bN)), (qBW, .inl (G.2.1, 64, .inl bW)), (qH, .inr (2, [.ref qHM, .int hd, .int hk]))]) hD hS hA [0, 1, 2, 3, 4, 5, 7] rfl
      refine va_callv (va_runV (As := [.int x1, .int x2, .int x3]) (rest := []) ⟨hx, hb, hml, hown, hts⟩ (tX7_startBoard G l eq2) (cwV 3 hts gX7_make_X7_startBoard rfl rfl rfl (by decide +kernel) ⟨Nat.le_of_ble_eq_true rfl, Nat.le_of_ble_eq_true rfl⟩) ⟨pcW_blind, va_recv hKc hPc (ci := 7) (q0 := 0) rfl rfl, pcW_pre hPc hKK hDc⟩ rfl rfl hl.1 rfl (lv_room (Nat.le_of_ble_eq_true rfl)) dX7_make_33 ⟨Nat.zero_le _, Nat.zero_le _⟩) hS (fun q _ h => hFc q h) hFc (fun u t H1 locs ht hvm hw hB hz1 hk1 hS => ?_)
      have hB := va_Pto ht hB
      obtain ⟨hP, hD⟩ := jn (ws' := [(qX, .inr (7, [.ref qB, .ref qH, .ref qK, .ref qV, .ref qS, .ref qW])), (qB, .inr (0, [.ref qBT, .ref qBC, .ref qBN, .ref qBW, .ref qBL, .int q2.1, .int q2.2.1, .int q2.2.2.1])), (qBT, .inl (G.2.1, 16, .inl q2.2.2.2.1)), (qBC, .inl (G.2.1, 16, .inl q2.2.2.2.2.1)), (qBN, .inl (G.2.1, 64, .inl q2.2.2.2.2.2.1)), (qBW, .inl (G.2.1, 64, .inl q2.2.2.2.2.2.2.1)), (qBL, .inl (G.2.1, 16, .inl bL)), (qH, .inr (2, [.ref qHM, .int q2.2.2.2.2.2.2.2.1, .int q2.2.2.2.2.2.2.2.2])), (qK, .inr (3, [.ref qB, .ref qKC, .ref qKS, .int kp, .int ku])), (qKC, .inl (G.2.1, 32, .inl kC)), (qKS, .inl (G.2.1, 32, .inl kS))]) hP hD hk1 hB [0, 1, 2, 3, 4, 5, 7] rfl rfl rfl rfl
      generalize H1 = H at hP hS ⊢
      refine lv_aload_n hx hb dX7_make_36 rfl (lv_at hl 0 rfl) ?_
      refine va_get (D := G.1) (ci := 7) (v := .ref qK) (C := RX7) (T := TX7) (N := 6) hx hb hts hi7 hown hK hP 0 rfl rfl 2 (by decide) hw1 (fun _ h9 => h9) rfl dX7_make_37 ?_
      refine lv_iload hx hb dX7_make_40 (lv_at hl 4 rfl) ?_
      obtain ⟨q3, eq3, hq⟩ := ob hq
      have hPc := hP.sub (ws' := [(qB, .inr (0, [.ref qBT, .ref qBC, .ref qBN, .ref qBW, .ref qBL, .int q2.1, .int q2.2.1, .int q2.2.2.1])), (qBT, .inl (G.2.1, 16, .inl q2.2.2.2.1)), (qBN, .inl (G.2.1, 64, .inl q2.2.2.2.2.2.1)), (qBW, .inl (G.2.1, 64, .inl q2.2.2.2.2.2.2.1)), (qBL, .inl (G.2.1, 16, .inl bL)), (qK, .inr (3, [.ref qB, .ref qKC, .ref qKS, .int kp, .int ku])), (qKC, .inl (G.2.1, 32, .inl kC)), (qKS, .inl (G.2.1, 32, .inl kS))]) [1, 2, 4, 5, 6, 8, 9, 10] rfl
      have hKc := hK
      have hDc := hD.sub (ws' := [(qB, .inr (0, [.ref qBT, .ref qBC, .ref qBN, .ref qBW, .ref qBL, .int q2.1, .int q2.2.1, .int q2.2.2.1])), (qBT, .inl (G.2.1, 16, .inl q2.2.2.2.1)), (qBN, .inl (G.2.1, 64, .inl q2.2.2.2.2.2.1)), (qBW, .inl (G.2.1, 64, .inl q2.2.2.2.2.2.2.1)), (qBL, .inl (G.2.1, 16, .inl bL)), (qK, .inr (3, [.ref qB, .ref qKC, .ref qKS, .int kp, .int ku])), (qKC, .inl (G.2.1, 32, .inl kC)), (qKS, .inl (G.2.1, 32, .inl kS))]) [1, 2, 4, 5, 6, 8, 9, 10] (by decide) rfl
      have hFc := va_free (wc := [(qB, .inr (0, [.ref qBT, .ref qBC, .ref qBN, .ref qBW, .ref qBL, .int q2.1, .int q2.2.1, .int q2.2.2.1])), (qBT, .inl (G.2.1, 16, .inl q2.2.2.2.1)), (qBN, .inl (G.2.1, 64, .inl q2.2.2.2.2.2.1)), (qBW, .inl (G.2.1, 64, .inl q2.2.2.2.2.2.2.1)), (qBL, .inl (G.2.1, 16, .inl bL)), (qK, .inr (3, [.ref qB, .ref qKC, .ref qKS, .int kp, .int ku])), (qKC, .inl (G.2.1, 32, .inl kC)), (qKS, .inl (G.2.1, 32, .inl kS))]) hD hS hA [1, 2, 4, 5, 6, 8, 9, 10] rfl
      refine va_callv (va_runV (As := [.int x4]) (rest := []) ⟨hx, hb, hml, hown, hts⟩ (tX3_fillBoard G l eq3) (cwV 1 hts gX7_make_X3_fillBoard rfl rfl rfl (by decide +kernel) ⟨Nat.le_of_ble_eq_true rfl, Nat.le_of_ble_eq_true rfl⟩) ⟨pcW_blind, va_recv hKc hPc (ci := 3) (q0 := 5) rfl rfl, pcW_pre hPc hKK hDc⟩ rfl rfl hl.1 rfl (lv_room (Nat.le_of_ble_eq_true rfl)) dX7_make_42 ⟨Nat.zero_le _, Nat.zero_le _⟩) hS (fun q _ h => hFc q h) hFc (fun u t H1 locs ht hvm hw hB hz1 hk1 hS => ?_)
      have hB := va_Pto ht hB
      obtain ⟨hP, hD⟩ := jn (ws' := [(qX, .inr (7, [.ref qB, .ref qH, .ref qK, .ref qV, .ref qS, .ref qW])), (qB, .inr (0, [.ref qBT, .ref qBC, .ref qBN, .ref qBW, .ref qBL, .int q2.1, .int q2.2.1, .int q2.2.2.1])), (qBT, .inl (G.2.1, 16, .inl q3.1)), (qBC, .inl (G.2.1, 16, .inl q2.2.2.2.2.1)), (qBN, .inl (G.2.1, 64, .inl q2.2.2.2.2.2.1)), (qBW, .inl (G.2.1, 64, .inl q2.2.2.2.2.2.2.1)), (qBL, .inl (G.2.1, 16, .inl q3.2.1)), (qH, .inr (2, [.ref qHM, .int q2.2.2.2.2.2.2.2.1, .int q2.2.2.2.2.2.2.2.2])), (qK, .inr (3, [.ref qB, .ref qKC, .ref qKS, .int q3.2.2.1, .int q3.2.2.2.1])), (qKC, .inl (G.2.1, 32, .inl q3.2.2.2.2.1)), (qKS, .inl (G.2.1, 32, .inl q3.2.2.2.2.2))]) hP hD hk1 hB [1, 2, 4, 5, 6, 8, 9, 10] rfl rfl rfl rfl
      generalize H1 = H at hP hS ⊢
      refine lv_aload_n hx hb dX7_make_45 rfl (lv_at hl 0 rfl) ?_
      refine va_get (D := G.1) (ci := 7) (v := .ref qB) (C := RX7) (T := TX7) (N := 6) hx hb hts hi7 hown hK hP 0 rfl rfl 0 (by decide) hw2 (fun _ h9 => h9) rfl dX7_make_46 ?_
      obtain ⟨q4, eq4, hq⟩ := ob hq
      have hPc := hP.sub (ws' := [(qB, .inr (0, [.ref qBT, .ref qBC, .ref qBN, .ref qBW, .ref qBL, .int q2.1, .int q2.2.1, .int q2.2.2.1])), (qBT, .inl (G.2.1, 16, .inl q3.1))]) [1, 2] rfl
      have hKc := hK
      refine vp_callSi (va_Run.run (va_runV (As := []) (rest := []) ⟨hx, hb, hml, hown, hts⟩ (tX0_countEnds G l eq4) (cwV 0 hts gX7_make_X0_countEnds rfl rfl rfl (by decide +kernel) ⟨Nat.le_of_ble_eq_true rfl, Nat.le_of_ble_eq_true rfl⟩) ⟨pcP_blind, va_recv hKc hPc (ci := 0) (q0 := 0) rfl rfl, pcP_pre hPc hKK⟩ rfl rfl hl.1 rfl (lv_room (Nat.le_of_ble_eq_true rfl)) dX7_make_49 ⟨Nat.zero_le _, Nat.zero_le _⟩)) (fun r0 hr0 => ?_)
      obtain rfl := hr0
      obtain rfl := Option.some.inj hq
      rw [hQ]
      exact W.iret hx hb hr (fun t ht hW => ⟨⟨_, (), rfl, rfl, va_Pat ht hP⟩, hS.F ht⟩) hS.2.2 dX7_make_52
    · have hq := k_f c_16 hq
      cases hq

def kX7_lays (F : Nat) (bn : Int32) (bk : Int32) (bT : Nat → Int32) (bW : Nat → Int32) (vL : Nat → Int32) (vS : Nat → Int32) (vA : Nat → Int32) (vT : Nat → Int32) (x1 : Int32) : Option (Int32 × (Nat → Int32) × (Nat → Int32) × (Nat → Int32) × (Nat → Int32)) :=
  ((kX7_requireCell F bn x1).bind fun q1 => ((kX5_sift F bn bk bT bW vL vS vA vT).bind fun q2 => ((kX5_leftAt F q2.1 x1).bind fun q3 => some (q3, q2.1, q2.2.1, q2.2.2.1, q2.2.2.2))))
abbrev rmX7_lays : Room := { frames := 6, cells := 0, slots := 0, locals := 145 }
set_option maxHeartbeats 40000000 in
set_option maxRecDepth 100000 in
theorem tX7_lays (G : GG) (l : Launch) {qX qB qH qK qV qS qW qBT qBC qBN qBW qBL qVL qVS qVA qVT : Nat} {bn : Int32} {bk : Int32} {bs : Int32} {bT : Nat → Int32} {bW : Nat → Int32} {vL : Nat → Int32} {vS : Nat → Int32} {vA : Nat → Int32} {vT : Nat → Int32} {x1 : Int32} {sz : Nat} {F : Nat} {r : Int32 × (Nat → Int32) × (Nat → Int32) × (Nat → Int32) × (Nat → Int32)} (hq : kX7_lays F bn bk bT bW vL vS vA vT x1 = some r) : Met l yX7_lays wsX7_lays rmX7_lays (pcW G [(qX, .inr (7, [.ref qB, .ref qH, .ref qK, .ref qV, .ref qS, .ref qW])), (qB, .inr (0, [.ref qBT, .ref qBC, .ref qBN, .ref qBW, .ref qBL, .int bn, .int bk, .int bs])), (qBT, .inl (G.2.1, 16, .inl bT)), (qBW, .inl (G.2.1, 64, .inl bW)), (qV, .inr (5, [.ref qB, .ref qVL, .ref qVS, .ref qVA, .ref qVT])), (qVL, .inl (G.2.1, 16, .inl vL)), (qVS, .inl (G.2.1, 16, .inl vS)), (qVA, .inl (G.2.1, 16, .inl vA)), (qVT, .inl (G.2.1, 16, .inl vT))] sz [.ref qX, .int x1]) (qcI G r.1 [(qX, .inr (7, [.ref qB, .ref qH, .ref qK, .ref qV, .ref qS, .ref qW])), (qB, .inr (0, [.ref qBT, .ref qBC, .ref qBN, .ref qBW, .ref qBL, .int bn, .int bk, .int bs])), (qBT, .inl (G.2.1, 16, .inl bT)), (qBW, .inl (G.2.1, 64, .inl bW)), (qV, .inr (5, [.ref qB, .ref qVL, .ref qVS, .ref qVA, .ref qVT])), (qVL, .inl (G.2.1, 16, .inl r.2.1)), (qVS, .inl (G.2.1, 16, .inl r.2.2.1)), (qVA, .inl (G.2.1, 16, .inl r.2.2.2.1)), (qVT, .inl (G.2.1, 16, .inl r.2.2.2.2))] (va_A [(qX, .inr (7, [.ref qB, .ref qH, .ref qK, .ref qV, .ref qS, .ref qW])), (qB, .inr (0, [.ref qBT, .ref qBC, .ref qBN, .ref qBW, .ref qBL, .int bn, .int bk, .int bs])), (qBT, .inl (G.2.1, 16, .inl bT)), (qBW, .inl (G.2.1, 64, .inl bW)), (qV, .inr (5, [.ref qB, .ref qVL, .ref qVS, .ref qVA, .ref qVT])), (qVL, .inl (G.2.1, 16, .inl vL)), (qVS, .inl (G.2.1, 16, .inl vS)), (qVA, .inl (G.2.1, 16, .inl vA)), (qVT, .inl (G.2.1, 16, .inl vT))] sz)) 0 0 (va_A [(qX, .inr (7, [.ref qB, .ref qH, .ref qK, .ref qV, .ref qS, .ref qW])), (qB, .inr (0, [.ref qBT, .ref qBC, .ref qBN, .ref qBW, .ref qBL, .int bn, .int bk, .int bs])), (qBT, .inl (G.2.1, 16, .inl bT)), (qBW, .inl (G.2.1, 64, .inl bW)), (qV, .inr (5, [.ref qB, .ref qVL, .ref qVS, .ref qVA, .ref qVT])), (qVL, .inl (G.2.1, 16, .inl vL)), (qVS, .inl (G.2.1, 16, .inl vS)), (qVA, .inl (G.2.1, 16, .inl vA)), (qVT, .inl (G.2.1, 16, .inl vT))] sz) := by
  refine Met.ofW (cc := cX7_lays) (maxL := 2) (ret := (some .int)) (by decide) rfl ?_
  intro p e s m args below meth c s₁ B hml hv
  obtain ⟨rfl, hsz, hP, hKK, hD0⟩ := hv
  have hK := hKK.1
  have hx := B.exec
  have hb := B.bytes
  have hr := B.returns
  have hts := atoms_spec (ws := wsX7_lays) B.pre
  have hown : s.vm.findClass RX7 = some m.cls := findClass_of_methodNamed B.named
  have hlocks := B.notSynchronized
  subst hsz
  have hD := hD0.self (sz := s.heap.size)
  generalize hAe : va_A [(qX, .inr (7, [.ref qB, .ref qH, .ref qK, .ref qV, .ref qS, .ref qW])), (qB, .inr (0, [.ref qBT, .ref qBC, .ref qBN, .ref qBW, .ref qBL, .int bn, .int bk, .int bs])), (qBT, .inl (G.2.1, 16, .inl bT)), (qBW, .inl (G.2.1, 64, .inl bW)), (qV, .inr (5, [.ref qB, .ref qVL, .ref qVS, .ref qVA, .ref qVT])), (qVL, .inl (G.2.1, 16, .inl vL)), (qVS, .inl (G.2.1, 16, .inl vS)), (qVA, .inl (G.2.1, 16, .inl vA)), (qVT, .inl (G.2.1, 16, .inl vT))] s.heap.size = A at hD ⊢
  have hA : ∀ q : Nat, s.heap.size ≤ q → A q := fun q h => by rw [← hAe]; exact Or.inr h
  have hS : va_S A s.heap s.heap [] := va_S.rf
  have hl := lv_entry ([.ref qX, .int x1] : List Value) (n := 2) (Nat.le_of_ble_eq_true rfl)
  rw [lg_entry_eq]
  generalize (lg_sl ([.ref qX, .int x1] : List Value) ++ List.replicate (2 - (lg_sl ([.ref qX, .int x1] : List Value)).length) Slot.unset).toArray = ls at hl ⊢
  have hl : lv_has ls 2 [(0, .ref qX), (1, .int x1)] := hl
  have hi7 : ∀ w ∈ u_ws RX7 TX7 6, w ∈ wsX7_lays := by decide +kernel
  have hw0 : (Cond.fieldLink RX7 35 "NetPlumber" "sieve" "LNetPlumber$Sieve;").before #[Value.ref qX, Value.int x1] s = true := hts _ (by decide +kernel)
  refine wq (fun Q hQ => ?_)
  unfold kX7_lays at hq
  refine lv_aload_n hx hb dX7_lays_0 rfl (lv_at hl 0 rfl) ?_
  refine lv_iload_n hx hb dX7_lays_1 rfl (lv_at hl 1 rfl) ?_
  obtain ⟨q1, eq1, hq⟩ := ob hq
  have hPc := hP.sub (ws' := [(qX, .inr (7, [.ref qB, .ref qH, .ref qK, .ref qV, .ref qS, .ref qW])), (qB, .inr (0, [.ref qBT, .ref qBC, .ref qBN, .ref qBW, .ref qBL, .int bn, .int bk, .int bs]))]) [0, 1] rfl
  have hKc := hK
  have hDc := hD.sub (ws' := [(qX, .inr (7, [.ref qB, .ref qH, .ref qK, .ref qV, .ref qS, .ref qW])), (qB, .inr (0, [.ref qBT, .ref qBC, .ref qBN, .ref qBW, .ref qBL, .int bn, .int bk, .int bs]))]) [0, 1] (by decide) rfl
  have hFc := va_free (wc := [(qX, .inr (7, [.ref qB, .ref qH, .ref qK, .ref qV, .ref qS, .ref qW])), (qB, .inr (0, [.ref qBT, .ref qBC, .ref qBN, .ref qBW, .ref qBL, .int bn, .int bk, .int bs]))]) hD hS hA [0, 1] rfl
  refine va_callv (va_runV (As := [.int x1]) (rest := []) ⟨hx, hb, hml, hown, hts⟩ (tX7_requireCell G l eq1) (cwV 1 hts gX7_lays_X7_requireCell rfl rfl rfl (by decide +kernel) ⟨Nat.le_of_ble_eq_true rfl, Nat.le_of_ble_eq_true rfl⟩) ⟨pcW_blind, va_recv hKc hPc (ci := 7) (q0 := 0) rfl rfl, pcW_pre hPc hKK hDc⟩ rfl rfl hl.1 rfl (lv_room (Nat.le_of_ble_eq_true rfl)) dX7_lays_2 ⟨Nat.zero_le _, Nat.zero_le _⟩) hS (fun q _ h => hFc q h) hFc (fun u t H1 locs ht hvm hw hB hz1 hk1 hS => ?_)
  have hB := va_Pto ht hB
  obtain ⟨hP, hD⟩ := jn (ws' := [(qX, .inr (7, [.ref qB, .ref qH, .ref qK, .ref qV, .ref qS, .ref qW])), (qB, .inr (0, [.ref qBT, .ref qBC, .ref qBN, .ref qBW, .ref qBL, .int bn, .int bk, .int bs])), (qBT, .inl (G.2.1, 16, .inl bT)), (qBW, .inl (G.2.1, 64, .inl bW)), (qV, .inr (5, [.ref qB, .ref qVL, .ref qVS, .ref qVA, .ref qVT])), (qVL, .inl (G.2.1, 16, .inl vL)), (qVS, .inl (G.2.1, 16, .inl vS)), (qVA, .inl (G.2.1, 16, .inl vA)), (qVT, .inl (G.2.1, 16, .inl vT))]) hP hD hk1 hB [0, 1] rfl rfl rfl rfl
  generalize H1 = H at hP hS ⊢
  refine lv_aload_n hx hb dX7_lays_5 rfl (lv_at hl 0 rfl) ?_
  refine va_get (D := G.1) (ci := 7) (v := .ref qV) (C := RX7) (T := TX7) (N := 6) hx hb hts hi7 hown hK hP 0 rfl rfl 3 (by decide) hw0 (fun _ h9 => h9) rfl dX7_lays_6 ?_
  obtain ⟨q2, eq2, hq⟩ := ob hq
  have hPc := hP.sub (ws' := [(qB, .inr (0, [.ref qBT, .ref qBC, .ref qBN, .ref qBW, .ref qBL, .int bn, .int bk, .int bs])), (qBT, .inl (G.2.1, 16, .inl bT)), (qBW, .inl (G.2.1, 64, .inl bW)), (qV, .inr (5, [.ref qB, .ref qVL, .ref qVS, .ref qVA, .ref qVT])), (qVL, .inl (G.2.1, 16, .inl vL)), (qVS, .inl (G.2.1, 16, .inl vS)), (qVA, .inl (G.2.1, 16, .inl vA)), (qVT, .inl (G.2.1, 16, .inl vT))]) [1, 2, 3, 4, 5, 6, 7, 8] rfl
  have hKc := hK
  have hDc := hD.sub (ws' := [(qB, .inr (0, [.ref qBT, .ref qBC, .ref qBN, .ref qBW, .ref qBL, .int bn, .int bk, .int bs])), (qBT, .inl (G.2.1, 16, .inl bT)), (qBW, .inl (G.2.1, 64, .inl bW)), (qV, .inr (5, [.ref qB, .ref qVL, .ref qVS, .ref qVA, .ref qVT])), (qVL, .inl (G.2.1, 16, .inl vL)), (qVS, .inl (G.2.1, 16, .inl vS)), (qVA, .inl (G.2.1, 16, .inl vA)), (qVT, .inl (G.2.1, 16, .inl vT))]) [1, 2, 3, 4, 5, 6, 7, 8] (by decide) rfl
  have hFc := va_free (wc := [(qB, .inr (0, [.ref qBT, .ref qBC, .ref qBN, .ref qBW, .ref qBL, .int bn, .int bk, .int bs])), (qBT, .inl (G.2.1, 16, .inl bT)), (qBW, .inl (G.2.1, 64, .inl bW)), (qV, .inr (5, [.ref qB, .ref qVL, .ref qVS, .ref qVA, .ref qVT])), (qVL, .inl (G.2.1, 16, .inl vL)), (qVS, .inl (G.2.1, 16, .inl vS)), (qVA, .inl (G.2.1, 16, .inl vA)), (qVT, .inl (G.2.1, 16, .inl vT))]) hD hS hA [1, 2, 3, 4, 5, 6, 7, 8] rfl
  refine va_callv (va_runV (As := []) (rest := []) ⟨hx, hb, hml, hown, hts⟩ (tX5_sift G l eq2) (cwV 0 hts gX7_lays_X5_sift rfl rfl rfl (by decide +kernel) ⟨Nat.le_of_ble_eq_true rfl, Nat.le_of_ble_eq_true rfl⟩) ⟨pcW_blind, va_recv hKc hPc (ci := 5) (q0 := 3) rfl rfl, pcW_pre hPc hKK hDc⟩ rfl rfl hl.1 rfl (lv_room (Nat.le_of_ble_eq_true rfl)) dX7_lays_9 ⟨Nat.zero_le _, Nat.zero_le _⟩) hS (fun q _ h => hFc q h) hFc (fun u t H1 locs ht hvm hw hB hz1 hk1 hS => ?_)
  have hB := va_Pto ht hB
  obtain ⟨hP, hD⟩ := jn (ws' := [(qX, .inr (7, [.ref qB, .ref qH, .ref qK, .ref qV, .ref qS, .ref qW])), (qB, .inr (0, [.ref qBT, .ref qBC, .ref qBN, .ref qBW, .ref qBL, .int bn, .int bk, .int bs])), (qBT, .inl (G.2.1, 16, .inl bT)), (qBW, .inl (G.2.1, 64, .inl bW)), (qV, .inr (5, [.ref qB, .ref qVL, .ref qVS, .ref qVA, .ref qVT])), (qVL, .inl (G.2.1, 16, .inl q2.1)), (qVS, .inl (G.2.1, 16, .inl q2.2.1)), (qVA, .inl (G.2.1, 16, .inl q2.2.2.1)), (qVT, .inl (G.2.1, 16, .inl q2.2.2.2))]) hP hD hk1 hB [1, 2, 3, 4, 5, 6, 7, 8] rfl rfl rfl rfl
  generalize H1 = H at hP hS ⊢
  refine lv_aload_n hx hb dX7_lays_12 rfl (lv_at hl 0 rfl) ?_
  refine va_get (D := G.1) (ci := 7) (v := .ref qV) (C := RX7) (T := TX7) (N := 6) hx hb hts hi7 hown hK hP 0 rfl rfl 3 (by decide) hw0 (fun _ h9 => h9) rfl dX7_lays_13 ?_
  refine lv_iload_n hx hb dX7_lays_16 rfl (lv_at hl 1 rfl) ?_
  obtain ⟨q3, eq3, hq⟩ := ob hq
  have hPc := hP.sub (ws' := [(qV, .inr (5, [.ref qB, .ref qVL, .ref qVS, .ref qVA, .ref qVT])), (qVL, .inl (G.2.1, 16, .inl q2.1))]) [4, 5] rfl
  have hKc := hK
  refine vp_callSi (va_Run.run (va_runV (As := [.int x1]) (rest := []) ⟨hx, hb, hml, hown, hts⟩ (tX5_leftAt G l eq3) (cwV 1 hts gX7_lays_X5_leftAt rfl rfl rfl (by decide +kernel) ⟨Nat.le_of_ble_eq_true rfl, Nat.le_of_ble_eq_true rfl⟩) ⟨pcP_blind, va_recv hKc hPc (ci := 5) (q0 := 0) rfl rfl, pcP_pre hPc hKK⟩ rfl rfl hl.1 rfl (lv_room (Nat.le_of_ble_eq_true rfl)) dX7_lays_17 ⟨Nat.zero_le _, Nat.zero_le _⟩)) (fun r0 hr0 => ?_)
  obtain rfl := hr0
  obtain rfl := Option.some.inj hq
  rw [hQ]
  exact W.iret hx hb hr (fun t ht hW => ⟨⟨_, (), rfl, rfl, va_Pat ht hP⟩, hS.F ht⟩) hS.2.2 dX7_lays_20

def kX7_first (F : Nat) (bn : Int32) (bk : Int32) (bT : Nat → Int32) (bW : Nat → Int32) (vL : Nat → Int32) (vS : Nat → Int32) (vA : Nat → Int32) (vT : Nat → Int32) (so : Int32) (sw : Int32) (sR : Nat → Int32) (sI : Nat → Int32) (sP : Nat → Nat → Int32) (sF : Nat → Int32) (x1 : Int32) : Option (Int32 × (Nat → Int32) × (Nat → Int32) × (Nat → Int32) × (Nat → Int32) × Int32 × Int32 × (Nat → Int32) × (Nat → Int32) × (Nat → Nat → Int32) × (Nat → Int32)) :=
  ((kX7_requireCell F bn x1).bind fun q1 => ((kX5_sift F bn bk bT bW vL vS vA vT).bind fun q2 => ((kX4_countAll F bn bT bW q2.1 so sw sR sI sP sF).bind fun q3 => (if q3.1 = 0 then none else ((kX4_firstAt F q3.2.2.2.2.2.2 x1).bind fun q4 => some (q4, q2.1, q2.2.1, q2.2.2.1, q2.2.2.2, q3.2.1, q3.2.2.1, q3.2.2.2.1, q3.2.2.2.2.1, q3.2.2.2.2.2.1, q3.2.2.2.2.2.2))))))
abbrev rmX7_first : Room := { frames := 45, cells := 0, slots := 0, locals := 1067 }
set_option maxHeartbeats 40000000 in
set_option maxRecDepth 100000 in
theorem tX7_first (G : GG) (l : Launch) {qX qB qH qK qV qS qW qBT qBC qBN qBW qBL qVL qVS qVA qVT qSR qSI qSP qSF : Nat} {qR : Nat → Nat} {bn : Int32} {bk : Int32} {bs : Int32} {bT : Nat → Int32} {bW : Nat → Int32} {vL : Nat → Int32} {vS : Nat → Int32} {vA : Nat → Int32} {vT : Nat → Int32} {so : Int32} {sw : Int32} {sR : Nat → Int32} {sI : Nat → Int32} {sP : Nat → Nat → Int32} {sF : Nat → Int32} {x1 : Int32} {sz : Nat} {F : Nat} {r : Int32 × (Nat → Int32) × (Nat → Int32) × (Nat → Int32) × (Nat → Int32) × Int32 × Int32 × (Nat → Int32) × (Nat → Int32) × (Nat → Nat → Int32) × (Nat → Int32)} (hq : kX7_first F bn bk bT bW vL vS vA vT so sw sR sI sP sF x1 = some r) : Met l yX7_first wsX7_first rmX7_first (pcW G ([(qX, .inr (7, [.ref qB, .ref qH, .ref qK, .ref qV, .ref qS, .ref qW])), (qB, .inr (0, [.ref qBT, .ref qBC, .ref qBN, .ref qBW, .ref qBL, .int bn, .int bk, .int bs])), (qBT, .inl (G.2.1, 16, .inl bT)), (qBW, .inl (G.2.1, 64, .inl bW)), (qV, .inr (5, [.ref qB, .ref qVL, .ref qVS, .ref qVA, .ref qVT])), (qVL, .inl (G.2.1, 16, .inl vL)), (qVS, .inl (G.2.1, 16, .inl vS)), (qVA, .inl (G.2.1, 16, .inl vA)), (qVT, .inl (G.2.1, 16, .inl vT)), (qS, .inr (4, [.ref qB, .ref qV, .ref qSR, .ref qSI, .ref qSP, .ref qSF, .int so, .int sw])), (qSR, .inl (G.2.1, 16, .inl sR)), (qSI, .inl (G.2.1, 16, .inl sI)), (qSP, .inl (G.2.2.2.2, 17, .inr (.inr (.inr (.inr (outR qR)))))), (qSF, .inl (G.2.1, 16, .inl sF))] ++ rws G qR sP) sz [.ref qX, .int x1]) (qcI G r.1 ([(qX, .inr (7, [.ref qB, .ref qH, .ref qK, .ref qV, .ref qS, .ref qW])), (qB, .inr (0, [.ref qBT, .ref qBC, .ref qBN, .ref qBW, .ref qBL, .int bn, .int bk, .int bs])), (qBT, .inl (G.2.1, 16, .inl bT)), (qBW, .inl (G.2.1, 64, .inl bW)), (qV, .inr (5, [.ref qB, .ref qVL, .ref qVS, .ref qVA, .ref qVT])), (qVL, .inl (G.2.1, 16, .inl r.2.1)), (qVS, .inl (G.2.1, 16, .inl r.2.2.1)), (qVA, .inl (G.2.1, 16, .inl r.2.2.2.1)), (qVT, .inl (G.2.1, 16, .inl r.2.2.2.2.1)), (qS, .inr (4, [.ref qB, .ref qV, .ref qSR, .ref qSI, .ref qSP, .ref qSF, .int r.2.2.2.2.2.1, .int r.2.2.2.2.2.2.1])), (qSR, .inl (G.2.1, 16, .inl r.2.2.2.2.2.2.2.1)), (qSI, .inl (G.2.1, 16, .inl r.2.2.2.2.2.2.2.2.1)), (qSP, .inl (G.2.2.2.2, 17, .inr (.inr (.inr (.inr (outR qR)))))), (qSF, .inl (G.2.1, 16, .inl r.2.2.2.2.2.2.2.2.2.2))] ++ rws G qR r.2.2.2.2.2.2.2.2.2.1) (va_A ([(qX, .inr (7, [.ref qB, .ref qH, .ref qK, .ref qV, .ref qS, .ref qW])), (qB, .inr (0, [.ref qBT, .ref qBC, .ref qBN, .ref qBW, .ref qBL, .int bn, .int bk, .int bs])), (qBT, .inl (G.2.1, 16, .inl bT)), (qBW, .inl (G.2.1, 64, .inl bW)), (qV, .inr (5, [.ref qB, .ref qVL, .ref qVS, .ref qVA, .ref qVT])), (qVL, .inl (G.2.1, 16, .inl vL)), (qVS, .inl (G.2.1, 16, .inl vS)), (qVA, .inl (G.2.1, 16, .inl vA)), (qVT, .inl (G.2.1, 16, .inl vT)), (qS, .inr (4, [.ref qB, .ref qV, .ref qSR, .ref qSI, .ref qSP, .ref qSF, .int so, .int sw])), (qSR, .inl (G.2.1, 16, .inl sR)), (qSI, .inl (G.2.1, 16, .inl sI)), (qSP, .inl (G.2.2.2.2, 17, .inr (.inr (.inr (.inr (outR qR)))))), (qSF, .inl (G.2.1, 16, .inl sF))] ++ rws G qR sP) sz)) 0 0 (va_A ([(qX, .inr (7, [.ref qB, .ref qH, .ref qK, .ref qV, .ref qS, .ref qW])), (qB, .inr (0, [.ref qBT, .ref qBC, .ref qBN, .ref qBW, .ref qBL, .int bn, .int bk, .int bs])), (qBT, .inl (G.2.1, 16, .inl bT)), (qBW, .inl (G.2.1, 64, .inl bW)), (qV, .inr (5, [.ref qB, .ref qVL, .ref qVS, .ref qVA, .ref qVT])), (qVL, .inl (G.2.1, 16, .inl vL)), (qVS, .inl (G.2.1, 16, .inl vS)), (qVA, .inl (G.2.1, 16, .inl vA)), (qVT, .inl (G.2.1, 16, .inl vT)), (qS, .inr (4, [.ref qB, .ref qV, .ref qSR, .ref qSI, .ref qSP, .ref qSF, .int so, .int sw])), (qSR, .inl (G.2.1, 16, .inl sR)), (qSI, .inl (G.2.1, 16, .inl sI)), (qSP, .inl (G.2.2.2.2, 17, .inr (.inr (.inr (.inr (outR qR)))))), (qSF, .inl (G.2.1, 16, .inl sF))] ++ rws G qR sP) sz) := by
  refine Met.ofW (cc := cX7_first) (maxL := 2) (ret := (some .int)) (by decide) rfl ?_
  intro p e s m args below meth c s₁ B hml hv
  obtain ⟨rfl, hsz, hP, hKK, hD0⟩ := hv
  have hK := hKK.1
  have hx := B.exec
  have hb := B.bytes
  have hr := B.returns
  have hts := atoms_spec (ws := wsX7_first) B.pre
  have hown : s.vm.findClass RX7 = some m.cls := findClass_of_methodNamed B.named
  have hlocks := B.notSynchronized
  subst hsz
  have hD := hD0.self (sz := s.heap.size)
  generalize hAe : va_A ([(qX, .inr (7, [.ref qB, .ref qH, .ref qK, .ref qV, .ref qS, .ref qW])), (qB, .inr (0, [.ref qBT, .ref qBC, .ref qBN, .ref qBW, .ref qBL, .int bn, .int bk, .int bs])), (qBT, .inl (G.2.1, 16, .inl bT)), (qBW, .inl (G.2.1, 64, .inl bW)), (qV, .inr (5, [.ref qB, .ref qVL, .ref qVS, .ref qVA, .ref qVT])), (qVL, .inl (G.2.1, 16, .inl vL)), (qVS, .inl (G.2.1, 16, .inl vS)), (qVA, .inl (G.2.1, 16, .inl vA)), (qVT, .inl (G.2.1, 16, .inl vT)), (qS, .inr (4, [.ref qB, .ref qV, .ref qSR, .ref qSI, .ref qSP, .ref qSF, .int so, .int sw])), (qSR, .inl (G.2.1, 16, .inl sR)), (qSI, .inl (G.2.1, 16, .inl sI)), (qSP, .inl (G.2.2.2.2, 17, .inr (.inr (.inr (.inr (outR qR)))))), (qSF, .inl (G.2.1, 16, .inl sF))] ++ rws G qR sP) s.heap.size = A at hD ⊢
  have hA : ∀ q : Nat, s.heap.size ≤ q → A q := fun q h => by rw [← hAe]; exact Or.inr h
  have hS : va_S A s.heap s.heap [] := va_S.rf
  have hl := lv_entry ([.ref qX, .int x1] : List Value) (n := 2) (Nat.le_of_ble_eq_true rfl)
  rw [lg_entry_eq]
  generalize (lg_sl ([.ref qX, .int x1] : List Value) ++ List.replicate (2 - (lg_sl ([.ref qX, .int x1] : List Value)).length) Slot.unset).toArray = ls at hl ⊢
  have hl : lv_has ls 2 [(0, .ref qX), (1, .int x1)] := hl
  have hi7 : ∀ w ∈ u_ws RX7 TX7 6, w ∈ wsX7_first := by decide +kernel
  have hw0 : (Cond.fieldLink RX7 35 "NetPlumber" "sieve" "LNetPlumber$Sieve;").before #[Value.ref qX, Value.int x1] s = true := hts _ (by decide +kernel)
  have hw1 : (Cond.fieldLink RX7 44 "NetPlumber" "search" "LNetPlumber$Search;").before #[Value.ref qX, Value.int x1] s = true := hts _ (by decide +kernel)
  refine wq (fun Q hQ => ?_)
  unfold kX7_first at hq
  refine lv_aload_n hx hb dX7_first_0 rfl (lv_at hl 0 rfl) ?_
  refine lv_iload_n hx hb dX7_first_1 rfl (lv_at hl 1 rfl) ?_
  obtain ⟨q1, eq1, hq⟩ := ob hq
  have hPc := hP.sub (ws' := [(qX, .inr (7, [.ref qB, .ref qH, .ref qK, .ref qV, .ref qS, .ref qW])), (qB, .inr (0, [.ref qBT, .ref qBC, .ref qBN, .ref qBW, .ref qBL, .int bn, .int bk, .int bs]))]) [0, 1] rfl
  have hKc := hK
  have hDc := hD.sub (ws' := [(qX, .inr (7, [.ref qB, .ref qH, .ref qK, .ref qV, .ref qS, .ref qW])), (qB, .inr (0, [.ref qBT, .ref qBC, .ref qBN, .ref qBW, .ref qBL, .int bn, .int bk, .int bs]))]) [0, 1] (by decide) rfl
  have hFc := va_free (wc := [(qX, .inr (7, [.ref qB, .ref qH, .ref qK, .ref qV, .ref qS, .ref qW])), (qB, .inr (0, [.ref qBT, .ref qBC, .ref qBN, .ref qBW, .ref qBL, .int bn, .int bk, .int bs]))]) hD hS hA [0, 1] rfl
  refine va_callv (va_runV (As := [.int x1]) (rest := []) ⟨hx, hb, hml, hown, hts⟩ (tX7_requireCell G l eq1) (cwV 1 hts gX7_first_X7_requireCell rfl rfl rfl (by decide +kernel) ⟨Nat.le_of_ble_eq_true rfl, Nat.le_of_ble_eq_true rfl⟩) ⟨pcW_blind, va_recv hKc hPc (ci := 7) (q0 := 0) rfl rfl, pcW_pre hPc hKK hDc⟩ rfl rfl hl.1 rfl (lv_room (Nat.le_of_ble_eq_true rfl)) dX7_first_2 ⟨Nat.zero_le _, Nat.zero_le _⟩) hS (fun q _ h => hFc q h) hFc (fun u t H1 locs ht hvm hw hB hz1 hk1 hS => ?_)
  have hB := va_Pto ht hB
  obtain ⟨hP, hD⟩ := jnL (X' := [(qX, .inr (7, [.ref qB, .ref qH, .ref qK, .ref qV, .ref qS, .ref qW])), (qB, .inr (0, [.ref qBT, .ref qBC, .ref qBN, .ref qBW, .ref qBL, .int bn, .int bk, .int bs])), (qBT, .inl (G.2.1, 16, .inl bT)), (qBW, .inl (G.2.1, 64, .inl bW)), (qV, .inr (5, [.ref qB, .ref qVL, .ref qVS, .ref qVA, .ref qVT])), (qVL, .inl (G.2.1, 16, .inl vL)), (qVS, .inl (G.2.1, 16, .inl vS)), (qVA, .inl (G.2.1, 16, .inl vA)), (qVT, .inl (G.2.1, 16, .inl vT)), (qS, .inr (4, [.ref qB, .ref qV, .ref qSR, .ref qSI, .ref qSP, .ref qSF, .int so, .int sw])), (qSR, .inl (G.2.1, 16, .inl sR)), (qSI, .inl (G.2.1, 16, .inl sI)), (qSP, .inl (G.2.2.2.2, 17, .inr (.inr (.inr (.inr (outR qR)))))), (qSF, .inl (G.2.1, 16, .inl sF))]) hP hD hk1 hB [0, 1] rfl rfl rfl rfl
  generalize H1 = H at hP hS ⊢
  refine lv_aload_n hx hb dX7_first_5 rfl (lv_at hl 0 rfl) ?_
  refine va_get (D := G.1) (ci := 7) (v := .ref qV) (C := RX7) (T := TX7) (N := 6) hx hb hts hi7 hown hK hP 0 rfl rfl 3 (by decide) hw0 (fun _ h9 => h9) rfl dX7_first_6 ?_
  obtain ⟨q2, eq2, hq⟩ := ob hq
  have hPc := hP.sub (ws' := [(qB, .inr (0, [.ref qBT, .ref qBC, .ref qBN, .ref qBW, .ref qBL, .int bn, .int bk, .int bs])), (qBT, .inl (G.2.1, 16, .inl bT)), (qBW, .inl (G.2.1, 64, .inl bW)), (qV, .inr (5, [.ref qB, .ref qVL, .ref qVS, .ref qVA, .ref qVT])), (qVL, .inl (G.2.1, 16, .inl vL)), (qVS, .inl (G.2.1, 16, .inl vS)), (qVA, .inl (G.2.1, 16, .inl vA)), (qVT, .inl (G.2.1, 16, .inl vT))]) [1, 2, 3, 4, 5, 6, 7, 8] rfl
  have hKc := hK
  have hDc := hD.sub (ws' := [(qB, .inr (0, [.ref qBT, .ref qBC, .ref qBN, .ref qBW, .ref qBL, .int bn, .int bk, .int bs])), (qBT, .inl (G.2.1, 16, .inl bT)), (qBW, .inl (G.2.1, 64, .inl bW)), (qV, .inr (5, [.ref qB, .ref qVL, .ref qVS, .ref qVA, .ref qVT])), (qVL, .inl (G.2.1, 16, .inl vL)), (qVS, .inl (G.2.1, 16, .inl vS)), (qVA, .inl (G.2.1, 16, .inl vA)), (qVT, .inl (G.2.1, 16, .inl vT))]) [1, 2, 3, 4, 5, 6, 7, 8] (by decide) rfl
  have hFc := va_free (wc := [(qB, .inr (0, [.ref qBT, .ref qBC, .ref qBN, .ref qBW, .ref qBL, .int bn, .int bk, .int bs])), (qBT, .inl (G.2.1, 16, .inl bT)), (qBW, .inl (G.2.1, 64, .inl bW)), (qV, .inr (5, [.ref qB, .ref qVL, .ref qVS, .ref qVA, .ref qVT])), (qVL, .inl (G.2.1, 16, .inl vL)), (qVS, .inl (G.2.1, 16, .inl vS)), (qVA, .inl (G.2.1, 16, .inl vA)), (qVT, .inl (G.2.1, 16, .inl vT))]) hD hS hA [1, 2, 3, 4, 5, 6, 7, 8] rfl
  refine va_callv (va_runV (As := []) (rest := []) ⟨hx, hb, hml, hown, hts⟩ (tX5_sift G l eq2) (cwV 0 hts gX7_first_X5_sift rfl rfl rfl (by decide +kernel) ⟨Nat.le_of_ble_eq_true rfl, Nat.le_of_ble_eq_true rfl⟩) ⟨pcW_blind, va_recv hKc hPc (ci := 5) (q0 := 3) rfl rfl, pcW_pre hPc hKK hDc⟩ rfl rfl hl.1 rfl (lv_room (Nat.le_of_ble_eq_true rfl)) dX7_first_9 ⟨Nat.zero_le _, Nat.zero_le _⟩) hS (fun q _ h => hFc q h) hFc (fun u t H1 locs ht hvm hw hB hz1 hk1 hS => ?_)
  have hB := va_Pto ht hB
  obtain ⟨hP, hD⟩ := jnL (X' := [(qX, .inr (7, [.ref qB, .ref qH, .ref qK, .ref qV, .ref qS, .ref qW])), (qB, .inr (0, [.ref qBT, .ref qBC, .ref qBN, .ref qBW, .ref qBL, .int bn, .int bk, .int bs])), (qBT, .inl (G.2.1, 16, .inl bT)), (qBW, .inl (G.2.1, 64, .inl bW)), (qV, .inr (5, [.ref qB, .ref qVL, .ref qVS, .ref qVA, .ref qVT])), (qVL, .inl (G.2.1, 16, .inl q2.1)), (qVS, .inl (G.2.1, 16, .inl q2.2.1)), (qVA, .inl (G.2.1, 16, .inl q2.2.2.1)), (qVT, .inl (G.2.1, 16, .inl q2.2.2.2)), (qS, .inr (4, [.ref qB, .ref qV, .ref qSR, .ref qSI, .ref qSP, .ref qSF, .int so, .int sw])), (qSR, .inl (G.2.1, 16, .inl sR)), (qSI, .inl (G.2.1, 16, .inl sI)), (qSP, .inl (G.2.2.2.2, 17, .inr (.inr (.inr (.inr (outR qR)))))), (qSF, .inl (G.2.1, 16, .inl sF))]) hP hD hk1 hB [1, 2, 3, 4, 5, 6, 7, 8] rfl rfl rfl rfl
  generalize H1 = H at hP hS ⊢
  refine lv_aload_n hx hb dX7_first_12 rfl (lv_at hl 0 rfl) ?_
  refine va_get (D := G.1) (ci := 7) (v := .ref qS) (C := RX7) (T := TX7) (N := 6) hx hb hts hi7 hown hK hP 0 rfl rfl 4 (by decide) hw1 (fun _ h9 => h9) rfl dX7_first_13 ?_
  obtain ⟨q3, eq3, hq⟩ := ob hq
  have hPc := hP.part (cx := [(qB, .inr (0, [.ref qBT, .ref qBC, .ref qBN, .ref qBW, .ref qBL, .int bn, .int bk, .int bs])), (qBT, .inl (G.2.1, 16, .inl bT)), (qBW, .inl (G.2.1, 64, .inl bW)), (qV, .inr (5, [.ref qB, .ref qVL, .ref qVS, .ref qVA, .ref qVT])), (qVL, .inl (G.2.1, 16, .inl q2.1)), (qS, .inr (4, [.ref qB, .ref qV, .ref qSR, .ref qSI, .ref qSP, .ref qSF, .int so, .int sw])), (qSR, .inl (G.2.1, 16, .inl sR)), (qSI, .inl (G.2.1, 16, .inl sI)), (qSP, .inl (G.2.2.2.2, 17, .inr (.inr (.inr (.inr (outR qR)))))), (qSF, .inl (G.2.1, 16, .inl sF))]) [1, 2, 3, 4, 5, 9, 10, 11, 12, 13] rfl
  have hKc := hK
  have hDc := hD.part (cx := [(qB, .inr (0, [.ref qBT, .ref qBC, .ref qBN, .ref qBW, .ref qBL, .int bn, .int bk, .int bs])), (qBT, .inl (G.2.1, 16, .inl bT)), (qBW, .inl (G.2.1, 64, .inl bW)), (qV, .inr (5, [.ref qB, .ref qVL, .ref qVS, .ref qVA, .ref qVT])), (qVL, .inl (G.2.1, 16, .inl q2.1)), (qS, .inr (4, [.ref qB, .ref qV, .ref qSR, .ref qSI, .ref qSP, .ref qSF, .int so, .int sw])), (qSR, .inl (G.2.1, 16, .inl sR)), (qSI, .inl (G.2.1, 16, .inl sI)), (qSP, .inl (G.2.2.2.2, 17, .inr (.inr (.inr (.inr (outR qR)))))), (qSF, .inl (G.2.1, 16, .inl sF))]) [1, 2, 3, 4, 5, 9, 10, 11, 12, 13] (by decide) rfl
  have hFc := va_freeP (cx := [(qB, .inr (0, [.ref qBT, .ref qBC, .ref qBN, .ref qBW, .ref qBL, .int bn, .int bk, .int bs])), (qBT, .inl (G.2.1, 16, .inl bT)), (qBW, .inl (G.2.1, 64, .inl bW)), (qV, .inr (5, [.ref qB, .ref qVL, .ref qVS, .ref qVA, .ref qVT])), (qVL, .inl (G.2.1, 16, .inl q2.1)), (qS, .inr (4, [.ref qB, .ref qV, .ref qSR, .ref qSI, .ref qSP, .ref qSF, .int so, .int sw])), (qSR, .inl (G.2.1, 16, .inl sR)), (qSI, .inl (G.2.1, 16, .inl sI)), (qSP, .inl (G.2.2.2.2, 17, .inr (.inr (.inr (.inr (outR qR)))))), (qSF, .inl (G.2.1, 16, .inl sF))]) hD hS hA [1, 2, 3, 4, 5, 9, 10, 11, 12, 13] rfl
  refine va_calli (va_runV (As := []) (rest := []) ⟨hx, hb, hml, hown, hts⟩ (tX4_countAll G l eq3) (cwV 0 hts gX7_first_X4_countAll rfl rfl rfl (by decide +kernel) ⟨Nat.le_of_ble_eq_true rfl, Nat.le_of_ble_eq_true rfl⟩) ⟨pcW_blind, va_recv hKc hPc (ci := 4) (q0 := 5) rfl rfl, pcW_pre hPc hKK hDc⟩ rfl rfl hl.1 rfl (lv_room (Nat.le_of_ble_eq_true rfl)) dX7_first_16 ⟨Nat.zero_le _, Nat.zero_le _⟩) hS (fun q _ h => hFc q h) hFc (fun r0 u t H1 locs ht hvm hw hB hz1 hk1 hS => ?_)
  obtain rfl := hw
  have hB := va_Pto ht hB
  obtain ⟨hP, hD⟩ := jnR (X' := [(qX, .inr (7, [.ref qB, .ref qH, .ref qK, .ref qV, .ref qS, .ref qW])), (qB, .inr (0, [.ref qBT, .ref qBC, .ref qBN, .ref qBW, .ref qBL, .int bn, .int bk, .int bs])), (qBT, .inl (G.2.1, 16, .inl bT)), (qBW, .inl (G.2.1, 64, .inl bW)), (qV, .inr (5, [.ref qB, .ref qVL, .ref qVS, .ref qVA, .ref qVT])), (qVL, .inl (G.2.1, 16, .inl q2.1)), (qVS, .inl (G.2.1, 16, .inl q2.2.1)), (qVA, .inl (G.2.1, 16, .inl q2.2.2.1)), (qVT, .inl (G.2.1, 16, .inl q2.2.2.2)), (qS, .inr (4, [.ref qB, .ref qV, .ref qSR, .ref qSI, .ref qSP, .ref qSF, .int q3.2.1, .int q3.2.2.1])), (qSR, .inl (G.2.1, 16, .inl q3.2.2.2.1)), (qSI, .inl (G.2.1, 16, .inl q3.2.2.2.2.1)), (qSP, .inl (G.2.2.2.2, 17, .inr (.inr (.inr (.inr (outR qR)))))), (qSF, .inl (G.2.1, 16, .inl q3.2.2.2.2.2.2))]) hP hD hk1 hB [1, 2, 3, 4, 5, 9, 10, 11, 12, 13] rfl rfl rfl rfl
  generalize H1 = H at hP hS ⊢
  refine lv_if_ne (tgt := 32) hx hb dX7_first_19 (by decide) (fun c_19 => ?_) (fun c_19 => ?_)
  · have hq := k_f c_19 hq
    refine lv_aload_n hx hb dX7_first_32 rfl (lv_at hl 0 rfl) ?_
    refine va_get (D := G.1) (ci := 7) (v := .ref qS) (C := RX7) (T := TX7) (N := 6) hx hb hts hi7 hown hK hP 0 rfl rfl 4 (by decide) hw1 (fun _ h9 => h9) rfl dX7_first_33 ?_
    refine lv_iload_n hx hb dX7_first_36 rfl (lv_at hl 1 rfl) ?_
    obtain ⟨q4, eq4, hq⟩ := ob hq
    have hPc := hP.sub (ws' := [(qS, .inr (4, [.ref qB, .ref qV, .ref qSR, .ref qSI, .ref qSP, .ref qSF, .int q3.2.1, .int q3.2.2.1])), (qSF, .inl (G.2.1, 16, .inl q3.2.2.2.2.2.2))]) [9, 13] rfl
    have hKc := hK
    refine vp_callSi (va_Run.run (va_runV (As := [.int x1]) (rest := []) ⟨hx, hb, hml, hown, hts⟩ (tX4_firstAt G l eq4) (cwV 1 hts gX7_first_X4_firstAt rfl rfl rfl (by decide +kernel) ⟨Nat.le_of_ble_eq_true rfl, Nat.le_of_ble_eq_true rfl⟩) ⟨pcP_blind, va_recv hKc hPc (ci := 4) (q0 := 0) rfl rfl, pcP_pre hPc hKK⟩ rfl rfl hl.1 rfl (lv_room (Nat.le_of_ble_eq_true rfl)) dX7_first_37 ⟨Nat.zero_le _, Nat.zero_le _⟩)) (fun r0 hr0 => ?_)
    obtain rfl := hr0
    obtain rfl := Option.some.inj hq
    rw [hQ]
    exact W.iret hx hb hr (fun t ht hW => ⟨⟨_, (), rfl, rfl, va_Pat ht hP⟩, hS.F ht⟩) hS.2.2 dX7_first_40
  · have hq := k_t c_19 hq
    cases hq

def kX7_fewestTurns (F : Nat) (bn : Int32) (bk : Int32) (bT : Nat → Int32) (bW : Nat → Int32) (vL : Nat → Int32) (vS : Nat → Int32) (vA : Nat → Int32) (vT : Nat → Int32) (so : Int32) (sw : Int32) (sR : Nat → Int32) (sI : Nat → Int32) (sP : Nat → Nat → Int32) (sF : Nat → Int32) : Option (Int32 × (Nat → Int32) × (Nat → Int32) × (Nat → Int32) × (Nat → Int32) × Int32 × Int32 × (Nat → Int32) × (Nat → Int32) × (Nat → Nat → Int32) × (Nat → Int32)) :=
  ((kX5_sift F bn bk bT bW vL vS vA vT).bind fun q1 => ((kX4_countAll F bn bT bW q1.1 so sw sR sI sP sF).bind fun q2 => (if q2.1 = 0 then none else ((kX4_fewest F q2.2.2.1).bind fun q3 => some (q3, q1.1, q1.2.1, q1.2.2.1, q1.2.2.2, q2.2.1, q2.2.2.1, q2.2.2.2.1, q2.2.2.2.2.1, q2.2.2.2.2.2.1, q2.2.2.2.2.2.2)))))
abbrev rmX7_fewestTurns : Room := { frames := 45, cells := 0, slots := 0, locals := 1067 }
set_option maxHeartbeats 40000000 in
set_option maxRecDepth 100000 in
theorem tX7_fewestTurns (G : GG) (l : Launch) {qX qB qH qK qV qS qW qBT qBC qBN qBW qBL qVL qVS qVA qVT qSR qSI qSP qSF : Nat} {qR : Nat → Nat} {bn : Int32} {bk : Int32} {bs : Int32} {bT : Nat → Int32} {bW : Nat → Int32} {vL : Nat → Int32} {vS : Nat → Int32} {vA : Nat → Int32} {vT : Nat → Int32} {so : Int32} {sw : Int32} {sR : Nat → Int32} {sI : Nat → Int32} {sP : Nat → Nat → Int32} {sF : Nat → Int32} {sz : Nat} {F : Nat} {r : Int32 × (Nat → Int32) × (Nat → Int32) × (Nat → Int32) × (Nat → Int32) × Int32 × Int32 × (Nat → Int32) × (Nat → Int32) × (Nat → Nat → Int32) × (Nat → Int32)} (hq : kX7_fewestTurns F bn bk bT bW vL vS vA vT so sw sR sI sP sF = some r) : Met l yX7_fewestTurns wsX7_fewestTurns rmX7_fewestTurns (pcW G ([(qX, .inr (7, [.ref qB, .ref qH, .ref qK, .ref qV, .ref qS, .ref qW])), (qB, .inr (0, [.ref qBT, .ref qBC, .ref qBN, .ref qBW, .ref qBL, .int bn, .int bk, .int bs])), (qBT, .inl (G.2.1, 16, .inl bT)), (qBW, .inl (G.2.1, 64, .inl bW)), (qV, .inr (5, [.ref qB, .ref qVL, .ref qVS, .ref qVA, .ref qVT])), (qVL, .inl (G.2.1, 16, .inl vL)), (qVS, .inl (G.2.1, 16, .inl vS)), (qVA, .inl (G.2.1, 16, .inl vA)), (qVT, .inl (G.2.1, 16, .inl vT)), (qS, .inr (4, [.ref qB, .ref qV, .ref qSR, .ref qSI, .ref qSP, .ref qSF, .int so, .int sw])), (qSR, .inl (G.2.1, 16, .inl sR)), (qSI, .inl (G.2.1, 16, .inl sI)), (qSP, .inl (G.2.2.2.2, 17, .inr (.inr (.inr (.inr (outR qR)))))), (qSF, .inl (G.2.1, 16, .inl sF))] ++ rws G qR sP) sz [.ref qX]) (qcI G r.1 ([(qX, .inr (7, [.ref qB, .ref qH, .ref qK, .ref qV, .ref qS, .ref qW])), (qB, .inr (0, [.ref qBT, .ref qBC, .ref qBN, .ref qBW, .ref qBL, .int bn, .int bk, .int bs])), (qBT, .inl (G.2.1, 16, .inl bT)), (qBW, .inl (G.2.1, 64, .inl bW)), (qV, .inr (5, [.ref qB, .ref qVL, .ref qVS, .ref qVA, .ref qVT])), (qVL, .inl (G.2.1, 16, .inl r.2.1)), (qVS, .inl (G.2.1, 16, .inl r.2.2.1)), (qVA, .inl (G.2.1, 16, .inl r.2.2.2.1)), (qVT, .inl (G.2.1, 16, .inl r.2.2.2.2.1)), (qS, .inr (4, [.ref qB, .ref qV, .ref qSR, .ref qSI, .ref qSP, .ref qSF, .int r.2.2.2.2.2.1, .int r.2.2.2.2.2.2.1])), (qSR, .inl (G.2.1, 16, .inl r.2.2.2.2.2.2.2.1)), (qSI, .inl (G.2.1, 16, .inl r.2.2.2.2.2.2.2.2.1)), (qSP, .inl (G.2.2.2.2, 17, .inr (.inr (.inr (.inr (outR qR)))))), (qSF, .inl (G.2.1, 16, .inl r.2.2.2.2.2.2.2.2.2.2))] ++ rws G qR r.2.2.2.2.2.2.2.2.2.1) (va_A ([(qX, .inr (7, [.ref qB, .ref qH, .ref qK, .ref qV, .ref qS, .ref qW])), (qB, .inr (0, [.ref qBT, .ref qBC, .ref qBN, .ref qBW, .ref qBL, .int bn, .int bk, .int bs])), (qBT, .inl (G.2.1, 16, .inl bT)), (qBW, .inl (G.2.1, 64, .inl bW)), (qV, .inr (5, [.ref qB, .ref qVL, .ref qVS, .ref qVA, .ref qVT])), (qVL, .inl (G.2.1, 16, .inl vL)), (qVS, .inl (G.2.1, 16, .inl vS)), (qVA, .inl (G.2.1, 16, .inl vA)), (qVT, .inl (G.2.1, 16, .inl vT)), (qS, .inr (4, [.ref qB, .ref qV, .ref qSR, .ref qSI, .ref qSP, .ref qSF, .int so, .int sw])), (qSR, .inl (G.2.1, 16, .inl sR)), (qSI, .inl (G.2.1, 16, .inl sI)), (qSP, .inl (G.2.2.2.2, 17, .inr (.inr (.inr (.inr (outR qR)))))), (qSF, .inl (G.2.1, 16, .inl sF))] ++ rws G qR sP) sz)) 0 0 (va_A ([(qX, .inr (7, [.ref qB, .ref qH, .ref qK, .ref qV, .ref qS, .ref qW])), (qB, .inr (0, [.ref qBT, .ref qBC, .ref qBN, .ref qBW, .ref qBL, .int bn, .int bk, .int bs])), (qBT, .inl (G.2.1, 16, .inl bT)), (qBW, .inl (G.2.1, 64, .inl bW)), (qV, .inr (5, [.ref qB, .ref qVL, .ref qVS, .ref qVA, .ref qVT])), (qVL, .inl (G.2.1, 16, .inl vL)), (qVS, .inl (G.2.1, 16, .inl vS)), (qVA, .inl (G.2.1, 16, .inl vA)), (qVT, .inl (G.2.1, 16, .inl vT)), (qS, .inr (4, [.ref qB, .ref qV, .ref qSR, .ref qSI, .ref qSP, .ref qSF, .int so, .int sw])), (qSR, .inl (G.2.1, 16, .inl sR)), (qSI, .inl (G.2.1, 16, .inl sI)), (qSP, .inl (G.2.2.2.2, 17, .inr (.inr (.inr (.inr (outR qR)))))), (qSF, .inl (G.2.1, 16, .inl sF))] ++ rws G qR sP) sz) := by
  refine Met.ofW (cc := cX7_fewestTurns) (maxL := 1) (ret := (some .int)) (by decide) rfl ?_
  intro p e s m args below meth c s₁ B hml hv
  obtain ⟨rfl, hsz, hP, hKK, hD0⟩ := hv
  have hK := hKK.1
  have hx := B.exec
  have hb := B.bytes
  have hr := B.returns
  have hts := atoms_spec (ws := wsX7_fewestTurns) B.pre
  have hown : s.vm.findClass RX7 = some m.cls := findClass_of_methodNamed B.named
  have hlocks := B.notSynchronized
  subst hsz
  have hD := hD0.self (sz := s.heap.size)
  generalize hAe : va_A ([(qX, .inr (7, [.ref qB, .ref qH, .ref qK, .ref qV, .ref qS, .ref qW])), (qB, .inr (0, [.ref qBT, .ref qBC, .ref qBN, .ref qBW, .ref qBL, .int bn, .int bk, .int bs])), (qBT, .inl (G.2.1, 16, .inl bT)), (qBW, .inl (G.2.1, 64, .inl bW)), (qV, .inr (5, [.ref qB, .ref qVL, .ref qVS, .ref qVA, .ref qVT])), (qVL, .inl (G.2.1, 16, .inl vL)), (qVS, .inl (G.2.1, 16, .inl vS)), (qVA, .inl (G.2.1, 16, .inl vA)), (qVT, .inl (G.2.1, 16, .inl vT)), (qS, .inr (4, [.ref qB, .ref qV, .ref qSR, .ref qSI, .ref qSP, .ref qSF, .int so, .int sw])), (qSR, .inl (G.2.1, 16, .inl sR)), (qSI, .inl (G.2.1, 16, .inl sI)), (qSP, .inl (G.2.2.2.2, 17, .inr (.inr (.inr (.inr (outR qR)))))), (qSF, .inl (G.2.1, 16, .inl sF))] ++ rws G qR sP) s.heap.size = A at hD ⊢
  have hA : ∀ q : Nat, s.heap.size ≤ q → A q := fun q h => by rw [← hAe]; exact Or.inr h
  have hS : va_S A s.heap s.heap [] := va_S.rf
  have hl := lv_entry ([.ref qX] : List Value) (n := 1) (Nat.le_of_ble_eq_true rfl)
  rw [lg_entry_eq]
  generalize (lg_sl ([.ref qX] : List Value) ++ List.replicate (1 - (lg_sl ([.ref qX] : List Value)).length) Slot.unset).toArray = ls at hl ⊢
  have hl : lv_has ls 1 [(0, .ref qX)] := hl
  have hi7 : ∀ w ∈ u_ws RX7 TX7 6, w ∈ wsX7_fewestTurns := by decide +kernel
  have hw0 : (Cond.fieldLink RX7 35 "NetPlumber" "sieve" "LNetPlumber$Sieve;").before #[Value.ref qX] s = true := hts _ (by decide +kernel)
  have hw1 : (Cond.fieldLink RX7 44 "NetPlumber" "search" "LNetPlumber$Search;").before #[Value.ref qX] s = true := hts _ (by decide +kernel)
  refine wq (fun Q hQ => ?_)
  unfold kX7_fewestTurns at hq
  refine lv_aload_n hx hb dX7_fewestTurns_0 rfl (lv_at hl 0 rfl) ?_
  refine va_get (D := G.1) (ci := 7) (v := .ref qV) (C := RX7) (T := TX7) (N := 6) hx hb hts hi7 hown hK hP 0 rfl rfl 3 (by decide) hw0 (fun _ h9 => h9) rfl dX7_fewestTurns_1 ?_
  obtain ⟨q1, eq1, hq⟩ := ob hq
  have hPc := hP.sub (ws' := [(qB, .inr (0, [.ref qBT, .ref qBC, .ref qBN, .ref qBW, .ref qBL, .int bn, .int bk, .int bs])), (qBT, .inl (G.2.1, 16, .inl bT)), (qBW, .inl (G.2.1, 64, .inl bW)), (qV, .inr (5, [.ref qB, .ref qVL, .ref qVS, .ref qVA, .ref qVT])), (qVL, .inl (G.2.1, 16, .inl vL)), (qVS, .inl (G.2.1, 16, .inl vS)), (qVA, .inl (G.2.1, 16, .inl vA)), (qVT, .inl (G.2.1, 16, .inl vT))]) [1, 2, 3, 4, 5, 6, 7, 8] rfl
  have hKc := hK
  have hDc := hD.sub (ws' := [(qB, .inr (0, [.ref qBT, .ref qBC, .ref qBN, .ref qBW, .ref qBL, .int bn, .int bk, .int bs])), (qBT, .inl (G.2.1, 16, .inl bT)), (qBW, .inl (G.2.1, 64, .inl bW)), (qV, .inr (5, [.ref qB, .ref qVL, .ref qVS, .ref qVA, .ref qVT])), (qVL, .inl (G.2.1, 16, .inl vL)), (qVS, .inl (G.2.1, 16, .inl vS)), (qVA, .inl (G.2.1, 16, .inl vA)), (qVT, .inl (G.2.1, 16, .inl vT))]) [1, 2, 3, 4, 5, 6, 7, 8] (by decide) rfl
  have hFc := va_free (wc := [(qB, .inr (0, [.ref qBT, .ref qBC, .ref qBN, .ref qBW, .ref qBL, .int bn, .int bk, .int bs])), (qBT, .inl (G.2.1, 16, .inl bT)), (qBW, .inl (G.2.1, 64, .inl bW)), (qV, .inr (5, [.ref qB, .ref qVL, .ref qVS, .ref qVA, .ref qVT])), (qVL, .inl (G.2.1, 16, .inl vL)), (qVS, .inl (G.2.1, 16, .inl vS)), (qVA, .inl (G.2.1, 16, .inl vA)), (qVT, .inl (G.2.1, 16, .inl vT))]) hD hS hA [1, 2, 3, 4, 5, 6, 7, 8] rfl
  refine va_callv (va_runV (As := []) (rest := []) ⟨hx, hb, hml, hown, hts⟩ (tX5_sift G l eq1) (cwV 0 hts gX7_fewestTurns_X5_sift rfl rfl rfl (by decide +kernel) ⟨Nat.le_of_ble_eq_true rfl, Nat.le_of_ble_eq_true rfl⟩) ⟨pcW_blind, va_recv hKc hPc (ci := 5) (q0 := 3) rfl rfl, pcW_pre hPc hKK hDc⟩ rfl rfl hl.1 rfl (lv_room (Nat.le_of_ble_eq_true rfl)) dX7_fewestTurns_4 ⟨Nat.zero_le _, Nat.zero_le _⟩) hS (fun q _ h => hFc q h) hFc (fun u t H1 locs ht hvm hw hB hz1 hk1 hS => ?_)
  have hB := va_Pto ht hB
  obtain ⟨hP, hD⟩ := jnL (X' := [(qX, .inr (7, [.ref qB, .ref qH, .ref qK, .ref qV, .ref qS, .ref qW])), (qB, .inr (0, [.ref qBT, .ref qBC, .ref qBN, .ref qBW, .ref qBL, .int bn, .int bk, .int bs])), (qBT, .inl (G.2.1, 16, .inl bT)), (qBW, .inl (G.2.1, 64, .inl bW)), (qV, .inr (5, [.ref qB, .ref qVL, .ref qVS, .ref qVA, .ref qVT])), (qVL, .inl (G.2.1, 16, .inl q1.1)), (qVS, .inl (G.2.1, 16, .inl q1.2.1)), (qVA, .inl (G.2.1, 16, .inl q1.2.2.1)), (qVT, .inl (G.2.1, 16, .inl q1.2.2.2)), (qS, .inr (4, [.ref qB, .ref qV, .ref qSR, .ref qSI, .ref qSP, .ref qSF, .int so, .int sw])), (qSR, .inl (G.2.1, 16, .inl sR)), (qSI, .inl (G.2.1, 16, .inl sI)), (qSP, .inl (G.2.2.2.2, 17, .inr (.inr (.inr (.inr (outR qR)))))), (qSF, .inl (G.2.1, 16, .inl sF))]) hP hD hk1 hB [1, 2, 3, 4, 5, 6, 7, 8] rfl rfl rfl rfl
  generalize H1 = H at hP hS ⊢
  refine lv_aload_n hx hb dX7_fewestTurns_7 rfl (lv_at hl 0 rfl) ?_
  refine va_get (D := G.1) (ci := 7) (v := .ref qS) (C := RX7) (T := TX7) (N := 6) hx hb hts hi7 hown hK hP 0 rfl rfl 4 (by decide) hw1 (fun _ h9 => h9) rfl dX7_fewestTurns_8 ?_
  obtain ⟨q2, eq2, hq⟩ := ob hq
  have hPc := hP.part (cx := [(qB, .inr (0, [.ref qBT, .ref qBC, .ref qBN, .ref qBW, .ref qBL, .int bn, .int bk, .int bs])), (qBT, .inl (G.2.1, 16, .inl bT)), (qBW, .inl (G.2.1, 64, .inl bW)), (qV, .inr (5, [.ref qB, .ref qVL, .ref qVS, .ref qVA, .ref qVT])), (qVL, .inl (G.2.1, 16, .inl q1.1)), (qS, .inr (4, [.ref qB, .ref qV, .ref qSR, .ref qSI, .ref qSP, .ref qSF, .int so, .int sw])), (qSR, .inl (G.2.1, 16, .inl sR)), (qSI, .inl (G.2.1, 16, .inl sI)), (qSP, .inl (G.2.2.2.2, 17, .inr (.inr (.inr (.inr (outR qR)))))), (qSF, .inl (G.2.1, 16, .inl sF))]) [1, 2, 3, 4, 5, 9, 10, 11, 12, 13] rfl
  have hKc := hK
  have hDc := hD.part (cx := [(qB, .inr (0, [.ref qBT, .ref qBC, .ref qBN, .ref qBW, .ref qBL, .int bn, .int bk, .int bs])), (qBT, .inl (G.2.1, 16, .inl bT)), (qBW, .inl (G.2.1, 64, .inl bW)), (qV, .inr (5, [.ref qB, .ref qVL, .ref qVS, .ref qVA, .ref qVT])), (qVL, .inl (G.2.1, 16, .inl q1.1)), (qS, .inr (4, [.ref qB, .ref qV, .ref qSR, .ref qSI, .ref qSP, .ref qSF, .int so, .int sw])), (qSR, .inl (G.2.1, 16, .inl sR)), (qSI, .inl (G.2.1, 16, .inl sI)), (qSP, .inl (G.2.2.2.2, 17, .inr (.inr (.inr (.inr (outR qR)))))), (qSF, .inl (G.2.1, 16, .inl sF))]) [1, 2, 3, 4, 5, 9, 10, 11, 12, 13] (by decide) rfl
  have hFc := va_freeP (cx := [(qB, .inr (0, [.ref qBT, .ref qBC, .ref qBN, .ref qBW, .ref qBL, .int bn, .int bk, .int bs])), (qBT, .inl (G.2.1, 16, .inl bT)), (qBW, .inl (G.2.1, 64, .inl bW)), (qV, .inr (5, [.ref qB, .ref qVL, .ref qVS, .ref qVA, .ref qVT])), (qVL, .inl (G.2.1, 16, .inl q1.1)), (qS, .inr (4, [.ref qB, .ref qV, .ref qSR, .ref qSI, .ref qSP, .ref qSF, .int so, .int sw])), (qSR, .inl (G.2.1, 16, .inl sR)), (qSI, .inl (G.2.1, 16, .inl sI)), (qSP, .inl (G.2.2.2.2, 17, .inr (.inr (.inr (.inr (outR qR)))))), (qSF, .inl (G.2.1, 16, .inl sF))]) hD hS hA [1, 2, 3, 4, 5, 9, 10, 11, 12, 13] rfl
  refine va_calli (va_runV (As := []) (rest := []) ⟨hx, hb, hml, hown, hts⟩ (tX4_countAll G l eq2) (cwV 0 hts gX7_fewestTurns_X4_countAll rfl rfl rfl (by decide +kernel) ⟨Nat.le_of_ble_eq_true rfl, Nat.le_of_ble_eq_true rfl⟩) ⟨pcW_blind, va_recv hKc hPc (ci := 4) (q0 := 5) rfl rfl, pcW_pre hPc hKK hDc⟩ rfl rfl hl.1 rfl (lv_room (Nat.le_of_ble_eq_true rfl)) dX7_fewestTurns_11 ⟨Nat.zero_le _, Nat.zero_le _⟩) hS (fun q _ h => hFc q h) hFc (fun r0 u t H1 locs ht hvm hw hB hz1 hk1 hS => ?_)
  obtain rfl := hw
  have hB := va_Pto ht hB
  obtain ⟨hP, hD⟩ := jnR (X' := [(qX, .inr (7, [.ref qB, .ref qH, .ref qK, .ref qV, .ref qS, .ref qW])), (qB, .inr (0, [.ref qBT, .ref qBC, .ref qBN, .ref qBW, .ref qBL, .int bn, .int bk, .int bs])), (qBT, .inl (G.2.1, 16, .inl bT)), (qBW, .inl (G.2.1, 64, .inl bW)), (qV, .inr (5, [.ref qB, .ref qVL, .ref qVS, .ref qVA, .ref qVT])), (qVL, .inl (G.2.1, 16, .inl q1.1)), (qVS, .inl (G.2.1, 16, .inl q1.2.1)), (qVA, .inl (G.2.1, 16, .inl q1.2.2.1)), (qVT, .inl (G.2.1, 16, .inl q1.2.2.2)), (qS, .inr (4, [.ref qB, .ref qV, .ref qSR, .ref qSI, .ref qSP, .ref qSF, .int q2.2.1, .int q2.2.2.1])), (qSR, .inl (G.2.1, 16, .inl q2.2.2.2.1)), (qSI, .inl (G.2.1, 16, .inl q2.2.2.2.2.1)), (qSP, .inl (G.2.2.2.2, 17, .inr (.inr (.inr (.inr (outR qR)))))), (qSF, .inl (G.2.1, 16, .inl q2.2.2.2.2.2.2))]) hP hD hk1 hB [1, 2, 3, 4, 5, 9, 10, 11, 12, 13] rfl rfl rfl rfl
  generalize H1 = H at hP hS ⊢
  refine lv_if_ne (tgt := 27) hx hb dX7_fewestTurns_14 (by decide) (fun c_14 => ?_) (fun c_14 => ?_)
  · have hq := k_f c_14 hq
    refine lv_aload_n hx hb dX7_fewestTurns_27 rfl (lv_at hl 0 rfl) ?_
    refine va_get (D := G.1) (ci := 7) (v := .ref qS) (C := RX7) (T := TX7) (N := 6) hx hb hts hi7 hown hK hP 0 rfl rfl 4 (by decide) hw1 (fun _ h9 => h9) rfl dX7_fewestTurns_28 ?_
    obtain ⟨q3, eq3, hq⟩ := ob hq
    have hPc := hP.sub (ws' := [(qS, .inr (4, [.ref qB, .ref qV, .ref qSR, .ref qSI, .ref qSP, .ref qSF, .int q2.2.1, .int q2.2.2.1]))]) [9] rfl
    have hKc := hK
    refine vp_callSi (va_Run.run (va_runV (As := []) (rest := []) ⟨hx, hb, hml, hown, hts⟩ (tX4_fewest G l eq3) (cwV 0 hts gX7_fewestTurns_X4_fewest rfl rfl rfl (by decide +kernel) ⟨Nat.le_of_ble_eq_true rfl, Nat.le_of_ble_eq_true rfl⟩) ⟨pcP_blind, va_recv hKc hPc (ci := 4) (q0 := 0) rfl rfl, pcP_pre hPc hKK⟩ rfl rfl hl.1 rfl (lv_room (Nat.le_of_ble_eq_true rfl)) dX7_fewestTurns_31 ⟨Nat.zero_le _, Nat.zero_le _⟩)) (fun r0 hr0 => ?_)
    obtain rfl := hr0
    obtain rfl := Option.some.inj hq
    rw [hQ]
    exact W.iret hx hb hr (fun t ht hW => ⟨⟨_, (), rfl, rfl, va_Pat ht hP⟩, hS.F ht⟩) hS.2.2 dX7_fewestTurns_34
  · have hq := k_t c_14 hq
    cases hq
