/-! contracts (laid by wip/whole/gen.py) -/
abbrev rmX8_thrown : Room := { frames := 0, cells := 0, slots := 0, locals := 0 }
set_option maxHeartbeats 40000000 in
set_option maxRecDepth 100000 in
theorem tX8_thrown (G : GG) (l : Launch) {qM qMT qMW qMK qMM qMR qML qMP qMY qMF : Nat} {mt : Int32} {mw : Int32} {mh : Int32} {mg : Int32} {ms : Int32} {mv : Int32} {md : Int32} {mu : Int32} {mo : Int32} {mf : Int32} {F : Nat} {r : Int32} (hq : kX8_thrown F mt = some r) : Met l yX8_thrown wsX8_thrown rmX8_thrown (pcP G [(qM, .inr (8, [.int mt, .int mw, .int mh, .int mg, .int ms, .ref qMT, .ref qMW, .ref qMK, .ref qMM, .int mv, .int md, .ref qMR, .ref qML, .ref qMP, .int mu, .ref qMY, .ref qMF, .int mo, .int mf]))] [.ref qM]) (vp_Si (fun x => r = x)) 0 0 (fun _ => False) := by
  refine Met.ofW (cc := cX8_thrown) (maxL := 1) (ret := (some .int)) (by decide) rfl ?_
  intro p e s m args below meth c s₁ B hml hv
  obtain ⟨rfl, hP, hKK⟩ := hv
  have hK := hKK.1
  have hx := B.exec
  have hb := B.bytes
  have hr := B.returns
  have hts := atoms_spec (ws := wsX8_thrown) B.pre
  have hown : s.vm.findClass RX8 = some m.cls := findClass_of_methodNamed B.named
  have hlocks := B.notSynchronized
  have hl := lv_entry ([.ref qM] : List Value) (n := 1) (Nat.le_of_ble_eq_true rfl)
  rw [lg_entry_eq]
  generalize (lg_sl ([.ref qM] : List Value) ++ List.replicate (1 - (lg_sl ([.ref qM] : List Value)).length) Slot.unset).toArray = ls at hl ⊢
  have hl : lv_has ls 1 [(0, .ref qM)] := hl
  have hi8 : ∀ w ∈ u_ws RX8 TX8 19, w ∈ wsX8_thrown := by decide +kernel
  have hw0 : (Cond.fieldLink RX8 45 "NetPlumberModel" "thrown" "I").before #[Value.ref qM] s = true := hts _ (by decide +kernel)
  refine wq (fun Q hQ => ?_)
  unfold kX8_thrown at hq
  refine lv_aload_n hx hb dX8_thrown_0 rfl (lv_at hl 0 rfl) ?_
  refine va_get (D := G.1) (ci := 8) (v := .int mt) (C := RX8) (T := TX8) (N := 19) hx hb hts hi8 hown hK hP 0 rfl rfl 0 (by decide) hw0 (fun _ h9 => h9) rfl dX8_thrown_1 ?_
  obtain rfl := Option.some.inj hq
  rw [hQ]
  exact W.iret hx hb hr (fun t ht hW => ⟨_, rfl, rfl, ht⟩) (fun _ h => absurd h List.not_mem_nil) dX8_thrown_4

abbrev rmX8_holds : Room := { frames := 0, cells := 0, slots := 0, locals := 0 }
set_option maxHeartbeats 40000000 in
set_option maxRecDepth 100000 in
theorem tX8_holds (G : GG) (l : Launch) {qM qMT qMW qMK qMM qMR qML qMP qMY qMF : Nat} {mt : Int32} {mw : Int32} {mh : Int32} {mg : Int32} {ms : Int32} {mv : Int32} {md : Int32} {mu : Int32} {mo : Int32} {mf : Int32} {x1 : Int32} {sz : Nat} {F : Nat} {r : Int32 × Int32} (hq : kX8_holds F mt x1 = some r) : Met l yX8_holds wsX8_holds rmX8_holds (pcW G [(qM, .inr (8, [.int mt, .int mw, .int mh, .int mg, .int ms, .ref qMT, .ref qMW, .ref qMK, .ref qMM, .int mv, .int md, .ref qMR, .ref qML, .ref qMP, .int mu, .ref qMY, .ref qMF, .int mo, .int mf]))] sz [.ref qM, .int x1]) (qcI G r.1 [(qM, .inr (8, [.int r.2, .int mw, .int mh, .int mg, .int ms, .ref qMT, .ref qMW, .ref qMK, .ref qMM, .int mv, .int md, .ref qMR, .ref qML, .ref qMP, .int mu, .ref qMY, .ref qMF, .int mo, .int mf]))] (va_A [(qM, .inr (8, [.int mt, .int mw, .int mh, .int mg, .int ms, .ref qMT, .ref qMW, .ref qMK, .ref qMM, .int mv, .int md, .ref qMR, .ref qML, .ref qMP, .int mu, .ref qMY, .ref qMF, .int mo, .int mf]))] sz)) 0 0 (va_A [(qM, .inr (8, [.int mt, .int mw, .int mh, .int mg, .int ms, .ref qMT, .ref qMW, .ref qMK, .ref qMM, .int mv, .int md, .ref qMR, .ref qML, .ref qMP, .int mu, .ref qMY, .ref qMF, .int mo, .int mf]))] sz) := by
  refine Met.ofW (cc := cX8_holds) (maxL := 2) (ret := (some .boolean)) (by decide) rfl ?_
  intro p e s m args below meth c s₁ B hml hv
  obtain ⟨rfl, hsz, hP, hKK, hD0⟩ := hv
  have hK := hKK.1
  have hx := B.exec
  have hb := B.bytes
  have hr := B.returns
  have hts := atoms_spec (ws := wsX8_holds) B.pre
  have hown : s.vm.findClass RX8 = some m.cls := findClass_of_methodNamed B.named
  have hlocks := B.notSynchronized
  subst hsz
  have hD := hD0.self (sz := s.heap.size)
  generalize hAe : va_A [(qM, .inr (8, [.int mt, .int mw, .int mh, .int mg, .int ms, .ref qMT, .ref qMW, .ref qMK, .ref qMM, .int mv, .int md, .ref qMR, .ref qML, .ref qMP, .int mu, .ref qMY, .ref qMF, .int mo, .int mf]))] s.heap.size = A at hD ⊢
  have hA : ∀ q : Nat, s.heap.size ≤ q → A q := fun q h => by rw [← hAe]; exact Or.inr h
  have hS : va_S A s.heap s.heap [] := va_S.rf
  have hl := lv_entry ([.ref qM, .int x1] : List Value) (n := 2) (Nat.le_of_ble_eq_true rfl)
  rw [lg_entry_eq]
  generalize (lg_sl ([.ref qM, .int x1] : List Value) ++ List.replicate (2 - (lg_sl ([.ref qM, .int x1] : List Value)).length) Slot.unset).toArray = ls at hl ⊢
  have hl : lv_has ls 2 [(0, .ref qM), (1, .int x1)] := hl
  have hi8 : ∀ w ∈ u_ws RX8 TX8 19, w ∈ wsX8_holds := by decide +kernel
  have hw0 : (Cond.fieldLink RX8 45 "NetPlumberModel" "thrown" "I").before #[Value.ref qM, Value.int x1] s = true := hts _ (by decide +kernel)
  refine wq (fun Q hQ => ?_)
  unfold kX8_holds at hq
  refine lv_aload_n hx hb dX8_holds_0 rfl (lv_at hl 0 rfl) ?_
  refine lv_iload_n hx hb dX8_holds_1 rfl (lv_at hl 1 rfl) ?_
  refine va_put (D := G.1) (ci := 8) (v := .int x1) (ty := .int) (C := RX8) (T := TX8) (N := 19) hx hb hts hi8 tyX8 tyX8_ok nmX8 hown hK hP hD hS 0 rfl rfl 0 (by decide) hw0 (fun _ h9 => h9) rfl (by decide +kernel) rfl rfl (Nat.le_of_ble_eq_true rfl) dX8_holds_2 (fun H locs hP hD hS => ?_)
  have hP : va_P G.1 vwCl [(qM, .inr (8, [.int x1, .int mw, .int mh, .int mg, .int ms, .ref qMT, .ref qMW, .ref qMK, .ref qMM, .int mv, .int md, .ref qMR, .ref qML, .ref qMP, .int mu, .ref qMY, .ref qMF, .int mo, .int mf]))] H := hP
  have hD : va_D A [(qM, .inr (8, [.int x1, .int mw, .int mh, .int mg, .int ms, .ref qMT, .ref qMW, .ref qMK, .ref qMM, .int mv, .int md, .ref qMR, .ref qML, .ref qMP, .int mu, .ref qMY, .ref qMF, .int mo, .int mf]))] := hD
  refine lv_iload_n hx hb dX8_holds_5 rfl (lv_at hl 1 rfl) ?_
  refine lv_if_ne (tgt := 13) hx hb dX8_holds_6 (by decide) (fun c_6 => ?_) (fun c_6 => ?_)
  · have hq := k_f c_6 hq
    refine lv_iconst (v := 0) hx hb dX8_holds_13 (by decide) ?_
    obtain rfl := Option.some.inj hq
    rw [hQ]
    exact W.zret hx hb hr rfl (fun t ht hW => ⟨⟨_, (), rfl, rfl, va_Pat ht hP⟩, hS.F ht⟩) hS.2.2 dX8_holds_14
  · have hq := k_t c_6 hq
    refine lv_iconst (v := 1) hx hb dX8_holds_9 (by decide) ?_
    refine lv_goto (tgt := 14) hx hb dX8_holds_10 (by decide) ?_
    obtain rfl := Option.some.inj hq
    rw [hQ]
    exact W.zret hx hb hr rfl (fun t ht hW => ⟨⟨_, (), rfl, rfl, va_Pat ht hP⟩, hS.F ht⟩) hS.2.2 dX8_holds_14

abbrev rmX8_cells : Room := { frames := 0, cells := 0, slots := 0, locals := 0 }
set_option maxHeartbeats 40000000 in
set_option maxRecDepth 100000 in
theorem tX8_cells (G : GG) (l : Launch) {qM qMT qMW qMK qMM qMR qML qMP qMY qMF : Nat} {mt : Int32} {mw : Int32} {mh : Int32} {mg : Int32} {ms : Int32} {mv : Int32} {md : Int32} {mu : Int32} {mo : Int32} {mf : Int32} {F : Nat} {r : Int32} (hq : kX8_cells F mw mh = some r) : Met l yX8_cells wsX8_cells rmX8_cells (pcP G [(qM, .inr (8, [.int mt, .int mw, .int mh, .int mg, .int ms, .ref qMT, .ref qMW, .ref qMK, .ref qMM, .int mv, .int md, .ref qMR, .ref qML, .ref qMP, .int mu, .ref qMY, .ref qMF, .int mo, .int mf]))] [.ref qM]) (vp_Si (fun x => r = x)) 0 0 (fun _ => False) := by
  refine Met.ofW (cc := cX8_cells) (maxL := 1) (ret := (some .int)) (by decide) rfl ?_
  intro p e s m args below meth c s₁ B hml hv
  obtain ⟨rfl, hP, hKK⟩ := hv
  have hK := hKK.1
  have hx := B.exec
  have hb := B.bytes
  have hr := B.returns
  have hts := atoms_spec (ws := wsX8_cells) B.pre
  have hown : s.vm.findClass RX8 = some m.cls := findClass_of_methodNamed B.named
  have hlocks := B.notSynchronized
  have hl := lv_entry ([.ref qM] : List Value) (n := 1) (Nat.le_of_ble_eq_true rfl)
  rw [lg_entry_eq]
  generalize (lg_sl ([.ref qM] : List Value) ++ List.replicate (1 - (lg_sl ([.ref qM] : List Value)).length) Slot.unset).toArray = ls at hl ⊢
  have hl : lv_has ls 1 [(0, .ref qM)] := hl
  have hi8 : ∀ w ∈ u_ws RX8 TX8 19, w ∈ wsX8_cells := by decide +kernel
  have hw0 : (Cond.fieldLink RX8 7 "NetPlumberModel" "width" "I").before #[Value.ref qM] s = true := hts _ (by decide +kernel)
  have hw1 : (Cond.fieldLink RX8 13 "NetPlumberModel" "height" "I").before #[Value.ref qM] s = true := hts _ (by decide +kernel)
  refine wq (fun Q hQ => ?_)
  unfold kX8_cells at hq
  refine lv_aload_n hx hb dX8_cells_0 rfl (lv_at hl 0 rfl) ?_
  refine va_get (D := G.1) (ci := 8) (v := .int mw) (C := RX8) (T := TX8) (N := 19) hx hb hts hi8 hown hK hP 0 rfl rfl 1 (by decide) hw0 (fun _ h9 => h9) rfl dX8_cells_1 ?_
  refine lv_aload_n hx hb dX8_cells_4 rfl (lv_at hl 0 rfl) ?_
  refine va_get (D := G.1) (ci := 8) (v := .int mh) (C := RX8) (T := TX8) (N := 19) hx hb hts hi8 hown hK hP 0 rfl rfl 2 (by decide) hw1 (fun _ h9 => h9) rfl dX8_cells_5 ?_
  refine lv_imul hx hb dX8_cells_8 ?_
  obtain rfl := Option.some.inj hq
  rw [hQ]
  exact W.iret hx hb hr (fun t ht hW => ⟨_, rfl, rfl, ht⟩) (fun _ h => absurd h List.not_mem_nil) dX8_cells_9

abbrev rmX8_isCell : Room := { frames := 1, cells := 0, slots := 0, locals := 20 }
set_option maxHeartbeats 40000000 in
set_option maxRecDepth 100000 in
theorem tX8_isCell (G : GG) (l : Launch) {qM qMT qMW qMK qMM qMR qML qMP qMY qMF : Nat} {mt : Int32} {mw : Int32} {mh : Int32} {mg : Int32} {ms : Int32} {mv : Int32} {md : Int32} {mu : Int32} {mo : Int32} {mf : Int32} {x1 : Int32} {F : Nat} {r : Int32} (hq : kX8_isCell F mw mh x1 = some r) : Met l yX8_isCell wsX8_isCell rmX8_isCell (pcP G [(qM, .inr (8, [.int mt, .int mw, .int mh, .int mg, .int ms, .ref qMT, .ref qMW, .ref qMK, .ref qMM, .int mv, .int md, .ref qMR, .ref qML, .ref qMP, .int mu, .ref qMY, .ref qMF, .int mo, .int mf]))] [.ref qM, .int x1]) (vp_Si (fun x => r = x)) 0 0 (fun _ => False) := by
  refine Met.ofW (cc := cX8_isCell) (maxL := 2) (ret := (some .boolean)) (by decide) rfl ?_
  intro p e s m args below meth c s₁ B hml hv
  obtain ⟨rfl, hP, hKK⟩ := hv
  have hK := hKK.1
  have hx := B.exec
  have hb := B.bytes
  have hr := B.returns
  have hts := atoms_spec (ws := wsX8_isCell) B.pre
  have hown : s.vm.findClass RX8 = some m.cls := findClass_of_methodNamed B.named
  have hlocks := B.notSynchronized
  have hl := lv_entry ([.ref qM, .int x1] : List Value) (n := 2) (Nat.le_of_ble_eq_true rfl)
  rw [lg_entry_eq]
  generalize (lg_sl ([.ref qM, .int x1] : List Value) ++ List.replicate (2 - (lg_sl ([.ref qM, .int x1] : List Value)).length) Slot.unset).toArray = ls at hl ⊢
  have hl : lv_has ls 2 [(0, .ref qM), (1, .int x1)] := hl
  refine wq (fun Q hQ => ?_)
  unfold kX8_isCell at hq
  refine lv_iload_n hx hb dX8_isCell_0 rfl (lv_at hl 1 rfl) ?_
  refine lv_if_lt (tgt := 16) hx hb dX8_isCell_1 (by decide) (fun c_1 => ?_) (fun c_1 => ?_)
  · have hq := k_t c_1 hq
    refine lv_iconst (v := 0) hx hb dX8_isCell_16 (by decide) ?_
    obtain rfl := Option.some.inj hq
    rw [hQ]
    exact W.zret hx hb hr rfl (fun t ht hW => ⟨_, rfl, rfl, ht⟩) (fun _ h => absurd h List.not_mem_nil) dX8_isCell_17
  · have hq := k_f c_1 hq
    refine lv_iload_n hx hb dX8_isCell_4 rfl (lv_at hl 1 rfl) ?_
    refine lv_aload_n hx hb dX8_isCell_5 rfl (lv_at hl 0 rfl) ?_
    obtain ⟨q3, eq3, hq⟩ := ob hq
    have hPc := hP.sub (ws' := [(qM, .inr (8, [.int mt, .int mw, .int mh, .int mg, .int ms, .ref qMT, .ref qMW, .ref qMK, .ref qMM, .int mv, .int md, .ref qMR, .ref qML, .ref qMP, .int mu, .ref qMY, .ref qMF, .int mo, .int mf]))]) [0] rfl
    have hKc := hK
    refine vp_callSi (va_Run.run (va_runV (As := []) (rest := [.int x1]) ⟨hx, hb, hml, hown, hts⟩ (tX8_cells G l eq3) (cwV 0 hts gX8_isCell_X8_cells rfl rfl rfl (by decide +kernel) ⟨Nat.le_of_ble_eq_true rfl, Nat.le_of_ble_eq_true rfl⟩) ⟨pcP_blind, va_recv hKc hPc (ci := 8) (q0 := 0) rfl rfl, pcP_pre hPc hKK⟩ rfl rfl hl.1 rfl (lv_room (Nat.le_of_ble_eq_true rfl)) dX8_isCell_6 ⟨Nat.zero_le _, Nat.zero_le _⟩)) (fun r0 hr0 => ?_)
    obtain rfl := hr0
    refine lv_icmp_ge (tgt := 16) hx hb dX8_isCell_9 (by decide) (fun c_9 => ?_) (fun c_9 => ?_)
    · have hq := k_t c_9 hq
      refine lv_iconst (v := 0) hx hb dX8_isCell_16 (by decide) ?_
      obtain rfl := Option.some.inj hq
      rw [hQ]
      exact W.zret hx hb hr rfl (fun t ht hW => ⟨_, rfl, rfl, ht⟩) (fun _ h => absurd h List.not_mem_nil) dX8_isCell_17
    · have hq := k_f c_9 hq
      refine lv_iconst (v := 1) hx hb dX8_isCell_12 (by decide) ?_
      refine lv_goto (tgt := 17) hx hb dX8_isCell_13 (by decide) ?_
      obtain rfl := Option.some.inj hq
      rw [hQ]
      exact W.zret hx hb hr rfl (fun t ht hW => ⟨_, rfl, rfl, ht⟩) (fun _ h => absurd h List.not_mem_nil) dX8_isCell_17

abbrev rmX8_isSide : Room := { frames := 0, cells := 0, slots := 0, locals := 0 }
set_option maxHeartbeats 40000000 in
set_option maxRecDepth 100000 in
theorem tX8_isSide (G : GG) (l : Launch) {x0 : Int32} {F : Nat} {r : Int32} (hq : kX8_isSide F x0 = some r) : Met l yX8_isSide wsX8_isSide rmX8_isSide (pcP G [] [.int x0]) (vp_Si (fun x => r = x)) 0 0 (fun _ => False) := by
  refine Met.ofW (cc := cX8_isSide) (maxL := 1) (ret := (some .boolean)) (by decide) rfl ?_
  intro p e s m args below meth c s₁ B hml hv
  obtain ⟨rfl, hP, hKK⟩ := hv
  have hK := hKK.1
  have hx := B.exec
  have hb := B.bytes
  have hr := B.returns
  have hts := atoms_spec (ws := wsX8_isSide) B.pre
  have hown : s.vm.findClass RX8 = some m.cls := findClass_of_methodNamed B.named
  have hlocks := B.notSynchronized
  have hl := lv_entry ([.int x0] : List Value) (n := 1) (Nat.le_of_ble_eq_true rfl)
  rw [lg_entry_eq]
  generalize (lg_sl ([.int x0] : List Value) ++ List.replicate (1 - (lg_sl ([.int x0] : List Value)).length) Slot.unset).toArray = ls at hl ⊢
  have hl : lv_has ls 1 [(0, .int x0)] := hl
  refine wq (fun Q hQ => ?_)
  unfold kX8_isSide at hq
  refine lv_iload_n hx hb dX8_isSide_0 rfl (lv_at hl 0 rfl) ?_
  refine lv_if_lt (tgt := 13) hx hb dX8_isSide_1 (by decide) (fun c_1 => ?_) (fun c_1 => ?_)
  · have hq := k_t c_1 hq
    refine lv_iconst (v := 0) hx hb dX8_isSide_13 (by decide) ?_
    obtain rfl := Option.some.inj hq
    rw [hQ]
    exact W.zret hx hb hr rfl (fun t ht hW => ⟨_, rfl, rfl, ht⟩) (fun _ h => absurd h List.not_mem_nil) dX8_isSide_14
  · have hq := k_f c_1 hq
    refine lv_iload_n hx hb dX8_isSide_4 rfl (lv_at hl 0 rfl) ?_
    refine lv_iconst (v := 4) hx hb dX8_isSide_5 (by decide) ?_
    refine lv_icmp_ge (tgt := 13) hx hb dX8_isSide_6 (by decide) (fun c_6 => ?_) (fun c_6 => ?_)
    · have hq := k_t c_6 hq
      refine lv_iconst (v := 0) hx hb dX8_isSide_13 (by decide) ?_
      obtain rfl := Option.some.inj hq
      rw [hQ]
      exact W.zret hx hb hr rfl (fun t ht hW => ⟨_, rfl, rfl, ht⟩) (fun _ h => absurd h List.not_mem_nil) dX8_isSide_14
    · have hq := k_f c_6 hq
      refine lv_iconst (v := 1) hx hb dX8_isSide_9 (by decide) ?_
      refine lv_goto (tgt := 14) hx hb dX8_isSide_10 (by decide) ?_
      obtain rfl := Option.some.inj hq
      rw [hQ]
      exact W.zret hx hb hr rfl (fun t ht hW => ⟨_, rfl, rfl, ht⟩) (fun _ h => absurd h List.not_mem_nil) dX8_isSide_14

abbrev rmX8_isBoard : Room := { frames := 0, cells := 0, slots := 0, locals := 0 }
set_option maxHeartbeats 40000000 in
set_option maxRecDepth 100000 in
theorem tX8_isBoard (G : GG) (l : Launch) {x0 : Int32} {x1 : Int32} {x2 : Int32} {F : Nat} {r : Int32} (hq : kX8_isBoard F x0 x1 x2 = some r) : Met l yX8_isBoard wsX8_isBoard rmX8_isBoard (pcP G [] [.int x0, .int x1, .int x2]) (vp_Si (fun x => r = x)) 0 0 (fun _ => False) := by
  refine Met.ofW (cc := cX8_isBoard) (maxL := 4) (ret := (some .boolean)) (by decide) rfl ?_
  intro p e s m args below meth c s₁ B hml hv
  obtain ⟨rfl, hP, hKK⟩ := hv
  have hK := hKK.1
  have hx := B.exec
  have hb := B.bytes
  have hr := B.returns
  have hts := atoms_spec (ws := wsX8_isBoard) B.pre
  have hown : s.vm.findClass RX8 = some m.cls := findClass_of_methodNamed B.named
  have hlocks := B.notSynchronized
  have hl := lv_entry ([.int x0, .int x1, .int x2] : List Value) (n := 4) (Nat.le_of_ble_eq_true rfl)
  rw [lg_entry_eq]
  generalize (lg_sl ([.int x0, .int x1, .int x2] : List Value) ++ List.replicate (4 - (lg_sl ([.int x0, .int x1, .int x2] : List Value)).length) Slot.unset).toArray = ls at hl ⊢
  have hl : lv_has ls 4 [(0, .int x0), (1, .int x1), (2, .int x2)] := hl
  refine wq (fun Q hQ => ?_)
  unfold kX8_isBoard at hq
  refine lv_iload_n hx hb dX8_isBoard_0 rfl (lv_at hl 0 rfl) ?_
  refine lv_iconst (v := 2) hx hb dX8_isBoard_1 (by decide) ?_
  have J33 : ∀ (v1 : Int32) (ls : Array Slot), kX8_isBoard_j33 F x0 x1 x2 v1 = some r → lv_has ls 4 [(0, .int x0), (1, .int x1), (2, .int x2)] → va_P G.1 vwCl [] s.heap → W p l e (headSpec wsX8_isBoard rmX8_isBoard).room s m ([.int x0, .int x1, .int x2] : List Value).toArray below meth c s.heap [] 0 0 Q (F0 m 33 ls [.int v1]) := by
    intro v1 ls hq hl hP
    unfold kX8_isBoard_j33 at hq
    refine lv_istore_n (lv' := [(3, .int v1), (0, .int x0), (1, .int x1), (2, .int x2)]) hx hb dX8_isBoard_33 rfl hl (by decide) rfl (fun ls hl => ?_)
    refine lv_iload_n hx hb dX8_isBoard_34 rfl (lv_at hl 0 rfl) ?_
    have J65 : ∀ (v2 : Int32) (ls : Array Slot), kX8_isBoard_j65 F v2 = some r → lv_has ls 4 [] → va_P G.1 vwCl [] s.heap → W p l e (headSpec wsX8_isBoard rmX8_isBoard).room s m ([.int x0, .int x1, .int x2] : List Value).toArray below meth c s.heap [] 0 0 Q (F0 m 65 ls [.int v2]) := by
      intro v2 ls hq hl hP
      unfold kX8_isBoard_j65 at hq
      obtain ⟨hg, hq⟩ := k_g hq
      obtain rfl := Option.some.inj hq
      rw [hQ]
      exact W.zret hx hb hr (isZ_n hg) (fun t ht hW => ⟨_, rfl, rfl, ht⟩) (fun _ h => absurd h List.not_mem_nil) dX8_isBoard_65
    refine lv_if_eq (tgt := 64) hx hb dX8_isBoard_35 (by decide) (fun c_35 => ?_) (fun c_35 => ?_)
    · have hq := k_t c_35 hq
      refine lv_iconst (v := 0) hx hb dX8_isBoard_64 (by decide) ?_
      exact J65 0 ls hq (lv_sub hl [] rfl) hP
    · have hq := k_f c_35 hq
      refine lv_iload_n hx hb dX8_isBoard_38 rfl (lv_at hl 3 rfl) ?_
      refine lv_if_eq (tgt := 60) hx hb dX8_isBoard_39 (by decide) (fun c_39 => ?_) (fun c_39 => ?_)
      · have hq := k_t c_39 hq
        refine lv_iconst (v := 1) hx hb dX8_isBoard_60 (by decide) ?_
        refine lv_goto (tgt := 65) hx hb dX8_isBoard_61 (by decide) ?_
        exact J65 1 ls hq (lv_sub hl [] rfl) hP
      · have hq := k_f c_39 hq
        refine lv_iload_n hx hb dX8_isBoard_42 rfl (lv_at hl 1 rfl) ?_
        refine lv_iconst (v := 2) hx hb dX8_isBoard_43 (by decide) ?_
        refine lv_icmp_le (tgt := 64) hx hb dX8_isBoard_44 (by decide) (fun c_44 => ?_) (fun c_44 => ?_)
        · have hq := k_t c_44 hq
          refine lv_iconst (v := 0) hx hb dX8_isBoard_64 (by decide) ?_
          exact J65 0 ls hq (lv_sub hl [] rfl) hP
        · have hq := k_f c_44 hq
          refine lv_iload_n hx hb dX8_isBoard_47 rfl (lv_at hl 2 rfl) ?_
          refine lv_iconst (v := 2) hx hb dX8_isBoard_48 (by decide) ?_
          refine lv_icmp_le (tgt := 64) hx hb dX8_isBoard_49 (by decide) (fun c_49 => ?_) (fun c_49 => ?_)
          · have hq := k_t c_49 hq
            refine lv_iconst (v := 0) hx hb dX8_isBoard_64 (by decide) ?_
            exact J65 0 ls hq (lv_sub hl [] rfl) hP
          · have hq := k_f c_49 hq
            refine lv_iload_n hx hb dX8_isBoard_52 rfl (lv_at hl 1 rfl) ?_
            refine lv_iload_n hx hb dX8_isBoard_53 rfl (lv_at hl 2 rfl) ?_
            refine lv_imul hx hb dX8_isBoard_54 ?_
            refine lv_bipush (v := 12) hx hb dX8_isBoard_55 (by decide) ?_
            refine lv_icmp_gt (tgt := 64) hx hb dX8_isBoard_57 (by decide) (fun c_57 => ?_) (fun c_57 => ?_)
            · have hq := k_t c_57 hq
              refine lv_iconst (v := 0) hx hb dX8_isBoard_64 (by decide) ?_
              exact J65 0 ls hq (lv_sub hl [] rfl) hP
            · have hq := k_f c_57 hq
              refine lv_iconst (v := 1) hx hb dX8_isBoard_60 (by decide) ?_
              refine lv_goto (tgt := 65) hx hb dX8_isBoard_61 (by decide) ?_
              exact J65 1 ls hq (lv_sub hl [] rfl) hP
  refine lv_icmp_lt (tgt := 32) hx hb dX8_isBoard_2 (by decide) (fun c_2 => ?_) (fun c_2 => ?_)
  · have hq := k_t c_2 hq
    refine lv_iconst (v := 0) hx hb dX8_isBoard_32 (by decide) ?_
    exact J33 0 ls hq (lv_sub hl [0, 1, 2] rfl) hP
  · have hq := k_f c_2 hq
    refine lv_iload_n hx hb dX8_isBoard_5 rfl (lv_at hl 0 rfl) ?_
    refine lv_iconst (v := 5) hx hb dX8_isBoard_6 (by decide) ?_
    refine lv_icmp_gt (tgt := 32) hx hb dX8_isBoard_7 (by decide) (fun c_7 => ?_) (fun c_7 => ?_)
    · have hq := k_t c_7 hq
      refine lv_iconst (v := 0) hx hb dX8_isBoard_32 (by decide) ?_
      exact J33 0 ls hq (lv_sub hl [0, 1, 2] rfl) hP
    · have hq := k_f c_7 hq
      refine lv_iload_n hx hb dX8_isBoard_10 rfl (lv_at hl 1 rfl) ?_
      refine lv_iconst (v := 2) hx hb dX8_isBoard_11 (by decide) ?_
      refine lv_icmp_lt (tgt := 32) hx hb dX8_isBoard_12 (by decide) (fun c_12 => ?_) (fun c_12 => ?_)
      · have hq := k_t c_12 hq
        refine lv_iconst (v := 0) hx hb dX8_isBoard_32 (by decide) ?_
        exact J33 0 ls hq (lv_sub hl [0, 1, 2] rfl) hP
      · have hq := k_f c_12 hq
        refine lv_iload_n hx hb dX8_isBoard_15 rfl (lv_at hl 1 rfl) ?_
        refine lv_iconst (v := 5) hx hb dX8_isBoard_16 (by decide) ?_
        refine lv_icmp_gt (tgt := 32) hx hb dX8_isBoard_17 (by decide) (fun c_17 => ?_) (fun c_17 => ?_)
        · have hq := k_t c_17 hq
          refine lv_iconst (v := 0) hx hb dX8_isBoard_32 (by decide) ?_
          exact J33 0 ls hq (lv_sub hl [0, 1, 2] rfl) hP
        · have hq := k_f c_17 hq
          refine lv_iload_n hx hb dX8_isBoard_20 rfl (lv_at hl 0 rfl) ?_
          refine lv_iload_n hx hb dX8_isBoard_21 rfl (lv_at hl 1 rfl) ?_
          refine lv_imul hx hb dX8_isBoard_22 ?_
          refine lv_bipush (v := 16) hx hb dX8_isBoard_23 (by decide) ?_
          refine lv_icmp_gt (tgt := 32) hx hb dX8_isBoard_25 (by decide) (fun c_25 => ?_) (fun c_25 => ?_)
          · have hq := k_t c_25 hq
            refine lv_iconst (v := 0) hx hb dX8_isBoard_32 (by decide) ?_
            exact J33 0 ls hq (lv_sub hl [0, 1, 2] rfl) hP
          · have hq := k_f c_25 hq
            refine lv_iconst (v := 1) hx hb dX8_isBoard_28 (by decide) ?_
            refine lv_goto (tgt := 33) hx hb dX8_isBoard_29 (by decide) ?_
            exact J33 1 ls hq (lv_sub hl [0, 1, 2] rfl) hP

abbrev rmX8_begins : Room := { frames := 0, cells := 0, slots := 0, locals := 0 }
set_option maxHeartbeats 40000000 in
set_option maxRecDepth 100000 in
theorem tX8_begins (G : GG) (l : Launch) {qM qMT qMW qMK qMM qMR qML qMP qMY qMF : Nat} {mt : Int32} {mw : Int32} {mh : Int32} {mg : Int32} {ms : Int32} {mv : Int32} {md : Int32} {mu : Int32} {mo : Int32} {mf : Int32} {mT : Nat → Int32} {mW : Nat → Int32} {mK : Nat → Int32} {x1 : Int32} {x2 : Int32} {x3 : Int32} {sz : Nat} {F : Nat} {r : Int32 × Int32 × Int32 × Int32 × Int32 × Int32 × (Nat → Int32) × (Nat → Int32) × (Nat → Int32)} (hq : kX8_begins F mw mh mg ms mv md mT mW mK x1 x2 x3 = some r) : Met l yX8_begins wsX8_begins rmX8_begins (pcW G [(qM, .inr (8, [.int mt, .int mw, .int mh, .int mg, .int ms, .ref qMT, .ref qMW, .ref qMK, .ref qMM, .int mv, .int md, .ref qMR, .ref qML, .ref qMP, .int mu, .ref qMY, .ref qMF, .int mo, .int mf])), (qMT, .inl (G.2.1, 16, .inl mT)), (qMW, .inl (G.2.1, 16, .inl mW)), (qMK, .inl (G.2.2.2.1, 16, .inl mK))] sz [.ref qM, .int x1, .int x2, .int x3]) (qcV G [(qM, .inr (8, [.int mt, .int r.1, .int r.2.1, .int r.2.2.1, .int r.2.2.2.1, .ref qMT, .ref qMW, .ref qMK, .ref qMM, .int r.2.2.2.2.1, .int r.2.2.2.2.2.1, .ref qMR, .ref qML, .ref qMP, .int mu, .ref qMY, .ref qMF, .int mo, .int mf])), (qMT, .inl (G.2.1, 16, .inl r.2.2.2.2.2.2.1)), (qMW, .inl (G.2.1, 16, .inl r.2.2.2.2.2.2.2.1)), (qMK, .inl (G.2.2.2.1, 16, .inl r.2.2.2.2.2.2.2.2))] (va_A [(qM, .inr (8, [.int mt, .int mw, .int mh, .int mg, .int ms, .ref qMT, .ref qMW, .ref qMK, .ref qMM, .int mv, .int md, .ref qMR, .ref qML, .ref qMP, .int mu, .ref qMY, .ref qMF, .int mo, .int mf])), (qMT, .inl (G.2.1, 16, .inl mT)), (qMW, .inl (G.2.1, 16, .inl mW)), (qMK, .inl (G.2.2.2.1, 16, .inl mK))] sz)) 0 0 (va_A [(qM, .inr (8, [.int mt, .int mw, .int mh, .int mg, .int ms, .ref qMT, .ref qMW, .ref qMK, .ref qMM, .int mv, .int md, .ref qMR, .ref qML, .ref qMP, .int mu, .ref qMY, .ref qMF, .int mo, .int mf])), (qMT, .inl (G.2.1, 16, .inl mT)), (qMW, .inl (G.2.1, 16, .inl mW)), (qMK, .inl (G.2.2.2.1, 16, .inl mK))] sz) := by
  refine Met.ofW (cc := cX8_begins) (maxL := 5) (ret := none) (by decide) rfl ?_
  intro p e s m args below meth c s₁ B hml hv
  obtain ⟨rfl, hsz, hP, hKK, hD0⟩ := hv
  have hK := hKK.1
  have hx := B.exec
  have hb := B.bytes
  have hr := B.returns
  have hts := atoms_spec (ws := wsX8_begins) B.pre
  have hown : s.vm.findClass RX8 = some m.cls := findClass_of_methodNamed B.named
  have hlocks := B.notSynchronized
  subst hsz
  have hD := hD0.self (sz := s.heap.size)
  generalize hAe : va_A [(qM, .inr (8, [.int mt, .int mw, .int mh, .int mg, .int ms, .ref qMT, .ref qMW, .ref qMK, .ref qMM, .int mv, .int md, .ref qMR, .ref qML, .ref qMP, .int mu, .ref qMY, .ref qMF, .int mo, .int mf])), (qMT, .inl (G.2.1, 16, .inl mT)), (qMW, .inl (G.2.1, 16, .inl mW)), (qMK, .inl (G.2.2.2.1, 16, .inl mK))] s.heap.size = A at hD ⊢
  have hA : ∀ q : Nat, s.heap.size ≤ q → A q := fun q h => by rw [← hAe]; exact Or.inr h
  have hS : va_S A s.heap s.heap [] := va_S.rf
  have hl := lv_entry ([.ref qM, .int x1, .int x2, .int x3] : List Value) (n := 5) (Nat.le_of_ble_eq_true rfl)
  rw [lg_entry_eq]
  generalize (lg_sl ([.ref qM, .int x1, .int x2, .int x3] : List Value) ++ List.replicate (5 - (lg_sl ([.ref qM, .int x1, .int x2, .int x3] : List Value)).length) Slot.unset).toArray = ls at hl ⊢
  have hl : lv_has ls 5 [(0, .ref qM), (1, .int x1), (2, .int x2), (3, .int x3)] := hl
  have hi8 : ∀ w ∈ u_ws RX8 TX8 19, w ∈ wsX8_begins := by decide +kernel
  have hw0 : (Cond.fieldLink RX8 7 "NetPlumberModel" "width" "I").before #[Value.ref qM, Value.int x1, Value.int x2, Value.int x3] s = true := hts _ (by decide +kernel)
  have hw1 : (Cond.fieldLink RX8 13 "NetPlumberModel" "height" "I").before #[Value.ref qM, Value.int x1, Value.int x2, Value.int x3] s = true := hts _ (by decide +kernel)
  have hw2 : (Cond.fieldLink RX8 52 "NetPlumberModel" "isRing" "Z").before #[Value.ref qM, Value.int x1, Value.int x2, Value.int x3] s = true := hts _ (by decide +kernel)
  have hw3 : (Cond.fieldLink RX8 56 "NetPlumberModel" "source" "I").before #[Value.ref qM, Value.int x1, Value.int x2, Value.int x3] s = true := hts _ (by decide +kernel)
  have hw4 : (Cond.fieldLink RX8 59 "NetPlumberModel" "moves" "I").before #[Value.ref qM, Value.int x1, Value.int x2, Value.int x3] s = true := hts _ (by decide +kernel)
  have hw5 : (Cond.fieldLink RX8 62 "NetPlumberModel" "done" "I").before #[Value.ref qM, Value.int x1, Value.int x2, Value.int x3] s = true := hts _ (by decide +kernel)
  have hw6 : (Cond.fieldLink RX8 16 "NetPlumberModel" "tiles" "[I").before #[Value.ref qM, Value.int x1, Value.int x2, Value.int x3] s = true := hts _ (by decide +kernel)
  have hw7 : (Cond.fieldLink RX8 20 "NetPlumberModel" "walls" "[I").before #[Value.ref qM, Value.int x1, Value.int x2, Value.int x3] s = true := hts _ (by decide +kernel)
  have hw8 : (Cond.fieldLink RX8 23 "NetPlumberModel" "locked" "[Z").before #[Value.ref qM, Value.int x1, Value.int x2, Value.int x3] s = true := hts _ (by decide +kernel)
  refine wq (fun Q hQ => ?_)
  unfold kX8_begins at hq
  refine lv_aload_n hx hb dX8_begins_0 rfl (lv_at hl 0 rfl) ?_
  refine lv_iload_n hx hb dX8_begins_1 rfl (lv_at hl 1 rfl) ?_
  refine va_put (D := G.1) (ci := 8) (v := .int x1) (ty := .int) (C := RX8) (T := TX8) (N := 19) hx hb hts hi8 tyX8 tyX8_ok nmX8 hown hK hP hD hS 0 rfl rfl 1 (by decide) hw0 (fun _ h9 => h9) rfl (by decide +kernel) rfl rfl (Nat.le_of_ble_eq_true rfl) dX8_begins_2 (fun H locs hP hD hS => ?_)
  have hP : va_P G.1 vwCl [(qM, .inr (8, [.int mt, .int x1, .int mh, .int mg, .int ms, .ref qMT, .ref qMW, .ref qMK, .ref qMM, .int mv, .int md, .ref qMR, .ref qML, .ref qMP, .int mu, .ref qMY, .ref qMF, .int mo, .int mf])), (qMT, .inl (G.2.1, 16, .inl mT)), (qMW, .inl (G.2.1, 16, .inl mW)), (qMK, .inl (G.2.2.2.1, 16, .inl mK))] H := hP
  have hD : va_D A [(qM, .inr (8, [.int mt, .int x1, .int mh, .int mg, .int ms, .ref qMT, .ref qMW, .ref qMK, .ref qMM, .int mv, .int md, .ref qMR, .ref qML, .ref qMP, .int mu, .ref qMY, .ref qMF, .int mo, .int mf])), (qMT, .inl (G.2.1, 16, .inl mT)), (qMW, .inl (G.2.1, 16, .inl mW)), (qMK, .inl (G.2.2.2.1, 16, .inl mK))] := hD
  refine lv_aload_n hx hb dX8_begins_5 rfl (lv_at hl 0 rfl) ?_
  refine lv_iload_n hx hb dX8_begins_6 rfl (lv_at hl 2 rfl) ?_
  refine va_put (D := G.1) (ci := 8) (v := .int x2) (ty := .int) (C := RX8) (T := TX8) (N := 19) hx hb hts hi8 tyX8 tyX8_ok nmX8 hown hK hP hD hS 0 rfl rfl 2 (by decide) hw1 (fun _ h9 => h9) rfl (by decide +kernel) rfl rfl (Nat.le_of_ble_eq_true rfl) dX8_begins_7 (fun H locs hP hD hS => ?_)
  have hP : va_P G.1 vwCl [(qM, .inr (8, [.int mt, .int x1, .int x2, .int mg, .int ms, .ref qMT, .ref qMW, .ref qMK, .ref qMM, .int mv, .int md, .ref qMR, .ref qML, .ref qMP, .int mu, .ref qMY, .ref qMF, .int mo, .int mf])), (qMT, .inl (G.2.1, 16, .inl mT)), (qMW, .inl (G.2.1, 16, .inl mW)), (qMK, .inl (G.2.2.2.1, 16, .inl mK))] H := hP
  have hD : va_D A [(qM, .inr (8, [.int mt, .int x1, .int x2, .int mg, .int ms, .ref qMT, .ref qMW, .ref qMK, .ref qMM, .int mv, .int md, .ref qMR, .ref qML, .ref qMP, .int mu, .ref qMY, .ref qMF, .int mo, .int mf])), (qMT, .inl (G.2.1, 16, .inl mT)), (qMW, .inl (G.2.1, 16, .inl mW)), (qMK, .inl (G.2.2.2.1, 16, .inl mK))] := hD
  refine lv_aload_n hx hb dX8_begins_10 rfl (lv_at hl 0 rfl) ?_
  refine lv_iload_n hx hb dX8_begins_11 rfl (lv_at hl 3 rfl) ?_
  obtain ⟨hg, hq⟩ := k_g hq
  refine va_put (D := G.1) (ci := 8) (v := .int x3) (ty := .boolean) (C := RX8) (T := TX8) (N := 19) hx hb hts hi8 tyX8 tyX8_ok nmX8 hown hK hP hD hS 0 rfl rfl 3 (by decide) hw2 (fun _ h9 => h9) rfl (by decide +kernel) (isZ_n hg) (isZ_f hg) (Nat.le_of_ble_eq_true rfl) dX8_begins_12 (fun H locs hP hD hS => ?_)
  have hP : va_P G.1 vwCl [(qM, .inr (8, [.int mt, .int x1, .int x2, .int x3, .int ms, .ref qMT, .ref qMW, .ref qMK, .ref qMM, .int mv, .int md, .ref qMR, .ref qML, .ref qMP, .int mu, .ref qMY, .ref qMF, .int mo, .int mf])), (qMT, .inl (G.2.1, 16, .inl mT)), (qMW, .inl (G.2.1, 16, .inl mW)), (qMK, .inl (G.2.2.2.1, 16, .inl mK))] H := hP
  have hD : va_D A [(qM, .inr (8, [.int mt, .int x1, .int x2, .int x3, .int ms, .ref qMT, .ref qMW, .ref qMK, .ref qMM, .int mv, .int md, .ref qMR, .ref qML, .ref qMP, .int mu, .ref qMY, .ref qMF, .int mo, .int mf])), (qMT, .inl (G.2.1, 16, .inl mT)), (qMW, .inl (G.2.1, 16, .inl mW)), (qMK, .inl (G.2.2.2.1, 16, .inl mK))] := hD
  refine lv_aload_n hx hb dX8_begins_15 rfl (lv_at hl 0 rfl) ?_
  refine lv_iconst (v := 0) hx hb dX8_begins_16 (by decide) ?_
  refine va_put (D := G.1) (ci := 8) (v := .int 0) (ty := .int) (C := RX8) (T := TX8) (N := 19) hx hb hts hi8 tyX8 tyX8_ok nmX8 hown hK hP hD hS 0 rfl rfl 4 (by decide) hw3 (fun _ h9 => h9) rfl (by decide +kernel) rfl rfl (Nat.le_of_ble_eq_true rfl) dX8_begins_17 (fun H locs hP hD hS => ?_)
  have hP : va_P G.1 vwCl [(qM, .inr (8, [.int mt, .int x1, .int x2, .int x3, .int 0, .ref qMT, .ref qMW, .ref qMK, .ref qMM, .int mv, .int md, .ref qMR, .ref qML, .ref qMP, .int mu, .ref qMY, .ref qMF, .int mo, .int mf])), (qMT, .inl (G.2.1, 16, .inl mT)), (qMW, .inl (G.2.1, 16, .inl mW)), (qMK, .inl (G.2.2.2.1, 16, .inl mK))] H := hP
  have hD : va_D A [(qM, .inr (8, [.int mt, .int x1, .int x2, .int x3, .int 0, .ref qMT, .ref qMW, .ref qMK, .ref qMM, .int mv, .int md, .ref qMR, .ref qML, .ref qMP, .int mu, .ref qMY, .ref qMF, .int mo, .int mf])), (qMT, .inl (G.2.1, 16, .inl mT)), (qMW, .inl (G.2.1, 16, .inl mW)), (qMK, .inl (G.2.2.2.1, 16, .inl mK))] := hD
  refine lv_aload_n hx hb dX8_begins_20 rfl (lv_at hl 0 rfl) ?_
  refine lv_iconst (v := 0) hx hb dX8_begins_21 (by decide) ?_
  refine va_put (D := G.1) (ci := 8) (v := .int 0) (ty := .int) (C := RX8) (T := TX8) (N := 19) hx hb hts hi8 tyX8 tyX8_ok nmX8 hown hK hP hD hS 0 rfl rfl 9 (by decide) hw4 (fun _ h9 => h9) rfl (by decide +kernel) rfl rfl (Nat.le_of_ble_eq_true rfl) dX8_begins_22 (fun H locs hP hD hS => ?_)
  have hP : va_P G.1 vwCl [(qM, .inr (8, [.int mt, .int x1, .int x2, .int x3, .int 0, .ref qMT, .ref qMW, .ref qMK, .ref qMM, .int 0, .int md, .ref qMR, .ref qML, .ref qMP, .int mu, .ref qMY, .ref qMF, .int mo, .int mf])), (qMT, .inl (G.2.1, 16, .inl mT)), (qMW, .inl (G.2.1, 16, .inl mW)), (qMK, .inl (G.2.2.2.1, 16, .inl mK))] H := hP
  have hD : va_D A [(qM, .inr (8, [.int mt, .int x1, .int x2, .int x3, .int 0, .ref qMT, .ref qMW, .ref qMK, .ref qMM, .int 0, .int md, .ref qMR, .ref qML, .ref qMP, .int mu, .ref qMY, .ref qMF, .int mo, .int mf])), (qMT, .inl (G.2.1, 16, .inl mT)), (qMW, .inl (G.2.1, 16, .inl mW)), (qMK, .inl (G.2.2.2.1, 16, .inl mK))] := hD
  refine lv_aload_n hx hb dX8_begins_25 rfl (lv_at hl 0 rfl) ?_
  refine lv_iconst (v := 0) hx hb dX8_begins_26 (by decide) ?_
  refine va_put (D := G.1) (ci := 8) (v := .int 0) (ty := .int) (C := RX8) (T := TX8) (N := 19) hx hb hts hi8 tyX8 tyX8_ok nmX8 hown hK hP hD hS 0 rfl rfl 10 (by decide) hw5 (fun _ h9 => h9) rfl (by decide +kernel) rfl rfl (Nat.le_of_ble_eq_true rfl) dX8_begins_27 (fun H locs hP hD hS => ?_)
  have hP : va_P G.1 vwCl [(qM, .inr (8, [.int mt, .int x1, .int x2, .int x3, .int 0, .ref qMT, .ref qMW, .ref qMK, .ref qMM, .int 0, .int 0, .ref qMR, .ref qML, .ref qMP, .int mu, .ref qMY, .ref qMF, .int mo, .int mf])), (qMT, .inl (G.2.1, 16, .inl mT)), (qMW, .inl (G.2.1, 16, .inl mW)), (qMK, .inl (G.2.2.2.1, 16, .inl mK))] H := hP
  have hD : va_D A [(qM, .inr (8, [.int mt, .int x1, .int x2, .int x3, .int 0, .ref qMT, .ref qMW, .ref qMK, .ref qMM, .int 0, .int 0, .ref qMR, .ref qML, .ref qMP, .int mu, .ref qMY, .ref qMF, .int mo, .int mf])), (qMT, .inl (G.2.1, 16, .inl mT)), (qMW, .inl (G.2.1, 16, .inl mW)), (qMK, .inl (G.2.2.2.1, 16, .inl mK))] := hD
  refine lv_iconst (v := 0) hx hb dX8_begins_30 (by decide) ?_
  refine lv_istore (lv' := [(4, .int 0), (0, .ref qM), (1, .int x1), (2, .int x2), (3, .int x3)]) hx hb dX8_begins_31 hl (by decide) rfl (fun ls hl => ?_)
  have L33 : ∀ (n : Nat) (s11 : Int32) (s12 : Nat → Int32) (s13 : Nat → Int32) (s14 : Nat → Int32) (t_33 : (Nat → Int32) × (Nat → Int32) × (Nat → Int32)) (ls : Array Slot) (H : Heap) (locs : List Loc), kloop n (fun s_ => kX8_begins_s33 F s_.1 s_.2.1 s_.2.2.1 s_.2.2.2) (s11, s12, s13, s14) = some t_33 → lv_has ls 5 [(0, .ref qM), (4, .int s11)] → va_P G.1 vwCl [(qM, .inr (8, [.int mt, .int x1, .int x2, .int x3, .int 0, .ref qMT, .ref qMW, .ref qMK, .ref qMM, .int 0, .int 0, .ref qMR, .ref qML, .ref qMP, .int mu, .ref qMY, .ref qMF, .int mo, .int mf])), (qMT, .inl (G.2.1, 16, .inl s12)), (qMW, .inl (G.2.1, 16, .inl s13)), (qMK, .inl (G.2.2.2.1, 16, .inl s14))] H → va_D A [(qM, .inr (8, [.int mt, .int x1, .int x2, .int x3, .int 0, .ref qMT, .ref qMW, .ref qMK, .ref qMM, .int 0, .int 0, .ref qMR, .ref qML, .ref qMP, .int mu, .ref qMY, .ref qMF, .int mo, .int mf])), (qMT, .inl (G.2.1, 16, .inl s12)), (qMW, .inl (G.2.1, 16, .inl s13)), (qMK, .inl (G.2.2.2.1, 16, .inl s14))] → va_S A s.heap H locs → (∀ (ls : Array Slot) (H : Heap) (locs : List Loc), lv_has ls 5 [] → va_P G.1 vwCl [(qM, .inr (8, [.int mt, .int x1, .int x2, .int x3, .int 0, .ref qMT, .ref qMW, .ref qMK, .ref qMM, .int 0, .int 0, .ref qMR, .ref qML, .ref qMP, .int mu, .ref qMY, .ref qMF, .int mo, .int mf])), (qMT, .inl (G.2.1, 16, .inl t_33.1)), (qMW, .inl (G.2.1, 16, .inl t_33.2.1)), (qMK, .inl (G.2.2.2.1, 16, .inl t_33.2.2))] H → va_D A [(qM, .inr (8, [.int mt, .int x1, .int x2, .int x3, .int 0, .ref qMT, .ref qMW, .ref qMK, .ref qMM, .int 0, .int 0, .ref qMR, .ref qML, .ref qMP, .int mu, .ref qMY, .ref qMF, .int mo, .int mf])), (qMT, .inl (G.2.1, 16, .inl t_33.1)), (qMW, .inl (G.2.1, 16, .inl t_33.2.1)), (qMK, .inl (G.2.2.2.1, 16, .inl t_33.2.2))] → va_S A s.heap H locs → W p l e (headSpec wsX8_begins rmX8_begins).room s m ([.ref qM, .int x1, .int x2, .int x3] : List Value).toArray below meth c H locs 0 0 Q (F0 m 70 ls [])) → W p l e (headSpec wsX8_begins rmX8_begins).room s m ([.ref qM, .int x1, .int x2, .int x3] : List Value).toArray below meth c H locs 0 0 Q (F0 m 33 ls []) := by
    intro n
    induction n with
    | zero => 
      intro s11 s12 s13 s14 t_33 ls H locs hq hl hP hD hS kk33_70
      exact absurd hq kl_0
    | succ n ih33 =>
      intro s11 s12 s13 s14 t_33 ls H locs hq hl hP hD hS kk33_70
      obtain ⟨y_33, hq, hx33⟩ := kl_s hq
      have hq : kX8_begins_s33 F s11 s12 s13 s14 = some y_33 := hq
      unfold kX8_begins_s33 at hq
      refine lv_iload hx hb dX8_begins_33 (lv_at hl 1 rfl) ?_
      refine lv_bipush (v := 16) hx hb dX8_begins_35 (by decide) ?_
      refine lv_icmp_ge (tgt := 70) hx hb dX8_begins_37 (by decide) (fun c_37 => ?_) (fun c_37 => ?_)
      · have hq := k_t c_37 hq
        have et := kl_exit hq hx33
        subst et
        exact kk33_70 ls _ _ (lv_sub hl [] rfl) hP hD hS
      · have hq := k_f c_37 hq
        refine lv_aload_n hx hb dX8_begins_40 rfl (lv_at hl 0 rfl) ?_
        refine va_get (D := G.1) (ci := 8) (v := .ref qMT) (C := RX8) (T := TX8) (N := 19) hx hb hts hi8 hown hK hP 0 rfl rfl 5 (by decide) hw6 (fun _ h9 => h9) rfl dX8_begins_41 ?_
        refine lv_iload hx hb dX8_begins_44 (lv_at hl 1 rfl) ?_
        refine lv_iconst (v := 0) hx hb dX8_begins_46 (by decide) ?_
        obtain ⟨hg, hq⟩ := k_g hq
        refine va_iast hx hb hK hP hD hS 1 0 rfl rfl (ix_in hg) dX8_begins_47 (fun H locs hP hD hS => ?_)
        have hP : va_P G.1 vwCl [(qM, .inr (8, [.int mt, .int x1, .int x2, .int x3, .int 0, .ref qMT, .ref qMW, .ref qMK, .ref qMM, .int 0, .int 0, .ref qMR, .ref qML, .ref qMP, .int mu, .ref qMY, .ref qMF, .int mo, .int mf])), (qMT, .inl (G.2.1, 16, .inl (upd s12 s11.toNatClampNeg 0))), (qMW, .inl (G.2.1, 16, .inl s13)), (qMK, .inl (G.2.2.2.1, 16, .inl s14))] H := hP
        have hD : va_D A [(qM, .inr (8, [.int mt, .int x1, .int x2, .int x3, .int 0, .ref qMT, .ref qMW, .ref qMK, .ref qMM, .int 0, .int 0, .ref qMR, .ref qML, .ref qMP, .int mu, .ref qMY, .ref qMF, .int mo, .int mf])), (qMT, .inl (G.2.1, 16, .inl (upd s12 s11.toNatClampNeg 0))), (qMW, .inl (G.2.1, 16, .inl s13)), (qMK, .inl (G.2.2.2.1, 16, .inl s14))] := hD
        refine lv_aload_n hx hb dX8_begins_48 rfl (lv_at hl 0 rfl) ?_
        refine va_get (D := G.1) (ci := 8) (v := .ref qMW) (C := RX8) (T := TX8) (N := 19) hx hb hts hi8 hown hK hP 0 rfl rfl 6 (by decide) hw7 (fun _ h9 => h9) rfl dX8_begins_49 ?_
        refine lv_iload hx hb dX8_begins_52 (lv_at hl 1 rfl) ?_
        refine lv_iconst (v := 0) hx hb dX8_begins_54 (by decide) ?_
        obtain ⟨hg, hq⟩ := k_g hq
        refine va_iast hx hb hK hP hD hS 2 0 rfl rfl (ix_in hg) dX8_begins_55 (fun H locs hP hD hS => ?_)
        have hP : va_P G.1 vwCl [(qM, .inr (8, [.int mt, .int x1, .int x2, .int x3, .int 0, .ref qMT, .ref qMW, .ref qMK, .ref qMM, .int 0, .int 0, .ref qMR, .ref qML, .ref qMP, .int mu, .ref qMY, .ref qMF, .int mo, .int mf])), (qMT, .inl (G.2.1, 16, .inl (upd s12 s11.toNatClampNeg 0))), (qMW, .inl (G.2.1, 16, .inl (upd s13 s11.toNatClampNeg 0))), (qMK, .inl (G.2.2.2.1, 16, .inl s14))] H := hP
        have hD : va_D A [(qM, .inr (8, [.int mt, .int x1, .int x2, .int x3, .int 0, .ref qMT, .ref qMW, .ref qMK, .ref qMM, .int 0, .int 0, .ref qMR, .ref qML, .ref qMP, .int mu, .ref qMY, .ref qMF, .int mo, .int mf])), (qMT, .inl (G.2.1, 16, .inl (upd s12 s11.toNatClampNeg 0))), (qMW, .inl (G.2.1, 16, .inl (upd s13 s11.toNatClampNeg 0))), (qMK, .inl (G.2.2.2.1, 16, .inl s14))] := hD
        refine lv_aload_n hx hb dX8_begins_56 rfl (lv_at hl 0 rfl) ?_
        refine va_get (D := G.1) (ci := 8) (v := .ref qMK) (C := RX8) (T := TX8) (N := 19) hx hb hts hi8 hown hK hP 0 rfl rfl 7 (by decide) hw8 (fun _ h9 => h9) rfl dX8_begins_57 ?_
        refine lv_iload hx hb dX8_begins_60 (lv_at hl 1 rfl) ?_
        refine lv_iconst (v := 0) hx hb dX8_begins_62 (by decide) ?_
        obtain ⟨hg, hq⟩ := k_g hq
        refine va_zast hx hb hK hP hD hS 3 2 rfl rfl (ix_in hg) dX8_begins_63 (fun H locs hP hD hS => ?_)
        have hP : va_P G.1 vwCl [(qM, .inr (8, [.int mt, .int x1, .int x2, .int x3, .int 0, .ref qMT, .ref qMW, .ref qMK, .ref qMM, .int 0, .int 0, .ref qMR, .ref qML, .ref qMP, .int mu, .ref qMY, .ref qMF, .int mo, .int mf])), (qMT, .inl (G.2.1, 16, .inl (upd s12 s11.toNatClampNeg 0))), (qMW, .inl (G.2.1, 16, .inl (upd s13 s11.toNatClampNeg 0))), (qMK, .inl (G.2.2.2.1, 16, .inl (upd s14 s11.toNatClampNeg (vp_nar .boolean 0))))] H := hP
        have hD : va_D A [(qM, .inr (8, [.int mt, .int x1, .int x2, .int x3, .int 0, .ref qMT, .ref qMW, .ref qMK, .ref qMM, .int 0, .int 0, .ref qMR, .ref qML, .ref qMP, .int mu, .ref qMY, .ref qMF, .int mo, .int mf])), (qMT, .inl (G.2.1, 16, .inl (upd s12 s11.toNatClampNeg 0))), (qMW, .inl (G.2.1, 16, .inl (upd s13 s11.toNatClampNeg 0))), (qMK, .inl (G.2.2.2.1, 16, .inl (upd s14 s11.toNatClampNeg (vp_nar .boolean 0))))] := hD
        refine lv_iinc (v := (s11 + 1)) (lv' := [(4, .int (s11 + 1)), (0, .ref qM)]) hx hb dX8_begins_64 hl (k := 1) rfl rfl (by decide) rfl (fun ls hl => ?_)
        refine lv_goto (tgt := 33) hx hb dX8_begins_67 (by decide) ?_
        exact ih33 (s11 + 1) (upd s12 s11.toNatClampNeg 0) (upd s13 s11.toNatClampNeg 0) (upd s14 s11.toNatClampNeg (vp_nar .boolean 0)) t_33 ls _ _ (kl_back hq hx33) (lv_sub hl [1, 0] rfl) hP hD hS kk33_70
  obtain ⟨q15, eq15, hq⟩ := ob hq
  refine L33 F 0 mT mW mK q15 ls _ _ (eq15) (lv_sub hl [1, 0] rfl) hP hD hS (fun ls H locs hl hP hD hS => ?_)
  · obtain rfl := Option.some.inj hq
    rw [hQ]
    exact W.vret hx hb hr (fun t ht hW => ⟨⟨(), rfl, trivial, va_Pat ht hP⟩, hS.F ht⟩) hS.2.2 dX8_begins_70

abbrev rmX8_begin : Room := { frames := 1, cells := 0, slots := 0, locals := 24 }
set_option maxHeartbeats 40000000 in
set_option maxRecDepth 100000 in
theorem tX8_begin (G : GG) (l : Launch) {qM qMT qMW qMK qMM qMR qML qMP qMY qMF : Nat} {mt : Int32} {mw : Int32} {mh : Int32} {mg : Int32} {ms : Int32} {mv : Int32} {md : Int32} {mu : Int32} {mo : Int32} {mf : Int32} {mT : Nat → Int32} {mW : Nat → Int32} {mK : Nat → Int32} {x1 : Int32} {x2 : Int32} {x3 : Int32} {sz : Nat} {F : Nat} {r : Int32 × Int32 × Int32 × Int32 × Int32 × Int32 × Int32 × Int32 × (Nat → Int32) × (Nat → Int32) × (Nat → Int32)} (hq : kX8_begin F mt mw mh mg ms mv md mT mW mK x1 x2 x3 = some r) : Met l yX8_begin wsX8_begin rmX8_begin (pcW G [(qM, .inr (8, [.int mt, .int mw, .int mh, .int mg, .int ms, .ref qMT, .ref qMW, .ref qMK, .ref qMM, .int mv, .int md, .ref qMR, .ref qML, .ref qMP, .int mu, .ref qMY, .ref qMF, .int mo, .int mf])), (qMT, .inl (G.2.1, 16, .inl mT)), (qMW, .inl (G.2.1, 16, .inl mW)), (qMK, .inl (G.2.2.2.1, 16, .inl mK))] sz [.ref qM, .int x1, .int x2, .int x3]) (qcI G r.1 [(qM, .inr (8, [.int r.2.1, .int r.2.2.1, .int r.2.2.2.1, .int r.2.2.2.2.1, .int r.2.2.2.2.2.1, .ref qMT, .ref qMW, .ref qMK, .ref qMM, .int r.2.2.2.2.2.2.1, .int r.2.2.2.2.2.2.2.1, .ref qMR, .ref qML, .ref qMP, .int mu, .ref qMY, .ref qMF, .int mo, .int mf])), (qMT, .inl (G.2.1, 16, .inl r.2.2.2.2.2.2.2.2.1)), (qMW, .inl (G.2.1, 16, .inl r.2.2.2.2.2.2.2.2.2.1)), (qMK, .inl (G.2.2.2.1, 16, .inl r.2.2.2.2.2.2.2.2.2.2))] (va_A [(qM, .inr (8, [.int mt, .int mw, .int mh, .int mg, .int ms, .ref qMT, .ref qMW, .ref qMK, .ref qMM, .int mv, .int md, .ref qMR, .ref qML, .ref qMP, .int mu, .ref qMY, .ref qMF, .int mo, .int mf])), (qMT, .inl (G.2.1, 16, .inl mT)), (qMW, .inl (G.2.1, 16, .inl mW)), (qMK, .inl (G.2.2.2.1, 16, .inl mK))] sz)) 0 0 (va_A [(qM, .inr (8, [.int mt, .int mw, .int mh, .int mg, .int ms, .ref qMT, .ref qMW, .ref qMK, .ref qMM, .int mv, .int md, .ref qMR, .ref qML, .ref qMP, .int mu, .ref qMY, .ref qMF, .int mo, .int mf])), (qMT, .inl (G.2.1, 16, .inl mT)), (qMW, .inl (G.2.1, 16, .inl mW)), (qMK, .inl (G.2.2.2.1, 16, .inl mK))] sz) := by
  refine Met.ofW (cc := cX8_begin) (maxL := 4) (ret := (some .int)) (by decide) rfl ?_
  intro p e s m args below meth c s₁ B hml hv
  obtain ⟨rfl, hsz, hP, hKK, hD0⟩ := hv
  have hK := hKK.1
  have hx := B.exec
  have hb := B.bytes
  have hr := B.returns
  have hts := atoms_spec (ws := wsX8_begin) B.pre
  have hown : s.vm.findClass RX8 = some m.cls := findClass_of_methodNamed B.named
  have hlocks := B.notSynchronized
  subst hsz
  have hD := hD0.self (sz := s.heap.size)
  generalize hAe : va_A [(qM, .inr (8, [.int mt, .int mw, .int mh, .int mg, .int ms, .ref qMT, .ref qMW, .ref qMK, .ref qMM, .int mv, .int md, .ref qMR, .ref qML, .ref qMP, .int mu, .ref qMY, .ref qMF, .int mo, .int mf])), (qMT, .inl (G.2.1, 16, .inl mT)), (qMW, .inl (G.2.1, 16, .inl mW)), (qMK, .inl (G.2.2.2.1, 16, .inl mK))] s.heap.size = A at hD ⊢
  have hA : ∀ q : Nat, s.heap.size ≤ q → A q := fun q h => by rw [← hAe]; exact Or.inr h
  have hS : va_S A s.heap s.heap [] := va_S.rf
  have hl := lv_entry ([.ref qM, .int x1, .int x2, .int x3] : List Value) (n := 4) (Nat.le_of_ble_eq_true rfl)
  rw [lg_entry_eq]
  generalize (lg_sl ([.ref qM, .int x1, .int x2, .int x3] : List Value) ++ List.replicate (4 - (lg_sl ([.ref qM, .int x1, .int x2, .int x3] : List Value)).length) Slot.unset).toArray = ls at hl ⊢
  have hl : lv_has ls 4 [(0, .ref qM), (1, .int x1), (2, .int x2), (3, .int x3)] := hl
  refine wq (fun Q hQ => ?_)
  unfold kX8_begin at hq
  refine lv_aload_n hx hb dX8_begin_0 rfl (lv_at hl 0 rfl) ?_
  refine lv_iload_n hx hb dX8_begin_1 rfl (lv_at hl 1 rfl) ?_
  refine lv_iload_n hx hb dX8_begin_2 rfl (lv_at hl 2 rfl) ?_
  refine lv_iload_n hx hb dX8_begin_3 rfl (lv_at hl 3 rfl) ?_
  obtain ⟨q1, eq1, hq⟩ := ob hq
  have hPc := hP.sub (ws' := []) [] rfl
  refine vp_callSi (va_Run.run (va_runS (As := [.int x1, .int x2, .int x3]) (rest := [.ref qM]) ⟨hx, hb, hml, hown, hts⟩ (tX8_isBoard G l eq1) (va_cwS 3 hts gX8_begin_X8_isBoard rfl rfl rfl (by decide +kernel) ⟨Nat.le_of_ble_eq_true rfl, Nat.le_of_ble_eq_true rfl⟩) ⟨pcP_blind, pcP_pre hPc hKK⟩ rfl rfl hl.1 rfl (lv_room (Nat.le_of_ble_eq_true rfl)) dX8_begin_4 ⟨Nat.zero_le _, Nat.zero_le _⟩)) (fun r0 hr0 => ?_)
  obtain rfl := hr0
  have J15 : ∀ (v2 : Int32) (ls : Array Slot) (H : Heap) (locs : List Loc), kX8_begin_j15 F mt mw mh mg ms mv md mT mW mK x1 x2 x3 v2 = some r → lv_has ls 4 [(0, .ref qM), (1, .int x1), (2, .int x2), (3, .int x3)] → va_P G.1 vwCl [(qM, .inr (8, [.int mt, .int mw, .int mh, .int mg, .int ms, .ref qMT, .ref qMW, .ref qMK, .ref qMM, .int mv, .int md, .ref qMR, .ref qML, .ref qMP, .int mu, .ref qMY, .ref qMF, .int mo, .int mf])), (qMT, .inl (G.2.1, 16, .inl mT)), (qMW, .inl (G.2.1, 16, .inl mW)), (qMK, .inl (G.2.2.2.1, 16, .inl mK))] H → va_D A [(qM, .inr (8, [.int mt, .int mw, .int mh, .int mg, .int ms, .ref qMT, .ref qMW, .ref qMK, .ref qMM, .int mv, .int md, .ref qMR, .ref qML, .ref qMP, .int mu, .ref qMY, .ref qMF, .int mo, .int mf])), (qMT, .inl (G.2.1, 16, .inl mT)), (qMW, .inl (G.2.1, 16, .inl mW)), (qMK, .inl (G.2.2.2.1, 16, .inl mK))] → va_S A s.heap H locs → W p l e (headSpec wsX8_begin rmX8_begin).room s m ([.ref qM, .int x1, .int x2, .int x3] : List Value).toArray below meth c H locs 0 0 Q (F0 m 15 ls [.int v2, .ref qM]) := by
    intro v2 ls H locs hq hl hP hD hS
    unfold kX8_begin_j15 at hq
    obtain ⟨q3, eq3, hq⟩ := ob hq
    have hPc := hP.sub (ws' := [(qM, .inr (8, [.int mt, .int mw, .int mh, .int mg, .int ms, .ref qMT, .ref qMW, .ref qMK, .ref qMM, .int mv, .int md, .ref qMR, .ref qML, .ref qMP, .int mu, .ref qMY, .ref qMF, .int mo, .int mf]))]) [0] rfl
    have hKc := hK
    have hDc := hD.sub (ws' := [(qM, .inr (8, [.int mt, .int mw, .int mh, .int mg, .int ms, .ref qMT, .ref qMW, .ref qMK, .ref qMM, .int mv, .int md, .ref qMR, .ref qML, .ref qMP, .int mu, .ref qMY, .ref qMF, .int mo, .int mf]))]) [0] (by decide) rfl
    have hFc := va_free (wc := [(qM, .inr (8, [.int mt, .int mw, .int mh, .int mg, .int ms, .ref qMT, .ref qMW, .ref qMK, .ref qMM, .int mv, .int md, .ref qMR, .ref qML, .ref qMP, .int mu, .ref qMY, .ref qMF, .int mo, .int mf]))]) hD hS hA [0] rfl
    refine va_calli (va_runV (As := [.int v2]) (rest := []) ⟨hx, hb, hml, hown, hts⟩ (tX8_holds G l eq3) (cwV 1 hts gX8_begin_X8_holds rfl rfl rfl (by decide +kernel) ⟨Nat.le_of_ble_eq_true rfl, Nat.le_of_ble_eq_true rfl⟩) ⟨pcW_blind, va_recv hKc hPc (ci := 8) (q0 := 0) rfl rfl, pcW_pre hPc hKK hDc⟩ rfl rfl hl.1 rfl (lv_room (Nat.le_of_ble_eq_true rfl)) dX8_begin_15 ⟨Nat.zero_le _, Nat.zero_le _⟩) hS (fun q _ h => hFc q h) hFc (fun r0 u t H1 locs ht hvm hw hB hz1 hk1 hS => ?_)
    obtain rfl := hw
    have hB := va_Pto ht hB
    obtain ⟨hP, hD⟩ := jn (ws' := [(qM, .inr (8, [.int q3.2, .int mw, .int mh, .int mg, .int ms, .ref qMT, .ref qMW, .ref qMK, .ref qMM, .int mv, .int md, .ref qMR, .ref qML, .ref qMP, .int mu, .ref qMY, .ref qMF, .int mo, .int mf])), (qMT, .inl (G.2.1, 16, .inl mT)), (qMW, .inl (G.2.1, 16, .inl mW)), (qMK, .inl (G.2.2.2.1, 16, .inl mK))]) hP hD hk1 hB [0] rfl rfl rfl rfl
    generalize H1 = H at hP hS ⊢
    refine lv_if_ne (tgt := 23) hx hb dX8_begin_18 (by decide) (fun c_18 => ?_) (fun c_18 => ?_)
    · have hq := k_f c_18 hq
      refine lv_aload_n hx hb dX8_begin_23 rfl (lv_at hl 0 rfl) ?_
      refine lv_iload_n hx hb dX8_begin_24 rfl (lv_at hl 1 rfl) ?_
      refine lv_iload_n hx hb dX8_begin_25 rfl (lv_at hl 2 rfl) ?_
      refine lv_iload_n hx hb dX8_begin_26 rfl (lv_at hl 3 rfl) ?_
      obtain ⟨q4, eq4, hq⟩ := ob hq
      have hPc := hP.sub (ws' := [(qM, .inr (8, [.int q3.2, .int mw, .int mh, .int mg, .int ms, .ref qMT, .ref qMW, .ref qMK, .ref qMM, .int mv, .int md, .ref qMR, .ref qML, .ref qMP, .int mu, .ref qMY, .ref qMF, .int mo, .int mf])), (qMT, .inl (G.2.1, 16, .inl mT)), (qMW, .inl (G.2.1, 16, .inl mW)), (qMK, .inl (G.2.2.2.1, 16, .inl mK))]) [0, 1, 2, 3] rfl
      have hKc := hK
      have hDc := hD.sub (ws' := [(qM, .inr (8, [.int q3.2, .int mw, .int mh, .int mg, .int ms, .ref qMT, .ref qMW, .ref qMK, .ref qMM, .int mv, .int md, .ref qMR, .ref qML, .ref qMP, .int mu, .ref qMY, .ref qMF, .int mo, .int mf])), (qMT, .inl (G.2.1, 16, .inl mT)), (qMW, .inl (G.2.1, 16, .inl mW)), (qMK, .inl (G.2.2.2.1, 16, .inl mK))]) [0, 1, 2, 3] (by decide) rfl
      have hFc := va_free (wc := [(qM, .inr (8, [.int q3.2, .int mw, .int mh, .int mg, .int ms, .ref qMT, .ref qMW, .ref qMK, .ref qMM, .int mv, .int md, .ref qMR, .ref qML, .ref qMP, .int mu, .ref qMY, .ref qMF, .int mo, .int mf])), (qMT, .inl (G.2.1, 16, .inl mT)), (qMW, .inl (G.2.1, 16, .inl mW)), (qMK, .inl (G.2.2.2.1, 16, .inl mK))]) hD hS hA [0, 1, 2, 3] rfl
      refine va_callv (va_runV (As := [.int x1, .int x2, .int x3]) (rest := []) ⟨hx, hb, hml, hown, hts⟩ (tX8_begins G l eq4) (cwV 3 hts gX8_begin_X8_begins rfl rfl rfl (by decide +kernel) ⟨Nat.le_of_ble_eq_true rfl, Nat.le_of_ble_eq_true rfl⟩) ⟨pcW_blind, va_recv hKc hPc (ci := 8) (q0 := 0) rfl rfl, pcW_pre hPc hKK hDc⟩ rfl rfl hl.1 rfl (lv_room (Nat.le_of_ble_eq_true rfl)) dX8_begin_27 ⟨Nat.zero_le _, Nat.zero_le _⟩) hS (fun q _ h => hFc q h) hFc (fun u t H1 locs ht hvm hw hB hz1 hk1 hS => ?_)
      have hB := va_Pto ht hB
      obtain ⟨hP, hD⟩ := jn (ws' := [(qM, .inr (8, [.int q3.2, .int q4.1, .int q4.2.1, .int q4.2.2.1, .int q4.2.2.2.1, .ref qMT, .ref qMW, .ref qMK, .ref qMM, .int q4.2.2.2.2.1, .int q4.2.2.2.2.2.1, .ref qMR, .ref qML, .ref qMP, .int mu, .ref qMY, .ref qMF, .int mo, .int mf])), (qMT, .inl (G.2.1, 16, .inl q4.2.2.2.2.2.2.1)), (qMW, .inl (G.2.1, 16, .inl q4.2.2.2.2.2.2.2.1)), (qMK, .inl (G.2.2.2.1, 16, .inl q4.2.2.2.2.2.2.2.2))]) hP hD hk1 hB [0, 1, 2, 3] rfl rfl rfl rfl
      generalize H1 = H at hP hS ⊢
      refine lv_aload_n hx hb dX8_begin_30 rfl (lv_at hl 0 rfl) ?_
      obtain ⟨q5, eq5, hq⟩ := ob hq
      have hPc := hP.sub (ws' := [(qM, .inr (8, [.int q3.2, .int q4.1, .int q4.2.1, .int q4.2.2.1, .int q4.2.2.2.1, .ref qMT, .ref qMW, .ref qMK, .ref qMM, .int q4.2.2.2.2.1, .int q4.2.2.2.2.2.1, .ref qMR, .ref qML, .ref qMP, .int mu, .ref qMY, .ref qMF, .int mo, .int mf]))]) [0] rfl
      have hKc := hK
      refine vp_callSi (va_Run.run (va_runV (As := []) (rest := []) ⟨hx, hb, hml, hown, hts⟩ (tX8_cells G l eq5) (cwV 0 hts gX8_begin_X8_cells rfl rfl rfl (by decide +kernel) ⟨Nat.le_of_ble_eq_true rfl, Nat.le_of_ble_eq_true rfl⟩) ⟨pcP_blind, va_recv hKc hPc (ci := 8) (q0 := 0) rfl rfl, pcP_pre hPc hKK⟩ rfl rfl hl.1 rfl (lv_room (Nat.le_of_ble_eq_true rfl)) dX8_begin_31 ⟨Nat.zero_le _, Nat.zero_le _⟩)) (fun r0 hr0 => ?_)
      obtain rfl := hr0
      obtain rfl := Option.some.inj hq
      rw [hQ]
      exact W.iret hx hb hr (fun t ht hW => ⟨⟨_, (), rfl, rfl, va_Pat ht hP⟩, hS.F ht⟩) hS.2.2 dX8_begin_34
    · have hq := k_t c_18 hq
      refine lv_iconst (v := 0) hx hb dX8_begin_21 (by decide) ?_
      obtain rfl := Option.some.inj hq
      rw [hQ]
      exact W.iret hx hb hr (fun t ht hW => ⟨⟨_, (), rfl, rfl, va_Pat ht hP⟩, hS.F ht⟩) hS.2.2 dX8_begin_22
  refine lv_if_eq (tgt := 14) hx hb dX8_begin_7 (by decide) (fun c_7 => ?_) (fun c_7 => ?_)
  · have hq := k_t c_7 hq
    refine lv_iconst (v := 1) hx hb dX8_begin_14 (by decide) ?_
    exact J15 1 ls _ _ hq (lv_sub hl [0, 1, 2, 3] rfl) hP hD hS
  · have hq := k_f c_7 hq
    refine lv_iconst (v := 0) hx hb dX8_begin_10 (by decide) ?_
    refine lv_goto (tgt := 15) hx hb dX8_begin_11 (by decide) ?_
    exact J15 0 ls _ _ hq (lv_sub hl [0, 1, 2, 3] rfl) hP hD hS

abbrev rmX8_neighbourOf : Room := { frames := 0, cells := 0, slots := 0, locals := 0 }
set_option maxHeartbeats 40000000 in
set_option maxRecDepth 100000 in
theorem tX8_neighbourOf (G : GG) (l : Launch) {qM qMT qMW qMK qMM qMR qML qMP qMY qMF : Nat} {mt : Int32} {mw : Int32} {mh : Int32} {mg : Int32} {ms : Int32} {mv : Int32} {md : Int32} {mu : Int32} {mo : Int32} {mf : Int32} {x1 : Int32} {x2 : Int32} {F : Nat} {r : Int32} (hq : kX8_neighbourOf F mw mh mg x1 x2 = some r) : Met l yX8_neighbourOf wsX8_neighbourOf rmX8_neighbourOf (pcP G [(qM, .inr (8, [.int mt, .int mw, .int mh, .int mg, .int ms, .ref qMT, .ref qMW, .ref qMK, .ref qMM, .int mv, .int md, .ref qMR, .ref qML, .ref qMP, .int mu, .ref qMY, .ref qMF, .int mo, .int mf]))] [.ref qM, .int x1, .int x2]) (vp_Si (fun x => r = x)) 0 0 (fun _ => False) := by
  refine Met.ofW (cc := cX8_neighbourOf) (maxL := 6) (ret := (some .int)) (by decide) rfl ?_
  intro p e s m args below meth c s₁ B hml hv
  obtain ⟨rfl, hP, hKK⟩ := hv
  have hK := hKK.1
  have hx := B.exec
  have hb := B.bytes
  have hr := B.returns
  have hts := atoms_spec (ws := wsX8_neighbourOf) B.pre
  have hown : s.vm.findClass RX8 = some m.cls := findClass_of_methodNamed B.named
  have hlocks := B.notSynchronized
  have hl := lv_entry ([.ref qM, .int x1, .int x2] : List Value) (n := 6) (Nat.le_of_ble_eq_true rfl)
  rw [lg_entry_eq]
  generalize (lg_sl ([.ref qM, .int x1, .int x2] : List Value) ++ List.replicate (6 - (lg_sl ([.ref qM, .int x1, .int x2] : List Value)).length) Slot.unset).toArray = ls at hl ⊢
  have hl : lv_has ls 6 [(0, .ref qM), (1, .int x1), (2, .int x2)] := hl
  have hi8 : ∀ w ∈ u_ws RX8 TX8 19, w ∈ wsX8_neighbourOf := by decide +kernel
  have hw0 : (Cond.fieldLink RX8 7 "NetPlumberModel" "width" "I").before #[Value.ref qM, Value.int x1, Value.int x2] s = true := hts _ (by decide +kernel)
  have hw1 : (Cond.fieldLink RX8 13 "NetPlumberModel" "height" "I").before #[Value.ref qM, Value.int x1, Value.int x2] s = true := hts _ (by decide +kernel)
  have hw2 : (Cond.fieldLink RX8 52 "NetPlumberModel" "isRing" "Z").before #[Value.ref qM, Value.int x1, Value.int x2] s = true := hts _ (by decide +kernel)
  refine wq (fun Q hQ => ?_)
  unfold kX8_neighbourOf at hq
  refine lv_iload_n hx hb dX8_neighbourOf_0 rfl (lv_at hl 1 rfl) ?_
  refine lv_aload_n hx hb dX8_neighbourOf_1 rfl (lv_at hl 0 rfl) ?_
  refine va_get (D := G.1) (ci := 8) (v := .int mw) (C := RX8) (T := TX8) (N := 19) hx hb hts hi8 hown hK hP 0 rfl rfl 1 (by decide) hw0 (fun _ h9 => h9) rfl dX8_neighbourOf_2 ?_
  obtain ⟨hg, hq⟩ := k_g hq
  refine lv_irem hx hb dX8_neighbourOf_5 (nz_n hg) ?_
  refine lv_iload_n hx hb dX8_neighbourOf_6 rfl (lv_at hl 2 rfl) ?_
  refine lv_iconst (v := 1) hx hb dX8_neighbourOf_7 (by decide) ?_
  have J25 : ∀ (v1 : Int32) (ls : Array Slot), kX8_neighbourOf_j25 F mw mh mg x1 x2 v1 = some r → lv_has ls 6 [(0, .ref qM), (1, .int x1), (2, .int x2)] → va_P G.1 vwCl [(qM, .inr (8, [.int mt, .int mw, .int mh, .int mg, .int ms, .ref qMT, .ref qMW, .ref qMK, .ref qMM, .int mv, .int md, .ref qMR, .ref qML, .ref qMP, .int mu, .ref qMY, .ref qMF, .int mo, .int mf]))] s.heap → W p l e (headSpec wsX8_neighbourOf rmX8_neighbourOf).room s m ([.ref qM, .int x1, .int x2] : List Value).toArray below meth c s.heap [] 0 0 Q (F0 m 25 ls [.int v1, .int (x1 - x1 / mw * mw)]) := by
    intro v1 ls hq hl hP
    unfold kX8_neighbourOf_j25 at hq
    refine lv_iadd hx hb dX8_neighbourOf_25 ?_
    refine lv_istore_n (lv' := [(3, .int ((x1 - x1 / mw * mw) + v1)), (0, .ref qM), (1, .int x1), (2, .int x2)]) hx hb dX8_neighbourOf_26 rfl hl (by decide) rfl (fun ls hl => ?_)
    refine lv_iload_n hx hb dX8_neighbourOf_27 rfl (lv_at hl 2 rfl) ?_
    refine lv_aload_n hx hb dX8_neighbourOf_28 rfl (lv_at hl 1 rfl) ?_
    refine va_get (D := G.1) (ci := 8) (v := .int mw) (C := RX8) (T := TX8) (N := 19) hx hb hts hi8 hown hK hP 0 rfl rfl 1 (by decide) hw0 (fun _ h9 => h9) rfl dX8_neighbourOf_29 ?_
    obtain ⟨hg, hq⟩ := k_g hq
    refine lv_idiv hx hb dX8_neighbourOf_32 (nz_n hg) ?_
    refine lv_iload_n hx hb dX8_neighbourOf_33 rfl (lv_at hl 3 rfl) ?_
    refine lv_iconst (v := 2) hx hb dX8_neighbourOf_34 (by decide) ?_
    have J51 : ∀ (v2 : Int32) (ls : Array Slot), kX8_neighbourOf_j51 F mw mh mg x1 v1 v2 = some r → lv_has ls 6 [(0, .ref qM), (3, .int ((x1 - x1 / mw * mw) + v1))] → va_P G.1 vwCl [(qM, .inr (8, [.int mt, .int mw, .int mh, .int mg, .int ms, .ref qMT, .ref qMW, .ref qMK, .ref qMM, .int mv, .int md, .ref qMR, .ref qML, .ref qMP, .int mu, .ref qMY, .ref qMF, .int mo, .int mf]))] s.heap → W p l e (headSpec wsX8_neighbourOf rmX8_neighbourOf).room s m ([.ref qM, .int x1, .int x2] : List Value).toArray below meth c s.heap [] 0 0 Q (F0 m 51 ls [.int v2, .int (x1 / mw)]) := by
      intro v2 ls hq hl hP
      unfold kX8_neighbourOf_j51 at hq
      refine lv_iadd hx hb dX8_neighbourOf_51 ?_
      refine lv_istore (lv' := [(4, .int ((x1 / mw) + v2)), (0, .ref qM), (3, .int ((x1 - x1 / mw * mw) + v1))]) hx hb dX8_neighbourOf_52 hl (by decide) rfl (fun ls hl => ?_)
      refine lv_iload_n hx hb dX8_neighbourOf_54 rfl (lv_at hl 2 rfl) ?_
      have J85 : ∀ (v3 : Int32) (ls : Array Slot), kX8_neighbourOf_j85 F mw mh mg x1 v1 v2 v3 = some r → lv_has ls 6 [(0, .ref qM), (3, .int ((x1 - x1 / mw * mw) + v1)), (4, .int ((x1 / mw) + v2))] → va_P G.1 vwCl [(qM, .inr (8, [.int mt, .int mw, .int mh, .int mg, .int ms, .ref qMT, .ref qMW, .ref qMK, .ref qMM, .int mv, .int md, .ref qMR, .ref qML, .ref qMP, .int mu, .ref qMY, .ref qMF, .int mo, .int mf]))] s.heap → W p l e (headSpec wsX8_neighbourOf rmX8_neighbourOf).room s m ([.ref qM, .int x1, .int x2] : List Value).toArray below meth c s.heap [] 0 0 Q (F0 m 85 ls [.int v3]) := by
        intro v3 ls hq hl hP
        unfold kX8_neighbourOf_j85 at hq
        refine lv_istore (lv' := [(5, .int v3), (0, .ref qM), (3, .int ((x1 - x1 / mw * mw) + v1)), (4, .int ((x1 / mw) + v2))]) hx hb dX8_neighbourOf_85 hl (by decide) rfl (fun ls hl => ?_)
        refine lv_iload hx hb dX8_neighbourOf_87 (lv_at hl 0 rfl) ?_
        refine lv_if_ne (tgt := 99) hx hb dX8_neighbourOf_89 (by decide) (fun c_89 => ?_) (fun c_89 => ?_)
        · have hq := k_f c_89 hq
          refine lv_iload hx hb dX8_neighbourOf_99 (lv_at hl 3 rfl) ?_
          refine lv_aload_n hx hb dX8_neighbourOf_101 rfl (lv_at hl 1 rfl) ?_
          refine va_get (D := G.1) (ci := 8) (v := .int mh) (C := RX8) (T := TX8) (N := 19) hx hb hts hi8 hown hK hP 0 rfl rfl 2 (by decide) hw1 (fun _ h9 => h9) rfl dX8_neighbourOf_102 ?_
          refine lv_iadd hx hb dX8_neighbourOf_105 ?_
          refine lv_aload_n hx hb dX8_neighbourOf_106 rfl (lv_at hl 1 rfl) ?_
          refine va_get (D := G.1) (ci := 8) (v := .int mh) (C := RX8) (T := TX8) (N := 19) hx hb hts hi8 hown hK hP 0 rfl rfl 2 (by decide) hw1 (fun _ h9 => h9) rfl dX8_neighbourOf_107 ?_
          obtain ⟨hg, hq⟩ := k_g hq
          refine lv_irem hx hb dX8_neighbourOf_110 (nz_n hg) ?_
          refine lv_aload_n hx hb dX8_neighbourOf_111 rfl (lv_at hl 1 rfl) ?_
          refine va_get (D := G.1) (ci := 8) (v := .int mw) (C := RX8) (T := TX8) (N := 19) hx hb hts hi8 hown hK hP 0 rfl rfl 1 (by decide) hw0 (fun _ h9 => h9) rfl dX8_neighbourOf_112 ?_
          refine lv_imul hx hb dX8_neighbourOf_115 ?_
          refine lv_iload_n hx hb dX8_neighbourOf_116 rfl (lv_at hl 2 rfl) ?_
          refine lv_aload_n hx hb dX8_neighbourOf_117 rfl (lv_at hl 1 rfl) ?_
          refine va_get (D := G.1) (ci := 8) (v := .int mw) (C := RX8) (T := TX8) (N := 19) hx hb hts hi8 hown hK hP 0 rfl rfl 1 (by decide) hw0 (fun _ h9 => h9) rfl dX8_neighbourOf_118 ?_
          refine lv_iadd hx hb dX8_neighbourOf_121 ?_
          refine lv_aload_n hx hb dX8_neighbourOf_122 rfl (lv_at hl 1 rfl) ?_
          refine va_get (D := G.1) (ci := 8) (v := .int mw) (C := RX8) (T := TX8) (N := 19) hx hb hts hi8 hown hK hP 0 rfl rfl 1 (by decide) hw0 (fun _ h9 => h9) rfl dX8_neighbourOf_123 ?_
          obtain ⟨hg, hq⟩ := k_g hq
          refine lv_irem hx hb dX8_neighbourOf_126 (nz_n hg) ?_
          refine lv_iadd hx hb dX8_neighbourOf_127 ?_
          refine lv_goto (tgt := 132) hx hb dX8_neighbourOf_128 (by decide) ?_
          obtain rfl := Option.some.inj hq
          rw [hQ]
          exact W.iret hx hb hr (fun t ht hW => ⟨_, rfl, rfl, ht⟩) (fun _ h => absurd h List.not_mem_nil) dX8_neighbourOf_132
        · have hq := k_t c_89 hq
          refine lv_aload_n hx hb dX8_neighbourOf_92 rfl (lv_at hl 1 rfl) ?_
          refine va_get (D := G.1) (ci := 8) (v := .int mg) (C := RX8) (T := TX8) (N := 19) hx hb hts hi8 hown hK hP 0 rfl rfl 3 (by decide) hw2 (fun _ h9 => h9) rfl dX8_neighbourOf_93 ?_
          refine lv_if_eq (tgt := 131) hx hb dX8_neighbourOf_96 (by decide) (fun c_96 => ?_) (fun c_96 => ?_)
          · have hq := k_t c_96 hq
            refine lv_iconst (v := (-1)) hx hb dX8_neighbourOf_131 (by decide) ?_
            obtain rfl := Option.some.inj hq
            rw [hQ]
            exact W.iret hx hb hr (fun t ht hW => ⟨_, rfl, rfl, ht⟩) (fun _ h => absurd h List.not_mem_nil) dX8_neighbourOf_132
          · have hq := k_f c_96 hq
            refine lv_iload hx hb dX8_neighbourOf_99 (lv_at hl 3 rfl) ?_
            refine lv_aload_n hx hb dX8_neighbourOf_101 rfl (lv_at hl 1 rfl) ?_
            refine va_get (D := G.1) (ci := 8) (v := .int mh) (C := RX8) (T := TX8) (N := 19) hx hb hts hi8 hown hK hP 0 rfl rfl 2 (by decide) hw1 (fun _ h9 => h9) rfl dX8_neighbourOf_102 ?_
            refine lv_iadd hx hb dX8_neighbourOf_105 ?_
            refine lv_aload_n hx hb dX8_neighbourOf_106 rfl (lv_at hl 1 rfl) ?_
            refine va_get (D := G.1) (ci := 8) (v := .int mh) (C := RX8) (T := TX8) (N := 19) hx hb hts hi8 hown hK hP 0 rfl rfl 2 (by decide) hw1 (fun _ h9 => h9) rfl dX8_neighbourOf_107 ?_
            obtain ⟨hg, hq⟩ := k_g hq
            refine lv_irem hx hb dX8_neighbourOf_110 (nz_n hg) ?_
            refine lv_aload_n hx hb dX8_neighbourOf_111 rfl (lv_at hl 1 rfl) ?_
            refine va_get (D := G.1) (ci := 8) (v := .int mw) (C := RX8) (T := TX8) (N := 19) hx hb hts hi8 hown hK hP 0 rfl rfl 1 (by decide) hw0 (fun _ h9 => h9) rfl dX8_neighbourOf_112 ?_
            refine lv_imul hx hb dX8_neighbourOf_115 ?_
            refine lv_iload_n hx hb dX8_neighbourOf_116 rfl (lv_at hl 2 rfl) ?_
            refine lv_aload_n hx hb dX8_neighbourOf_117 rfl (lv_at hl 1 rfl) ?_
            refine va_get (D := G.1) (ci := 8) (v := .int mw) (C := RX8) (T := TX8) (N := 19) hx hb hts hi8 hown hK hP 0 rfl rfl 1 (by decide) hw0 (fun _ h9 => h9) rfl dX8_neighbourOf_118 ?_
            refine lv_iadd hx hb dX8_neighbourOf_121 ?_
            refine lv_aload_n hx hb dX8_neighbourOf_122 rfl (lv_at hl 1 rfl) ?_
            refine va_get (D := G.1) (ci := 8) (v := .int mw) (C := RX8) (T := TX8) (N := 19) hx hb hts hi8 hown hK hP 0 rfl rfl 1 (by decide) hw0 (fun _ h9 => h9) rfl dX8_neighbourOf_123 ?_
            obtain ⟨hg, hq⟩ := k_g hq
            refine lv_irem hx hb dX8_neighbourOf_126 (nz_n hg) ?_
            refine lv_iadd hx hb dX8_neighbourOf_127 ?_
            refine lv_goto (tgt := 132) hx hb dX8_neighbourOf_128 (by decide) ?_
            obtain rfl := Option.some.inj hq
            rw [hQ]
            exact W.iret hx hb hr (fun t ht hW => ⟨_, rfl, rfl, ht⟩) (fun _ h => absurd h List.not_mem_nil) dX8_neighbourOf_132
      refine lv_if_lt (tgt := 84) hx hb dX8_neighbourOf_55 (by decide) (fun c_55 => ?_) (fun c_55 => ?_)
      · have hq := k_t c_55 hq
        refine lv_iconst (v := 0) hx hb dX8_neighbourOf_84 (by decide) ?_
        exact J85 0 ls hq (lv_sub hl [1, 2, 0] rfl) hP
      · have hq := k_f c_55 hq
        refine lv_iload_n hx hb dX8_neighbourOf_58 rfl (lv_at hl 2 rfl) ?_
        refine lv_aload_n hx hb dX8_neighbourOf_59 rfl (lv_at hl 1 rfl) ?_
        refine va_get (D := G.1) (ci := 8) (v := .int mw) (C := RX8) (T := TX8) (N := 19) hx hb hts hi8 hown hK hP 0 rfl rfl 1 (by decide) hw0 (fun _ h9 => h9) rfl dX8_neighbourOf_60 ?_
        refine lv_icmp_ge (tgt := 84) hx hb dX8_neighbourOf_63 (by decide) (fun c_63 => ?_) (fun c_63 => ?_)
        · have hq := k_t c_63 hq
          refine lv_iconst (v := 0) hx hb dX8_neighbourOf_84 (by decide) ?_
          exact J85 0 ls hq (lv_sub hl [1, 2, 0] rfl) hP
        · have hq := k_f c_63 hq
          refine lv_iload hx hb dX8_neighbourOf_66 (lv_at hl 0 rfl) ?_
          refine lv_if_lt (tgt := 84) hx hb dX8_neighbourOf_68 (by decide) (fun c_68 => ?_) (fun c_68 => ?_)
          · have hq := k_t c_68 hq
            refine lv_iconst (v := 0) hx hb dX8_neighbourOf_84 (by decide) ?_
            exact J85 0 ls hq (lv_sub hl [1, 2, 0] rfl) hP
          · have hq := k_f c_68 hq
            refine lv_iload hx hb dX8_neighbourOf_71 (lv_at hl 0 rfl) ?_
            refine lv_aload_n hx hb dX8_neighbourOf_73 rfl (lv_at hl 1 rfl) ?_
            refine va_get (D := G.1) (ci := 8) (v := .int mh) (C := RX8) (T := TX8) (N := 19) hx hb hts hi8 hown hK hP 0 rfl rfl 2 (by decide) hw1 (fun _ h9 => h9) rfl dX8_neighbourOf_74 ?_
            refine lv_icmp_ge (tgt := 84) hx hb dX8_neighbourOf_77 (by decide) (fun c_77 => ?_) (fun c_77 => ?_)
            · have hq := k_t c_77 hq
              refine lv_iconst (v := 0) hx hb dX8_neighbourOf_84 (by decide) ?_
              exact J85 0 ls hq (lv_sub hl [1, 2, 0] rfl) hP
            · have hq := k_f c_77 hq
              refine lv_iconst (v := 1) hx hb dX8_neighbourOf_80 (by decide) ?_
              refine lv_goto (tgt := 85) hx hb dX8_neighbourOf_81 (by decide) ?_
              exact J85 1 ls hq (lv_sub hl [1, 2, 0] rfl) hP
    refine lv_icmp_ne (tgt := 42) hx hb dX8_neighbourOf_35 (by decide) (fun c_35 => ?_) (fun c_35 => ?_)
    · have hq := k_f c_35 hq
      refine lv_iload_n hx hb dX8_neighbourOf_42 rfl (lv_at hl 3 rfl) ?_
      refine lv_if_ne (tgt := 50) hx hb dX8_neighbourOf_43 (by decide) (fun c_43 => ?_) (fun c_43 => ?_)
      · have hq := k_f c_43 hq
        refine lv_iconst (v := 0) hx hb dX8_neighbourOf_50 (by decide) ?_
        exact J51 0 ls hq (lv_sub hl [1, 0] rfl) hP
      · have hq := k_t c_43 hq
        refine lv_iconst (v := (-1)) hx hb dX8_neighbourOf_46 (by decide) ?_
        refine lv_goto (tgt := 51) hx hb dX8_neighbourOf_47 (by decide) ?_
        exact J51 (-1) ls hq (lv_sub hl [1, 0] rfl) hP
    · have hq := k_t c_35 hq
      refine lv_iconst (v := 1) hx hb dX8_neighbourOf_38 (by decide) ?_
      refine lv_goto (tgt := 51) hx hb dX8_neighbourOf_39 (by decide) ?_
      exact J51 1 ls hq (lv_sub hl [1, 0] rfl) hP
  refine lv_icmp_ne (tgt := 15) hx hb dX8_neighbourOf_8 (by decide) (fun c_8 => ?_) (fun c_8 => ?_)
  · have hq := k_f c_8 hq
    refine lv_iload_n hx hb dX8_neighbourOf_15 rfl (lv_at hl 2 rfl) ?_
    refine lv_iconst (v := 3) hx hb dX8_neighbourOf_16 (by decide) ?_
    refine lv_icmp_ne (tgt := 24) hx hb dX8_neighbourOf_17 (by decide) (fun c_17 => ?_) (fun c_17 => ?_)
    · have hq := k_f c_17 hq
      refine lv_iconst (v := 0) hx hb dX8_neighbourOf_24 (by decide) ?_
      exact J25 0 ls hq (lv_sub hl [0, 1, 2] rfl) hP
    · have hq := k_t c_17 hq
      refine lv_iconst (v := (-1)) hx hb dX8_neighbourOf_20 (by decide) ?_
      refine lv_goto (tgt := 25) hx hb dX8_neighbourOf_21 (by decide) ?_
      exact J25 (-1) ls hq (lv_sub hl [0, 1, 2] rfl) hP
  · have hq := k_t c_8 hq
    refine lv_iconst (v := 1) hx hb dX8_neighbourOf_11 (by decide) ?_
    refine lv_goto (tgt := 25) hx hb dX8_neighbourOf_12 (by decide) ?_
    exact J25 1 ls hq (lv_sub hl [0, 1, 2] rfl) hP

abbrev rmX8_opposite : Room := { frames := 0, cells := 0, slots := 0, locals := 0 }
set_option maxHeartbeats 40000000 in
set_option maxRecDepth 100000 in
theorem tX8_opposite (G : GG) (l : Launch) {x0 : Int32} {F : Nat} {r : Int32} (hq : kX8_opposite F x0 = some r) : Met l yX8_opposite wsX8_opposite rmX8_opposite (pcP G [] [.int x0]) (vp_Si (fun x => r = x)) 0 0 (fun _ => False) := by
  refine Met.ofW (cc := cX8_opposite) (maxL := 1) (ret := (some .int)) (by decide) rfl ?_
  intro p e s m args below meth c s₁ B hml hv
  obtain ⟨rfl, hP, hKK⟩ := hv
  have hK := hKK.1
  have hx := B.exec
  have hb := B.bytes
  have hr := B.returns
  have hts := atoms_spec (ws := wsX8_opposite) B.pre
  have hown : s.vm.findClass RX8 = some m.cls := findClass_of_methodNamed B.named
  have hlocks := B.notSynchronized
  have hl := lv_entry ([.int x0] : List Value) (n := 1) (Nat.le_of_ble_eq_true rfl)
  rw [lg_entry_eq]
  generalize (lg_sl ([.int x0] : List Value) ++ List.replicate (1 - (lg_sl ([.int x0] : List Value)).length) Slot.unset).toArray = ls at hl ⊢
  have hl : lv_has ls 1 [(0, .int x0)] := hl
  refine wq (fun Q hQ => ?_)
  unfold kX8_opposite at hq
  refine lv_iload_n hx hb dX8_opposite_0 rfl (lv_at hl 0 rfl) ?_
  refine lv_iconst (v := 2) hx hb dX8_opposite_1 (by decide) ?_
  refine lv_iadd hx hb dX8_opposite_2 ?_
  refine lv_iconst (v := 4) hx hb dX8_opposite_3 (by decide) ?_
  refine lv_irem hx hb dX8_opposite_4 (by decide) ?_
  obtain rfl := Option.some.inj hq
  rw [hQ]
  exact W.iret hx hb hr (fun t ht hW => ⟨_, rfl, rfl, ht⟩) (fun _ h => absurd h List.not_mem_nil) dX8_opposite_5

abbrev rmX8_isOpen : Room := { frames := 0, cells := 0, slots := 0, locals := 0 }
set_option maxHeartbeats 40000000 in
set_option maxRecDepth 100000 in
theorem tX8_isOpen (G : GG) (l : Launch) {x0 : Int32} {x1 : Int32} {F : Nat} {r : Int32} (hq : kX8_isOpen F x0 x1 = some r) : Met l yX8_isOpen wsX8_isOpen rmX8_isOpen (pcP G [] [.int x0, .int x1]) (vp_Si (fun x => r = x)) 0 0 (fun _ => False) := by
  refine Met.ofW (cc := cX8_isOpen) (maxL := 2) (ret := (some .boolean)) (by decide) rfl ?_
  intro p e s m args below meth c s₁ B hml hv
  obtain ⟨rfl, hP, hKK⟩ := hv
  have hK := hKK.1
  have hx := B.exec
  have hb := B.bytes
  have hr := B.returns
  have hts := atoms_spec (ws := wsX8_isOpen) B.pre
  have hown : s.vm.findClass RX8 = some m.cls := findClass_of_methodNamed B.named
  have hlocks := B.notSynchronized
  have hl := lv_entry ([.int x0, .int x1] : List Value) (n := 2) (Nat.le_of_ble_eq_true rfl)
  rw [lg_entry_eq]
  generalize (lg_sl ([.int x0, .int x1] : List Value) ++ List.replicate (2 - (lg_sl ([.int x0, .int x1] : List Value)).length) Slot.unset).toArray = ls at hl ⊢
  have hl : lv_has ls 2 [(0, .int x0), (1, .int x1)] := hl
  refine wq (fun Q hQ => ?_)
  unfold kX8_isOpen at hq
  refine lv_iload_n hx hb dX8_isOpen_0 rfl (lv_at hl 0 rfl) ?_
  refine lv_iload_n hx hb dX8_isOpen_1 rfl (lv_at hl 1 rfl) ?_
  refine lv_ishr hx hb dX8_isOpen_2 ?_
  refine lv_iconst (v := 1) hx hb dX8_isOpen_3 (by decide) ?_
  refine lv_iand hx hb dX8_isOpen_4 ?_
  refine lv_iconst (v := 1) hx hb dX8_isOpen_5 (by decide) ?_
  refine lv_icmp_ne (tgt := 13) hx hb dX8_isOpen_6 (by decide) (fun c_6 => ?_) (fun c_6 => ?_)
  · have hq := k_f c_6 hq
    refine lv_iconst (v := 0) hx hb dX8_isOpen_13 (by decide) ?_
    obtain rfl := Option.some.inj hq
    rw [hQ]
    exact W.zret hx hb hr rfl (fun t ht hW => ⟨_, rfl, rfl, ht⟩) (fun _ h => absurd h List.not_mem_nil) dX8_isOpen_14
  · have hq := k_t c_6 hq
    refine lv_iconst (v := 1) hx hb dX8_isOpen_9 (by decide) ?_
    refine lv_goto (tgt := 14) hx hb dX8_isOpen_10 (by decide) ?_
    obtain rfl := Option.some.inj hq
    rw [hQ]
    exact W.zret hx hb hr rfl (fun t ht hW => ⟨_, rfl, rfl, ht⟩) (fun _ h => absurd h List.not_mem_nil) dX8_isOpen_14

abbrev rmX8_turned : Room := { frames := 0, cells := 0, slots := 0, locals := 0 }
set_option maxHeartbeats 40000000 in
set_option maxRecDepth 100000 in
theorem tX8_turned (G : GG) (l : Launch) {x0 : Int32} {x1 : Int32} {F : Nat} {r : Int32} (hq : kX8_turned F x0 x1 = some r) : Met l yX8_turned wsX8_turned rmX8_turned (pcP G [] [.int x0, .int x1]) (vp_Si (fun x => r = x)) 0 0 (fun _ => False) := by
  refine Met.ofW (cc := cX8_turned) (maxL := 4) (ret := (some .int)) (by decide) rfl ?_
  intro p e s m args below meth c s₁ B hml hv
  obtain ⟨rfl, hP, hKK⟩ := hv
  have hK := hKK.1
  have hx := B.exec
  have hb := B.bytes
  have hr := B.returns
  have hts := atoms_spec (ws := wsX8_turned) B.pre
  have hown : s.vm.findClass RX8 = some m.cls := findClass_of_methodNamed B.named
  have hlocks := B.notSynchronized
  have hl := lv_entry ([.int x0, .int x1] : List Value) (n := 4) (Nat.le_of_ble_eq_true rfl)
  rw [lg_entry_eq]
  generalize (lg_sl ([.int x0, .int x1] : List Value) ++ List.replicate (4 - (lg_sl ([.int x0, .int x1] : List Value)).length) Slot.unset).toArray = ls at hl ⊢
  have hl : lv_has ls 4 [(0, .int x0), (1, .int x1)] := hl
  refine wq (fun Q hQ => ?_)
  unfold kX8_turned at hq
  refine lv_iload_n hx hb dX8_turned_0 rfl (lv_at hl 0 rfl) ?_
  refine lv_istore_n (lv' := [(2, .int x0), (0, .int x0), (1, .int x1)]) hx hb dX8_turned_1 rfl hl (by decide) rfl (fun ls hl => ?_)
  refine lv_iconst (v := 0) hx hb dX8_turned_2 (by decide) ?_
  refine lv_istore_n (lv' := [(3, .int 0), (2, .int x0), (0, .int x0), (1, .int x1)]) hx hb dX8_turned_3 rfl hl (by decide) rfl (fun ls hl => ?_)
  have L4 : ∀ (n : Nat) (s4 : Int32) (s5 : Int32) (t_4 : Int32) (ls : Array Slot), kloop n (fun s_ => kX8_turned_s4 F x1 s_.1 s_.2) (s4, s5) = some t_4 → lv_has ls 4 [(1, .int x1), (2, .int s4), (3, .int s5)] → va_P G.1 vwCl [] s.heap → (∀ (ls : Array Slot), lv_has ls 4 [(2, .int t_4)] → va_P G.1 vwCl [] s.heap → W p l e (headSpec wsX8_turned rmX8_turned).room s m ([.int x0, .int x1] : List Value).toArray below meth c s.heap [] 0 0 Q (F0 m 26 ls [])) → W p l e (headSpec wsX8_turned rmX8_turned).room s m ([.int x0, .int x1] : List Value).toArray below meth c s.heap [] 0 0 Q (F0 m 4 ls []) := by
    intro n
    induction n with
    | zero => 
      intro s4 s5 t_4 ls hq hl hP kk4_26
      exact absurd hq kl_0
    | succ n ih4 =>
      intro s4 s5 t_4 ls hq hl hP kk4_26
      obtain ⟨y_4, hq, hx4⟩ := kl_s hq
      have hq : kX8_turned_s4 F x1 s4 s5 = some y_4 := hq
      unfold kX8_turned_s4 at hq
      refine lv_iload_n hx hb dX8_turned_4 rfl (lv_at hl 2 rfl) ?_
      refine lv_iload_n hx hb dX8_turned_5 rfl (lv_at hl 0 rfl) ?_
      refine lv_icmp_ge (tgt := 26) hx hb dX8_turned_6 (by decide) (fun c_6 => ?_) (fun c_6 => ?_)
      · have hq := k_t c_6 hq
        have et := kl_exit hq hx4
        subst et
        exact kk4_26 ls (lv_sub hl [1] rfl) hP
      · have hq := k_f c_6 hq
        refine lv_iload_n hx hb dX8_turned_9 rfl (lv_at hl 1 rfl) ?_
        refine lv_iconst (v := 1) hx hb dX8_turned_10 (by decide) ?_
        refine lv_ishl hx hb dX8_turned_11 ?_
        refine lv_bipush (v := 15) hx hb dX8_turned_12 (by decide) ?_
        refine lv_iand hx hb dX8_turned_14 ?_
        refine lv_iload_n hx hb dX8_turned_15 rfl (lv_at hl 1 rfl) ?_
        refine lv_iconst (v := 3) hx hb dX8_turned_16 (by decide) ?_
        refine lv_ishr hx hb dX8_turned_17 ?_
        refine lv_ior hx hb dX8_turned_18 ?_
        refine lv_istore_n (lv' := [(2, .int (((s4 <<< ((1 : Int32) &&& 31)) &&& 15) ||| (s4 >>> ((3 : Int32) &&& 31)))), (1, .int x1), (3, .int s5)]) hx hb dX8_turned_19 rfl hl (by decide) rfl (fun ls hl => ?_)
        refine lv_iinc (v := (s5 + 1)) (lv' := [(3, .int (s5 + 1)), (2, .int (((s4 <<< ((1 : Int32) &&& 31)) &&& 15) ||| (s4 >>> ((3 : Int32) &&& 31)))), (1, .int x1)]) hx hb dX8_turned_20 hl (k := 2) rfl rfl (by decide) rfl (fun ls hl => ?_)
        refine lv_goto (tgt := 4) hx hb dX8_turned_23 (by decide) ?_
        exact ih4 (((s4 <<< ((1 : Int32) &&& 31)) &&& 15) ||| (s4 >>> ((3 : Int32) &&& 31))) (s5 + 1) t_4 ls (kl_back hq hx4) (lv_sub hl [2, 1, 0] rfl) hP kk4_26
  obtain ⟨q6, eq6, hq⟩ := ob hq
  refine L4 F x0 0 q6 ls (eq6) (lv_sub hl [3, 1, 0] rfl) hP (fun ls hl hP => ?_)
  · refine lv_iload_n hx hb dX8_turned_26 rfl (lv_at hl 0 rfl) ?_
    obtain rfl := Option.some.inj hq
    rw [hQ]
    exact W.iret hx hb hr (fun t ht hW => ⟨_, rfl, rfl, ht⟩) (fun _ h => absurd h List.not_mem_nil) dX8_turned_27

abbrev rmX8_sides : Room := { frames := 0, cells := 0, slots := 0, locals := 0 }
set_option maxHeartbeats 40000000 in
set_option maxRecDepth 100000 in
theorem tX8_sides (G : GG) (l : Launch) {x0 : Int32} {F : Nat} {r : Int32} (hq : kX8_sides F x0 = some r) : Met l yX8_sides wsX8_sides rmX8_sides (pcP G [] [.int x0]) (vp_Si (fun x => r = x)) 0 0 (fun _ => False) := by
  refine Met.ofW (cc := cX8_sides) (maxL := 1) (ret := (some .int)) (by decide) rfl ?_
  intro p e s m args below meth c s₁ B hml hv
  obtain ⟨rfl, hP, hKK⟩ := hv
  have hK := hKK.1
  have hx := B.exec
  have hb := B.bytes
  have hr := B.returns
  have hts := atoms_spec (ws := wsX8_sides) B.pre
  have hown : s.vm.findClass RX8 = some m.cls := findClass_of_methodNamed B.named
  have hlocks := B.notSynchronized
  have hl := lv_entry ([.int x0] : List Value) (n := 1) (Nat.le_of_ble_eq_true rfl)
  rw [lg_entry_eq]
  generalize (lg_sl ([.int x0] : List Value) ++ List.replicate (1 - (lg_sl ([.int x0] : List Value)).length) Slot.unset).toArray = ls at hl ⊢
  have hl : lv_has ls 1 [(0, .int x0)] := hl
  refine wq (fun Q hQ => ?_)
  unfold kX8_sides at hq
  refine lv_iload_n hx hb dX8_sides_0 rfl (lv_at hl 0 rfl) ?_
  refine lv_iconst (v := 1) hx hb dX8_sides_1 (by decide) ?_
  refine lv_iand hx hb dX8_sides_2 ?_
  refine lv_iload_n hx hb dX8_sides_3 rfl (lv_at hl 0 rfl) ?_
  refine lv_iconst (v := 1) hx hb dX8_sides_4 (by decide) ?_
  refine lv_ishr hx hb dX8_sides_5 ?_
  refine lv_iconst (v := 1) hx hb dX8_sides_6 (by decide) ?_
  refine lv_iand hx hb dX8_sides_7 ?_
  refine lv_iadd hx hb dX8_sides_8 ?_
  refine lv_iload_n hx hb dX8_sides_9 rfl (lv_at hl 0 rfl) ?_
  refine lv_iconst (v := 2) hx hb dX8_sides_10 (by decide) ?_
  refine lv_ishr hx hb dX8_sides_11 ?_
  refine lv_iconst (v := 1) hx hb dX8_sides_12 (by decide) ?_
  refine lv_iand hx hb dX8_sides_13 ?_
  refine lv_iadd hx hb dX8_sides_14 ?_
  refine lv_iload_n hx hb dX8_sides_15 rfl (lv_at hl 0 rfl) ?_
  refine lv_iconst (v := 3) hx hb dX8_sides_16 (by decide) ?_
  refine lv_ishr hx hb dX8_sides_17 ?_
  refine lv_iconst (v := 1) hx hb dX8_sides_18 (by decide) ?_
  refine lv_iand hx hb dX8_sides_19 ?_
  refine lv_iadd hx hb dX8_sides_20 ?_
  obtain rfl := Option.some.inj hq
  rw [hQ]
  exact W.iret hx hb hr (fun t ht hW => ⟨_, rfl, rfl, ht⟩) (fun _ h => absurd h List.not_mem_nil) dX8_sides_21

abbrev rmX8_draws : Room := { frames := 0, cells := 0, slots := 0, locals := 0 }
set_option maxHeartbeats 40000000 in
set_option maxRecDepth 100000 in
theorem tX8_draws (G : GG) (l : Launch) {qM qMT qMW qMK qMM qMR qML qMP qMY qMF : Nat} {mt : Int32} {mw : Int32} {mh : Int32} {mg : Int32} {ms : Int32} {mv : Int32} {md : Int32} {mu : Int32} {mo : Int32} {mf : Int32} {x1 : Int32} {sz : Nat} {F : Nat} {r : Int32 × Int32} (hq : kX8_draws F mu x1 = some r) : Met l yX8_draws wsX8_draws rmX8_draws (pcW G [(qM, .inr (8, [.int mt, .int mw, .int mh, .int mg, .int ms, .ref qMT, .ref qMW, .ref qMK, .ref qMM, .int mv, .int md, .ref qMR, .ref qML, .ref qMP, .int mu, .ref qMY, .ref qMF, .int mo, .int mf]))] sz [.ref qM, .int x1]) (qcI G r.1 [(qM, .inr (8, [.int mt, .int mw, .int mh, .int mg, .int ms, .ref qMT, .ref qMW, .ref qMK, .ref qMM, .int mv, .int md, .ref qMR, .ref qML, .ref qMP, .int r.2, .ref qMY, .ref qMF, .int mo, .int mf]))] (va_A [(qM, .inr (8, [.int mt, .int mw, .int mh, .int mg, .int ms, .ref qMT, .ref qMW, .ref qMK, .ref qMM, .int mv, .int md, .ref qMR, .ref qML, .ref qMP, .int mu, .ref qMY, .ref qMF, .int mo, .int mf]))] sz)) 0 0 (va_A [(qM, .inr (8, [.int mt, .int mw, .int mh, .int mg, .int ms, .ref qMT, .ref qMW, .ref qMK, .ref qMM, .int mv, .int md, .ref qMR, .ref qML, .ref qMP, .int mu, .ref qMY, .ref qMF, .int mo, .int mf]))] sz) := by
  refine Met.ofW (cc := cX8_draws) (maxL := 2) (ret := (some .int)) (by decide) rfl ?_
  intro p e s m args below meth c s₁ B hml hv
  obtain ⟨rfl, hsz, hP, hKK, hD0⟩ := hv
  have hK := hKK.1
  have hx := B.exec
  have hb := B.bytes
  have hr := B.returns
  have hts := atoms_spec (ws := wsX8_draws) B.pre
  have hown : s.vm.findClass RX8 = some m.cls := findClass_of_methodNamed B.named
  have hlocks := B.notSynchronized
  subst hsz
  have hD := hD0.self (sz := s.heap.size)
  generalize hAe : va_A [(qM, .inr (8, [.int mt, .int mw, .int mh, .int mg, .int ms, .ref qMT, .ref qMW, .ref qMK, .ref qMM, .int mv, .int md, .ref qMR, .ref qML, .ref qMP, .int mu, .ref qMY, .ref qMF, .int mo, .int mf]))] s.heap.size = A at hD ⊢
  have hA : ∀ q : Nat, s.heap.size ≤ q → A q := fun q h => by rw [← hAe]; exact Or.inr h
  have hS : va_S A s.heap s.heap [] := va_S.rf
  have hl := lv_entry ([.ref qM, .int x1] : List Value) (n := 2) (Nat.le_of_ble_eq_true rfl)
  rw [lg_entry_eq]
  generalize (lg_sl ([.ref qM, .int x1] : List Value) ++ List.replicate (2 - (lg_sl ([.ref qM, .int x1] : List Value)).length) Slot.unset).toArray = ls at hl ⊢
  have hl : lv_has ls 2 [(0, .ref qM), (1, .int x1)] := hl
  have hi8 : ∀ w ∈ u_ws RX8 TX8 19, w ∈ wsX8_draws := by decide +kernel
  have hw0 : (Cond.fieldLink RX8 77 "NetPlumberModel" "number" "I").before #[Value.ref qM, Value.int x1] s = true := hts _ (by decide +kernel)
  have hw1 : (Cond.constant RX8 80 (65536)).before #[Value.ref qM, Value.int x1] s = true := hts _ (by decide +kernel)
  refine wq (fun Q hQ => ?_)
  unfold kX8_draws at hq
  refine lv_aload_n hx hb dX8_draws_0 rfl (lv_at hl 0 rfl) ?_
  refine lv_sipush (v := 24693) hx hb dX8_draws_1 (by decide) ?_
  refine lv_aload_n hx hb dX8_draws_4 rfl (lv_at hl 0 rfl) ?_
  refine va_get (D := G.1) (ci := 8) (v := .int mu) (C := RX8) (T := TX8) (N := 19) hx hb hts hi8 hown hK hP 0 rfl rfl 14 (by decide) hw0 (fun _ h9 => h9) rfl dX8_draws_5 ?_
  refine lv_imul hx hb dX8_draws_8 ?_
  refine lv_sipush (v := 3517) hx hb dX8_draws_9 (by decide) ?_
  refine lv_iadd hx hb dX8_draws_12 ?_
  refine lv_ldc (v := 65536) hx hb hown hw1 dX8_draws_13 ?_
  refine lv_irem hx hb dX8_draws_15 (by decide) ?_
  refine va_put (D := G.1) (ci := 8) (v := .int (((24693 * mu) + 3517) - ((24693 * mu) + 3517) / 65536 * 65536)) (ty := .int) (C := RX8) (T := TX8) (N := 19) hx hb hts hi8 tyX8 tyX8_ok nmX8 hown hK hP hD hS 0 rfl rfl 14 (by decide) hw0 (fun _ h9 => h9) rfl (by decide +kernel) rfl rfl (Nat.le_of_ble_eq_true rfl) dX8_draws_16 (fun H locs hP hD hS => ?_)
  have hP : va_P G.1 vwCl [(qM, .inr (8, [.int mt, .int mw, .int mh, .int mg, .int ms, .ref qMT, .ref qMW, .ref qMK, .ref qMM, .int mv, .int md, .ref qMR, .ref qML, .ref qMP, .int (((24693 * mu) + 3517) - ((24693 * mu) + 3517) / 65536 * 65536), .ref qMY, .ref qMF, .int mo, .int mf]))] H := hP
  have hD : va_D A [(qM, .inr (8, [.int mt, .int mw, .int mh, .int mg, .int ms, .ref qMT, .ref qMW, .ref qMK, .ref qMM, .int mv, .int md, .ref qMR, .ref qML, .ref qMP, .int (((24693 * mu) + 3517) - ((24693 * mu) + 3517) / 65536 * 65536), .ref qMY, .ref qMF, .int mo, .int mf]))] := hD
  refine lv_aload_n hx hb dX8_draws_19 rfl (lv_at hl 0 rfl) ?_
  refine va_get (D := G.1) (ci := 8) (v := .int (((24693 * mu) + 3517) - ((24693 * mu) + 3517) / 65536 * 65536)) (C := RX8) (T := TX8) (N := 19) hx hb hts hi8 hown hK hP 0 rfl rfl 14 (by decide) hw0 (fun _ h9 => h9) rfl dX8_draws_20 ?_
  refine lv_iload_n hx hb dX8_draws_23 rfl (lv_at hl 1 rfl) ?_
  obtain ⟨hg, hq⟩ := k_g hq
  refine lv_irem hx hb dX8_draws_24 (nz_n hg) ?_
  obtain rfl := Option.some.inj hq
  rw [hQ]
  exact W.iret hx hb hr (fun t ht hW => ⟨⟨_, (), rfl, rfl, va_Pat ht hP⟩, hS.F ht⟩) hS.2.2 dX8_draws_25

abbrev rmX8_setTile : Room := { frames := 2, cells := 0, slots := 0, locals := 41 }
set_option maxHeartbeats 40000000 in
set_option maxRecDepth 100000 in
theorem tX8_setTile (G : GG) (l : Launch) {qM qMT qMW qMK qMM qMR qML qMP qMY qMF : Nat} {mt : Int32} {mw : Int32} {mh : Int32} {mg : Int32} {ms : Int32} {mv : Int32} {md : Int32} {mu : Int32} {mo : Int32} {mf : Int32} {mT : Nat → Int32} {x1 : Int32} {x2 : Int32} {sz : Nat} {F : Nat} {r : Int32 × Int32 × Int32 × Int32 × (Nat → Int32)} (hq : kX8_setTile F mt mw mh mv md mT x1 x2 = some r) : Met l yX8_setTile wsX8_setTile rmX8_setTile (pcW G [(qM, .inr (8, [.int mt, .int mw, .int mh, .int mg, .int ms, .ref qMT, .ref qMW, .ref qMK, .ref qMM, .int mv, .int md, .ref qMR, .ref qML, .ref qMP, .int mu, .ref qMY, .ref qMF, .int mo, .int mf])), (qMT, .inl (G.2.1, 16, .inl mT))] sz [.ref qM, .int x1, .int x2]) (qcI G r.1 [(qM, .inr (8, [.int r.2.1, .int mw, .int mh, .int mg, .int ms, .ref qMT, .ref qMW, .ref qMK, .ref qMM, .int r.2.2.1, .int r.2.2.2.1, .ref qMR, .ref qML, .ref qMP, .int mu, .ref qMY, .ref qMF, .int mo, .int mf])), (qMT, .inl (G.2.1, 16, .inl r.2.2.2.2))] (va_A [(qM, .inr (8, [.int mt, .int mw, .int mh, .int mg, .int ms, .ref qMT, .ref qMW, .ref qMK, .ref qMM, .int mv, .int md, .ref qMR, .ref qML, .ref qMP, .int mu, .ref qMY, .ref qMF, .int mo, .int mf])), (qMT, .inl (G.2.1, 16, .inl mT))] sz)) 0 0 (va_A [(qM, .inr (8, [.int mt, .int mw, .int mh, .int mg, .int ms, .ref qMT, .ref qMW, .ref qMK, .ref qMM, .int mv, .int md, .ref qMR, .ref qML, .ref qMP, .int mu, .ref qMY, .ref qMF, .int mo, .int mf])), (qMT, .inl (G.2.1, 16, .inl mT))] sz) := by
  refine Met.ofW (cc := cX8_setTile) (maxL := 4) (ret := (some .int)) (by decide) rfl ?_
  intro p e s m args below meth c s₁ B hml hv
  obtain ⟨rfl, hsz, hP, hKK, hD0⟩ := hv
  have hK := hKK.1
  have hx := B.exec
  have hb := B.bytes
  have hr := B.returns
  have hts := atoms_spec (ws := wsX8_setTile) B.pre
  have hown : s.vm.findClass RX8 = some m.cls := findClass_of_methodNamed B.named
  have hlocks := B.notSynchronized
  subst hsz
  have hD := hD0.self (sz := s.heap.size)
  generalize hAe : va_A [(qM, .inr (8, [.int mt, .int mw, .int mh, .int mg, .int ms, .ref qMT, .ref qMW, .ref qMK, .ref qMM, .int mv, .int md, .ref qMR, .ref qML, .ref qMP, .int mu, .ref qMY, .ref qMF, .int mo, .int mf])), (qMT, .inl (G.2.1, 16, .inl mT))] s.heap.size = A at hD ⊢
  have hA : ∀ q : Nat, s.heap.size ≤ q → A q := fun q h => by rw [← hAe]; exact Or.inr h
  have hS : va_S A s.heap s.heap [] := va_S.rf
  have hl := lv_entry ([.ref qM, .int x1, .int x2] : List Value) (n := 4) (Nat.le_of_ble_eq_true rfl)
  rw [lg_entry_eq]
  generalize (lg_sl ([.ref qM, .int x1, .int x2] : List Value) ++ List.replicate (4 - (lg_sl ([.ref qM, .int x1, .int x2] : List Value)).length) Slot.unset).toArray = ls at hl ⊢
  have hl : lv_has ls 4 [(0, .ref qM), (1, .int x1), (2, .int x2)] := hl
  have hi8 : ∀ w ∈ u_ws RX8 TX8 19, w ∈ wsX8_setTile := by decide +kernel
  have hw0 : (Cond.fieldLink RX8 16 "NetPlumberModel" "tiles" "[I").before #[Value.ref qM, Value.int x1, Value.int x2] s = true := hts _ (by decide +kernel)
  have hw1 : (Cond.fieldLink RX8 59 "NetPlumberModel" "moves" "I").before #[Value.ref qM, Value.int x1, Value.int x2] s = true := hts _ (by decide +kernel)
  have hw2 : (Cond.fieldLink RX8 62 "NetPlumberModel" "done" "I").before #[Value.ref qM, Value.int x1, Value.int x2] s = true := hts _ (by decide +kernel)
  refine wq (fun Q hQ => ?_)
  unfold kX8_setTile at hq
  refine lv_aload_n hx hb dX8_setTile_0 rfl (lv_at hl 0 rfl) ?_
  refine lv_aload_n hx hb dX8_setTile_1 rfl (lv_at hl 0 rfl) ?_
  refine lv_iload_n hx hb dX8_setTile_2 rfl (lv_at hl 1 rfl) ?_
  obtain ⟨q1, eq1, hq⟩ := ob hq
  have hPc := hP.sub (ws' := [(qM, .inr (8, [.int mt, .int mw, .int mh, .int mg, .int ms, .ref qMT, .ref qMW, .ref qMK, .ref qMM, .int mv, .int md, .ref qMR, .ref qML, .ref qMP, .int mu, .ref qMY, .ref qMF, .int mo, .int mf]))]) [0] rfl
  have hKc := hK
  refine vp_callSi (va_Run.run (va_runV (As := [.int x1]) (rest := [.ref qM]) ⟨hx, hb, hml, hown, hts⟩ (tX8_isCell G l eq1) (cwV 1 hts gX8_setTile_X8_isCell rfl rfl rfl (by decide +kernel) ⟨Nat.le_of_ble_eq_true rfl, Nat.le_of_ble_eq_true rfl⟩) ⟨pcP_blind, va_recv hKc hPc (ci := 8) (q0 := 0) rfl rfl, pcP_pre hPc hKK⟩ rfl rfl hl.1 rfl (lv_room (Nat.le_of_ble_eq_true rfl)) dX8_setTile_3 ⟨Nat.zero_le _, Nat.zero_le _⟩)) (fun r0 hr0 => ?_)
  obtain rfl := hr0
  have J28 : ∀ (v2 : Int32) (ls : Array Slot) (H : Heap) (locs : List Loc), kX8_setTile_j28 F mt mv md mT x1 x2 v2 = some r → lv_has ls 4 [(0, .ref qM), (1, .int x1), (2, .int x2)] → va_P G.1 vwCl [(qM, .inr (8, [.int mt, .int mw, .int mh, .int mg, .int ms, .ref qMT, .ref qMW, .ref qMK, .ref qMM, .int mv, .int md, .ref qMR, .ref qML, .ref qMP, .int mu, .ref qMY, .ref qMF, .int mo, .int mf])), (qMT, .inl (G.2.1, 16, .inl mT))] H → va_D A [(qM, .inr (8, [.int mt, .int mw, .int mh, .int mg, .int ms, .ref qMT, .ref qMW, .ref qMK, .ref qMM, .int mv, .int md, .ref qMR, .ref qML, .ref qMP, .int mu, .ref qMY, .ref qMF, .int mo, .int mf])), (qMT, .inl (G.2.1, 16, .inl mT))] → va_S A s.heap H locs → W p l e (headSpec wsX8_setTile rmX8_setTile).room s m ([.ref qM, .int x1, .int x2] : List Value).toArray below meth c H locs 0 0 Q (F0 m 28 ls [.int v2, .ref qM]) := by
    intro v2 ls H locs hq hl hP hD hS
    unfold kX8_setTile_j28 at hq
    obtain ⟨q3, eq3, hq⟩ := ob hq
    have hPc := hP.sub (ws' := [(qM, .inr (8, [.int mt, .int mw, .int mh, .int mg, .int ms, .ref qMT, .ref qMW, .ref qMK, .ref qMM, .int mv, .int md, .ref qMR, .ref qML, .ref qMP, .int mu, .ref qMY, .ref qMF, .int mo, .int mf]))]) [0] rfl
    have hKc := hK
    have hDc := hD.sub (ws' := [(qM, .inr (8, [.int mt, .int mw, .int mh, .int mg, .int ms, .ref qMT, .ref qMW, .ref qMK, .ref qMM, .int mv, .int md, .ref qMR, .ref qML, .ref qMP, .int mu, .ref qMY, .ref qMF, .int mo, .int mf]))]) [0] (by decide) rfl
    have hFc := va_free (wc := [(qM, .inr (8, [.int mt, .int mw, .int mh, .int mg, .int ms, .ref qMT, .ref qMW, .ref qMK, .ref qMM, .int mv, .int md, .ref qMR, .ref qML, .ref qMP, .int mu, .ref qMY, .ref qMF, .int mo, .int mf]))]) hD hS hA [0] rfl
    refine va_calli (va_runV (As := [.int v2]) (rest := []) ⟨hx, hb, hml, hown, hts⟩ (tX8_holds G l eq3) (cwV 1 hts gX8_setTile_X8_holds rfl rfl rfl (by decide +kernel) ⟨Nat.le_of_ble_eq_true rfl, Nat.le_of_ble_eq_true rfl⟩) ⟨pcW_blind, va_recv hKc hPc (ci := 8) (q0 := 0) rfl rfl, pcW_pre hPc hKK hDc⟩ rfl rfl hl.1 rfl (lv_room (Nat.le_of_ble_eq_true rfl)) dX8_setTile_28 ⟨Nat.zero_le _, Nat.zero_le _⟩) hS (fun q _ h => hFc q h) hFc (fun r0 u t H1 locs ht hvm hw hB hz1 hk1 hS => ?_)
    obtain rfl := hw
    have hB := va_Pto ht hB
    obtain ⟨hP, hD⟩ := jn (ws' := [(qM, .inr (8, [.int q3.2, .int mw, .int mh, .int mg, .int ms, .ref qMT, .ref qMW, .ref qMK, .ref qMM, .int mv, .int md, .ref qMR, .ref qML, .ref qMP, .int mu, .ref qMY, .ref qMF, .int mo, .int mf])), (qMT, .inl (G.2.1, 16, .inl mT))]) hP hD hk1 hB [0] rfl rfl rfl rfl
    generalize H1 = H at hP hS ⊢
    refine lv_if_ne (tgt := 36) hx hb dX8_setTile_31 (by decide) (fun c_31 => ?_) (fun c_31 => ?_)
    · have hq := k_f c_31 hq
      refine lv_aload_n hx hb dX8_setTile_36 rfl (lv_at hl 0 rfl) ?_
      refine va_get (D := G.1) (ci := 8) (v := .ref qMT) (C := RX8) (T := TX8) (N := 19) hx hb hts hi8 hown hK hP 0 rfl rfl 5 (by decide) hw0 (fun _ h9 => h9) rfl dX8_setTile_37 ?_
      refine lv_iload_n hx hb dX8_setTile_40 rfl (lv_at hl 1 rfl) ?_
      obtain ⟨hg, hq⟩ := k_g hq
      refine va_iald hx hb hK hP 1 0 rfl rfl (ix_in hg) dX8_setTile_41 ?_
      refine lv_istore_n (lv' := [(3, .int (mT x1.toNatClampNeg)), (0, .ref qM), (1, .int x1), (2, .int x2)]) hx hb dX8_setTile_42 rfl hl (by decide) rfl (fun ls hl => ?_)
      refine lv_aload_n hx hb dX8_setTile_43 rfl (lv_at hl 1 rfl) ?_
      refine va_get (D := G.1) (ci := 8) (v := .ref qMT) (C := RX8) (T := TX8) (N := 19) hx hb hts hi8 hown hK hP 0 rfl rfl 5 (by decide) hw0 (fun _ h9 => h9) rfl dX8_setTile_44 ?_
      refine lv_iload_n hx hb dX8_setTile_47 rfl (lv_at hl 2 rfl) ?_
      refine lv_iload_n hx hb dX8_setTile_48 rfl (lv_at hl 3 rfl) ?_
      obtain ⟨hg, hq⟩ := k_g hq
      refine va_iast hx hb hK hP hD hS 1 0 rfl rfl (ix_in hg) dX8_setTile_49 (fun H locs hP hD hS => ?_)
      have hP : va_P G.1 vwCl [(qM, .inr (8, [.int q3.2, .int mw, .int mh, .int mg, .int ms, .ref qMT, .ref qMW, .ref qMK, .ref qMM, .int mv, .int md, .ref qMR, .ref qML, .ref qMP, .int mu, .ref qMY, .ref qMF, .int mo, .int mf])), (qMT, .inl (G.2.1, 16, .inl (upd mT x1.toNatClampNeg x2)))] H := hP
      have hD : va_D A [(qM, .inr (8, [.int q3.2, .int mw, .int mh, .int mg, .int ms, .ref qMT, .ref qMW, .ref qMK, .ref qMM, .int mv, .int md, .ref qMR, .ref qML, .ref qMP, .int mu, .ref qMY, .ref qMF, .int mo, .int mf])), (qMT, .inl (G.2.1, 16, .inl (upd mT x1.toNatClampNeg x2)))] := hD
      refine lv_aload_n hx hb dX8_setTile_50 rfl (lv_at hl 1 rfl) ?_
      refine lv_iconst (v := 0) hx hb dX8_setTile_51 (by decide) ?_
      refine va_put (D := G.1) (ci := 8) (v := .int 0) (ty := .int) (C := RX8) (T := TX8) (N := 19) hx hb hts hi8 tyX8 tyX8_ok nmX8 hown hK hP hD hS 0 rfl rfl 9 (by decide) hw1 (fun _ h9 => h9) rfl (by decide +kernel) rfl rfl (Nat.le_of_ble_eq_true rfl) dX8_setTile_52 (fun H locs hP hD hS => ?_)
      have hP : va_P G.1 vwCl [(qM, .inr (8, [.int q3.2, .int mw, .int mh, .int mg, .int ms, .ref qMT, .ref qMW, .ref qMK, .ref qMM, .int 0, .int md, .ref qMR, .ref qML, .ref qMP, .int mu, .ref qMY, .ref qMF, .int mo, .int mf])), (qMT, .inl (G.2.1, 16, .inl (upd mT x1.toNatClampNeg x2)))] H := hP
      have hD : va_D A [(qM, .inr (8, [.int q3.2, .int mw, .int mh, .int mg, .int ms, .ref qMT, .ref qMW, .ref qMK, .ref qMM, .int 0, .int md, .ref qMR, .ref qML, .ref qMP, .int mu, .ref qMY, .ref qMF, .int mo, .int mf])), (qMT, .inl (G.2.1, 16, .inl (upd mT x1.toNatClampNeg x2)))] := hD
      refine lv_aload_n hx hb dX8_setTile_55 rfl (lv_at hl 1 rfl) ?_
      refine lv_iconst (v := 0) hx hb dX8_setTile_56 (by decide) ?_
      refine va_put (D := G.1) (ci := 8) (v := .int 0) (ty := .int) (C := RX8) (T := TX8) (N := 19) hx hb hts hi8 tyX8 tyX8_ok nmX8 hown hK hP hD hS 0 rfl rfl 10 (by decide) hw2 (fun _ h9 => h9) rfl (by decide +kernel) rfl rfl (Nat.le_of_ble_eq_true rfl) dX8_setTile_57 (fun H locs hP hD hS => ?_)
      have hP : va_P G.1 vwCl [(qM, .inr (8, [.int q3.2, .int mw, .int mh, .int mg, .int ms, .ref qMT, .ref qMW, .ref qMK, .ref qMM, .int 0, .int 0, .ref qMR, .ref qML, .ref qMP, .int mu, .ref qMY, .ref qMF, .int mo, .int mf])), (qMT, .inl (G.2.1, 16, .inl (upd mT x1.toNatClampNeg x2)))] H := hP
      have hD : va_D A [(qM, .inr (8, [.int q3.2, .int mw, .int mh, .int mg, .int ms, .ref qMT, .ref qMW, .ref qMK, .ref qMM, .int 0, .int 0, .ref qMR, .ref qML, .ref qMP, .int mu, .ref qMY, .ref qMF, .int mo, .int mf])), (qMT, .inl (G.2.1, 16, .inl (upd mT x1.toNatClampNeg x2)))] := hD
      refine lv_iload_n hx hb dX8_setTile_60 rfl (lv_at hl 0 rfl) ?_
      obtain rfl := Option.some.inj hq
      rw [hQ]
      exact W.iret hx hb hr (fun t ht hW => ⟨⟨_, (), rfl, rfl, va_Pat ht hP⟩, hS.F ht⟩) hS.2.2 dX8_setTile_61
    · have hq := k_t c_31 hq
      refine lv_iconst (v := 0) hx hb dX8_setTile_34 (by decide) ?_
      obtain rfl := Option.some.inj hq
      rw [hQ]
      exact W.iret hx hb hr (fun t ht hW => ⟨⟨_, (), rfl, rfl, va_Pat ht hP⟩, hS.F ht⟩) hS.2.2 dX8_setTile_35
  refine lv_if_ne (tgt := 13) hx hb dX8_setTile_6 (by decide) (fun c_6 => ?_) (fun c_6 => ?_)
  · have hq := k_f c_6 hq
    refine lv_iload_n hx hb dX8_setTile_13 rfl (lv_at hl 2 rfl) ?_
    refine lv_if_lt (tgt := 23) hx hb dX8_setTile_14 (by decide) (fun c_14 => ?_) (fun c_14 => ?_)
    · have hq := k_t c_14 hq
      refine lv_iconst (v := 2) hx hb dX8_setTile_23 (by decide) ?_
      refine lv_goto (tgt := 28) hx hb dX8_setTile_24 (by decide) ?_
      exact J28 2 ls _ _ hq (lv_sub hl [0, 1, 2] rfl) hP hD hS
    · have hq := k_f c_14 hq
      refine lv_iload_n hx hb dX8_setTile_17 rfl (lv_at hl 2 rfl) ?_
      refine lv_bipush (v := 15) hx hb dX8_setTile_18 (by decide) ?_
      refine lv_icmp_le (tgt := 27) hx hb dX8_setTile_20 (by decide) (fun c_20 => ?_) (fun c_20 => ?_)
      · have hq := k_t c_20 hq
        refine lv_iconst (v := 0) hx hb dX8_setTile_27 (by decide) ?_
        exact J28 0 ls _ _ hq (lv_sub hl [0, 1, 2] rfl) hP hD hS
      · have hq := k_f c_20 hq
        refine lv_iconst (v := 2) hx hb dX8_setTile_23 (by decide) ?_
        refine lv_goto (tgt := 28) hx hb dX8_setTile_24 (by decide) ?_
        exact J28 2 ls _ _ hq (lv_sub hl [0, 1, 2] rfl) hP hD hS
  · have hq := k_t c_6 hq
    refine lv_iconst (v := 1) hx hb dX8_setTile_9 (by decide) ?_
    refine lv_goto (tgt := 28) hx hb dX8_setTile_10 (by decide) ?_
    exact J28 1 ls _ _ hq (lv_sub hl [0, 1, 2] rfl) hP hD hS

abbrev rmX8_hasWall : Room := { frames := 0, cells := 0, slots := 0, locals := 0 }
set_option maxHeartbeats 40000000 in
set_option maxRecDepth 100000 in
theorem tX8_hasWall (G : GG) (l : Launch) {qM qMT qMW qMK qMM qMR qML qMP qMY qMF : Nat} {mt : Int32} {mw : Int32} {mh : Int32} {mg : Int32} {ms : Int32} {mv : Int32} {md : Int32} {mu : Int32} {mo : Int32} {mf : Int32} {mW : Nat → Int32} {x1 : Int32} {x2 : Int32} {F : Nat} {r : Int32} (hq : kX8_hasWall F mW x1 x2 = some r) : Met l yX8_hasWall wsX8_hasWall rmX8_hasWall (pcP G [(qM, .inr (8, [.int mt, .int mw, .int mh, .int mg, .int ms, .ref qMT, .ref qMW, .ref qMK, .ref qMM, .int mv, .int md, .ref qMR, .ref qML, .ref qMP, .int mu, .ref qMY, .ref qMF, .int mo, .int mf])), (qMW, .inl (G.2.1, 16, .inl mW))] [.ref qM, .int x1, .int x2]) (vp_Si (fun x => r = x)) 0 0 (fun _ => False) := by
  refine Met.ofW (cc := cX8_hasWall) (maxL := 3) (ret := (some .boolean)) (by decide) rfl ?_
  intro p e s m args below meth c s₁ B hml hv
  obtain ⟨rfl, hP, hKK⟩ := hv
  have hK := hKK.1
  have hx := B.exec
  have hb := B.bytes
  have hr := B.returns
  have hts := atoms_spec (ws := wsX8_hasWall) B.pre
  have hown : s.vm.findClass RX8 = some m.cls := findClass_of_methodNamed B.named
  have hlocks := B.notSynchronized
  have hl := lv_entry ([.ref qM, .int x1, .int x2] : List Value) (n := 3) (Nat.le_of_ble_eq_true rfl)
  rw [lg_entry_eq]
  generalize (lg_sl ([.ref qM, .int x1, .int x2] : List Value) ++ List.replicate (3 - (lg_sl ([.ref qM, .int x1, .int x2] : List Value)).length) Slot.unset).toArray = ls at hl ⊢
  have hl : lv_has ls 3 [(0, .ref qM), (1, .int x1), (2, .int x2)] := hl
  have hi8 : ∀ w ∈ u_ws RX8 TX8 19, w ∈ wsX8_hasWall := by decide +kernel
  have hw0 : (Cond.fieldLink RX8 20 "NetPlumberModel" "walls" "[I").before #[Value.ref qM, Value.int x1, Value.int x2] s = true := hts _ (by decide +kernel)
  refine wq (fun Q hQ => ?_)
  unfold kX8_hasWall at hq
  refine lv_aload_n hx hb dX8_hasWall_0 rfl (lv_at hl 0 rfl) ?_
  refine va_get (D := G.1) (ci := 8) (v := .ref qMW) (C := RX8) (T := TX8) (N := 19) hx hb hts hi8 hown hK hP 0 rfl rfl 6 (by decide) hw0 (fun _ h9 => h9) rfl dX8_hasWall_1 ?_
  refine lv_iload_n hx hb dX8_hasWall_4 rfl (lv_at hl 1 rfl) ?_
  obtain ⟨hg, hq⟩ := k_g hq
  refine va_iald hx hb hK hP 1 0 rfl rfl (ix_in hg) dX8_hasWall_5 ?_
  refine lv_iload_n hx hb dX8_hasWall_6 rfl (lv_at hl 2 rfl) ?_
  refine lv_ishr hx hb dX8_hasWall_7 ?_
  refine lv_iconst (v := 1) hx hb dX8_hasWall_8 (by decide) ?_
  refine lv_iand hx hb dX8_hasWall_9 ?_
  refine lv_iconst (v := 1) hx hb dX8_hasWall_10 (by decide) ?_
  refine lv_icmp_ne (tgt := 18) hx hb dX8_hasWall_11 (by decide) (fun c_11 => ?_) (fun c_11 => ?_)
  · have hq := k_f c_11 hq
    refine lv_iconst (v := 0) hx hb dX8_hasWall_18 (by decide) ?_
    obtain rfl := Option.some.inj hq
    rw [hQ]
    exact W.zret hx hb hr rfl (fun t ht hW => ⟨_, rfl, rfl, ht⟩) (fun _ h => absurd h List.not_mem_nil) dX8_hasWall_19
  · have hq := k_t c_11 hq
    refine lv_iconst (v := 1) hx hb dX8_hasWall_14 (by decide) ?_
    refine lv_goto (tgt := 19) hx hb dX8_hasWall_15 (by decide) ?_
    obtain rfl := Option.some.inj hq
    rw [hQ]
    exact W.zret hx hb hr rfl (fun t ht hW => ⟨_, rfl, rfl, ht⟩) (fun _ h => absurd h List.not_mem_nil) dX8_hasWall_19

abbrev rmX8_setWall : Room := { frames := 2, cells := 0, slots := 0, locals := 41 }
set_option maxHeartbeats 40000000 in
set_option maxRecDepth 100000 in
theorem tX8_setWall (G : GG) (l : Launch) {qM qMT qMW qMK qMM qMR qML qMP qMY qMF : Nat} {mt : Int32} {mw : Int32} {mh : Int32} {mg : Int32} {ms : Int32} {mv : Int32} {md : Int32} {mu : Int32} {mo : Int32} {mf : Int32} {mW : Nat → Int32} {x1 : Int32} {x2 : Int32} {x3 : Int32} {sz : Nat} {F : Nat} {r : Int32 × Int32 × (Nat → Int32)} (hq : kX8_setWall F mt mw mh mg mW x1 x2 x3 = some r) : Met l yX8_setWall wsX8_setWall rmX8_setWall (pcW G [(qM, .inr (8, [.int mt, .int mw, .int mh, .int mg, .int ms, .ref qMT, .ref qMW, .ref qMK, .ref qMM, .int mv, .int md, .ref qMR, .ref qML, .ref qMP, .int mu, .ref qMY, .ref qMF, .int mo, .int mf])), (qMW, .inl (G.2.1, 16, .inl mW))] sz [.ref qM, .int x1, .int x2, .int x3]) (qcI G r.1 [(qM, .inr (8, [.int r.2.1, .int mw, .int mh, .int mg, .int ms, .ref qMT, .ref qMW, .ref qMK, .ref qMM, .int mv, .int md, .ref qMR, .ref qML, .ref qMP, .int mu, .ref qMY, .ref qMF, .int mo, .int mf])), (qMW, .inl (G.2.1, 16, .inl r.2.2))] (va_A [(qM, .inr (8, [.int mt, .int mw, .int mh, .int mg, .int ms, .ref qMT, .ref qMW, .ref qMK, .ref qMM, .int mv, .int md, .ref qMR, .ref qML, .ref qMP, .int mu, .ref qMY, .ref qMF, .int mo, .int mf])), (qMW, .inl (G.2.1, 16, .inl mW))] sz)) 0 0 (va_A [(qM, .inr (8, [.int mt, .int mw, .int mh, .int mg, .int ms, .ref qMT, .ref qMW, .ref qMK, .ref qMM, .int mv, .int md, .ref qMR, .ref qML, .ref qMP, .int mu, .ref qMY, .ref qMF, .int mo, .int mf])), (qMW, .inl (G.2.1, 16, .inl mW))] sz) := by
  refine Met.ofW (cc := cX8_setWall) (maxL := 8) (ret := (some .boolean)) (by decide) rfl ?_
  intro p e s m args below meth c s₁ B hml hv
  obtain ⟨rfl, hsz, hP, hKK, hD0⟩ := hv
  have hK := hKK.1
  have hx := B.exec
  have hb := B.bytes
  have hr := B.returns
  have hts := atoms_spec (ws := wsX8_setWall) B.pre
  have hown : s.vm.findClass RX8 = some m.cls := findClass_of_methodNamed B.named
  have hlocks := B.notSynchronized
  subst hsz
  have hD := hD0.self (sz := s.heap.size)
  generalize hAe : va_A [(qM, .inr (8, [.int mt, .int mw, .int mh, .int mg, .int ms, .ref qMT, .ref qMW, .ref qMK, .ref qMM, .int mv, .int md, .ref qMR, .ref qML, .ref qMP, .int mu, .ref qMY, .ref qMF, .int mo, .int mf])), (qMW, .inl (G.2.1, 16, .inl mW))] s.heap.size = A at hD ⊢
  have hA : ∀ q : Nat, s.heap.size ≤ q → A q := fun q h => by rw [← hAe]; exact Or.inr h
  have hS : va_S A s.heap s.heap [] := va_S.rf
  have hl := lv_entry ([.ref qM, .int x1, .int x2, .int x3] : List Value) (n := 8) (Nat.le_of_ble_eq_true rfl)
  rw [lg_entry_eq]
  generalize (lg_sl ([.ref qM, .int x1, .int x2, .int x3] : List Value) ++ List.replicate (8 - (lg_sl ([.ref qM, .int x1, .int x2, .int x3] : List Value)).length) Slot.unset).toArray = ls at hl ⊢
  have hl : lv_has ls 8 [(0, .ref qM), (1, .int x1), (2, .int x2), (3, .int x3)] := hl
  have hi8 : ∀ w ∈ u_ws RX8 TX8 19, w ∈ wsX8_setWall := by decide +kernel
  have hw0 : (Cond.fieldLink RX8 20 "NetPlumberModel" "walls" "[I").before #[Value.ref qM, Value.int x1, Value.int x2, Value.int x3] s = true := hts _ (by decide +kernel)
  refine wq (fun Q hQ => ?_)
  unfold kX8_setWall at hq
  refine lv_aload_n hx hb dX8_setWall_0 rfl (lv_at hl 0 rfl) ?_
  refine lv_iload_n hx hb dX8_setWall_1 rfl (lv_at hl 1 rfl) ?_
  obtain ⟨q1, eq1, hq⟩ := ob hq
  have hPc := hP.sub (ws' := [(qM, .inr (8, [.int mt, .int mw, .int mh, .int mg, .int ms, .ref qMT, .ref qMW, .ref qMK, .ref qMM, .int mv, .int md, .ref qMR, .ref qML, .ref qMP, .int mu, .ref qMY, .ref qMF, .int mo, .int mf]))]) [0] rfl
  have hKc := hK
  refine vp_callSi (va_Run.run (va_runV (As := [.int x1]) (rest := []) ⟨hx, hb, hml, hown, hts⟩ (tX8_isCell G l eq1) (cwV 1 hts gX8_setWall_X8_isCell rfl rfl rfl (by decide +kernel) ⟨Nat.le_of_ble_eq_true rfl, Nat.le_of_ble_eq_true rfl⟩) ⟨pcP_blind, va_recv hKc hPc (ci := 8) (q0 := 0) rfl rfl, pcP_pre hPc hKK⟩ rfl rfl hl.1 rfl (lv_room (Nat.le_of_ble_eq_true rfl)) dX8_setWall_2 ⟨Nat.zero_le _, Nat.zero_le _⟩)) (fun r0 hr0 => ?_)
  obtain rfl := hr0
  have J20 : ∀ (v3 : Int32) (ls : Array Slot) (H : Heap) (locs : List Loc), kX8_setWall_j20 F mt mw mh mg mW x1 x2 x3 v3 = some r → lv_has ls 8 [(0, .ref qM), (1, .int x1), (2, .int x2), (3, .int x3)] → va_P G.1 vwCl [(qM, .inr (8, [.int mt, .int mw, .int mh, .int mg, .int ms, .ref qMT, .ref qMW, .ref qMK, .ref qMM, .int mv, .int md, .ref qMR, .ref qML, .ref qMP, .int mu, .ref qMY, .ref qMF, .int mo, .int mf])), (qMW, .inl (G.2.1, 16, .inl mW))] H → va_D A [(qM, .inr (8, [.int mt, .int mw, .int mh, .int mg, .int ms, .ref qMT, .ref qMW, .ref qMK, .ref qMM, .int mv, .int md, .ref qMR, .ref qML, .ref qMP, .int mu, .ref qMY, .ref qMF, .int mo, .int mf])), (qMW, .inl (G.2.1, 16, .inl mW))] → va_S A s.heap H locs → W p l e (headSpec wsX8_setWall rmX8_setWall).room s m ([.ref qM, .int x1, .int x2, .int x3] : List Value).toArray below meth c H locs 0 0 Q (F0 m 20 ls [.int v3]) := by
    intro v3 ls H locs hq hl hP hD hS
    unfold kX8_setWall_j20 at hq
    refine lv_istore (lv' := [(4, .int v3), (0, .ref qM), (1, .int x1), (2, .int x2), (3, .int x3)]) hx hb dX8_setWall_20 hl (by decide) rfl (fun ls hl => ?_)
    refine lv_aload_n hx hb dX8_setWall_22 rfl (lv_at hl 1 rfl) ?_
    refine lv_iload hx hb dX8_setWall_23 (lv_at hl 0 rfl) ?_
    have J47 : ∀ (v5 : Int32) (ls : Array Slot) (H : Heap) (locs : List Loc), kX8_setWall_j47 F mt mw mh mg mW x1 x2 x3 v5 = some r → lv_has ls 8 [(0, .ref qM), (1, .int x1), (2, .int x2), (3, .int x3)] → va_P G.1 vwCl [(qM, .inr (8, [.int mt, .int mw, .int mh, .int mg, .int ms, .ref qMT, .ref qMW, .ref qMK, .ref qMM, .int mv, .int md, .ref qMR, .ref qML, .ref qMP, .int mu, .ref qMY, .ref qMF, .int mo, .int mf])), (qMW, .inl (G.2.1, 16, .inl mW))] H → va_D A [(qM, .inr (8, [.int mt, .int mw, .int mh, .int mg, .int ms, .ref qMT, .ref qMW, .ref qMK, .ref qMM, .int mv, .int md, .ref qMR, .ref qML, .ref qMP, .int mu, .ref qMY, .ref qMF, .int mo, .int mf])), (qMW, .inl (G.2.1, 16, .inl mW))] → va_S A s.heap H locs → W p l e (headSpec wsX8_setWall rmX8_setWall).room s m ([.ref qM, .int x1, .int x2, .int x3] : List Value).toArray below meth c H locs 0 0 Q (F0 m 47 ls [.int v5, .ref qM]) := by
      intro v5 ls H locs hq hl hP hD hS
      unfold kX8_setWall_j47 at hq
      obtain ⟨q6, eq6, hq⟩ := ob hq
      have hPc := hP.sub (ws' := [(qM, .inr (8, [.int mt, .int mw, .int mh, .int mg, .int ms, .ref qMT, .ref qMW, .ref qMK, .ref qMM, .int mv, .int md, .ref qMR, .ref qML, .ref qMP, .int mu, .ref qMY, .ref qMF, .int mo, .int mf]))]) [0] rfl
      have hKc := hK
      have hDc := hD.sub (ws' := [(qM, .inr (8, [.int mt, .int mw, .int mh, .int mg, .int ms, .ref qMT, .ref qMW, .ref qMK, .ref qMM, .int mv, .int md, .ref qMR, .ref qML, .ref qMP, .int mu, .ref qMY, .ref qMF, .int mo, .int mf]))]) [0] (by decide) rfl
      have hFc := va_free (wc := [(qM, .inr (8, [.int mt, .int mw, .int mh, .int mg, .int ms, .ref qMT, .ref qMW, .ref qMK, .ref qMM, .int mv, .int md, .ref qMR, .ref qML, .ref qMP, .int mu, .ref qMY, .ref qMF, .int mo, .int mf]))]) hD hS hA [0] rfl
      refine va_calli (va_runV (As := [.int v5]) (rest := []) ⟨hx, hb, hml, hown, hts⟩ (tX8_holds G l eq6) (cwV 1 hts gX8_setWall_X8_holds rfl rfl rfl (by decide +kernel) ⟨Nat.le_of_ble_eq_true rfl, Nat.le_of_ble_eq_true rfl⟩) ⟨pcW_blind, va_recv hKc hPc (ci := 8) (q0 := 0) rfl rfl, pcW_pre hPc hKK hDc⟩ rfl rfl hl.1 rfl (lv_room (Nat.le_of_ble_eq_true rfl)) dX8_setWall_47 ⟨Nat.zero_le _, Nat.zero_le _⟩) hS (fun q _ h => hFc q h) hFc (fun r0 u t H1 locs ht hvm hw hB hz1 hk1 hS => ?_)
      obtain rfl := hw
      have hB := va_Pto ht hB
      obtain ⟨hP, hD⟩ := jn (ws' := [(qM, .inr (8, [.int q6.2, .int mw, .int mh, .int mg, .int ms, .ref qMT, .ref qMW, .ref qMK, .ref qMM, .int mv, .int md, .ref qMR, .ref qML, .ref qMP, .int mu, .ref qMY, .ref qMF, .int mo, .int mf])), (qMW, .inl (G.2.1, 16, .inl mW))]) hP hD hk1 hB [0] rfl rfl rfl rfl
      generalize H1 = H at hP hS ⊢
      refine lv_if_ne (tgt := 55) hx hb dX8_setWall_50 (by decide) (fun c_50 => ?_) (fun c_50 => ?_)
      · have hq := k_f c_50 hq
        refine lv_aload_n hx hb dX8_setWall_55 rfl (lv_at hl 0 rfl) ?_
        refine lv_iload_n hx hb dX8_setWall_56 rfl (lv_at hl 1 rfl) ?_
        refine lv_iload_n hx hb dX8_setWall_57 rfl (lv_at hl 2 rfl) ?_
        obtain ⟨q7, eq7, hq⟩ := ob hq
        have hPc := hP.sub (ws' := [(qM, .inr (8, [.int q6.2, .int mw, .int mh, .int mg, .int ms, .ref qMT, .ref qMW, .ref qMK, .ref qMM, .int mv, .int md, .ref qMR, .ref qML, .ref qMP, .int mu, .ref qMY, .ref qMF, .int mo, .int mf])), (qMW, .inl (G.2.1, 16, .inl mW))]) [0, 1] rfl
        have hKc := hK
        refine vp_callSi (va_Run.run (va_runV (As := [.int x1, .int x2]) (rest := []) ⟨hx, hb, hml, hown, hts⟩ (tX8_hasWall G l eq7) (cwV 2 hts gX8_setWall_X8_hasWall rfl rfl rfl (by decide +kernel) ⟨Nat.le_of_ble_eq_true rfl, Nat.le_of_ble_eq_true rfl⟩) ⟨pcP_blind, va_recv hKc hPc (ci := 8) (q0 := 0) rfl rfl, pcP_pre hPc hKK⟩ rfl rfl hl.1 rfl (lv_room (Nat.le_of_ble_eq_true rfl)) dX8_setWall_58 ⟨Nat.zero_le _, Nat.zero_le _⟩)) (fun r0 hr0 => ?_)
        obtain rfl := hr0
        refine lv_istore (lv' := [(5, .int q7), (0, .ref qM), (1, .int x1), (2, .int x2), (3, .int x3)]) hx hb dX8_setWall_61 hl (by decide) rfl (fun ls hl => ?_)
        refine lv_aload_n hx hb dX8_setWall_63 rfl (lv_at hl 1 rfl) ?_
        refine lv_iload_n hx hb dX8_setWall_64 rfl (lv_at hl 2 rfl) ?_
        refine lv_iload_n hx hb dX8_setWall_65 rfl (lv_at hl 3 rfl) ?_
        obtain ⟨q8, eq8, hq⟩ := ob hq
        have hPc := hP.sub (ws' := [(qM, .inr (8, [.int q6.2, .int mw, .int mh, .int mg, .int ms, .ref qMT, .ref qMW, .ref qMK, .ref qMM, .int mv, .int md, .ref qMR, .ref qML, .ref qMP, .int mu, .ref qMY, .ref qMF, .int mo, .int mf]))]) [0] rfl
        have hKc := hK
        refine vp_callSi (va_Run.run (va_runV (As := [.int x1, .int x2]) (rest := []) ⟨hx, hb, hml, hown, hts⟩ (tX8_neighbourOf G l eq8) (cwV 2 hts gX8_setWall_X8_neighbourOf rfl rfl rfl (by decide +kernel) ⟨Nat.le_of_ble_eq_true rfl, Nat.le_of_ble_eq_true rfl⟩) ⟨pcP_blind, va_recv hKc hPc (ci := 8) (q0 := 0) rfl rfl, pcP_pre hPc hKK⟩ rfl rfl hl.1 rfl (lv_room (Nat.le_of_ble_eq_true rfl)) dX8_setWall_66 ⟨Nat.zero_le _, Nat.zero_le _⟩)) (fun r0 hr0 => ?_)
        obtain rfl := hr0
        refine lv_istore (lv' := [(6, .int q8), (5, .int q7), (0, .ref qM), (1, .int x1), (2, .int x2), (3, .int x3)]) hx hb dX8_setWall_69 hl (by decide) rfl (fun ls hl => ?_)
        refine lv_iload_n hx hb dX8_setWall_71 rfl (lv_at hl 4 rfl) ?_
        obtain ⟨q9, eq9, hq⟩ := ob hq
        have hPc := hP.sub (ws' := []) [] rfl
        refine vp_callSi (va_Run.run (va_runS (As := [.int x2]) (rest := []) ⟨hx, hb, hml, hown, hts⟩ (tX8_opposite G l eq9) (va_cwS 1 hts gX8_setWall_X8_opposite rfl rfl rfl (by decide +kernel) ⟨Nat.le_of_ble_eq_true rfl, Nat.le_of_ble_eq_true rfl⟩) ⟨pcP_blind, pcP_pre hPc hKK⟩ rfl rfl hl.1 rfl (lv_room (Nat.le_of_ble_eq_true rfl)) dX8_setWall_72 ⟨Nat.zero_le _, Nat.zero_le _⟩)) (fun r0 hr0 => ?_)
        obtain rfl := hr0
        refine lv_istore (lv' := [(7, .int q9), (6, .int q8), (5, .int q7), (0, .ref qM), (1, .int x1), (2, .int x2), (3, .int x3)]) hx hb dX8_setWall_75 hl (by decide) rfl (fun ls hl => ?_)
        refine lv_aload_n hx hb dX8_setWall_77 rfl (lv_at hl 3 rfl) ?_
        refine va_get (D := G.1) (ci := 8) (v := .ref qMW) (C := RX8) (T := TX8) (N := 19) hx hb hts hi8 hown hK hP 0 rfl rfl 6 (by decide) hw0 (fun _ h9 => h9) rfl dX8_setWall_78 ?_
        refine lv_iload_n hx hb dX8_setWall_81 rfl (lv_at hl 4 rfl) ?_
        refine lv_aload_n hx hb dX8_setWall_82 rfl (lv_at hl 3 rfl) ?_
        refine va_get (D := G.1) (ci := 8) (v := .ref qMW) (C := RX8) (T := TX8) (N := 19) hx hb hts hi8 hown hK hP 0 rfl rfl 6 (by decide) hw0 (fun _ h9 => h9) rfl dX8_setWall_83 ?_
        refine lv_iload_n hx hb dX8_setWall_86 rfl (lv_at hl 4 rfl) ?_
        obtain ⟨hg, hq⟩ := k_g hq
        refine va_iald hx hb hK hP 1 0 rfl rfl (ix_in hg) dX8_setWall_87 ?_
        refine lv_iconst (v := 1) hx hb dX8_setWall_88 (by decide) ?_
        refine lv_iload_n hx hb dX8_setWall_89 rfl (lv_at hl 5 rfl) ?_
        refine lv_ishl hx hb dX8_setWall_90 ?_
        refine lv_iconst (v := (-1)) hx hb dX8_setWall_91 (by decide) ?_
        refine lv_ixor hx hb dX8_setWall_92 ?_
        refine lv_iand hx hb dX8_setWall_93 ?_
        refine lv_iload_n hx hb dX8_setWall_94 rfl (lv_at hl 6 rfl) ?_
        have J105 : ∀ (v10 : Int32) (ls : Array Slot) (H : Heap) (locs : List Loc), kX8_setWall_j105 F mW x1 x2 x3 q6 q7 q8 q9 v10 = some r → lv_has ls 8 [(0, .ref qM), (3, .int x3), (5, .int q7), (6, .int q8), (7, .int q9)] → va_P G.1 vwCl [(qM, .inr (8, [.int q6.2, .int mw, .int mh, .int mg, .int ms, .ref qMT, .ref qMW, .ref qMK, .ref qMM, .int mv, .int md, .ref qMR, .ref qML, .ref qMP, .int mu, .ref qMY, .ref qMF, .int mo, .int mf])), (qMW, .inl (G.2.1, 16, .inl mW))] H → va_D A [(qM, .inr (8, [.int q6.2, .int mw, .int mh, .int mg, .int ms, .ref qMT, .ref qMW, .ref qMK, .ref qMM, .int mv, .int md, .ref qMR, .ref qML, .ref qMP, .int mu, .ref qMY, .ref qMF, .int mo, .int mf])), (qMW, .inl (G.2.1, 16, .inl mW))] → va_S A s.heap H locs → W p l e (headSpec wsX8_setWall rmX8_setWall).room s m ([.ref qM, .int x1, .int x2, .int x3] : List Value).toArray below meth c H locs 0 0 Q (F0 m 105 ls [.int v10, .int ((mW x1.toNatClampNeg) &&& (((1 : Int32) <<< (x2 &&& 31)) ^^^ (-1))), .int x1, .ref qMW]) := by
          intro v10 ls H locs hq hl hP hD hS
          unfold kX8_setWall_j105 at hq
          refine lv_ior hx hb dX8_setWall_105 ?_
          obtain ⟨hg, hq⟩ := k_g hq
          refine va_iast hx hb hK hP hD hS 1 0 rfl rfl (ix_in hg) dX8_setWall_106 (fun H locs hP hD hS => ?_)
          have hP : va_P G.1 vwCl [(qM, .inr (8, [.int q6.2, .int mw, .int mh, .int mg, .int ms, .ref qMT, .ref qMW, .ref qMK, .ref qMM, .int mv, .int md, .ref qMR, .ref qML, .ref qMP, .int mu, .ref qMY, .ref qMF, .int mo, .int mf])), (qMW, .inl (G.2.1, 16, .inl (upd mW x1.toNatClampNeg (((mW x1.toNatClampNeg) &&& (((1 : Int32) <<< (x2 &&& 31)) ^^^ (-1))) ||| v10))))] H := hP
          have hD : va_D A [(qM, .inr (8, [.int q6.2, .int mw, .int mh, .int mg, .int ms, .ref qMT, .ref qMW, .ref qMK, .ref qMM, .int mv, .int md, .ref qMR, .ref qML, .ref qMP, .int mu, .ref qMY, .ref qMF, .int mo, .int mf])), (qMW, .inl (G.2.1, 16, .inl (upd mW x1.toNatClampNeg (((mW x1.toNatClampNeg) &&& (((1 : Int32) <<< (x2 &&& 31)) ^^^ (-1))) ||| v10))))] := hD
          refine lv_aload_n hx hb dX8_setWall_107 rfl (lv_at hl 0 rfl) ?_
          refine va_get (D := G.1) (ci := 8) (v := .ref qMW) (C := RX8) (T := TX8) (N := 19) hx hb hts hi8 hown hK hP 0 rfl rfl 6 (by decide) hw0 (fun _ h9 => h9) rfl dX8_setWall_108 ?_
          refine lv_iload hx hb dX8_setWall_111 (lv_at hl 3 rfl) ?_
          refine lv_aload_n hx hb dX8_setWall_113 rfl (lv_at hl 0 rfl) ?_
          refine va_get (D := G.1) (ci := 8) (v := .ref qMW) (C := RX8) (T := TX8) (N := 19) hx hb hts hi8 hown hK hP 0 rfl rfl 6 (by decide) hw0 (fun _ h9 => h9) rfl dX8_setWall_114 ?_
          refine lv_iload hx hb dX8_setWall_117 (lv_at hl 3 rfl) ?_
          obtain ⟨hg, hq⟩ := k_g hq
          refine va_iald hx hb hK hP 1 0 rfl rfl (ix_in hg) dX8_setWall_119 ?_
          refine lv_iconst (v := 1) hx hb dX8_setWall_120 (by decide) ?_
          refine lv_iload hx hb dX8_setWall_121 (lv_at hl 4 rfl) ?_
          refine lv_ishl hx hb dX8_setWall_123 ?_
          refine lv_iconst (v := (-1)) hx hb dX8_setWall_124 (by decide) ?_
          refine lv_ixor hx hb dX8_setWall_125 ?_
          refine lv_iand hx hb dX8_setWall_126 ?_
          refine lv_iload_n hx hb dX8_setWall_127 rfl (lv_at hl 1 rfl) ?_
          refine lv_if_eq (tgt := 138) hx hb dX8_setWall_128 (by decide) (fun c_128 => ?_) (fun c_128 => ?_)
          · have hq := k_t c_128 hq
            refine lv_iconst (v := 0) hx hb dX8_setWall_138 (by decide) ?_
            refine lv_ior hx hb dX8_setWall_139 ?_
            obtain ⟨hg, hq⟩ := k_g hq
            refine va_iast hx hb hK hP hD hS 1 0 rfl rfl (ix_in hg) dX8_setWall_140 (fun H locs hP hD hS => ?_)
            have hP : va_P G.1 vwCl [(qM, .inr (8, [.int q6.2, .int mw, .int mh, .int mg, .int ms, .ref qMT, .ref qMW, .ref qMK, .ref qMM, .int mv, .int md, .ref qMR, .ref qML, .ref qMP, .int mu, .ref qMY, .ref qMF, .int mo, .int mf])), (qMW, .inl (G.2.1, 16, .inl (upd (upd mW x1.toNatClampNeg (((mW x1.toNatClampNeg) &&& (((1 : Int32) <<< (x2 &&& 31)) ^^^ (-1))) ||| v10)) q8.toNatClampNeg ((((upd mW x1.toNatClampNeg (((mW x1.toNatClampNeg) &&& (((1 : Int32) <<< (x2 &&& 31)) ^^^ (-1))) ||| v10)) q8.toNatClampNeg) &&& (((1 : Int32) <<< (q9 &&& 31)) ^^^ (-1))) ||| 0))))] H := hP
            have hD : va_D A [(qM, .inr (8, [.int q6.2, .int mw, .int mh, .int mg, .int ms, .ref qMT, .ref qMW, .ref qMK, .ref qMM, .int mv, .int md, .ref qMR, .ref qML, .ref qMP, .int mu, .ref qMY, .ref qMF, .int mo, .int mf])), (qMW, .inl (G.2.1, 16, .inl (upd (upd mW x1.toNatClampNeg (((mW x1.toNatClampNeg) &&& (((1 : Int32) <<< (x2 &&& 31)) ^^^ (-1))) ||| v10)) q8.toNatClampNeg ((((upd mW x1.toNatClampNeg (((mW x1.toNatClampNeg) &&& (((1 : Int32) <<< (x2 &&& 31)) ^^^ (-1))) ||| v10)) q8.toNatClampNeg) &&& (((1 : Int32) <<< (q9 &&& 31)) ^^^ (-1))) ||| 0))))] := hD
            refine lv_iload hx hb dX8_setWall_141 (lv_at hl 2 rfl) ?_
            obtain ⟨hg, hq⟩ := k_g hq
            obtain rfl := Option.some.inj hq
            rw [hQ]
            exact W.zret hx hb hr (isZ_n hg) (fun t ht hW => ⟨⟨_, (), rfl, rfl, va_Pat ht hP⟩, hS.F ht⟩) hS.2.2 dX8_setWall_143
          · have hq := k_f c_128 hq
            refine lv_iconst (v := 1) hx hb dX8_setWall_131 (by decide) ?_
            refine lv_iload hx hb dX8_setWall_132 (lv_at hl 4 rfl) ?_
            refine lv_ishl hx hb dX8_setWall_134 ?_
            refine lv_goto (tgt := 139) hx hb dX8_setWall_135 (by decide) ?_
            refine lv_ior hx hb dX8_setWall_139 ?_
            obtain ⟨hg, hq⟩ := k_g hq
            refine va_iast hx hb hK hP hD hS 1 0 rfl rfl (ix_in hg) dX8_setWall_140 (fun H locs hP hD hS => ?_)
            have hP : va_P G.1 vwCl [(qM, .inr (8, [.int q6.2, .int mw, .int mh, .int mg, .int ms, .ref qMT, .ref qMW, .ref qMK, .ref qMM, .int mv, .int md, .ref qMR, .ref qML, .ref qMP, .int mu, .ref qMY, .ref qMF, .int mo, .int mf])), (qMW, .inl (G.2.1, 16, .inl (upd (upd mW x1.toNatClampNeg (((mW x1.toNatClampNeg) &&& (((1 : Int32) <<< (x2 &&& 31)) ^^^ (-1))) ||| v10)) q8.toNatClampNeg ((((upd mW x1.toNatClampNeg (((mW x1.toNatClampNeg) &&& (((1 : Int32) <<< (x2 &&& 31)) ^^^ (-1))) ||| v10)) q8.toNatClampNeg) &&& (((1 : Int32) <<< (q9 &&& 31)) ^^^ (-1))) ||| ((1 : Int32) <<< (q9 &&& 31))))))] H := hP
            have hD : va_D A [(qM, .inr (8, [.int q6.2, .int mw, .int mh, .int mg, .int ms, .ref qMT, .ref qMW, .ref qMK, .ref qMM, .int mv, .int md, .ref qMR, .ref qML, .ref qMP, .int mu, .ref qMY, .ref qMF, .int mo, .int mf])), (qMW, .inl (G.2.1, 16, .inl (upd (upd mW x1.toNatClampNeg (((mW x1.toNatClampNeg) &&& (((1 : Int32) <<< (x2 &&& 31)) ^^^ (-1))) ||| v10)) q8.toNatClampNeg ((((upd mW x1.toNatClampNeg (((mW x1.toNatClampNeg) &&& (((1 : Int32) <<< (x2 &&& 31)) ^^^ (-1))) ||| v10)) q8.toNatClampNeg) &&& (((1 : Int32) <<< (q9 &&& 31)) ^^^ (-1))) ||| ((1 : Int32) <<< (q9 &&& 31))))))] := hD
            refine lv_iload hx hb dX8_setWall_141 (lv_at hl 2 rfl) ?_
            obtain ⟨hg, hq⟩ := k_g hq
            obtain rfl := Option.some.inj hq
            rw [hQ]
            exact W.zret hx hb hr (isZ_n hg) (fun t ht hW => ⟨⟨_, (), rfl, rfl, va_Pat ht hP⟩, hS.F ht⟩) hS.2.2 dX8_setWall_143
        refine lv_if_eq (tgt := 104) hx hb dX8_setWall_95 (by decide) (fun c_95 => ?_) (fun c_95 => ?_)
        · have hq := k_t c_95 hq
          refine lv_iconst (v := 0) hx hb dX8_setWall_104 (by decide) ?_
          exact J105 0 ls _ _ hq (lv_sub hl [3, 6, 2, 1, 0] rfl) hP hD hS
        · have hq := k_f c_95 hq
          refine lv_iconst (v := 1) hx hb dX8_setWall_98 (by decide) ?_
          refine lv_iload_n hx hb dX8_setWall_99 rfl (lv_at hl 5 rfl) ?_
          refine lv_ishl hx hb dX8_setWall_100 ?_
          refine lv_goto (tgt := 105) hx hb dX8_setWall_101 (by decide) ?_
          exact J105 ((1 : Int32) <<< (x2 &&& 31)) ls _ _ hq (lv_sub hl [3, 6, 2, 1, 0] rfl) hP hD hS
      · have hq := k_t c_50 hq
        refine lv_iconst (v := 0) hx hb dX8_setWall_53 (by decide) ?_
        obtain rfl := Option.some.inj hq
        rw [hQ]
        exact W.zret hx hb hr rfl (fun t ht hW => ⟨⟨_, (), rfl, rfl, va_Pat ht hP⟩, hS.F ht⟩) hS.2.2 dX8_setWall_54
    refine lv_if_ne (tgt := 32) hx hb dX8_setWall_25 (by decide) (fun c_25 => ?_) (fun c_25 => ?_)
    · have hq := k_f c_25 hq
      refine lv_aload_n hx hb dX8_setWall_32 rfl (lv_at hl 1 rfl) ?_
      refine lv_iload_n hx hb dX8_setWall_33 rfl (lv_at hl 2 rfl) ?_
      refine lv_iload_n hx hb dX8_setWall_34 rfl (lv_at hl 3 rfl) ?_
      obtain ⟨q12, eq12, hq⟩ := ob hq
      have hPc := hP.sub (ws' := [(qM, .inr (8, [.int mt, .int mw, .int mh, .int mg, .int ms, .ref qMT, .ref qMW, .ref qMK, .ref qMM, .int mv, .int md, .ref qMR, .ref qML, .ref qMP, .int mu, .ref qMY, .ref qMF, .int mo, .int mf]))]) [0] rfl
      have hKc := hK
      refine vp_callSi (va_Run.run (va_runV (As := [.int x1, .int x2]) (rest := [.ref qM]) ⟨hx, hb, hml, hown, hts⟩ (tX8_neighbourOf G l eq12) (cwV 2 hts gX8_setWall_X8_neighbourOf rfl rfl rfl (by decide +kernel) ⟨Nat.le_of_ble_eq_true rfl, Nat.le_of_ble_eq_true rfl⟩) ⟨pcP_blind, va_recv hKc hPc (ci := 8) (q0 := 0) rfl rfl, pcP_pre hPc hKK⟩ rfl rfl hl.1 rfl (lv_room (Nat.le_of_ble_eq_true rfl)) dX8_setWall_35 ⟨Nat.zero_le _, Nat.zero_le _⟩)) (fun r0 hr0 => ?_)
      obtain rfl := hr0
      refine lv_iconst (v := (-1)) hx hb dX8_setWall_38 (by decide) ?_
      refine lv_icmp_ne (tgt := 46) hx hb dX8_setWall_39 (by decide) (fun c_39 => ?_) (fun c_39 => ?_)
      · have hq := k_f c_39 hq
        refine lv_iconst (v := 0) hx hb dX8_setWall_46 (by decide) ?_
        exact J47 0 ls _ _ hq (lv_sub hl [1, 2, 3, 4] rfl) hP hD hS
      · have hq := k_t c_39 hq
        refine lv_iconst (v := 2) hx hb dX8_setWall_42 (by decide) ?_
        refine lv_goto (tgt := 47) hx hb dX8_setWall_43 (by decide) ?_
        exact J47 2 ls _ _ hq (lv_sub hl [1, 2, 3, 4] rfl) hP hD hS
    · have hq := k_t c_25 hq
      refine lv_iconst (v := 1) hx hb dX8_setWall_28 (by decide) ?_
      refine lv_goto (tgt := 47) hx hb dX8_setWall_29 (by decide) ?_
      exact J47 1 ls _ _ hq (lv_sub hl [1, 2, 3, 4] rfl) hP hD hS
  refine lv_if_eq (tgt := 19) hx hb dX8_setWall_5 (by decide) (fun c_5 => ?_) (fun c_5 => ?_)
  · have hq := k_t c_5 hq
    refine lv_iconst (v := 0) hx hb dX8_setWall_19 (by decide) ?_
    exact J20 0 ls _ _ hq (lv_sub hl [0, 1, 2, 3] rfl) hP hD hS
  · have hq := k_f c_5 hq
    refine lv_iload_n hx hb dX8_setWall_8 rfl (lv_at hl 2 rfl) ?_
    obtain ⟨q13, eq13, hq⟩ := ob hq
    have hPc := hP.sub (ws' := []) [] rfl
    refine vp_callSi (va_Run.run (va_runS (As := [.int x2]) (rest := []) ⟨hx, hb, hml, hown, hts⟩ (tX8_isSide G l eq13) (va_cwS 1 hts gX8_setWall_X8_isSide rfl rfl rfl (by decide +kernel) ⟨Nat.le_of_ble_eq_true rfl, Nat.le_of_ble_eq_true rfl⟩) ⟨pcP_blind, pcP_pre hPc hKK⟩ rfl rfl hl.1 rfl (lv_room (Nat.le_of_ble_eq_true rfl)) dX8_setWall_9 ⟨Nat.zero_le _, Nat.zero_le _⟩)) (fun r0 hr0 => ?_)
    obtain rfl := hr0
    refine lv_if_eq (tgt := 19) hx hb dX8_setWall_12 (by decide) (fun c_12 => ?_) (fun c_12 => ?_)
    · have hq := k_t c_12 hq
      refine lv_iconst (v := 0) hx hb dX8_setWall_19 (by decide) ?_
      exact J20 0 ls _ _ hq (lv_sub hl [0, 1, 2, 3] rfl) hP hD hS
    · have hq := k_f c_12 hq
      refine lv_iconst (v := 1) hx hb dX8_setWall_15 (by decide) ?_
      refine lv_goto (tgt := 20) hx hb dX8_setWall_16 (by decide) ?_
      exact J20 1 ls _ _ hq (lv_sub hl [0, 1, 2, 3] rfl) hP hD hS

abbrev rmX8_setLock : Room := { frames := 2, cells := 0, slots := 0, locals := 41 }
set_option maxHeartbeats 40000000 in
set_option maxRecDepth 100000 in
theorem tX8_setLock (G : GG) (l : Launch) {qM qMT qMW qMK qMM qMR qML qMP qMY qMF : Nat} {mt : Int32} {mw : Int32} {mh : Int32} {mg : Int32} {ms : Int32} {mv : Int32} {md : Int32} {mu : Int32} {mo : Int32} {mf : Int32} {mK : Nat → Int32} {x1 : Int32} {x2 : Int32} {sz : Nat} {F : Nat} {r : Int32 × Int32 × (Nat → Int32)} (hq : kX8_setLock F mt mw mh mK x1 x2 = some r) : Met l yX8_setLock wsX8_setLock rmX8_setLock (pcW G [(qM, .inr (8, [.int mt, .int mw, .int mh, .int mg, .int ms, .ref qMT, .ref qMW, .ref qMK, .ref qMM, .int mv, .int md, .ref qMR, .ref qML, .ref qMP, .int mu, .ref qMY, .ref qMF, .int mo, .int mf])), (qMK, .inl (G.2.2.2.1, 16, .inl mK))] sz [.ref qM, .int x1, .int x2]) (qcI G r.1 [(qM, .inr (8, [.int r.2.1, .int mw, .int mh, .int mg, .int ms, .ref qMT, .ref qMW, .ref qMK, .ref qMM, .int mv, .int md, .ref qMR, .ref qML, .ref qMP, .int mu, .ref qMY, .ref qMF, .int mo, .int mf])), (qMK, .inl (G.2.2.2.1, 16, .inl r.2.2))] (va_A [(qM, .inr (8, [.int mt, .int mw, .int mh, .int mg, .int ms, .ref qMT, .ref qMW, .ref qMK, .ref qMM, .int mv, .int md, .ref qMR, .ref qML, .ref qMP, .int mu, .ref qMY, .ref qMF, .int mo, .int mf])), (qMK, .inl (G.2.2.2.1, 16, .inl mK))] sz)) 0 0 (va_A [(qM, .inr (8, [.int mt, .int mw, .int mh, .int mg, .int ms, .ref qMT, .ref qMW, .ref qMK, .ref qMM, .int mv, .int md, .ref qMR, .ref qML, .ref qMP, .int mu, .ref qMY, .ref qMF, .int mo, .int mf])), (qMK, .inl (G.2.2.2.1, 16, .inl mK))] sz) := by
  refine Met.ofW (cc := cX8_setLock) (maxL := 4) (ret := (some .boolean)) (by decide) rfl ?_
  intro p e s m args below meth c s₁ B hml hv
  obtain ⟨rfl, hsz, hP, hKK, hD0⟩ := hv
  have hK := hKK.1
  have hx := B.exec
  have hb := B.bytes
  have hr := B.returns
  have hts := atoms_spec (ws := wsX8_setLock) B.pre
  have hown : s.vm.findClass RX8 = some m.cls := findClass_of_methodNamed B.named
  have hlocks := B.notSynchronized
  subst hsz
  have hD := hD0.self (sz := s.heap.size)
  generalize hAe : va_A [(qM, .inr (8, [.int mt, .int mw, .int mh, .int mg, .int ms, .ref qMT, .ref qMW, .ref qMK, .ref qMM, .int mv, .int md, .ref qMR, .ref qML, .ref qMP, .int mu, .ref qMY, .ref qMF, .int mo, .int mf])), (qMK, .inl (G.2.2.2.1, 16, .inl mK))] s.heap.size = A at hD ⊢
  have hA : ∀ q : Nat, s.heap.size ≤ q → A q := fun q h => by rw [← hAe]; exact Or.inr h
  have hS : va_S A s.heap s.heap [] := va_S.rf
  have hl := lv_entry ([.ref qM, .int x1, .int x2] : List Value) (n := 4) (Nat.le_of_ble_eq_true rfl)
  rw [lg_entry_eq]
  generalize (lg_sl ([.ref qM, .int x1, .int x2] : List Value) ++ List.replicate (4 - (lg_sl ([.ref qM, .int x1, .int x2] : List Value)).length) Slot.unset).toArray = ls at hl ⊢
  have hl : lv_has ls 4 [(0, .ref qM), (1, .int x1), (2, .int x2)] := hl
  have hi8 : ∀ w ∈ u_ws RX8 TX8 19, w ∈ wsX8_setLock := by decide +kernel
  have hw0 : (Cond.fieldLink RX8 23 "NetPlumberModel" "locked" "[Z").before #[Value.ref qM, Value.int x1, Value.int x2] s = true := hts _ (by decide +kernel)
  refine wq (fun Q hQ => ?_)
  unfold kX8_setLock at hq
  refine lv_aload_n hx hb dX8_setLock_0 rfl (lv_at hl 0 rfl) ?_
  refine lv_aload_n hx hb dX8_setLock_1 rfl (lv_at hl 0 rfl) ?_
  refine lv_iload_n hx hb dX8_setLock_2 rfl (lv_at hl 1 rfl) ?_
  obtain ⟨q1, eq1, hq⟩ := ob hq
  have hPc := hP.sub (ws' := [(qM, .inr (8, [.int mt, .int mw, .int mh, .int mg, .int ms, .ref qMT, .ref qMW, .ref qMK, .ref qMM, .int mv, .int md, .ref qMR, .ref qML, .ref qMP, .int mu, .ref qMY, .ref qMF, .int mo, .int mf]))]) [0] rfl
  have hKc := hK
  refine vp_callSi (va_Run.run (va_runV (As := [.int x1]) (rest := [.ref qM]) ⟨hx, hb, hml, hown, hts⟩ (tX8_isCell G l eq1) (cwV 1 hts gX8_setLock_X8_isCell rfl rfl rfl (by decide +kernel) ⟨Nat.le_of_ble_eq_true rfl, Nat.le_of_ble_eq_true rfl⟩) ⟨pcP_blind, va_recv hKc hPc (ci := 8) (q0 := 0) rfl rfl, pcP_pre hPc hKK⟩ rfl rfl hl.1 rfl (lv_room (Nat.le_of_ble_eq_true rfl)) dX8_setLock_3 ⟨Nat.zero_le _, Nat.zero_le _⟩)) (fun r0 hr0 => ?_)
  obtain rfl := hr0
  have J14 : ∀ (v2 : Int32) (ls : Array Slot) (H : Heap) (locs : List Loc), kX8_setLock_j14 F mt mK x1 x2 v2 = some r → lv_has ls 4 [(0, .ref qM), (1, .int x1), (2, .int x2)] → va_P G.1 vwCl [(qM, .inr (8, [.int mt, .int mw, .int mh, .int mg, .int ms, .ref qMT, .ref qMW, .ref qMK, .ref qMM, .int mv, .int md, .ref qMR, .ref qML, .ref qMP, .int mu, .ref qMY, .ref qMF, .int mo, .int mf])), (qMK, .inl (G.2.2.2.1, 16, .inl mK))] H → va_D A [(qM, .inr (8, [.int mt, .int mw, .int mh, .int mg, .int ms, .ref qMT, .ref qMW, .ref qMK, .ref qMM, .int mv, .int md, .ref qMR, .ref qML, .ref qMP, .int mu, .ref qMY, .ref qMF, .int mo, .int mf])), (qMK, .inl (G.2.2.2.1, 16, .inl mK))] → va_S A s.heap H locs → W p l e (headSpec wsX8_setLock rmX8_setLock).room s m ([.ref qM, .int x1, .int x2] : List Value).toArray below meth c H locs 0 0 Q (F0 m 14 ls [.int v2, .ref qM]) := by
    intro v2 ls H locs hq hl hP hD hS
    unfold kX8_setLock_j14 at hq
    obtain ⟨q3, eq3, hq⟩ := ob hq
    have hPc := hP.sub (ws' := [(qM, .inr (8, [.int mt, .int mw, .int mh, .int mg, .int ms, .ref qMT, .ref qMW, .ref qMK, .ref qMM, .int mv, .int md, .ref qMR, .ref qML, .ref qMP, .int mu, .ref qMY, .ref qMF, .int mo, .int mf]))]) [0] rfl
    have hKc := hK
    have hDc := hD.sub (ws' := [(qM, .inr (8, [.int mt, .int mw, .int mh, .int mg, .int ms, .ref qMT, .ref qMW, .ref qMK, .ref qMM, .int mv, .int md, .ref qMR, .ref qML, .ref qMP, .int mu, .ref qMY, .ref qMF, .int mo, .int mf]))]) [0] (by decide) rfl
    have hFc := va_free (wc := [(qM, .inr (8, [.int mt, .int mw, .int mh, .int mg, .int ms, .ref qMT, .ref qMW, .ref qMK, .ref qMM, .int mv, .int md, .ref qMR, .ref qML, .ref qMP, .int mu, .ref qMY, .ref qMF, .int mo, .int mf]))]) hD hS hA [0] rfl
    refine va_calli (va_runV (As := [.int v2]) (rest := []) ⟨hx, hb, hml, hown, hts⟩ (tX8_holds G l eq3) (cwV 1 hts gX8_setLock_X8_holds rfl rfl rfl (by decide +kernel) ⟨Nat.le_of_ble_eq_true rfl, Nat.le_of_ble_eq_true rfl⟩) ⟨pcW_blind, va_recv hKc hPc (ci := 8) (q0 := 0) rfl rfl, pcW_pre hPc hKK hDc⟩ rfl rfl hl.1 rfl (lv_room (Nat.le_of_ble_eq_true rfl)) dX8_setLock_14 ⟨Nat.zero_le _, Nat.zero_le _⟩) hS (fun q _ h => hFc q h) hFc (fun r0 u t H1 locs ht hvm hw hB hz1 hk1 hS => ?_)
    obtain rfl := hw
    have hB := va_Pto ht hB
    obtain ⟨hP, hD⟩ := jn (ws' := [(qM, .inr (8, [.int q3.2, .int mw, .int mh, .int mg, .int ms, .ref qMT, .ref qMW, .ref qMK, .ref qMM, .int mv, .int md, .ref qMR, .ref qML, .ref qMP, .int mu, .ref qMY, .ref qMF, .int mo, .int mf])), (qMK, .inl (G.2.2.2.1, 16, .inl mK))]) hP hD hk1 hB [0] rfl rfl rfl rfl
    generalize H1 = H at hP hS ⊢
    refine lv_if_ne (tgt := 22) hx hb dX8_setLock_17 (by decide) (fun c_17 => ?_) (fun c_17 => ?_)
    · have hq := k_f c_17 hq
      refine lv_aload_n hx hb dX8_setLock_22 rfl (lv_at hl 0 rfl) ?_
      refine va_get (D := G.1) (ci := 8) (v := .ref qMK) (C := RX8) (T := TX8) (N := 19) hx hb hts hi8 hown hK hP 0 rfl rfl 7 (by decide) hw0 (fun _ h9 => h9) rfl dX8_setLock_23 ?_
      refine lv_iload_n hx hb dX8_setLock_26 rfl (lv_at hl 1 rfl) ?_
      obtain ⟨hg, hq⟩ := k_g hq
      refine va_zald hx hb hK hP 1 2 rfl rfl (ix_in hg) dX8_setLock_27 ?_
      refine lv_istore_n (lv' := [(3, .int (mK x1.toNatClampNeg)), (0, .ref qM), (1, .int x1), (2, .int x2)]) hx hb dX8_setLock_28 rfl hl (by decide) rfl (fun ls hl => ?_)
      refine lv_aload_n hx hb dX8_setLock_29 rfl (lv_at hl 1 rfl) ?_
      refine va_get (D := G.1) (ci := 8) (v := .ref qMK) (C := RX8) (T := TX8) (N := 19) hx hb hts hi8 hown hK hP 0 rfl rfl 7 (by decide) hw0 (fun _ h9 => h9) rfl dX8_setLock_30 ?_
      refine lv_iload_n hx hb dX8_setLock_33 rfl (lv_at hl 2 rfl) ?_
      refine lv_iload_n hx hb dX8_setLock_34 rfl (lv_at hl 3 rfl) ?_
      obtain ⟨hg, hq⟩ := k_g hq
      refine va_zast hx hb hK hP hD hS 1 2 rfl rfl (ix_in hg) dX8_setLock_35 (fun H locs hP hD hS => ?_)
      have hP : va_P G.1 vwCl [(qM, .inr (8, [.int q3.2, .int mw, .int mh, .int mg, .int ms, .ref qMT, .ref qMW, .ref qMK, .ref qMM, .int mv, .int md, .ref qMR, .ref qML, .ref qMP, .int mu, .ref qMY, .ref qMF, .int mo, .int mf])), (qMK, .inl (G.2.2.2.1, 16, .inl (upd mK x1.toNatClampNeg (vp_nar .boolean x2))))] H := hP
      have hD : va_D A [(qM, .inr (8, [.int q3.2, .int mw, .int mh, .int mg, .int ms, .ref qMT, .ref qMW, .ref qMK, .ref qMM, .int mv, .int md, .ref qMR, .ref qML, .ref qMP, .int mu, .ref qMY, .ref qMF, .int mo, .int mf])), (qMK, .inl (G.2.2.2.1, 16, .inl (upd mK x1.toNatClampNeg (vp_nar .boolean x2))))] := hD
      refine lv_iload_n hx hb dX8_setLock_36 rfl (lv_at hl 0 rfl) ?_
      obtain ⟨hg, hq⟩ := k_g hq
      obtain rfl := Option.some.inj hq
      rw [hQ]
      exact W.zret hx hb hr (isZ_n hg) (fun t ht hW => ⟨⟨_, (), rfl, rfl, va_Pat ht hP⟩, hS.F ht⟩) hS.2.2 dX8_setLock_37
    · have hq := k_t c_17 hq
      refine lv_iconst (v := 0) hx hb dX8_setLock_20 (by decide) ?_
      obtain rfl := Option.some.inj hq
      rw [hQ]
      exact W.zret hx hb hr rfl (fun t ht hW => ⟨⟨_, (), rfl, rfl, va_Pat ht hP⟩, hS.F ht⟩) hS.2.2 dX8_setLock_21
  refine lv_if_eq (tgt := 13) hx hb dX8_setLock_6 (by decide) (fun c_6 => ?_) (fun c_6 => ?_)
  · have hq := k_t c_6 hq
    refine lv_iconst (v := 1) hx hb dX8_setLock_13 (by decide) ?_
    exact J14 1 ls _ _ hq (lv_sub hl [0, 1, 2] rfl) hP hD hS
  · have hq := k_f c_6 hq
    refine lv_iconst (v := 0) hx hb dX8_setLock_9 (by decide) ?_
    refine lv_goto (tgt := 14) hx hb dX8_setLock_10 (by decide) ?_
    exact J14 0 ls _ _ hq (lv_sub hl [0, 1, 2] rfl) hP hD hS

abbrev rmX8_setSource : Room := { frames := 2, cells := 0, slots := 0, locals := 41 }
set_option maxHeartbeats 40000000 in
set_option maxRecDepth 100000 in
theorem tX8_setSource (G : GG) (l : Launch) {qM qMT qMW qMK qMM qMR qML qMP qMY qMF : Nat} {mt : Int32} {mw : Int32} {mh : Int32} {mg : Int32} {ms : Int32} {mv : Int32} {md : Int32} {mu : Int32} {mo : Int32} {mf : Int32} {x1 : Int32} {sz : Nat} {F : Nat} {r : Int32 × Int32 × Int32} (hq : kX8_setSource F mt mw mh ms x1 = some r) : Met l yX8_setSource wsX8_setSource rmX8_setSource (pcW G [(qM, .inr (8, [.int mt, .int mw, .int mh, .int mg, .int ms, .ref qMT, .ref qMW, .ref qMK, .ref qMM, .int mv, .int md, .ref qMR, .ref qML, .ref qMP, .int mu, .ref qMY, .ref qMF, .int mo, .int mf]))] sz [.ref qM, .int x1]) (qcI G r.1 [(qM, .inr (8, [.int r.2.1, .int mw, .int mh, .int mg, .int r.2.2, .ref qMT, .ref qMW, .ref qMK, .ref qMM, .int mv, .int md, .ref qMR, .ref qML, .ref qMP, .int mu, .ref qMY, .ref qMF, .int mo, .int mf]))] (va_A [(qM, .inr (8, [.int mt, .int mw, .int mh, .int mg, .int ms, .ref qMT, .ref qMW, .ref qMK, .ref qMM, .int mv, .int md, .ref qMR, .ref qML, .ref qMP, .int mu, .ref qMY, .ref qMF, .int mo, .int mf]))] sz)) 0 0 (va_A [(qM, .inr (8, [.int mt, .int mw, .int mh, .int mg, .int ms, .ref qMT, .ref qMW, .ref qMK, .ref qMM, .int mv, .int md, .ref qMR, .ref qML, .ref qMP, .int mu, .ref qMY, .ref qMF, .int mo, .int mf]))] sz) := by
  refine Met.ofW (cc := cX8_setSource) (maxL := 3) (ret := (some .int)) (by decide) rfl ?_
  intro p e s m args below meth c s₁ B hml hv
  obtain ⟨rfl, hsz, hP, hKK, hD0⟩ := hv
  have hK := hKK.1
  have hx := B.exec
  have hb := B.bytes
  have hr := B.returns
  have hts := atoms_spec (ws := wsX8_setSource) B.pre
  have hown : s.vm.findClass RX8 = some m.cls := findClass_of_methodNamed B.named
  have hlocks := B.notSynchronized
  subst hsz
  have hD := hD0.self (sz := s.heap.size)
  generalize hAe : va_A [(qM, .inr (8, [.int mt, .int mw, .int mh, .int mg, .int ms, .ref qMT, .ref qMW, .ref qMK, .ref qMM, .int mv, .int md, .ref qMR, .ref qML, .ref qMP, .int mu, .ref qMY, .ref qMF, .int mo, .int mf]))] s.heap.size = A at hD ⊢
  have hA : ∀ q : Nat, s.heap.size ≤ q → A q := fun q h => by rw [← hAe]; exact Or.inr h
  have hS : va_S A s.heap s.heap [] := va_S.rf
  have hl := lv_entry ([.ref qM, .int x1] : List Value) (n := 3) (Nat.le_of_ble_eq_true rfl)
  rw [lg_entry_eq]
  generalize (lg_sl ([.ref qM, .int x1] : List Value) ++ List.replicate (3 - (lg_sl ([.ref qM, .int x1] : List Value)).length) Slot.unset).toArray = ls at hl ⊢
  have hl : lv_has ls 3 [(0, .ref qM), (1, .int x1)] := hl
  have hi8 : ∀ w ∈ u_ws RX8 TX8 19, w ∈ wsX8_setSource := by decide +kernel
  have hw0 : (Cond.fieldLink RX8 56 "NetPlumberModel" "source" "I").before #[Value.ref qM, Value.int x1] s = true := hts _ (by decide +kernel)
  refine wq (fun Q hQ => ?_)
  unfold kX8_setSource at hq
  refine lv_aload_n hx hb dX8_setSource_0 rfl (lv_at hl 0 rfl) ?_
  refine lv_aload_n hx hb dX8_setSource_1 rfl (lv_at hl 0 rfl) ?_
  refine lv_iload_n hx hb dX8_setSource_2 rfl (lv_at hl 1 rfl) ?_
  obtain ⟨q1, eq1, hq⟩ := ob hq
  have hPc := hP.sub (ws' := [(qM, .inr (8, [.int mt, .int mw, .int mh, .int mg, .int ms, .ref qMT, .ref qMW, .ref qMK, .ref qMM, .int mv, .int md, .ref qMR, .ref qML, .ref qMP, .int mu, .ref qMY, .ref qMF, .int mo, .int mf]))]) [0] rfl
  have hKc := hK
  refine vp_callSi (va_Run.run (va_runV (As := [.int x1]) (rest := [.ref qM]) ⟨hx, hb, hml, hown, hts⟩ (tX8_isCell G l eq1) (cwV 1 hts gX8_setSource_X8_isCell rfl rfl rfl (by decide +kernel) ⟨Nat.le_of_ble_eq_true rfl, Nat.le_of_ble_eq_true rfl⟩) ⟨pcP_blind, va_recv hKc hPc (ci := 8) (q0 := 0) rfl rfl, pcP_pre hPc hKK⟩ rfl rfl hl.1 rfl (lv_room (Nat.le_of_ble_eq_true rfl)) dX8_setSource_3 ⟨Nat.zero_le _, Nat.zero_le _⟩)) (fun r0 hr0 => ?_)
  obtain rfl := hr0
  have J14 : ∀ (v2 : Int32) (ls : Array Slot) (H : Heap) (locs : List Loc), kX8_setSource_j14 F mt ms x1 v2 = some r → lv_has ls 3 [(0, .ref qM), (1, .int x1)] → va_P G.1 vwCl [(qM, .inr (8, [.int mt, .int mw, .int mh, .int mg, .int ms, .ref qMT, .ref qMW, .ref qMK, .ref qMM, .int mv, .int md, .ref qMR, .ref qML, .ref qMP, .int mu, .ref qMY, .ref qMF, .int mo, .int mf]))] H → va_D A [(qM, .inr (8, [.int mt, .int mw, .int mh, .int mg, .int ms, .ref qMT, .ref qMW, .ref qMK, .ref qMM, .int mv, .int md, .ref qMR, .ref qML, .ref qMP, .int mu, .ref qMY, .ref qMF, .int mo, .int mf]))] → va_S A s.heap H locs → W p l e (headSpec wsX8_setSource rmX8_setSource).room s m ([.ref qM, .int x1] : List Value).toArray below meth c H locs 0 0 Q (F0 m 14 ls [.int v2, .ref qM]) := by
    intro v2 ls H locs hq hl hP hD hS
    unfold kX8_setSource_j14 at hq
    obtain ⟨q3, eq3, hq⟩ := ob hq
    have hPc := hP.sub (ws' := [(qM, .inr (8, [.int mt, .int mw, .int mh, .int mg, .int ms, .ref qMT, .ref qMW, .ref qMK, .ref qMM, .int mv, .int md, .ref qMR, .ref qML, .ref qMP, .int mu, .ref qMY, .ref qMF, .int mo, .int mf]))]) [0] rfl
    have hKc := hK
    have hDc := hD.sub (ws' := [(qM, .inr (8, [.int mt, .int mw, .int mh, .int mg, .int ms, .ref qMT, .ref qMW, .ref qMK, .ref qMM, .int mv, .int md, .ref qMR, .ref qML, .ref qMP, .int mu, .ref qMY, .ref qMF, .int mo, .int mf]))]) [0] (by decide) rfl
    have hFc := va_free (wc := [(qM, .inr (8, [.int mt, .int mw, .int mh, .int mg, .int ms, .ref qMT, .ref qMW, .ref qMK, .ref qMM, .int mv, .int md, .ref qMR, .ref qML, .ref qMP, .int mu, .ref qMY, .ref qMF, .int mo, .int mf]))]) hD hS hA [0] rfl
    refine va_calli (va_runV (As := [.int v2]) (rest := []) ⟨hx, hb, hml, hown, hts⟩ (tX8_holds G l eq3) (cwV 1 hts gX8_setSource_X8_holds rfl rfl rfl (by decide +kernel) ⟨Nat.le_of_ble_eq_true rfl, Nat.le_of_ble_eq_true rfl⟩) ⟨pcW_blind, va_recv hKc hPc (ci := 8) (q0 := 0) rfl rfl, pcW_pre hPc hKK hDc⟩ rfl rfl hl.1 rfl (lv_room (Nat.le_of_ble_eq_true rfl)) dX8_setSource_14 ⟨Nat.zero_le _, Nat.zero_le _⟩) hS (fun q _ h => hFc q h) hFc (fun r0 u t H1 locs ht hvm hw hB hz1 hk1 hS => ?_)
    obtain rfl := hw
    have hB := va_Pto ht hB
    obtain ⟨hP, hD⟩ := jn (ws' := [(qM, .inr (8, [.int q3.2, .int mw, .int mh, .int mg, .int ms, .ref qMT, .ref qMW, .ref qMK, .ref qMM, .int mv, .int md, .ref qMR, .ref qML, .ref qMP, .int mu, .ref qMY, .ref qMF, .int mo, .int mf]))]) hP hD hk1 hB [0] rfl rfl rfl rfl
    generalize H1 = H at hP hS ⊢
    refine lv_if_ne (tgt := 22) hx hb dX8_setSource_17 (by decide) (fun c_17 => ?_) (fun c_17 => ?_)
    · have hq := k_f c_17 hq
      refine lv_aload_n hx hb dX8_setSource_22 rfl (lv_at hl 0 rfl) ?_
      refine va_get (D := G.1) (ci := 8) (v := .int ms) (C := RX8) (T := TX8) (N := 19) hx hb hts hi8 hown hK hP 0 rfl rfl 4 (by decide) hw0 (fun _ h9 => h9) rfl dX8_setSource_23 ?_
      refine lv_istore_n (lv' := [(2, .int ms), (0, .ref qM), (1, .int x1)]) hx hb dX8_setSource_26 rfl hl (by decide) rfl (fun ls hl => ?_)
      refine lv_aload_n hx hb dX8_setSource_27 rfl (lv_at hl 1 rfl) ?_
      refine lv_iload_n hx hb dX8_setSource_28 rfl (lv_at hl 2 rfl) ?_
      refine va_put (D := G.1) (ci := 8) (v := .int x1) (ty := .int) (C := RX8) (T := TX8) (N := 19) hx hb hts hi8 tyX8 tyX8_ok nmX8 hown hK hP hD hS 0 rfl rfl 4 (by decide) hw0 (fun _ h9 => h9) rfl (by decide +kernel) rfl rfl (Nat.le_of_ble_eq_true rfl) dX8_setSource_29 (fun H locs hP hD hS => ?_)
      have hP : va_P G.1 vwCl [(qM, .inr (8, [.int q3.2, .int mw, .int mh, .int mg, .int x1, .ref qMT, .ref qMW, .ref qMK, .ref qMM, .int mv, .int md, .ref qMR, .ref qML, .ref qMP, .int mu, .ref qMY, .ref qMF, .int mo, .int mf]))] H := hP
      have hD : va_D A [(qM, .inr (8, [.int q3.2, .int mw, .int mh, .int mg, .int x1, .ref qMT, .ref qMW, .ref qMK, .ref qMM, .int mv, .int md, .ref qMR, .ref qML, .ref qMP, .int mu, .ref qMY, .ref qMF, .int mo, .int mf]))] := hD
      refine lv_iload_n hx hb dX8_setSource_32 rfl (lv_at hl 0 rfl) ?_
      obtain rfl := Option.some.inj hq
      rw [hQ]
      exact W.iret hx hb hr (fun t ht hW => ⟨⟨_, (), rfl, rfl, va_Pat ht hP⟩, hS.F ht⟩) hS.2.2 dX8_setSource_33
    · have hq := k_t c_17 hq
      refine lv_iconst (v := 0) hx hb dX8_setSource_20 (by decide) ?_
      obtain rfl := Option.some.inj hq
      rw [hQ]
      exact W.iret hx hb hr (fun t ht hW => ⟨⟨_, (), rfl, rfl, va_Pat ht hP⟩, hS.F ht⟩) hS.2.2 dX8_setSource_21
  refine lv_if_eq (tgt := 13) hx hb dX8_setSource_6 (by decide) (fun c_6 => ?_) (fun c_6 => ?_)
  · have hq := k_t c_6 hq
    refine lv_iconst (v := 1) hx hb dX8_setSource_13 (by decide) ?_
    exact J14 1 ls _ _ hq (lv_sub hl [0, 1] rfl) hP hD hS
  · have hq := k_f c_6 hq
    refine lv_iconst (v := 0) hx hb dX8_setSource_9 (by decide) ?_
    refine lv_goto (tgt := 14) hx hb dX8_setSource_10 (by decide) ?_
    exact J14 0 ls _ _ hq (lv_sub hl [0, 1] rfl) hP hD hS

abbrev rmX8_turn : Room := { frames := 2, cells := 0, slots := 0, locals := 41 }
set_option maxHeartbeats 40000000 in
set_option maxRecDepth 100000 in
theorem tX8_turn (G : GG) (l : Launch) {qM qMT qMW qMK qMM qMR qML qMP qMY qMF : Nat} {mt : Int32} {mw : Int32} {mh : Int32} {mg : Int32} {ms : Int32} {mv : Int32} {md : Int32} {mu : Int32} {mo : Int32} {mf : Int32} {mT : Nat → Int32} {mK : Nat → Int32} {mM : Nat → Int32} {x1 : Int32} {sz : Nat} {F : Nat} {r : Int32 × Int32 × Int32 × Int32 × (Nat → Int32) × (Nat → Int32)} (hq : kX8_turn F mt mw mh mv md mT mK mM x1 = some r) : Met l yX8_turn wsX8_turn rmX8_turn (pcW G [(qM, .inr (8, [.int mt, .int mw, .int mh, .int mg, .int ms, .ref qMT, .ref qMW, .ref qMK, .ref qMM, .int mv, .int md, .ref qMR, .ref qML, .ref qMP, .int mu, .ref qMY, .ref qMF, .int mo, .int mf])), (qMT, .inl (G.2.1, 16, .inl mT)), (qMK, .inl (G.2.2.2.1, 16, .inl mK)), (qMM, .inl (G.2.1, 4096, .inl mM))] sz [.ref qM, .int x1]) (qcI G r.1 [(qM, .inr (8, [.int r.2.1, .int mw, .int mh, .int mg, .int ms, .ref qMT, .ref qMW, .ref qMK, .ref qMM, .int r.2.2.1, .int r.2.2.2.1, .ref qMR, .ref qML, .ref qMP, .int mu, .ref qMY, .ref qMF, .int mo, .int mf])), (qMT, .inl (G.2.1, 16, .inl r.2.2.2.2.1)), (qMK, .inl (G.2.2.2.1, 16, .inl mK)), (qMM, .inl (G.2.1, 4096, .inl r.2.2.2.2.2))] (va_A [(qM, .inr (8, [.int mt, .int mw, .int mh, .int mg, .int ms, .ref qMT, .ref qMW, .ref qMK, .ref qMM, .int mv, .int md, .ref qMR, .ref qML, .ref qMP, .int mu, .ref qMY, .ref qMF, .int mo, .int mf])), (qMT, .inl (G.2.1, 16, .inl mT)), (qMK, .inl (G.2.2.2.1, 16, .inl mK)), (qMM, .inl (G.2.1, 4096, .inl mM))] sz)) 0 0 (va_A [(qM, .inr (8, [.int mt, .int mw, .int mh, .int mg, .int ms, .ref qMT, .ref qMW, .ref qMK, .ref qMM, .int mv, .int md, .ref qMR, .ref qML, .ref qMP, .int mu, .ref qMY, .ref qMF, .int mo, .int mf])), (qMT, .inl (G.2.1, 16, .inl mT)), (qMK, .inl (G.2.2.2.1, 16, .inl mK)), (qMM, .inl (G.2.1, 4096, .inl mM))] sz) := by
  refine Met.ofW (cc := cX8_turn) (maxL := 3) (ret := (some .int)) (by decide) rfl ?_
  intro p e s m args below meth c s₁ B hml hv
  obtain ⟨rfl, hsz, hP, hKK, hD0⟩ := hv
  have hK := hKK.1
  have hx := B.exec
  have hb := B.bytes
  have hr := B.returns
  have hts := atoms_spec (ws := wsX8_turn) B.pre
  have hown : s.vm.findClass RX8 = some m.cls := findClass_of_methodNamed B.named
  have hlocks := B.notSynchronized
  subst hsz
  have hD := hD0.self (sz := s.heap.size)
  generalize hAe : va_A [(qM, .inr (8, [.int mt, .int mw, .int mh, .int mg, .int ms, .ref qMT, .ref qMW, .ref qMK, .ref qMM, .int mv, .int md, .ref qMR, .ref qML, .ref qMP, .int mu, .ref qMY, .ref qMF, .int mo, .int mf])), (qMT, .inl (G.2.1, 16, .inl mT)), (qMK, .inl (G.2.2.2.1, 16, .inl mK)), (qMM, .inl (G.2.1, 4096, .inl mM))] s.heap.size = A at hD ⊢
  have hA : ∀ q : Nat, s.heap.size ≤ q → A q := fun q h => by rw [← hAe]; exact Or.inr h
  have hS : va_S A s.heap s.heap [] := va_S.rf
  have hl := lv_entry ([.ref qM, .int x1] : List Value) (n := 3) (Nat.le_of_ble_eq_true rfl)
  rw [lg_entry_eq]
  generalize (lg_sl ([.ref qM, .int x1] : List Value) ++ List.replicate (3 - (lg_sl ([.ref qM, .int x1] : List Value)).length) Slot.unset).toArray = ls at hl ⊢
  have hl : lv_has ls 3 [(0, .ref qM), (1, .int x1)] := hl
  have hi8 : ∀ w ∈ u_ws RX8 TX8 19, w ∈ wsX8_turn := by decide +kernel
  have hw0 : (Cond.fieldLink RX8 23 "NetPlumberModel" "locked" "[Z").before #[Value.ref qM, Value.int x1] s = true := hts _ (by decide +kernel)
  have hw1 : (Cond.fieldLink RX8 16 "NetPlumberModel" "tiles" "[I").before #[Value.ref qM, Value.int x1] s = true := hts _ (by decide +kernel)
  have hw2 : (Cond.fieldLink RX8 27 "NetPlumberModel" "moved" "[I").before #[Value.ref qM, Value.int x1] s = true := hts _ (by decide +kernel)
  have hw3 : (Cond.fieldLink RX8 62 "NetPlumberModel" "done" "I").before #[Value.ref qM, Value.int x1] s = true := hts _ (by decide +kernel)
  have hw4 : (Cond.fieldLink RX8 59 "NetPlumberModel" "moves" "I").before #[Value.ref qM, Value.int x1] s = true := hts _ (by decide +kernel)
  refine wq (fun Q hQ => ?_)
  unfold kX8_turn at hq
  refine lv_aload_n hx hb dX8_turn_0 rfl (lv_at hl 0 rfl) ?_
  refine lv_iload_n hx hb dX8_turn_1 rfl (lv_at hl 1 rfl) ?_
  obtain ⟨q1, eq1, hq⟩ := ob hq
  have hPc := hP.sub (ws' := [(qM, .inr (8, [.int mt, .int mw, .int mh, .int mg, .int ms, .ref qMT, .ref qMW, .ref qMK, .ref qMM, .int mv, .int md, .ref qMR, .ref qML, .ref qMP, .int mu, .ref qMY, .ref qMF, .int mo, .int mf]))]) [0] rfl
  have hKc := hK
  refine vp_callSi (va_Run.run (va_runV (As := [.int x1]) (rest := []) ⟨hx, hb, hml, hown, hts⟩ (tX8_isCell G l eq1) (cwV 1 hts gX8_turn_X8_isCell rfl rfl rfl (by decide +kernel) ⟨Nat.le_of_ble_eq_true rfl, Nat.le_of_ble_eq_true rfl⟩) ⟨pcP_blind, va_recv hKc hPc (ci := 8) (q0 := 0) rfl rfl, pcP_pre hPc hKK⟩ rfl rfl hl.1 rfl (lv_room (Nat.le_of_ble_eq_true rfl)) dX8_turn_2 ⟨Nat.zero_le _, Nat.zero_le _⟩)) (fun r0 hr0 => ?_)
  obtain rfl := hr0
  refine lv_istore_n (lv' := [(2, .int q1), (0, .ref qM), (1, .int x1)]) hx hb dX8_turn_5 rfl hl (by decide) rfl (fun ls hl => ?_)
  refine lv_aload_n hx hb dX8_turn_6 rfl (lv_at hl 1 rfl) ?_
  refine lv_iload_n hx hb dX8_turn_7 rfl (lv_at hl 0 rfl) ?_
  have J29 : ∀ (v2 : Int32) (ls : Array Slot) (H : Heap) (locs : List Loc), kX8_turn_j29 F mt mv md mT mM x1 v2 = some r → lv_has ls 3 [(0, .ref qM), (1, .int x1)] → va_P G.1 vwCl [(qM, .inr (8, [.int mt, .int mw, .int mh, .int mg, .int ms, .ref qMT, .ref qMW, .ref qMK, .ref qMM, .int mv, .int md, .ref qMR, .ref qML, .ref qMP, .int mu, .ref qMY, .ref qMF, .int mo, .int mf])), (qMT, .inl (G.2.1, 16, .inl mT)), (qMK, .inl (G.2.2.2.1, 16, .inl mK)), (qMM, .inl (G.2.1, 4096, .inl mM))] H → va_D A [(qM, .inr (8, [.int mt, .int mw, .int mh, .int mg, .int ms, .ref qMT, .ref qMW, .ref qMK, .ref qMM, .int mv, .int md, .ref qMR, .ref qML, .ref qMP, .int mu, .ref qMY, .ref qMF, .int mo, .int mf])), (qMT, .inl (G.2.1, 16, .inl mT)), (qMK, .inl (G.2.2.2.1, 16, .inl mK)), (qMM, .inl (G.2.1, 4096, .inl mM))] → va_S A s.heap H locs → W p l e (headSpec wsX8_turn rmX8_turn).room s m ([.ref qM, .int x1] : List Value).toArray below meth c H locs 0 0 Q (F0 m 29 ls [.int v2, .ref qM]) := by
    intro v2 ls H locs hq hl hP hD hS
    unfold kX8_turn_j29 at hq
    obtain ⟨q3, eq3, hq⟩ := ob hq
    have hPc := hP.sub (ws' := [(qM, .inr (8, [.int mt, .int mw, .int mh, .int mg, .int ms, .ref qMT, .ref qMW, .ref qMK, .ref qMM, .int mv, .int md, .ref qMR, .ref qML, .ref qMP, .int mu, .ref qMY, .ref qMF, .int mo, .int mf]))]) [0] rfl
    have hKc := hK
    have hDc := hD.sub (ws' := [(qM, .inr (8, [.int mt, .int mw, .int mh, .int mg, .int ms, .ref qMT, .ref qMW, .ref qMK, .ref qMM, .int mv, .int md, .ref qMR, .ref qML, .ref qMP, .int mu, .ref qMY, .ref qMF, .int mo, .int mf]))]) [0] (by decide) rfl
    have hFc := va_free (wc := [(qM, .inr (8, [.int mt, .int mw, .int mh, .int mg, .int ms, .ref qMT, .ref qMW, .ref qMK, .ref qMM, .int mv, .int md, .ref qMR, .ref qML, .ref qMP, .int mu, .ref qMY, .ref qMF, .int mo, .int mf]))]) hD hS hA [0] rfl
    refine va_calli (va_runV (As := [.int v2]) (rest := []) ⟨hx, hb, hml, hown, hts⟩ (tX8_holds G l eq3) (cwV 1 hts gX8_turn_X8_holds rfl rfl rfl (by decide +kernel) ⟨Nat.le_of_ble_eq_true rfl, Nat.le_of_ble_eq_true rfl⟩) ⟨pcW_blind, va_recv hKc hPc (ci := 8) (q0 := 0) rfl rfl, pcW_pre hPc hKK hDc⟩ rfl rfl hl.1 rfl (lv_room (Nat.le_of_ble_eq_true rfl)) dX8_turn_29 ⟨Nat.zero_le _, Nat.zero_le _⟩) hS (fun q _ h => hFc q h) hFc (fun r0 u t H1 locs ht hvm hw hB hz1 hk1 hS => ?_)
    obtain rfl := hw
    have hB := va_Pto ht hB
    obtain ⟨hP, hD⟩ := jn (ws' := [(qM, .inr (8, [.int q3.2, .int mw, .int mh, .int mg, .int ms, .ref qMT, .ref qMW, .ref qMK, .ref qMM, .int mv, .int md, .ref qMR, .ref qML, .ref qMP, .int mu, .ref qMY, .ref qMF, .int mo, .int mf])), (qMT, .inl (G.2.1, 16, .inl mT)), (qMK, .inl (G.2.2.2.1, 16, .inl mK)), (qMM, .inl (G.2.1, 4096, .inl mM))]) hP hD hk1 hB [0] rfl rfl rfl rfl
    generalize H1 = H at hP hS ⊢
    refine lv_if_ne (tgt := 37) hx hb dX8_turn_32 (by decide) (fun c_32 => ?_) (fun c_32 => ?_)
    · have hq := k_f c_32 hq
      refine lv_aload_n hx hb dX8_turn_37 rfl (lv_at hl 0 rfl) ?_
      refine va_get (D := G.1) (ci := 8) (v := .ref qMT) (C := RX8) (T := TX8) (N := 19) hx hb hts hi8 hown hK hP 0 rfl rfl 5 (by decide) hw1 (fun _ h9 => h9) rfl dX8_turn_38 ?_
      refine lv_iload_n hx hb dX8_turn_41 rfl (lv_at hl 1 rfl) ?_
      refine lv_aload_n hx hb dX8_turn_42 rfl (lv_at hl 0 rfl) ?_
      refine va_get (D := G.1) (ci := 8) (v := .ref qMT) (C := RX8) (T := TX8) (N := 19) hx hb hts hi8 hown hK hP 0 rfl rfl 5 (by decide) hw1 (fun _ h9 => h9) rfl dX8_turn_43 ?_
      refine lv_iload_n hx hb dX8_turn_46 rfl (lv_at hl 1 rfl) ?_
      obtain ⟨hg, hq⟩ := k_g hq
      refine va_iald hx hb hK hP 1 0 rfl rfl (ix_in hg) dX8_turn_47 ?_
      refine lv_iconst (v := 1) hx hb dX8_turn_48 (by decide) ?_
      obtain ⟨q4, eq4, hq⟩ := ob hq
      have hPc := hP.sub (ws' := []) [] rfl
      refine vp_callSi (va_Run.run (va_runS (As := [.int (mT x1.toNatClampNeg), .int 1]) (rest := [.int x1, .ref qMT]) ⟨hx, hb, hml, hown, hts⟩ (tX8_turned G l eq4) (va_cwS 2 hts gX8_turn_X8_turned rfl rfl rfl (by decide +kernel) ⟨Nat.le_of_ble_eq_true rfl, Nat.le_of_ble_eq_true rfl⟩) ⟨pcP_blind, pcP_pre hPc hKK⟩ rfl rfl hl.1 rfl (lv_room (Nat.le_of_ble_eq_true rfl)) dX8_turn_49 ⟨Nat.zero_le _, Nat.zero_le _⟩)) (fun r0 hr0 => ?_)
      obtain rfl := hr0
      obtain ⟨hg, hq⟩ := k_g hq
      refine va_iast hx hb hK hP hD hS 1 0 rfl rfl (ix_in hg) dX8_turn_52 (fun H locs hP hD hS => ?_)
      have hP : va_P G.1 vwCl [(qM, .inr (8, [.int q3.2, .int mw, .int mh, .int mg, .int ms, .ref qMT, .ref qMW, .ref qMK, .ref qMM, .int mv, .int md, .ref qMR, .ref qML, .ref qMP, .int mu, .ref qMY, .ref qMF, .int mo, .int mf])), (qMT, .inl (G.2.1, 16, .inl (upd mT x1.toNatClampNeg q4))), (qMK, .inl (G.2.2.2.1, 16, .inl mK)), (qMM, .inl (G.2.1, 4096, .inl mM))] H := hP
      have hD : va_D A [(qM, .inr (8, [.int q3.2, .int mw, .int mh, .int mg, .int ms, .ref qMT, .ref qMW, .ref qMK, .ref qMM, .int mv, .int md, .ref qMR, .ref qML, .ref qMP, .int mu, .ref qMY, .ref qMF, .int mo, .int mf])), (qMT, .inl (G.2.1, 16, .inl (upd mT x1.toNatClampNeg q4))), (qMK, .inl (G.2.2.2.1, 16, .inl mK)), (qMM, .inl (G.2.1, 4096, .inl mM))] := hD
      refine lv_aload_n hx hb dX8_turn_53 rfl (lv_at hl 0 rfl) ?_
      refine va_get (D := G.1) (ci := 8) (v := .ref qMM) (C := RX8) (T := TX8) (N := 19) hx hb hts hi8 hown hK hP 0 rfl rfl 8 (by decide) hw2 (fun _ h9 => h9) rfl dX8_turn_54 ?_
      refine lv_aload_n hx hb dX8_turn_57 rfl (lv_at hl 0 rfl) ?_
      refine va_get (D := G.1) (ci := 8) (v := .int md) (C := RX8) (T := TX8) (N := 19) hx hb hts hi8 hown hK hP 0 rfl rfl 10 (by decide) hw3 (fun _ h9 => h9) rfl dX8_turn_58 ?_
      refine lv_sipush (v := 4096) hx hb dX8_turn_61 (by decide) ?_
      refine lv_irem hx hb dX8_turn_64 (by decide) ?_
      refine lv_iload_n hx hb dX8_turn_65 rfl (lv_at hl 1 rfl) ?_
      obtain ⟨hg, hq⟩ := k_g hq
      refine va_iast hx hb hK hP hD hS 3 0 rfl rfl (ix_in hg) dX8_turn_66 (fun H locs hP hD hS => ?_)
      have hP : va_P G.1 vwCl [(qM, .inr (8, [.int q3.2, .int mw, .int mh, .int mg, .int ms, .ref qMT, .ref qMW, .ref qMK, .ref qMM, .int mv, .int md, .ref qMR, .ref qML, .ref qMP, .int mu, .ref qMY, .ref qMF, .int mo, .int mf])), (qMT, .inl (G.2.1, 16, .inl (upd mT x1.toNatClampNeg q4))), (qMK, .inl (G.2.2.2.1, 16, .inl mK)), (qMM, .inl (G.2.1, 4096, .inl (upd mM (md - md / 4096 * 4096).toNatClampNeg x1)))] H := hP
      have hD : va_D A [(qM, .inr (8, [.int q3.2, .int mw, .int mh, .int mg, .int ms, .ref qMT, .ref qMW, .ref qMK, .ref qMM, .int mv, .int md, .ref qMR, .ref qML, .ref qMP, .int mu, .ref qMY, .ref qMF, .int mo, .int mf])), (qMT, .inl (G.2.1, 16, .inl (upd mT x1.toNatClampNeg q4))), (qMK, .inl (G.2.2.2.1, 16, .inl mK)), (qMM, .inl (G.2.1, 4096, .inl (upd mM (md - md / 4096 * 4096).toNatClampNeg x1)))] := hD
      refine lv_aload_n hx hb dX8_turn_67 rfl (lv_at hl 0 rfl) ?_
      refine lv_dup hx hb dX8_turn_68 rfl ?_
      refine va_get (D := G.1) (ci := 8) (v := .int md) (C := RX8) (T := TX8) (N := 19) hx hb hts hi8 hown hK hP 0 rfl rfl 10 (by decide) hw3 (fun _ h9 => h9) rfl dX8_turn_69 ?_
      refine lv_iconst (v := 1) hx hb dX8_turn_72 (by decide) ?_
      refine lv_iadd hx hb dX8_turn_73 ?_
      refine va_put (D := G.1) (ci := 8) (v := .int (md + 1)) (ty := .int) (C := RX8) (T := TX8) (N := 19) hx hb hts hi8 tyX8 tyX8_ok nmX8 hown hK hP hD hS 0 rfl rfl 10 (by decide) hw3 (fun _ h9 => h9) rfl (by decide +kernel) rfl rfl (Nat.le_of_ble_eq_true rfl) dX8_turn_74 (fun H locs hP hD hS => ?_)
      have hP : va_P G.1 vwCl [(qM, .inr (8, [.int q3.2, .int mw, .int mh, .int mg, .int ms, .ref qMT, .ref qMW, .ref qMK, .ref qMM, .int mv, .int (md + 1), .ref qMR, .ref qML, .ref qMP, .int mu, .ref qMY, .ref qMF, .int mo, .int mf])), (qMT, .inl (G.2.1, 16, .inl (upd mT x1.toNatClampNeg q4))), (qMK, .inl (G.2.2.2.1, 16, .inl mK)), (qMM, .inl (G.2.1, 4096, .inl (upd mM (md - md / 4096 * 4096).toNatClampNeg x1)))] H := hP
      have hD : va_D A [(qM, .inr (8, [.int q3.2, .int mw, .int mh, .int mg, .int ms, .ref qMT, .ref qMW, .ref qMK, .ref qMM, .int mv, .int (md + 1), .ref qMR, .ref qML, .ref qMP, .int mu, .ref qMY, .ref qMF, .int mo, .int mf])), (qMT, .inl (G.2.1, 16, .inl (upd mT x1.toNatClampNeg q4))), (qMK, .inl (G.2.2.2.1, 16, .inl mK)), (qMM, .inl (G.2.1, 4096, .inl (upd mM (md - md / 4096 * 4096).toNatClampNeg x1)))] := hD
      refine lv_aload_n hx hb dX8_turn_77 rfl (lv_at hl 0 rfl) ?_
      refine lv_aload_n hx hb dX8_turn_78 rfl (lv_at hl 0 rfl) ?_
      refine va_get (D := G.1) (ci := 8) (v := .int (md + 1)) (C := RX8) (T := TX8) (N := 19) hx hb hts hi8 hown hK hP 0 rfl rfl 10 (by decide) hw3 (fun _ h9 => h9) rfl dX8_turn_79 ?_
      refine va_put (D := G.1) (ci := 8) (v := .int (md + 1)) (ty := .int) (C := RX8) (T := TX8) (N := 19) hx hb hts hi8 tyX8 tyX8_ok nmX8 hown hK hP hD hS 0 rfl rfl 9 (by decide) hw4 (fun _ h9 => h9) rfl (by decide +kernel) rfl rfl (Nat.le_of_ble_eq_true rfl) dX8_turn_82 (fun H locs hP hD hS => ?_)
      have hP : va_P G.1 vwCl [(qM, .inr (8, [.int q3.2, .int mw, .int mh, .int mg, .int ms, .ref qMT, .ref qMW, .ref qMK, .ref qMM, .int (md + 1), .int (md + 1), .ref qMR, .ref qML, .ref qMP, .int mu, .ref qMY, .ref qMF, .int mo, .int mf])), (qMT, .inl (G.2.1, 16, .inl (upd mT x1.toNatClampNeg q4))), (qMK, .inl (G.2.2.2.1, 16, .inl mK)), (qMM, .inl (G.2.1, 4096, .inl (upd mM (md - md / 4096 * 4096).toNatClampNeg x1)))] H := hP
      have hD : va_D A [(qM, .inr (8, [.int q3.2, .int mw, .int mh, .int mg, .int ms, .ref qMT, .ref qMW, .ref qMK, .ref qMM, .int (md + 1), .int (md + 1), .ref qMR, .ref qML, .ref qMP, .int mu, .ref qMY, .ref qMF, .int mo, .int mf])), (qMT, .inl (G.2.1, 16, .inl (upd mT x1.toNatClampNeg q4))), (qMK, .inl (G.2.2.2.1, 16, .inl mK)), (qMM, .inl (G.2.1, 4096, .inl (upd mM (md - md / 4096 * 4096).toNatClampNeg x1)))] := hD
      refine lv_aload_n hx hb dX8_turn_85 rfl (lv_at hl 0 rfl) ?_
      refine va_get (D := G.1) (ci := 8) (v := .ref qMT) (C := RX8) (T := TX8) (N := 19) hx hb hts hi8 hown hK hP 0 rfl rfl 5 (by decide) hw1 (fun _ h9 => h9) rfl dX8_turn_86 ?_
      refine lv_iload_n hx hb dX8_turn_89 rfl (lv_at hl 1 rfl) ?_
      obtain ⟨hg, hq⟩ := k_g hq
      refine va_iald hx hb hK hP 1 0 rfl rfl (ix_in hg) dX8_turn_90 ?_
      obtain rfl := Option.some.inj hq
      rw [hQ]
      exact W.iret hx hb hr (fun t ht hW => ⟨⟨_, (), rfl, rfl, va_Pat ht hP⟩, hS.F ht⟩) hS.2.2 dX8_turn_91
    · have hq := k_t c_32 hq
      refine lv_iconst (v := 0) hx hb dX8_turn_35 (by decide) ?_
      obtain rfl := Option.some.inj hq
      rw [hQ]
      exact W.iret hx hb hr (fun t ht hW => ⟨⟨_, (), rfl, rfl, va_Pat ht hP⟩, hS.F ht⟩) hS.2.2 dX8_turn_36
  refine lv_if_ne (tgt := 15) hx hb dX8_turn_8 (by decide) (fun c_8 => ?_) (fun c_8 => ?_)
  · have hq := k_f c_8 hq
    refine lv_aload_n hx hb dX8_turn_15 rfl (lv_at hl 1 rfl) ?_
    refine va_get (D := G.1) (ci := 8) (v := .ref qMK) (C := RX8) (T := TX8) (N := 19) hx hb hts hi8 hown hK hP 0 rfl rfl 7 (by decide) hw0 (fun _ h9 => h9) rfl dX8_turn_16 ?_
    refine lv_iload_n hx hb dX8_turn_19 rfl (lv_at hl 2 rfl) ?_
    obtain ⟨hg, hq⟩ := k_g hq
    refine va_zald hx hb hK hP 2 2 rfl rfl (ix_in hg) dX8_turn_20 ?_
    refine lv_if_eq (tgt := 28) hx hb dX8_turn_21 (by decide) (fun c_21 => ?_) (fun c_21 => ?_)
    · have hq := k_t c_21 hq
      refine lv_iconst (v := 0) hx hb dX8_turn_28 (by decide) ?_
      exact J29 0 ls _ _ hq (lv_sub hl [1, 2] rfl) hP hD hS
    · have hq := k_f c_21 hq
      refine lv_iconst (v := 2) hx hb dX8_turn_24 (by decide) ?_
      refine lv_goto (tgt := 29) hx hb dX8_turn_25 (by decide) ?_
      exact J29 2 ls _ _ hq (lv_sub hl [1, 2] rfl) hP hD hS
  · have hq := k_t c_8 hq
    refine lv_iconst (v := 1) hx hb dX8_turn_11 (by decide) ?_
    refine lv_goto (tgt := 29) hx hb dX8_turn_12 (by decide) ?_
    exact J29 1 ls _ _ hq (lv_sub hl [1, 2] rfl) hP hD hS

abbrev rmX8_undo : Room := { frames := 1, cells := 0, slots := 0, locals := 23 }
set_option maxHeartbeats 40000000 in
set_option maxRecDepth 100000 in
theorem tX8_undo (G : GG) (l : Launch) {qM qMT qMW qMK qMM qMR qML qMP qMY qMF : Nat} {mt : Int32} {mw : Int32} {mh : Int32} {mg : Int32} {ms : Int32} {mv : Int32} {md : Int32} {mu : Int32} {mo : Int32} {mf : Int32} {mT : Nat → Int32} {mM : Nat → Int32} {sz : Nat} {F : Nat} {r : Int32 × Int32 × Int32 × (Nat → Int32)} (hq : kX8_undo F mt md mT mM = some r) : Met l yX8_undo wsX8_undo rmX8_undo (pcW G [(qM, .inr (8, [.int mt, .int mw, .int mh, .int mg, .int ms, .ref qMT, .ref qMW, .ref qMK, .ref qMM, .int mv, .int md, .ref qMR, .ref qML, .ref qMP, .int mu, .ref qMY, .ref qMF, .int mo, .int mf])), (qMT, .inl (G.2.1, 16, .inl mT)), (qMM, .inl (G.2.1, 4096, .inl mM))] sz [.ref qM]) (qcI G r.1 [(qM, .inr (8, [.int r.2.1, .int mw, .int mh, .int mg, .int ms, .ref qMT, .ref qMW, .ref qMK, .ref qMM, .int mv, .int r.2.2.1, .ref qMR, .ref qML, .ref qMP, .int mu, .ref qMY, .ref qMF, .int mo, .int mf])), (qMT, .inl (G.2.1, 16, .inl r.2.2.2)), (qMM, .inl (G.2.1, 4096, .inl mM))] (va_A [(qM, .inr (8, [.int mt, .int mw, .int mh, .int mg, .int ms, .ref qMT, .ref qMW, .ref qMK, .ref qMM, .int mv, .int md, .ref qMR, .ref qML, .ref qMP, .int mu, .ref qMY, .ref qMF, .int mo, .int mf])), (qMT, .inl (G.2.1, 16, .inl mT)), (qMM, .inl (G.2.1, 4096, .inl mM))] sz)) 0 0 (va_A [(qM, .inr (8, [.int mt, .int mw, .int mh, .int mg, .int ms, .ref qMT, .ref qMW, .ref qMK, .ref qMM, .int mv, .int md, .ref qMR, .ref qML, .ref qMP, .int mu, .ref qMY, .ref qMF, .int mo, .int mf])), (qMT, .inl (G.2.1, 16, .inl mT)), (qMM, .inl (G.2.1, 4096, .inl mM))] sz) := by
  refine Met.ofW (cc := cX8_undo) (maxL := 1) (ret := (some .int)) (by decide) rfl ?_
  intro p e s m args below meth c s₁ B hml hv
  obtain ⟨rfl, hsz, hP, hKK, hD0⟩ := hv
  have hK := hKK.1
  have hx := B.exec
  have hb := B.bytes
  have hr := B.returns
  have hts := atoms_spec (ws := wsX8_undo) B.pre
  have hown : s.vm.findClass RX8 = some m.cls := findClass_of_methodNamed B.named
  have hlocks := B.notSynchronized
  subst hsz
  have hD := hD0.self (sz := s.heap.size)
  generalize hAe : va_A [(qM, .inr (8, [.int mt, .int mw, .int mh, .int mg, .int ms, .ref qMT, .ref qMW, .ref qMK, .ref qMM, .int mv, .int md, .ref qMR, .ref qML, .ref qMP, .int mu, .ref qMY, .ref qMF, .int mo, .int mf])), (qMT, .inl (G.2.1, 16, .inl mT)), (qMM, .inl (G.2.1, 4096, .inl mM))] s.heap.size = A at hD ⊢
  have hA : ∀ q : Nat, s.heap.size ≤ q → A q := fun q h => by rw [← hAe]; exact Or.inr h
  have hS : va_S A s.heap s.heap [] := va_S.rf
  have hl := lv_entry ([.ref qM] : List Value) (n := 1) (Nat.le_of_ble_eq_true rfl)
  rw [lg_entry_eq]
  generalize (lg_sl ([.ref qM] : List Value) ++ List.replicate (1 - (lg_sl ([.ref qM] : List Value)).length) Slot.unset).toArray = ls at hl ⊢
  have hl : lv_has ls 1 [(0, .ref qM)] := hl
  have hi8 : ∀ w ∈ u_ws RX8 TX8 19, w ∈ wsX8_undo := by decide +kernel
  have hw0 : (Cond.fieldLink RX8 62 "NetPlumberModel" "done" "I").before #[Value.ref qM] s = true := hts _ (by decide +kernel)
  have hw1 : (Cond.fieldLink RX8 16 "NetPlumberModel" "tiles" "[I").before #[Value.ref qM] s = true := hts _ (by decide +kernel)
  have hw2 : (Cond.fieldLink RX8 27 "NetPlumberModel" "moved" "[I").before #[Value.ref qM] s = true := hts _ (by decide +kernel)
  refine wq (fun Q hQ => ?_)
  unfold kX8_undo at hq
  refine lv_aload_n hx hb dX8_undo_0 rfl (lv_at hl 0 rfl) ?_
  refine lv_aload_n hx hb dX8_undo_1 rfl (lv_at hl 0 rfl) ?_
  refine va_get (D := G.1) (ci := 8) (v := .int md) (C := RX8) (T := TX8) (N := 19) hx hb hts hi8 hown hK hP 0 rfl rfl 10 (by decide) hw0 (fun _ h9 => h9) rfl dX8_undo_2 ?_
  have J13 : ∀ (v1 : Int32) (ls : Array Slot) (H : Heap) (locs : List Loc), kX8_undo_j13 F mt md mT mM v1 = some r → lv_has ls 1 [(0, .ref qM)] → va_P G.1 vwCl [(qM, .inr (8, [.int mt, .int mw, .int mh, .int mg, .int ms, .ref qMT, .ref qMW, .ref qMK, .ref qMM, .int mv, .int md, .ref qMR, .ref qML, .ref qMP, .int mu, .ref qMY, .ref qMF, .int mo, .int mf])), (qMT, .inl (G.2.1, 16, .inl mT)), (qMM, .inl (G.2.1, 4096, .inl mM))] H → va_D A [(qM, .inr (8, [.int mt, .int mw, .int mh, .int mg, .int ms, .ref qMT, .ref qMW, .ref qMK, .ref qMM, .int mv, .int md, .ref qMR, .ref qML, .ref qMP, .int mu, .ref qMY, .ref qMF, .int mo, .int mf])), (qMT, .inl (G.2.1, 16, .inl mT)), (qMM, .inl (G.2.1, 4096, .inl mM))] → va_S A s.heap H locs → W p l e (headSpec wsX8_undo rmX8_undo).room s m ([.ref qM] : List Value).toArray below meth c H locs 0 0 Q (F0 m 13 ls [.int v1, .ref qM]) := by
    intro v1 ls H locs hq hl hP hD hS
    unfold kX8_undo_j13 at hq
    obtain ⟨q2, eq2, hq⟩ := ob hq
    have hPc := hP.sub (ws' := [(qM, .inr (8, [.int mt, .int mw, .int mh, .int mg, .int ms, .ref qMT, .ref qMW, .ref qMK, .ref qMM, .int mv, .int md, .ref qMR, .ref qML, .ref qMP, .int mu, .ref qMY, .ref qMF, .int mo, .int mf]))]) [0] rfl
    have hKc := hK
    have hDc := hD.sub (ws' := [(qM, .inr (8, [.int mt, .int mw, .int mh, .int mg, .int ms, .ref qMT, .ref qMW, .ref qMK, .ref qMM, .int mv, .int md, .ref qMR, .ref qML, .ref qMP, .int mu, .ref qMY, .ref qMF, .int mo, .int mf]))]) [0] (by decide) rfl
    have hFc := va_free (wc := [(qM, .inr (8, [.int mt, .int mw, .int mh, .int mg, .int ms, .ref qMT, .ref qMW, .ref qMK, .ref qMM, .int mv, .int md, .ref qMR, .ref qML, .ref qMP, .int mu, .ref qMY, .ref qMF, .int mo, .int mf]))]) hD hS hA [0] rfl
    refine va_calli (va_runV (As := [.int v1]) (rest := []) ⟨hx, hb, hml, hown, hts⟩ (tX8_holds G l eq2) (cwV 1 hts gX8_undo_X8_holds rfl rfl rfl (by decide +kernel) ⟨Nat.le_of_ble_eq_true rfl, Nat.le_of_ble_eq_true rfl⟩) ⟨pcW_blind, va_recv hKc hPc (ci := 8) (q0 := 0) rfl rfl, pcW_pre hPc hKK hDc⟩ rfl rfl hl.1 rfl (lv_room (Nat.le_of_ble_eq_true rfl)) dX8_undo_13 ⟨Nat.zero_le _, Nat.zero_le _⟩) hS (fun q _ h => hFc q h) hFc (fun r0 u t H1 locs ht hvm hw hB hz1 hk1 hS => ?_)
    obtain rfl := hw
    have hB := va_Pto ht hB
    obtain ⟨hP, hD⟩ := jn (ws' := [(qM, .inr (8, [.int q2.2, .int mw, .int mh, .int mg, .int ms, .ref qMT, .ref qMW, .ref qMK, .ref qMM, .int mv, .int md, .ref qMR, .ref qML, .ref qMP, .int mu, .ref qMY, .ref qMF, .int mo, .int mf])), (qMT, .inl (G.2.1, 16, .inl mT)), (qMM, .inl (G.2.1, 4096, .inl mM))]) hP hD hk1 hB [0] rfl rfl rfl rfl
    generalize H1 = H at hP hS ⊢
    refine lv_if_ne (tgt := 21) hx hb dX8_undo_16 (by decide) (fun c_16 => ?_) (fun c_16 => ?_)
    · have hq := k_f c_16 hq
      refine lv_aload_n hx hb dX8_undo_21 rfl (lv_at hl 0 rfl) ?_
      refine lv_dup hx hb dX8_undo_22 rfl ?_
      refine va_get (D := G.1) (ci := 8) (v := .int md) (C := RX8) (T := TX8) (N := 19) hx hb hts hi8 hown hK hP 0 rfl rfl 10 (by decide) hw0 (fun _ h9 => h9) rfl dX8_undo_23 ?_
      refine lv_iconst (v := 1) hx hb dX8_undo_26 (by decide) ?_
      refine lv_isub hx hb dX8_undo_27 ?_
      refine va_put (D := G.1) (ci := 8) (v := .int (md - 1)) (ty := .int) (C := RX8) (T := TX8) (N := 19) hx hb hts hi8 tyX8 tyX8_ok nmX8 hown hK hP hD hS 0 rfl rfl 10 (by decide) hw0 (fun _ h9 => h9) rfl (by decide +kernel) rfl rfl (Nat.le_of_ble_eq_true rfl) dX8_undo_28 (fun H locs hP hD hS => ?_)
      have hP : va_P G.1 vwCl [(qM, .inr (8, [.int q2.2, .int mw, .int mh, .int mg, .int ms, .ref qMT, .ref qMW, .ref qMK, .ref qMM, .int mv, .int (md - 1), .ref qMR, .ref qML, .ref qMP, .int mu, .ref qMY, .ref qMF, .int mo, .int mf])), (qMT, .inl (G.2.1, 16, .inl mT)), (qMM, .inl (G.2.1, 4096, .inl mM))] H := hP
      have hD : va_D A [(qM, .inr (8, [.int q2.2, .int mw, .int mh, .int mg, .int ms, .ref qMT, .ref qMW, .ref qMK, .ref qMM, .int mv, .int (md - 1), .ref qMR, .ref qML, .ref qMP, .int mu, .ref qMY, .ref qMF, .int mo, .int mf])), (qMT, .inl (G.2.1, 16, .inl mT)), (qMM, .inl (G.2.1, 4096, .inl mM))] := hD
      refine lv_aload_n hx hb dX8_undo_31 rfl (lv_at hl 0 rfl) ?_
      refine va_get (D := G.1) (ci := 8) (v := .ref qMT) (C := RX8) (T := TX8) (N := 19) hx hb hts hi8 hown hK hP 0 rfl rfl 5 (by decide) hw1 (fun _ h9 => h9) rfl dX8_undo_32 ?_
      refine lv_aload_n hx hb dX8_undo_35 rfl (lv_at hl 0 rfl) ?_
      refine va_get (D := G.1) (ci := 8) (v := .ref qMM) (C := RX8) (T := TX8) (N := 19) hx hb hts hi8 hown hK hP 0 rfl rfl 8 (by decide) hw2 (fun _ h9 => h9) rfl dX8_undo_36 ?_
      refine lv_aload_n hx hb dX8_undo_39 rfl (lv_at hl 0 rfl) ?_
      refine va_get (D := G.1) (ci := 8) (v := .int (md - 1)) (C := RX8) (T := TX8) (N := 19) hx hb hts hi8 hown hK hP 0 rfl rfl 10 (by decide) hw0 (fun _ h9 => h9) rfl dX8_undo_40 ?_
      refine lv_sipush (v := 4096) hx hb dX8_undo_43 (by decide) ?_
      refine lv_irem hx hb dX8_undo_46 (by decide) ?_
      obtain ⟨hg, hq⟩ := k_g hq
      refine va_iald hx hb hK hP 2 0 rfl rfl (ix_in hg) dX8_undo_47 ?_
      refine lv_aload_n hx hb dX8_undo_48 rfl (lv_at hl 0 rfl) ?_
      refine va_get (D := G.1) (ci := 8) (v := .ref qMT) (C := RX8) (T := TX8) (N := 19) hx hb hts hi8 hown hK hP 0 rfl rfl 5 (by decide) hw1 (fun _ h9 => h9) rfl dX8_undo_49 ?_
      refine lv_aload_n hx hb dX8_undo_52 rfl (lv_at hl 0 rfl) ?_
      refine va_get (D := G.1) (ci := 8) (v := .ref qMM) (C := RX8) (T := TX8) (N := 19) hx hb hts hi8 hown hK hP 0 rfl rfl 8 (by decide) hw2 (fun _ h9 => h9) rfl dX8_undo_53 ?_
      refine lv_aload_n hx hb dX8_undo_56 rfl (lv_at hl 0 rfl) ?_
      refine va_get (D := G.1) (ci := 8) (v := .int (md - 1)) (C := RX8) (T := TX8) (N := 19) hx hb hts hi8 hown hK hP 0 rfl rfl 10 (by decide) hw0 (fun _ h9 => h9) rfl dX8_undo_57 ?_
      refine lv_sipush (v := 4096) hx hb dX8_undo_60 (by decide) ?_
      refine lv_irem hx hb dX8_undo_63 (by decide) ?_
      obtain ⟨hg, hq⟩ := k_g hq
      refine va_iald hx hb hK hP 2 0 rfl rfl (ix_in hg) dX8_undo_64 ?_
      obtain ⟨hg, hq⟩ := k_g hq
      refine va_iald hx hb hK hP 1 0 rfl rfl (ix_in hg) dX8_undo_65 ?_
      refine lv_iconst (v := 3) hx hb dX8_undo_66 (by decide) ?_
      obtain ⟨q3, eq3, hq⟩ := ob hq
      have hPc := hP.sub (ws' := []) [] rfl
      refine vp_callSi (va_Run.run (va_runS (As := [.int (mT (mM ((md - 1) - (md - 1) / 4096 * 4096).toNatClampNeg).toNatClampNeg), .int 3]) (rest := [.int (mM ((md - 1) - (md - 1) / 4096 * 4096).toNatClampNeg), .ref qMT]) ⟨hx, hb, hml, hown, hts⟩ (tX8_turned G l eq3) (va_cwS 2 hts gX8_undo_X8_turned rfl rfl rfl (by decide +kernel) ⟨Nat.le_of_ble_eq_true rfl, Nat.le_of_ble_eq_true rfl⟩) ⟨pcP_blind, pcP_pre hPc hKK⟩ rfl rfl hl.1 rfl (lv_room (Nat.le_of_ble_eq_true rfl)) dX8_undo_67 ⟨Nat.zero_le _, Nat.zero_le _⟩)) (fun r0 hr0 => ?_)
      obtain rfl := hr0
      obtain ⟨hg, hq⟩ := k_g hq
      refine va_iast hx hb hK hP hD hS 1 0 rfl rfl (ix_in hg) dX8_undo_70 (fun H locs hP hD hS => ?_)
      have hP : va_P G.1 vwCl [(qM, .inr (8, [.int q2.2, .int mw, .int mh, .int mg, .int ms, .ref qMT, .ref qMW, .ref qMK, .ref qMM, .int mv, .int (md - 1), .ref qMR, .ref qML, .ref qMP, .int mu, .ref qMY, .ref qMF, .int mo, .int mf])), (qMT, .inl (G.2.1, 16, .inl (upd mT (mM ((md - 1) - (md - 1) / 4096 * 4096).toNatClampNeg).toNatClampNeg q3))), (qMM, .inl (G.2.1, 4096, .inl mM))] H := hP
      have hD : va_D A [(qM, .inr (8, [.int q2.2, .int mw, .int mh, .int mg, .int ms, .ref qMT, .ref qMW, .ref qMK, .ref qMM, .int mv, .int (md - 1), .ref qMR, .ref qML, .ref qMP, .int mu, .ref qMY, .ref qMF, .int mo, .int mf])), (qMT, .inl (G.2.1, 16, .inl (upd mT (mM ((md - 1) - (md - 1) / 4096 * 4096).toNatClampNeg).toNatClampNeg q3))), (qMM, .inl (G.2.1, 4096, .inl mM))] := hD
      refine lv_aload_n hx hb dX8_undo_71 rfl (lv_at hl 0 rfl) ?_
      refine va_get (D := G.1) (ci := 8) (v := .int (md - 1)) (C := RX8) (T := TX8) (N := 19) hx hb hts hi8 hown hK hP 0 rfl rfl 10 (by decide) hw0 (fun _ h9 => h9) rfl dX8_undo_72 ?_
      obtain rfl := Option.some.inj hq
      rw [hQ]
      exact W.iret hx hb hr (fun t ht hW => ⟨⟨_, (), rfl, rfl, va_Pat ht hP⟩, hS.F ht⟩) hS.2.2 dX8_undo_75
    · have hq := k_t c_16 hq
      refine lv_iconst (v := 0) hx hb dX8_undo_19 (by decide) ?_
      obtain rfl := Option.some.inj hq
      rw [hQ]
      exact W.iret hx hb hr (fun t ht hW => ⟨⟨_, (), rfl, rfl, va_Pat ht hP⟩, hS.F ht⟩) hS.2.2 dX8_undo_20
  refine lv_if_ne (tgt := 12) hx hb dX8_undo_5 (by decide) (fun c_5 => ?_) (fun c_5 => ?_)
  · have hq := k_f c_5 hq
    refine lv_iconst (v := 0) hx hb dX8_undo_12 (by decide) ?_
    exact J13 0 ls _ _ hq (lv_sub hl [0] rfl) hP hD hS
  · have hq := k_t c_5 hq
    refine lv_iconst (v := 1) hx hb dX8_undo_8 (by decide) ?_
    refine lv_goto (tgt := 13) hx hb dX8_undo_9 (by decide) ?_
    exact J13 1 ls _ _ hq (lv_sub hl [0] rfl) hP hD hS

abbrev rmX8_redo : Room := { frames := 1, cells := 0, slots := 0, locals := 23 }
set_option maxHeartbeats 40000000 in
set_option maxRecDepth 100000 in
theorem tX8_redo (G : GG) (l : Launch) {qM qMT qMW qMK qMM qMR qML qMP qMY qMF : Nat} {mt : Int32} {mw : Int32} {mh : Int32} {mg : Int32} {ms : Int32} {mv : Int32} {md : Int32} {mu : Int32} {mo : Int32} {mf : Int32} {mT : Nat → Int32} {mM : Nat → Int32} {sz : Nat} {F : Nat} {r : Int32 × Int32 × Int32 × (Nat → Int32)} (hq : kX8_redo F mt mv md mT mM = some r) : Met l yX8_redo wsX8_redo rmX8_redo (pcW G [(qM, .inr (8, [.int mt, .int mw, .int mh, .int mg, .int ms, .ref qMT, .ref qMW, .ref qMK, .ref qMM, .int mv, .int md, .ref qMR, .ref qML, .ref qMP, .int mu, .ref qMY, .ref qMF, .int mo, .int mf])), (qMT, .inl (G.2.1, 16, .inl mT)), (qMM, .inl (G.2.1, 4096, .inl mM))] sz [.ref qM]) (qcI G r.1 [(qM, .inr (8, [.int r.2.1, .int mw, .int mh, .int mg, .int ms, .ref qMT, .ref qMW, .ref qMK, .ref qMM, .int mv, .int r.2.2.1, .ref qMR, .ref qML, .ref qMP, .int mu, .ref qMY, .ref qMF, .int mo, .int mf])), (qMT, .inl (G.2.1, 16, .inl r.2.2.2)), (qMM, .inl (G.2.1, 4096, .inl mM))] (va_A [(qM, .inr (8, [.int mt, .int mw, .int mh, .int mg, .int ms, .ref qMT, .ref qMW, .ref qMK, .ref qMM, .int mv, .int md, .ref qMR, .ref qML, .ref qMP, .int mu, .ref qMY, .ref qMF, .int mo, .int mf])), (qMT, .inl (G.2.1, 16, .inl mT)), (qMM, .inl (G.2.1, 4096, .inl mM))] sz)) 0 0 (va_A [(qM, .inr (8, [.int mt, .int mw, .int mh, .int mg, .int ms, .ref qMT, .ref qMW, .ref qMK, .ref qMM, .int mv, .int md, .ref qMR, .ref qML, .ref qMP, .int mu, .ref qMY, .ref qMF, .int mo, .int mf])), (qMT, .inl (G.2.1, 16, .inl mT)), (qMM, .inl (G.2.1, 4096, .inl mM))] sz) := by
  refine Met.ofW (cc := cX8_redo) (maxL := 1) (ret := (some .int)) (by decide) rfl ?_
  intro p e s m args below meth c s₁ B hml hv
  obtain ⟨rfl, hsz, hP, hKK, hD0⟩ := hv
  have hK := hKK.1
  have hx := B.exec
  have hb := B.bytes
  have hr := B.returns
  have hts := atoms_spec (ws := wsX8_redo) B.pre
  have hown : s.vm.findClass RX8 = some m.cls := findClass_of_methodNamed B.named
  have hlocks := B.notSynchronized
  subst hsz
  have hD := hD0.self (sz := s.heap.size)
  generalize hAe : va_A [(qM, .inr (8, [.int mt, .int mw, .int mh, .int mg, .int ms, .ref qMT, .ref qMW, .ref qMK, .ref qMM, .int mv, .int md, .ref qMR, .ref qML, .ref qMP, .int mu, .ref qMY, .ref qMF, .int mo, .int mf])), (qMT, .inl (G.2.1, 16, .inl mT)), (qMM, .inl (G.2.1, 4096, .inl mM))] s.heap.size = A at hD ⊢
  have hA : ∀ q : Nat, s.heap.size ≤ q → A q := fun q h => by rw [← hAe]; exact Or.inr h
  have hS : va_S A s.heap s.heap [] := va_S.rf
  have hl := lv_entry ([.ref qM] : List Value) (n := 1) (Nat.le_of_ble_eq_true rfl)
  rw [lg_entry_eq]
  generalize (lg_sl ([.ref qM] : List Value) ++ List.replicate (1 - (lg_sl ([.ref qM] : List Value)).length) Slot.unset).toArray = ls at hl ⊢
  have hl : lv_has ls 1 [(0, .ref qM)] := hl
  have hi8 : ∀ w ∈ u_ws RX8 TX8 19, w ∈ wsX8_redo := by decide +kernel
  have hw0 : (Cond.fieldLink RX8 62 "NetPlumberModel" "done" "I").before #[Value.ref qM] s = true := hts _ (by decide +kernel)
  have hw1 : (Cond.fieldLink RX8 59 "NetPlumberModel" "moves" "I").before #[Value.ref qM] s = true := hts _ (by decide +kernel)
  have hw2 : (Cond.fieldLink RX8 16 "NetPlumberModel" "tiles" "[I").before #[Value.ref qM] s = true := hts _ (by decide +kernel)
  have hw3 : (Cond.fieldLink RX8 27 "NetPlumberModel" "moved" "[I").before #[Value.ref qM] s = true := hts _ (by decide +kernel)
  refine wq (fun Q hQ => ?_)
  unfold kX8_redo at hq
  refine lv_aload_n hx hb dX8_redo_0 rfl (lv_at hl 0 rfl) ?_
  refine lv_aload_n hx hb dX8_redo_1 rfl (lv_at hl 0 rfl) ?_
  refine va_get (D := G.1) (ci := 8) (v := .int md) (C := RX8) (T := TX8) (N := 19) hx hb hts hi8 hown hK hP 0 rfl rfl 10 (by decide) hw0 (fun _ h9 => h9) rfl dX8_redo_2 ?_
  refine lv_aload_n hx hb dX8_redo_5 rfl (lv_at hl 0 rfl) ?_
  refine va_get (D := G.1) (ci := 8) (v := .int mv) (C := RX8) (T := TX8) (N := 19) hx hb hts hi8 hown hK hP 0 rfl rfl 9 (by decide) hw1 (fun _ h9 => h9) rfl dX8_redo_6 ?_
  have J17 : ∀ (v1 : Int32) (ls : Array Slot) (H : Heap) (locs : List Loc), kX8_redo_j17 F mt md mT mM v1 = some r → lv_has ls 1 [(0, .ref qM)] → va_P G.1 vwCl [(qM, .inr (8, [.int mt, .int mw, .int mh, .int mg, .int ms, .ref qMT, .ref qMW, .ref qMK, .ref qMM, .int mv, .int md, .ref qMR, .ref qML, .ref qMP, .int mu, .ref qMY, .ref qMF, .int mo, .int mf])), (qMT, .inl (G.2.1, 16, .inl mT)), (qMM, .inl (G.2.1, 4096, .inl mM))] H → va_D A [(qM, .inr (8, [.int mt, .int mw, .int mh, .int mg, .int ms, .ref qMT, .ref qMW, .ref qMK, .ref qMM, .int mv, .int md, .ref qMR, .ref qML, .ref qMP, .int mu, .ref qMY, .ref qMF, .int mo, .int mf])), (qMT, .inl (G.2.1, 16, .inl mT)), (qMM, .inl (G.2.1, 4096, .inl mM))] → va_S A s.heap H locs → W p l e (headSpec wsX8_redo rmX8_redo).room s m ([.ref qM] : List Value).toArray below meth c H locs 0 0 Q (F0 m 17 ls [.int v1, .ref qM]) := by
    intro v1 ls H locs hq hl hP hD hS
    unfold kX8_redo_j17 at hq
    obtain ⟨q2, eq2, hq⟩ := ob hq
    have hPc := hP.sub (ws' := [(qM, .inr (8, [.int mt, .int mw, .int mh, .int mg, .int ms, .ref qMT, .ref qMW, .ref qMK, .ref qMM, .int mv, .int md, .ref qMR, .ref qML, .ref qMP, .int mu, .ref qMY, .ref qMF, .int mo, .int mf]))]) [0] rfl
    have hKc := hK
    have hDc := hD.sub (ws' := [(qM, .inr (8, [.int mt, .int mw, .int mh, .int mg, .int ms, .ref qMT, .ref qMW, .ref qMK, .ref qMM, .int mv, .int md, .ref qMR, .ref qML, .ref qMP, .int mu, .ref qMY, .ref qMF, .int mo, .int mf]))]) [0] (by decide) rfl
    have hFc := va_free (wc := [(qM, .inr (8, [.int mt, .int mw, .int mh, .int mg, .int ms, .ref qMT, .ref qMW, .ref qMK, .ref qMM, .int mv, .int md, .ref qMR, .ref qML, .ref qMP, .int mu, .ref qMY, .ref qMF, .int mo, .int mf]))]) hD hS hA [0] rfl
    refine va_calli (va_runV (As := [.int v1]) (rest := []) ⟨hx, hb, hml, hown, hts⟩ (tX8_holds G l eq2) (cwV 1 hts gX8_redo_X8_holds rfl rfl rfl (by decide +kernel) ⟨Nat.le_of_ble_eq_true rfl, Nat.le_of_ble_eq_true rfl⟩) ⟨pcW_blind, va_recv hKc hPc (ci := 8) (q0 := 0) rfl rfl, pcW_pre hPc hKK hDc⟩ rfl rfl hl.1 rfl (lv_room (Nat.le_of_ble_eq_true rfl)) dX8_redo_17 ⟨Nat.zero_le _, Nat.zero_le _⟩) hS (fun q _ h => hFc q h) hFc (fun r0 u t H1 locs ht hvm hw hB hz1 hk1 hS => ?_)
    obtain rfl := hw
    have hB := va_Pto ht hB
    obtain ⟨hP, hD⟩ := jn (ws' := [(qM, .inr (8, [.int q2.2, .int mw, .int mh, .int mg, .int ms, .ref qMT, .ref qMW, .ref qMK, .ref qMM, .int mv, .int md, .ref qMR, .ref qML, .ref qMP, .int mu, .ref qMY, .ref qMF, .int mo, .int mf])), (qMT, .inl (G.2.1, 16, .inl mT)), (qMM, .inl (G.2.1, 4096, .inl mM))]) hP hD hk1 hB [0] rfl rfl rfl rfl
    generalize H1 = H at hP hS ⊢
    refine lv_if_ne (tgt := 25) hx hb dX8_redo_20 (by decide) (fun c_20 => ?_) (fun c_20 => ?_)
    · have hq := k_f c_20 hq
      refine lv_aload_n hx hb dX8_redo_25 rfl (lv_at hl 0 rfl) ?_
      refine va_get (D := G.1) (ci := 8) (v := .ref qMT) (C := RX8) (T := TX8) (N := 19) hx hb hts hi8 hown hK hP 0 rfl rfl 5 (by decide) hw2 (fun _ h9 => h9) rfl dX8_redo_26 ?_
      refine lv_aload_n hx hb dX8_redo_29 rfl (lv_at hl 0 rfl) ?_
      refine va_get (D := G.1) (ci := 8) (v := .ref qMM) (C := RX8) (T := TX8) (N := 19) hx hb hts hi8 hown hK hP 0 rfl rfl 8 (by decide) hw3 (fun _ h9 => h9) rfl dX8_redo_30 ?_
      refine lv_aload_n hx hb dX8_redo_33 rfl (lv_at hl 0 rfl) ?_
      refine va_get (D := G.1) (ci := 8) (v := .int md) (C := RX8) (T := TX8) (N := 19) hx hb hts hi8 hown hK hP 0 rfl rfl 10 (by decide) hw0 (fun _ h9 => h9) rfl dX8_redo_34 ?_
      refine lv_sipush (v := 4096) hx hb dX8_redo_37 (by decide) ?_
      refine lv_irem hx hb dX8_redo_40 (by decide) ?_
      obtain ⟨hg, hq⟩ := k_g hq
      refine va_iald hx hb hK hP 2 0 rfl rfl (ix_in hg) dX8_redo_41 ?_
      refine lv_aload_n hx hb dX8_redo_42 rfl (lv_at hl 0 rfl) ?_
      refine va_get (D := G.1) (ci := 8) (v := .ref qMT) (C := RX8) (T := TX8) (N := 19) hx hb hts hi8 hown hK hP 0 rfl rfl 5 (by decide) hw2 (fun _ h9 => h9) rfl dX8_redo_43 ?_
      refine lv_aload_n hx hb dX8_redo_46 rfl (lv_at hl 0 rfl) ?_
      refine va_get (D := G.1) (ci := 8) (v := .ref qMM) (C := RX8) (T := TX8) (N := 19) hx hb hts hi8 hown hK hP 0 rfl rfl 8 (by decide) hw3 (fun _ h9 => h9) rfl dX8_redo_47 ?_
      refine lv_aload_n hx hb dX8_redo_50 rfl (lv_at hl 0 rfl) ?_
      refine va_get (D := G.1) (ci := 8) (v := .int md) (C := RX8) (T := TX8) (N := 19) hx hb hts hi8 hown hK hP 0 rfl rfl 10 (by decide) hw0 (fun _ h9 => h9) rfl dX8_redo_51 ?_
      refine lv_sipush (v := 4096) hx hb dX8_redo_54 (by decide) ?_
      refine lv_irem hx hb dX8_redo_57 (by decide) ?_
      obtain ⟨hg, hq⟩ := k_g hq
      refine va_iald hx hb hK hP 2 0 rfl rfl (ix_in hg) dX8_redo_58 ?_
      obtain ⟨hg, hq⟩ := k_g hq
      refine va_iald hx hb hK hP 1 0 rfl rfl (ix_in hg) dX8_redo_59 ?_
      refine lv_iconst (v := 1) hx hb dX8_redo_60 (by decide) ?_
      obtain ⟨q3, eq3, hq⟩ := ob hq
      have hPc := hP.sub (ws' := []) [] rfl
      refine vp_callSi (va_Run.run (va_runS (As := [.int (mT (mM (md - md / 4096 * 4096).toNatClampNeg).toNatClampNeg), .int 1]) (rest := [.int (mM (md - md / 4096 * 4096).toNatClampNeg), .ref qMT]) ⟨hx, hb, hml, hown, hts⟩ (tX8_turned G l eq3) (va_cwS 2 hts gX8_redo_X8_turned rfl rfl rfl (by decide +kernel) ⟨Nat.le_of_ble_eq_true rfl, Nat.le_of_ble_eq_true rfl⟩) ⟨pcP_blind, pcP_pre hPc hKK⟩ rfl rfl hl.1 rfl (lv_room (Nat.le_of_ble_eq_true rfl)) dX8_redo_61 ⟨Nat.zero_le _, Nat.zero_le _⟩)) (fun r0 hr0 => ?_)
      obtain rfl := hr0
      obtain ⟨hg, hq⟩ := k_g hq
      refine va_iast hx hb hK hP hD hS 1 0 rfl rfl (ix_in hg) dX8_redo_64 (fun H locs hP hD hS => ?_)
      have hP : va_P G.1 vwCl [(qM, .inr (8, [.int q2.2, .int mw, .int mh, .int mg, .int ms, .ref qMT, .ref qMW, .ref qMK, .ref qMM, .int mv, .int md, .ref qMR, .ref qML, .ref qMP, .int mu, .ref qMY, .ref qMF, .int mo, .int mf])), (qMT, .inl (G.2.1, 16, .inl (upd mT (mM (md - md / 4096 * 4096).toNatClampNeg).toNatClampNeg q3))), (qMM, .inl (G.2.1, 4096, .inl mM))] H := hP
      have hD : va_D A [(qM, .inr (8, [.int q2.2, .int mw, .int mh, .int mg, .int ms, .ref qMT, .ref qMW, .ref qMK, .ref qMM, .int mv, .int md, .ref qMR, .ref qML, .ref qMP, .int mu, .ref qMY, .ref qMF, .int mo, .int mf])), (qMT, .inl (G.2.1, 16, .inl (upd mT (mM (md - md / 4096 * 4096).toNatClampNeg).toNatClampNeg q3))), (qMM, .inl (G.2.1, 4096, .inl mM))] := hD
      refine lv_aload_n hx hb dX8_redo_65 rfl (lv_at hl 0 rfl) ?_
      refine lv_dup hx hb dX8_redo_66 rfl ?_
      refine va_get (D := G.1) (ci := 8) (v := .int md) (C := RX8) (T := TX8) (N := 19) hx hb hts hi8 hown hK hP 0 rfl rfl 10 (by decide) hw0 (fun _ h9 => h9) rfl dX8_redo_67 ?_
      refine lv_iconst (v := 1) hx hb dX8_redo_70 (by decide) ?_
      refine lv_iadd hx hb dX8_redo_71 ?_
      refine va_put (D := G.1) (ci := 8) (v := .int (md + 1)) (ty := .int) (C := RX8) (T := TX8) (N := 19) hx hb hts hi8 tyX8 tyX8_ok nmX8 hown hK hP hD hS 0 rfl rfl 10 (by decide) hw0 (fun _ h9 => h9) rfl (by decide +kernel) rfl rfl (Nat.le_of_ble_eq_true rfl) dX8_redo_72 (fun H locs hP hD hS => ?_)
      have hP : va_P G.1 vwCl [(qM, .inr (8, [.int q2.2, .int mw, .int mh, .int mg, .int ms, .ref qMT, .ref qMW, .ref qMK, .ref qMM, .int mv, .int (md + 1), .ref qMR, .ref qML, .ref qMP, .int mu, .ref qMY, .ref qMF, .int mo, .int mf])), (qMT, .inl (G.2.1, 16, .inl (upd mT (mM (md - md / 4096 * 4096).toNatClampNeg).toNatClampNeg q3))), (qMM, .inl (G.2.1, 4096, .inl mM))] H := hP
      have hD : va_D A [(qM, .inr (8, [.int q2.2, .int mw, .int mh, .int mg, .int ms, .ref qMT, .ref qMW, .ref qMK, .ref qMM, .int mv, .int (md + 1), .ref qMR, .ref qML, .ref qMP, .int mu, .ref qMY, .ref qMF, .int mo, .int mf])), (qMT, .inl (G.2.1, 16, .inl (upd mT (mM (md - md / 4096 * 4096).toNatClampNeg).toNatClampNeg q3))), (qMM, .inl (G.2.1, 4096, .inl mM))] := hD
      refine lv_aload_n hx hb dX8_redo_75 rfl (lv_at hl 0 rfl) ?_
      refine va_get (D := G.1) (ci := 8) (v := .int (md + 1)) (C := RX8) (T := TX8) (N := 19) hx hb hts hi8 hown hK hP 0 rfl rfl 10 (by decide) hw0 (fun _ h9 => h9) rfl dX8_redo_76 ?_
      obtain rfl := Option.some.inj hq
      rw [hQ]
      exact W.iret hx hb hr (fun t ht hW => ⟨⟨_, (), rfl, rfl, va_Pat ht hP⟩, hS.F ht⟩) hS.2.2 dX8_redo_79
    · have hq := k_t c_20 hq
      refine lv_iconst (v := 0) hx hb dX8_redo_23 (by decide) ?_
      obtain rfl := Option.some.inj hq
      rw [hQ]
      exact W.iret hx hb hr (fun t ht hW => ⟨⟨_, (), rfl, rfl, va_Pat ht hP⟩, hS.F ht⟩) hS.2.2 dX8_redo_24
  refine lv_icmp_ne (tgt := 16) hx hb dX8_redo_9 (by decide) (fun c_9 => ?_) (fun c_9 => ?_)
  · have hq := k_f c_9 hq
    refine lv_iconst (v := 0) hx hb dX8_redo_16 (by decide) ?_
    exact J17 0 ls _ _ hq (lv_sub hl [0] rfl) hP hD hS
  · have hq := k_t c_9 hq
    refine lv_iconst (v := 1) hx hb dX8_redo_12 (by decide) ?_
    refine lv_goto (tgt := 17) hx hb dX8_redo_13 (by decide) ?_
    exact J17 1 ls _ _ hq (lv_sub hl [0] rfl) hP hD hS

abbrev rmX8_moves : Room := { frames := 0, cells := 0, slots := 0, locals := 0 }
set_option maxHeartbeats 40000000 in
set_option maxRecDepth 100000 in
theorem tX8_moves (G : GG) (l : Launch) {qM qMT qMW qMK qMM qMR qML qMP qMY qMF : Nat} {mt : Int32} {mw : Int32} {mh : Int32} {mg : Int32} {ms : Int32} {mv : Int32} {md : Int32} {mu : Int32} {mo : Int32} {mf : Int32} {sz : Nat} {F : Nat} {r : Int32 × Int32} (hq : kX8_moves F mt md = some r) : Met l yX8_moves wsX8_moves rmX8_moves (pcW G [(qM, .inr (8, [.int mt, .int mw, .int mh, .int mg, .int ms, .ref qMT, .ref qMW, .ref qMK, .ref qMM, .int mv, .int md, .ref qMR, .ref qML, .ref qMP, .int mu, .ref qMY, .ref qMF, .int mo, .int mf]))] sz [.ref qM]) (qcI G r.1 [(qM, .inr (8, [.int r.2, .int mw, .int mh, .int mg, .int ms, .ref qMT, .ref qMW, .ref qMK, .ref qMM, .int mv, .int md, .ref qMR, .ref qML, .ref qMP, .int mu, .ref qMY, .ref qMF, .int mo, .int mf]))] (va_A [(qM, .inr (8, [.int mt, .int mw, .int mh, .int mg, .int ms, .ref qMT, .ref qMW, .ref qMK, .ref qMM, .int mv, .int md, .ref qMR, .ref qML, .ref qMP, .int mu, .ref qMY, .ref qMF, .int mo, .int mf]))] sz)) 0 0 (va_A [(qM, .inr (8, [.int mt, .int mw, .int mh, .int mg, .int ms, .ref qMT, .ref qMW, .ref qMK, .ref qMM, .int mv, .int md, .ref qMR, .ref qML, .ref qMP, .int mu, .ref qMY, .ref qMF, .int mo, .int mf]))] sz) := by
  refine Met.ofW (cc := cX8_moves) (maxL := 1) (ret := (some .int)) (by decide) rfl ?_
  intro p e s m args below meth c s₁ B hml hv
  obtain ⟨rfl, hsz, hP, hKK, hD0⟩ := hv
  have hK := hKK.1
  have hx := B.exec
  have hb := B.bytes
  have hr := B.returns
  have hts := atoms_spec (ws := wsX8_moves) B.pre
  have hown : s.vm.findClass RX8 = some m.cls := findClass_of_methodNamed B.named
  have hlocks := B.notSynchronized
  subst hsz
  have hD := hD0.self (sz := s.heap.size)
  generalize hAe : va_A [(qM, .inr (8, [.int mt, .int mw, .int mh, .int mg, .int ms, .ref qMT, .ref qMW, .ref qMK, .ref qMM, .int mv, .int md, .ref qMR, .ref qML, .ref qMP, .int mu, .ref qMY, .ref qMF, .int mo, .int mf]))] s.heap.size = A at hD ⊢
  have hA : ∀ q : Nat, s.heap.size ≤ q → A q := fun q h => by rw [← hAe]; exact Or.inr h
  have hS : va_S A s.heap s.heap [] := va_S.rf
  have hl := lv_entry ([.ref qM] : List Value) (n := 1) (Nat.le_of_ble_eq_true rfl)
  rw [lg_entry_eq]
  generalize (lg_sl ([.ref qM] : List Value) ++ List.replicate (1 - (lg_sl ([.ref qM] : List Value)).length) Slot.unset).toArray = ls at hl ⊢
  have hl : lv_has ls 1 [(0, .ref qM)] := hl
  have hi8 : ∀ w ∈ u_ws RX8 TX8 19, w ∈ wsX8_moves := by decide +kernel
  have hw0 : (Cond.fieldLink RX8 45 "NetPlumberModel" "thrown" "I").before #[Value.ref qM] s = true := hts _ (by decide +kernel)
  have hw1 : (Cond.fieldLink RX8 62 "NetPlumberModel" "done" "I").before #[Value.ref qM] s = true := hts _ (by decide +kernel)
  refine wq (fun Q hQ => ?_)
  unfold kX8_moves at hq
  refine lv_aload_n hx hb dX8_moves_0 rfl (lv_at hl 0 rfl) ?_
  refine lv_iconst (v := 0) hx hb dX8_moves_1 (by decide) ?_
  refine va_put (D := G.1) (ci := 8) (v := .int 0) (ty := .int) (C := RX8) (T := TX8) (N := 19) hx hb hts hi8 tyX8 tyX8_ok nmX8 hown hK hP hD hS 0 rfl rfl 0 (by decide) hw0 (fun _ h9 => h9) rfl (by decide +kernel) rfl rfl (Nat.le_of_ble_eq_true rfl) dX8_moves_2 (fun H locs hP hD hS => ?_)
  have hP : va_P G.1 vwCl [(qM, .inr (8, [.int 0, .int mw, .int mh, .int mg, .int ms, .ref qMT, .ref qMW, .ref qMK, .ref qMM, .int mv, .int md, .ref qMR, .ref qML, .ref qMP, .int mu, .ref qMY, .ref qMF, .int mo, .int mf]))] H := hP
  have hD : va_D A [(qM, .inr (8, [.int 0, .int mw, .int mh, .int mg, .int ms, .ref qMT, .ref qMW, .ref qMK, .ref qMM, .int mv, .int md, .ref qMR, .ref qML, .ref qMP, .int mu, .ref qMY, .ref qMF, .int mo, .int mf]))] := hD
  refine lv_aload_n hx hb dX8_moves_5 rfl (lv_at hl 0 rfl) ?_
  refine va_get (D := G.1) (ci := 8) (v := .int md) (C := RX8) (T := TX8) (N := 19) hx hb hts hi8 hown hK hP 0 rfl rfl 10 (by decide) hw1 (fun _ h9 => h9) rfl dX8_moves_6 ?_
  obtain rfl := Option.some.inj hq
  rw [hQ]
  exact W.iret hx hb hr (fun t ht hW => ⟨⟨_, (), rfl, rfl, va_Pat ht hP⟩, hS.F ht⟩) hS.2.2 dX8_moves_9

abbrev rmX8_size : Room := { frames := 1, cells := 0, slots := 0, locals := 20 }
set_option maxHeartbeats 40000000 in
set_option maxRecDepth 100000 in
theorem tX8_size (G : GG) (l : Launch) {qM qMT qMW qMK qMM qMR qML qMP qMY qMF : Nat} {mt : Int32} {mw : Int32} {mh : Int32} {mg : Int32} {ms : Int32} {mv : Int32} {md : Int32} {mu : Int32} {mo : Int32} {mf : Int32} {sz : Nat} {F : Nat} {r : Int32 × Int32} (hq : kX8_size F mt mw mh = some r) : Met l yX8_size wsX8_size rmX8_size (pcW G [(qM, .inr (8, [.int mt, .int mw, .int mh, .int mg, .int ms, .ref qMT, .ref qMW, .ref qMK, .ref qMM, .int mv, .int md, .ref qMR, .ref qML, .ref qMP, .int mu, .ref qMY, .ref qMF, .int mo, .int mf]))] sz [.ref qM]) (qcI G r.1 [(qM, .inr (8, [.int r.2, .int mw, .int mh, .int mg, .int ms, .ref qMT, .ref qMW, .ref qMK, .ref qMM, .int mv, .int md, .ref qMR, .ref qML, .ref qMP, .int mu, .ref qMY, .ref qMF, .int mo, .int mf]))] (va_A [(qM, .inr (8, [.int mt, .int mw, .int mh, .int mg, .int ms, .ref qMT, .ref qMW, .ref qMK, .ref qMM, .int mv, .int md, .ref qMR, .ref qML, .ref qMP, .int mu, .ref qMY, .ref qMF, .int mo, .int mf]))] sz)) 0 0 (va_A [(qM, .inr (8, [.int mt, .int mw, .int mh, .int mg, .int ms, .ref qMT, .ref qMW, .ref qMK, .ref qMM, .int mv, .int md, .ref qMR, .ref qML, .ref qMP, .int mu, .ref qMY, .ref qMF, .int mo, .int mf]))] sz) := by
  refine Met.ofW (cc := cX8_size) (maxL := 1) (ret := (some .int)) (by decide) rfl ?_
  intro p e s m args below meth c s₁ B hml hv
  obtain ⟨rfl, hsz, hP, hKK, hD0⟩ := hv
  have hK := hKK.1
  have hx := B.exec
  have hb := B.bytes
  have hr := B.returns
  have hts := atoms_spec (ws := wsX8_size) B.pre
  have hown : s.vm.findClass RX8 = some m.cls := findClass_of_methodNamed B.named
  have hlocks := B.notSynchronized
  subst hsz
  have hD := hD0.self (sz := s.heap.size)
  generalize hAe : va_A [(qM, .inr (8, [.int mt, .int mw, .int mh, .int mg, .int ms, .ref qMT, .ref qMW, .ref qMK, .ref qMM, .int mv, .int md, .ref qMR, .ref qML, .ref qMP, .int mu, .ref qMY, .ref qMF, .int mo, .int mf]))] s.heap.size = A at hD ⊢
  have hA : ∀ q : Nat, s.heap.size ≤ q → A q := fun q h => by rw [← hAe]; exact Or.inr h
  have hS : va_S A s.heap s.heap [] := va_S.rf
  have hl := lv_entry ([.ref qM] : List Value) (n := 1) (Nat.le_of_ble_eq_true rfl)
  rw [lg_entry_eq]
  generalize (lg_sl ([.ref qM] : List Value) ++ List.replicate (1 - (lg_sl ([.ref qM] : List Value)).length) Slot.unset).toArray = ls at hl ⊢
  have hl : lv_has ls 1 [(0, .ref qM)] := hl
  have hi8 : ∀ w ∈ u_ws RX8 TX8 19, w ∈ wsX8_size := by decide +kernel
  have hw0 : (Cond.fieldLink RX8 45 "NetPlumberModel" "thrown" "I").before #[Value.ref qM] s = true := hts _ (by decide +kernel)
  refine wq (fun Q hQ => ?_)
  unfold kX8_size at hq
  refine lv_aload_n hx hb dX8_size_0 rfl (lv_at hl 0 rfl) ?_
  refine lv_iconst (v := 0) hx hb dX8_size_1 (by decide) ?_
  refine va_put (D := G.1) (ci := 8) (v := .int 0) (ty := .int) (C := RX8) (T := TX8) (N := 19) hx hb hts hi8 tyX8 tyX8_ok nmX8 hown hK hP hD hS 0 rfl rfl 0 (by decide) hw0 (fun _ h9 => h9) rfl (by decide +kernel) rfl rfl (Nat.le_of_ble_eq_true rfl) dX8_size_2 (fun H locs hP hD hS => ?_)
  have hP : va_P G.1 vwCl [(qM, .inr (8, [.int 0, .int mw, .int mh, .int mg, .int ms, .ref qMT, .ref qMW, .ref qMK, .ref qMM, .int mv, .int md, .ref qMR, .ref qML, .ref qMP, .int mu, .ref qMY, .ref qMF, .int mo, .int mf]))] H := hP
  have hD : va_D A [(qM, .inr (8, [.int 0, .int mw, .int mh, .int mg, .int ms, .ref qMT, .ref qMW, .ref qMK, .ref qMM, .int mv, .int md, .ref qMR, .ref qML, .ref qMP, .int mu, .ref qMY, .ref qMF, .int mo, .int mf]))] := hD
  refine lv_aload_n hx hb dX8_size_5 rfl (lv_at hl 0 rfl) ?_
  obtain ⟨q1, eq1, hq⟩ := ob hq
  have hPc := hP.sub (ws' := [(qM, .inr (8, [.int 0, .int mw, .int mh, .int mg, .int ms, .ref qMT, .ref qMW, .ref qMK, .ref qMM, .int mv, .int md, .ref qMR, .ref qML, .ref qMP, .int mu, .ref qMY, .ref qMF, .int mo, .int mf]))]) [0] rfl
  have hKc := hK
  refine vp_callSi (va_Run.run (va_runV (As := []) (rest := []) ⟨hx, hb, hml, hown, hts⟩ (tX8_cells G l eq1) (cwV 0 hts gX8_size_X8_cells rfl rfl rfl (by decide +kernel) ⟨Nat.le_of_ble_eq_true rfl, Nat.le_of_ble_eq_true rfl⟩) ⟨pcP_blind, va_recv hKc hPc (ci := 8) (q0 := 0) rfl rfl, pcP_pre hPc hKK⟩ rfl rfl hl.1 rfl (lv_room (Nat.le_of_ble_eq_true rfl)) dX8_size_6 ⟨Nat.zero_le _, Nat.zero_le _⟩)) (fun r0 hr0 => ?_)
  obtain rfl := hr0
  obtain rfl := Option.some.inj hq
  rw [hQ]
  exact W.iret hx hb hr (fun t ht hW => ⟨⟨_, (), rfl, rfl, va_Pat ht hP⟩, hS.F ht⟩) hS.2.2 dX8_size_9

abbrev rmX8_tile : Room := { frames := 2, cells := 0, slots := 0, locals := 41 }
set_option maxHeartbeats 40000000 in
set_option maxRecDepth 100000 in
theorem tX8_tile (G : GG) (l : Launch) {qM qMT qMW qMK qMM qMR qML qMP qMY qMF : Nat} {mt : Int32} {mw : Int32} {mh : Int32} {mg : Int32} {ms : Int32} {mv : Int32} {md : Int32} {mu : Int32} {mo : Int32} {mf : Int32} {mT : Nat → Int32} {x1 : Int32} {sz : Nat} {F : Nat} {r : Int32 × Int32} (hq : kX8_tile F mt mw mh mT x1 = some r) : Met l yX8_tile wsX8_tile rmX8_tile (pcW G [(qM, .inr (8, [.int mt, .int mw, .int mh, .int mg, .int ms, .ref qMT, .ref qMW, .ref qMK, .ref qMM, .int mv, .int md, .ref qMR, .ref qML, .ref qMP, .int mu, .ref qMY, .ref qMF, .int mo, .int mf])), (qMT, .inl (G.2.1, 16, .inl mT))] sz [.ref qM, .int x1]) (qcI G r.1 [(qM, .inr (8, [.int r.2, .int mw, .int mh, .int mg, .int ms, .ref qMT, .ref qMW, .ref qMK, .ref qMM, .int mv, .int md, .ref qMR, .ref qML, .ref qMP, .int mu, .ref qMY, .ref qMF, .int mo, .int mf])), (qMT, .inl (G.2.1, 16, .inl mT))] (va_A [(qM, .inr (8, [.int mt, .int mw, .int mh, .int mg, .int ms, .ref qMT, .ref qMW, .ref qMK, .ref qMM, .int mv, .int md, .ref qMR, .ref qML, .ref qMP, .int mu, .ref qMY, .ref qMF, .int mo, .int mf])), (qMT, .inl (G.2.1, 16, .inl mT))] sz)) 0 0 (va_A [(qM, .inr (8, [.int mt, .int mw, .int mh, .int mg, .int ms, .ref qMT, .ref qMW, .ref qMK, .ref qMM, .int mv, .int md, .ref qMR, .ref qML, .ref qMP, .int mu, .ref qMY, .ref qMF, .int mo, .int mf])), (qMT, .inl (G.2.1, 16, .inl mT))] sz) := by
  refine Met.ofW (cc := cX8_tile) (maxL := 2) (ret := (some .int)) (by decide) rfl ?_
  intro p e s m args below meth c s₁ B hml hv
  obtain ⟨rfl, hsz, hP, hKK, hD0⟩ := hv
  have hK := hKK.1
  have hx := B.exec
  have hb := B.bytes
  have hr := B.returns
  have hts := atoms_spec (ws := wsX8_tile) B.pre
  have hown : s.vm.findClass RX8 = some m.cls := findClass_of_methodNamed B.named
  have hlocks := B.notSynchronized
  subst hsz
  have hD := hD0.self (sz := s.heap.size)
  generalize hAe : va_A [(qM, .inr (8, [.int mt, .int mw, .int mh, .int mg, .int ms, .ref qMT, .ref qMW, .ref qMK, .ref qMM, .int mv, .int md, .ref qMR, .ref qML, .ref qMP, .int mu, .ref qMY, .ref qMF, .int mo, .int mf])), (qMT, .inl (G.2.1, 16, .inl mT))] s.heap.size = A at hD ⊢
  have hA : ∀ q : Nat, s.heap.size ≤ q → A q := fun q h => by rw [← hAe]; exact Or.inr h
  have hS : va_S A s.heap s.heap [] := va_S.rf
  have hl := lv_entry ([.ref qM, .int x1] : List Value) (n := 2) (Nat.le_of_ble_eq_true rfl)
  rw [lg_entry_eq]
  generalize (lg_sl ([.ref qM, .int x1] : List Value) ++ List.replicate (2 - (lg_sl ([.ref qM, .int x1] : List Value)).length) Slot.unset).toArray = ls at hl ⊢
  have hl : lv_has ls 2 [(0, .ref qM), (1, .int x1)] := hl
  have hi8 : ∀ w ∈ u_ws RX8 TX8 19, w ∈ wsX8_tile := by decide +kernel
  have hw0 : (Cond.fieldLink RX8 16 "NetPlumberModel" "tiles" "[I").before #[Value.ref qM, Value.int x1] s = true := hts _ (by decide +kernel)
  refine wq (fun Q hQ => ?_)
  unfold kX8_tile at hq
  refine lv_aload_n hx hb dX8_tile_0 rfl (lv_at hl 0 rfl) ?_
  refine lv_aload_n hx hb dX8_tile_1 rfl (lv_at hl 0 rfl) ?_
  refine lv_iload_n hx hb dX8_tile_2 rfl (lv_at hl 1 rfl) ?_
  obtain ⟨q1, eq1, hq⟩ := ob hq
  have hPc := hP.sub (ws' := [(qM, .inr (8, [.int mt, .int mw, .int mh, .int mg, .int ms, .ref qMT, .ref qMW, .ref qMK, .ref qMM, .int mv, .int md, .ref qMR, .ref qML, .ref qMP, .int mu, .ref qMY, .ref qMF, .int mo, .int mf]))]) [0] rfl
  have hKc := hK
  refine vp_callSi (va_Run.run (va_runV (As := [.int x1]) (rest := [.ref qM]) ⟨hx, hb, hml, hown, hts⟩ (tX8_isCell G l eq1) (cwV 1 hts gX8_tile_X8_isCell rfl rfl rfl (by decide +kernel) ⟨Nat.le_of_ble_eq_true rfl, Nat.le_of_ble_eq_true rfl⟩) ⟨pcP_blind, va_recv hKc hPc (ci := 8) (q0 := 0) rfl rfl, pcP_pre hPc hKK⟩ rfl rfl hl.1 rfl (lv_room (Nat.le_of_ble_eq_true rfl)) dX8_tile_3 ⟨Nat.zero_le _, Nat.zero_le _⟩)) (fun r0 hr0 => ?_)
  obtain rfl := hr0
  have J14 : ∀ (v2 : Int32) (ls : Array Slot) (H : Heap) (locs : List Loc), kX8_tile_j14 F mt mT x1 v2 = some r → lv_has ls 2 [(0, .ref qM), (1, .int x1)] → va_P G.1 vwCl [(qM, .inr (8, [.int mt, .int mw, .int mh, .int mg, .int ms, .ref qMT, .ref qMW, .ref qMK, .ref qMM, .int mv, .int md, .ref qMR, .ref qML, .ref qMP, .int mu, .ref qMY, .ref qMF, .int mo, .int mf])), (qMT, .inl (G.2.1, 16, .inl mT))] H → va_D A [(qM, .inr (8, [.int mt, .int mw, .int mh, .int mg, .int ms, .ref qMT, .ref qMW, .ref qMK, .ref qMM, .int mv, .int md, .ref qMR, .ref qML, .ref qMP, .int mu, .ref qMY, .ref qMF, .int mo, .int mf])), (qMT, .inl (G.2.1, 16, .inl mT))] → va_S A s.heap H locs → W p l e (headSpec wsX8_tile rmX8_tile).room s m ([.ref qM, .int x1] : List Value).toArray below meth c H locs 0 0 Q (F0 m 14 ls [.int v2, .ref qM]) := by
    intro v2 ls H locs hq hl hP hD hS
    unfold kX8_tile_j14 at hq
    obtain ⟨q3, eq3, hq⟩ := ob hq
    have hPc := hP.sub (ws' := [(qM, .inr (8, [.int mt, .int mw, .int mh, .int mg, .int ms, .ref qMT, .ref qMW, .ref qMK, .ref qMM, .int mv, .int md, .ref qMR, .ref qML, .ref qMP, .int mu, .ref qMY, .ref qMF, .int mo, .int mf]))]) [0] rfl
    have hKc := hK
    have hDc := hD.sub (ws' := [(qM, .inr (8, [.int mt, .int mw, .int mh, .int mg, .int ms, .ref qMT, .ref qMW, .ref qMK, .ref qMM, .int mv, .int md, .ref qMR, .ref qML, .ref qMP, .int mu, .ref qMY, .ref qMF, .int mo, .int mf]))]) [0] (by decide) rfl
    have hFc := va_free (wc := [(qM, .inr (8, [.int mt, .int mw, .int mh, .int mg, .int ms, .ref qMT, .ref qMW, .ref qMK, .ref qMM, .int mv, .int md, .ref qMR, .ref qML, .ref qMP, .int mu, .ref qMY, .ref qMF, .int mo, .int mf]))]) hD hS hA [0] rfl
    refine va_calli (va_runV (As := [.int v2]) (rest := []) ⟨hx, hb, hml, hown, hts⟩ (tX8_holds G l eq3) (cwV 1 hts gX8_tile_X8_holds rfl rfl rfl (by decide +kernel) ⟨Nat.le_of_ble_eq_true rfl, Nat.le_of_ble_eq_true rfl⟩) ⟨pcW_blind, va_recv hKc hPc (ci := 8) (q0 := 0) rfl rfl, pcW_pre hPc hKK hDc⟩ rfl rfl hl.1 rfl (lv_room (Nat.le_of_ble_eq_true rfl)) dX8_tile_14 ⟨Nat.zero_le _, Nat.zero_le _⟩) hS (fun q _ h => hFc q h) hFc (fun r0 u t H1 locs ht hvm hw hB hz1 hk1 hS => ?_)
    obtain rfl := hw
    have hB := va_Pto ht hB
    obtain ⟨hP, hD⟩ := jn (ws' := [(qM, .inr (8, [.int q3.2, .int mw, .int mh, .int mg, .int ms, .ref qMT, .ref qMW, .ref qMK, .ref qMM, .int mv, .int md, .ref qMR, .ref qML, .ref qMP, .int mu, .ref qMY, .ref qMF, .int mo, .int mf])), (qMT, .inl (G.2.1, 16, .inl mT))]) hP hD hk1 hB [0] rfl rfl rfl rfl
    generalize H1 = H at hP hS ⊢
    refine lv_if_eq (tgt := 29) hx hb dX8_tile_17 (by decide) (fun c_17 => ?_) (fun c_17 => ?_)
    · have hq := k_t c_17 hq
      refine lv_iconst (v := 0) hx hb dX8_tile_29 (by decide) ?_
      obtain rfl := Option.some.inj hq
      rw [hQ]
      exact W.iret hx hb hr (fun t ht hW => ⟨⟨_, (), rfl, rfl, va_Pat ht hP⟩, hS.F ht⟩) hS.2.2 dX8_tile_30
    · have hq := k_f c_17 hq
      refine lv_aload_n hx hb dX8_tile_20 rfl (lv_at hl 0 rfl) ?_
      refine va_get (D := G.1) (ci := 8) (v := .ref qMT) (C := RX8) (T := TX8) (N := 19) hx hb hts hi8 hown hK hP 0 rfl rfl 5 (by decide) hw0 (fun _ h9 => h9) rfl dX8_tile_21 ?_
      refine lv_iload_n hx hb dX8_tile_24 rfl (lv_at hl 1 rfl) ?_
      obtain ⟨hg, hq⟩ := k_g hq
      refine va_iald hx hb hK hP 1 0 rfl rfl (ix_in hg) dX8_tile_25 ?_
      refine lv_goto (tgt := 30) hx hb dX8_tile_26 (by decide) ?_
      obtain rfl := Option.some.inj hq
      rw [hQ]
      exact W.iret hx hb hr (fun t ht hW => ⟨⟨_, (), rfl, rfl, va_Pat ht hP⟩, hS.F ht⟩) hS.2.2 dX8_tile_30
  refine lv_if_eq (tgt := 13) hx hb dX8_tile_6 (by decide) (fun c_6 => ?_) (fun c_6 => ?_)
  · have hq := k_t c_6 hq
    refine lv_iconst (v := 1) hx hb dX8_tile_13 (by decide) ?_
    exact J14 1 ls _ _ hq (lv_sub hl [0, 1] rfl) hP hD hS
  · have hq := k_f c_6 hq
    refine lv_iconst (v := 0) hx hb dX8_tile_9 (by decide) ?_
    refine lv_goto (tgt := 14) hx hb dX8_tile_10 (by decide) ?_
    exact J14 0 ls _ _ hq (lv_sub hl [0, 1] rfl) hP hD hS

abbrev rmX8_neighbour : Room := { frames := 2, cells := 0, slots := 0, locals := 41 }
set_option maxHeartbeats 40000000 in
set_option maxRecDepth 100000 in
theorem tX8_neighbour (G : GG) (l : Launch) {qM qMT qMW qMK qMM qMR qML qMP qMY qMF : Nat} {mt : Int32} {mw : Int32} {mh : Int32} {mg : Int32} {ms : Int32} {mv : Int32} {md : Int32} {mu : Int32} {mo : Int32} {mf : Int32} {x1 : Int32} {x2 : Int32} {sz : Nat} {F : Nat} {r : Int32 × Int32} (hq : kX8_neighbour F mt mw mh mg x1 x2 = some r) : Met l yX8_neighbour wsX8_neighbour rmX8_neighbour (pcW G [(qM, .inr (8, [.int mt, .int mw, .int mh, .int mg, .int ms, .ref qMT, .ref qMW, .ref qMK, .ref qMM, .int mv, .int md, .ref qMR, .ref qML, .ref qMP, .int mu, .ref qMY, .ref qMF, .int mo, .int mf]))] sz [.ref qM, .int x1, .int x2]) (qcI G r.1 [(qM, .inr (8, [.int r.2, .int mw, .int mh, .int mg, .int ms, .ref qMT, .ref qMW, .ref qMK, .ref qMM, .int mv, .int md, .ref qMR, .ref qML, .ref qMP, .int mu, .ref qMY, .ref qMF, .int mo, .int mf]))] (va_A [(qM, .inr (8, [.int mt, .int mw, .int mh, .int mg, .int ms, .ref qMT, .ref qMW, .ref qMK, .ref qMM, .int mv, .int md, .ref qMR, .ref qML, .ref qMP, .int mu, .ref qMY, .ref qMF, .int mo, .int mf]))] sz)) 0 0 (va_A [(qM, .inr (8, [.int mt, .int mw, .int mh, .int mg, .int ms, .ref qMT, .ref qMW, .ref qMK, .ref qMM, .int mv, .int md, .ref qMR, .ref qML, .ref qMP, .int mu, .ref qMY, .ref qMF, .int mo, .int mf]))] sz) := by
  refine Met.ofW (cc := cX8_neighbour) (maxL := 3) (ret := (some .int)) (by decide) rfl ?_
  intro p e s m args below meth c s₁ B hml hv
  obtain ⟨rfl, hsz, hP, hKK, hD0⟩ := hv
  have hK := hKK.1
  have hx := B.exec
  have hb := B.bytes
  have hr := B.returns
  have hts := atoms_spec (ws := wsX8_neighbour) B.pre
  have hown : s.vm.findClass RX8 = some m.cls := findClass_of_methodNamed B.named
  have hlocks := B.notSynchronized
  subst hsz
  have hD := hD0.self (sz := s.heap.size)
  generalize hAe : va_A [(qM, .inr (8, [.int mt, .int mw, .int mh, .int mg, .int ms, .ref qMT, .ref qMW, .ref qMK, .ref qMM, .int mv, .int md, .ref qMR, .ref qML, .ref qMP, .int mu, .ref qMY, .ref qMF, .int mo, .int mf]))] s.heap.size = A at hD ⊢
  have hA : ∀ q : Nat, s.heap.size ≤ q → A q := fun q h => by rw [← hAe]; exact Or.inr h
  have hS : va_S A s.heap s.heap [] := va_S.rf
  have hl := lv_entry ([.ref qM, .int x1, .int x2] : List Value) (n := 3) (Nat.le_of_ble_eq_true rfl)
  rw [lg_entry_eq]
  generalize (lg_sl ([.ref qM, .int x1, .int x2] : List Value) ++ List.replicate (3 - (lg_sl ([.ref qM, .int x1, .int x2] : List Value)).length) Slot.unset).toArray = ls at hl ⊢
  have hl : lv_has ls 3 [(0, .ref qM), (1, .int x1), (2, .int x2)] := hl
  refine wq (fun Q hQ => ?_)
  unfold kX8_neighbour at hq
  refine lv_aload_n hx hb dX8_neighbour_0 rfl (lv_at hl 0 rfl) ?_
  refine lv_aload_n hx hb dX8_neighbour_1 rfl (lv_at hl 0 rfl) ?_
  refine lv_iload_n hx hb dX8_neighbour_2 rfl (lv_at hl 1 rfl) ?_
  obtain ⟨q1, eq1, hq⟩ := ob hq
  have hPc := hP.sub (ws' := [(qM, .inr (8, [.int mt, .int mw, .int mh, .int mg, .int ms, .ref qMT, .ref qMW, .ref qMK, .ref qMM, .int mv, .int md, .ref qMR, .ref qML, .ref qMP, .int mu, .ref qMY, .ref qMF, .int mo, .int mf]))]) [0] rfl
  have hKc := hK
  refine vp_callSi (va_Run.run (va_runV (As := [.int x1]) (rest := [.ref qM]) ⟨hx, hb, hml, hown, hts⟩ (tX8_isCell G l eq1) (cwV 1 hts gX8_neighbour_X8_isCell rfl rfl rfl (by decide +kernel) ⟨Nat.le_of_ble_eq_true rfl, Nat.le_of_ble_eq_true rfl⟩) ⟨pcP_blind, va_recv hKc hPc (ci := 8) (q0 := 0) rfl rfl, pcP_pre hPc hKK⟩ rfl rfl hl.1 rfl (lv_room (Nat.le_of_ble_eq_true rfl)) dX8_neighbour_3 ⟨Nat.zero_le _, Nat.zero_le _⟩)) (fun r0 hr0 => ?_)
  obtain rfl := hr0
  have J21 : ∀ (v3 : Int32) (ls : Array Slot) (H : Heap) (locs : List Loc), kX8_neighbour_j21 F mt mw mh mg x1 x2 v3 = some r → lv_has ls 3 [(0, .ref qM), (1, .int x1), (2, .int x2)] → va_P G.1 vwCl [(qM, .inr (8, [.int mt, .int mw, .int mh, .int mg, .int ms, .ref qMT, .ref qMW, .ref qMK, .ref qMM, .int mv, .int md, .ref qMR, .ref qML, .ref qMP, .int mu, .ref qMY, .ref qMF, .int mo, .int mf]))] H → va_D A [(qM, .inr (8, [.int mt, .int mw, .int mh, .int mg, .int ms, .ref qMT, .ref qMW, .ref qMK, .ref qMM, .int mv, .int md, .ref qMR, .ref qML, .ref qMP, .int mu, .ref qMY, .ref qMF, .int mo, .int mf]))] → va_S A s.heap H locs → W p l e (headSpec wsX8_neighbour rmX8_neighbour).room s m ([.ref qM, .int x1, .int x2] : List Value).toArray below meth c H locs 0 0 Q (F0 m 21 ls [.int v3, .ref qM]) := by
    intro v3 ls H locs hq hl hP hD hS
    unfold kX8_neighbour_j21 at hq
    obtain ⟨q4, eq4, hq⟩ := ob hq
    have hPc := hP.sub (ws' := [(qM, .inr (8, [.int mt, .int mw, .int mh, .int mg, .int ms, .ref qMT, .ref qMW, .ref qMK, .ref qMM, .int mv, .int md, .ref qMR, .ref qML, .ref qMP, .int mu, .ref qMY, .ref qMF, .int mo, .int mf]))]) [0] rfl
    have hKc := hK
    have hDc := hD.sub (ws' := [(qM, .inr (8, [.int mt, .int mw, .int mh, .int mg, .int ms, .ref qMT, .ref qMW, .ref qMK, .ref qMM, .int mv, .int md, .ref qMR, .ref qML, .ref qMP, .int mu, .ref qMY, .ref qMF, .int mo, .int mf]))]) [0] (by decide) rfl
    have hFc := va_free (wc := [(qM, .inr (8, [.int mt, .int mw, .int mh, .int mg, .int ms, .ref qMT, .ref qMW, .ref qMK, .ref qMM, .int mv, .int md, .ref qMR, .ref qML, .ref qMP, .int mu, .ref qMY, .ref qMF, .int mo, .int mf]))]) hD hS hA [0] rfl
    refine va_calli (va_runV (As := [.int v3]) (rest := []) ⟨hx, hb, hml, hown, hts⟩ (tX8_holds G l eq4) (cwV 1 hts gX8_neighbour_X8_holds rfl rfl rfl (by decide +kernel) ⟨Nat.le_of_ble_eq_true rfl, Nat.le_of_ble_eq_true rfl⟩) ⟨pcW_blind, va_recv hKc hPc (ci := 8) (q0 := 0) rfl rfl, pcW_pre hPc hKK hDc⟩ rfl rfl hl.1 rfl (lv_room (Nat.le_of_ble_eq_true rfl)) dX8_neighbour_21 ⟨Nat.zero_le _, Nat.zero_le _⟩) hS (fun q _ h => hFc q h) hFc (fun r0 u t H1 locs ht hvm hw hB hz1 hk1 hS => ?_)
    obtain rfl := hw
    have hB := va_Pto ht hB
    obtain ⟨hP, hD⟩ := jn (ws' := [(qM, .inr (8, [.int q4.2, .int mw, .int mh, .int mg, .int ms, .ref qMT, .ref qMW, .ref qMK, .ref qMM, .int mv, .int md, .ref qMR, .ref qML, .ref qMP, .int mu, .ref qMY, .ref qMF, .int mo, .int mf]))]) hP hD hk1 hB [0] rfl rfl rfl rfl
    generalize H1 = H at hP hS ⊢
    refine lv_if_eq (tgt := 36) hx hb dX8_neighbour_24 (by decide) (fun c_24 => ?_) (fun c_24 => ?_)
    · have hq := k_t c_24 hq
      refine lv_iconst (v := 0) hx hb dX8_neighbour_36 (by decide) ?_
      obtain rfl := Option.some.inj hq
      rw [hQ]
      exact W.iret hx hb hr (fun t ht hW => ⟨⟨_, (), rfl, rfl, va_Pat ht hP⟩, hS.F ht⟩) hS.2.2 dX8_neighbour_37
    · have hq := k_f c_24 hq
      refine lv_aload_n hx hb dX8_neighbour_27 rfl (lv_at hl 0 rfl) ?_
      refine lv_iload_n hx hb dX8_neighbour_28 rfl (lv_at hl 1 rfl) ?_
      refine lv_iload_n hx hb dX8_neighbour_29 rfl (lv_at hl 2 rfl) ?_
      obtain ⟨q7, eq7, hq⟩ := ob hq
      have hPc := hP.sub (ws' := [(qM, .inr (8, [.int q4.2, .int mw, .int mh, .int mg, .int ms, .ref qMT, .ref qMW, .ref qMK, .ref qMM, .int mv, .int md, .ref qMR, .ref qML, .ref qMP, .int mu, .ref qMY, .ref qMF, .int mo, .int mf]))]) [0] rfl
      have hKc := hK
      refine vp_callSi (va_Run.run (va_runV (As := [.int x1, .int x2]) (rest := []) ⟨hx, hb, hml, hown, hts⟩ (tX8_neighbourOf G l eq7) (cwV 2 hts gX8_neighbour_X8_neighbourOf rfl rfl rfl (by decide +kernel) ⟨Nat.le_of_ble_eq_true rfl, Nat.le_of_ble_eq_true rfl⟩) ⟨pcP_blind, va_recv hKc hPc (ci := 8) (q0 := 0) rfl rfl, pcP_pre hPc hKK⟩ rfl rfl hl.1 rfl (lv_room (Nat.le_of_ble_eq_true rfl)) dX8_neighbour_30 ⟨Nat.zero_le _, Nat.zero_le _⟩)) (fun r0 hr0 => ?_)
      obtain rfl := hr0
      refine lv_goto (tgt := 37) hx hb dX8_neighbour_33 (by decide) ?_
      obtain rfl := Option.some.inj hq
      rw [hQ]
      exact W.iret hx hb hr (fun t ht hW => ⟨⟨_, (), rfl, rfl, va_Pat ht hP⟩, hS.F ht⟩) hS.2.2 dX8_neighbour_37
  refine lv_if_eq (tgt := 20) hx hb dX8_neighbour_6 (by decide) (fun c_6 => ?_) (fun c_6 => ?_)
  · have hq := k_t c_6 hq
    refine lv_iconst (v := 1) hx hb dX8_neighbour_20 (by decide) ?_
    exact J21 1 ls _ _ hq (lv_sub hl [0, 1, 2] rfl) hP hD hS
  · have hq := k_f c_6 hq
    refine lv_iload_n hx hb dX8_neighbour_9 rfl (lv_at hl 2 rfl) ?_
    obtain ⟨q8, eq8, hq⟩ := ob hq
    have hPc := hP.sub (ws' := []) [] rfl
    refine vp_callSi (va_Run.run (va_runS (As := [.int x2]) (rest := [.ref qM]) ⟨hx, hb, hml, hown, hts⟩ (tX8_isSide G l eq8) (va_cwS 1 hts gX8_neighbour_X8_isSide rfl rfl rfl (by decide +kernel) ⟨Nat.le_of_ble_eq_true rfl, Nat.le_of_ble_eq_true rfl⟩) ⟨pcP_blind, pcP_pre hPc hKK⟩ rfl rfl hl.1 rfl (lv_room (Nat.le_of_ble_eq_true rfl)) dX8_neighbour_10 ⟨Nat.zero_le _, Nat.zero_le _⟩)) (fun r0 hr0 => ?_)
    obtain rfl := hr0
    refine lv_if_eq (tgt := 20) hx hb dX8_neighbour_13 (by decide) (fun c_13 => ?_) (fun c_13 => ?_)
    · have hq := k_t c_13 hq
      refine lv_iconst (v := 1) hx hb dX8_neighbour_20 (by decide) ?_
      exact J21 1 ls _ _ hq (lv_sub hl [0, 1, 2] rfl) hP hD hS
    · have hq := k_f c_13 hq
      refine lv_iconst (v := 0) hx hb dX8_neighbour_16 (by decide) ?_
      refine lv_goto (tgt := 21) hx hb dX8_neighbour_17 (by decide) ?_
      exact J21 0 ls _ _ hq (lv_sub hl [0, 1, 2] rfl) hP hD hS

abbrev rmX8_joins : Room := { frames := 1, cells := 0, slots := 0, locals := 25 }
set_option maxHeartbeats 40000000 in
set_option maxRecDepth 100000 in
theorem tX8_joins (G : GG) (l : Launch) {qM qMT qMW qMK qMM qMR qML qMP qMY qMF : Nat} {mt : Int32} {mw : Int32} {mh : Int32} {mg : Int32} {ms : Int32} {mv : Int32} {md : Int32} {mu : Int32} {mo : Int32} {mf : Int32} {mT : Nat → Int32} {mW : Nat → Int32} {x1 : Int32} {x2 : Int32} {F : Nat} {r : Int32} (hq : kX8_joins F mw mh mg mT mW x1 x2 = some r) : Met l yX8_joins wsX8_joins rmX8_joins (pcP G [(qM, .inr (8, [.int mt, .int mw, .int mh, .int mg, .int ms, .ref qMT, .ref qMW, .ref qMK, .ref qMM, .int mv, .int md, .ref qMR, .ref qML, .ref qMP, .int mu, .ref qMY, .ref qMF, .int mo, .int mf])), (qMT, .inl (G.2.1, 16, .inl mT)), (qMW, .inl (G.2.1, 16, .inl mW))] [.ref qM, .int x1, .int x2]) (vp_Si (fun x => r = x)) 0 0 (fun _ => False) := by
  refine Met.ofW (cc := cX8_joins) (maxL := 4) (ret := (some .boolean)) (by decide) rfl ?_
  intro p e s m args below meth c s₁ B hml hv
  obtain ⟨rfl, hP, hKK⟩ := hv
  have hK := hKK.1
  have hx := B.exec
  have hb := B.bytes
  have hr := B.returns
  have hts := atoms_spec (ws := wsX8_joins) B.pre
  have hown : s.vm.findClass RX8 = some m.cls := findClass_of_methodNamed B.named
  have hlocks := B.notSynchronized
  have hl := lv_entry ([.ref qM, .int x1, .int x2] : List Value) (n := 4) (Nat.le_of_ble_eq_true rfl)
  rw [lg_entry_eq]
  generalize (lg_sl ([.ref qM, .int x1, .int x2] : List Value) ++ List.replicate (4 - (lg_sl ([.ref qM, .int x1, .int x2] : List Value)).length) Slot.unset).toArray = ls at hl ⊢
  have hl : lv_has ls 4 [(0, .ref qM), (1, .int x1), (2, .int x2)] := hl
  have hi8 : ∀ w ∈ u_ws RX8 TX8 19, w ∈ wsX8_joins := by decide +kernel
  have hw0 : (Cond.fieldLink RX8 16 "NetPlumberModel" "tiles" "[I").before #[Value.ref qM, Value.int x1, Value.int x2] s = true := hts _ (by decide +kernel)
  refine wq (fun Q hQ => ?_)
  unfold kX8_joins at hq
  refine lv_aload_n hx hb dX8_joins_0 rfl (lv_at hl 0 rfl) ?_
  refine lv_iload_n hx hb dX8_joins_1 rfl (lv_at hl 1 rfl) ?_
  refine lv_iload_n hx hb dX8_joins_2 rfl (lv_at hl 2 rfl) ?_
  obtain ⟨q1, eq1, hq⟩ := ob hq
  have hPc := hP.sub (ws' := [(qM, .inr (8, [.int mt, .int mw, .int mh, .int mg, .int ms, .ref qMT, .ref qMW, .ref qMK, .ref qMM, .int mv, .int md, .ref qMR, .ref qML, .ref qMP, .int mu, .ref qMY, .ref qMF, .int mo, .int mf]))]) [0] rfl
  have hKc := hK
  refine vp_callSi (va_Run.run (va_runV (As := [.int x1, .int x2]) (rest := []) ⟨hx, hb, hml, hown, hts⟩ (tX8_neighbourOf G l eq1) (cwV 2 hts gX8_joins_X8_neighbourOf rfl rfl rfl (by decide +kernel) ⟨Nat.le_of_ble_eq_true rfl, Nat.le_of_ble_eq_true rfl⟩) ⟨pcP_blind, va_recv hKc hPc (ci := 8) (q0 := 0) rfl rfl, pcP_pre hPc hKK⟩ rfl rfl hl.1 rfl (lv_room (Nat.le_of_ble_eq_true rfl)) dX8_joins_3 ⟨Nat.zero_le _, Nat.zero_le _⟩)) (fun r0 hr0 => ?_)
  obtain rfl := hr0
  refine lv_istore_n (lv' := [(3, .int q1), (0, .ref qM), (1, .int x1), (2, .int x2)]) hx hb dX8_joins_6 rfl hl (by decide) rfl (fun ls hl => ?_)
  refine lv_iload_n hx hb dX8_joins_7 rfl (lv_at hl 0 rfl) ?_
  refine lv_iconst (v := (-1)) hx hb dX8_joins_8 (by decide) ?_
  have J55 : ∀ (v6 : Int32) (ls : Array Slot), kX8_joins_j55 F v6 = some r → lv_has ls 4 [] → va_P G.1 vwCl [(qM, .inr (8, [.int mt, .int mw, .int mh, .int mg, .int ms, .ref qMT, .ref qMW, .ref qMK, .ref qMM, .int mv, .int md, .ref qMR, .ref qML, .ref qMP, .int mu, .ref qMY, .ref qMF, .int mo, .int mf])), (qMT, .inl (G.2.1, 16, .inl mT)), (qMW, .inl (G.2.1, 16, .inl mW))] s.heap → W p l e (headSpec wsX8_joins rmX8_joins).room s m ([.ref qM, .int x1, .int x2] : List Value).toArray below meth c s.heap [] 0 0 Q (F0 m 55 ls [.int v6]) := by
    intro v6 ls hq hl hP
    unfold kX8_joins_j55 at hq
    obtain ⟨hg, hq⟩ := k_g hq
    obtain rfl := Option.some.inj hq
    rw [hQ]
    exact W.zret hx hb hr (isZ_n hg) (fun t ht hW => ⟨_, rfl, rfl, ht⟩) (fun _ h => absurd h List.not_mem_nil) dX8_joins_55
  refine lv_icmp_eq (tgt := 54) hx hb dX8_joins_9 (by decide) (fun c_9 => ?_) (fun c_9 => ?_)
  · have hq := k_t c_9 hq
    refine lv_iconst (v := 0) hx hb dX8_joins_54 (by decide) ?_
    exact J55 0 ls hq (lv_sub hl [] rfl) hP
  · have hq := k_f c_9 hq
    refine lv_aload_n hx hb dX8_joins_12 rfl (lv_at hl 1 rfl) ?_
    refine lv_iload_n hx hb dX8_joins_13 rfl (lv_at hl 2 rfl) ?_
    refine lv_iload_n hx hb dX8_joins_14 rfl (lv_at hl 3 rfl) ?_
    obtain ⟨q7, eq7, hq⟩ := ob hq
    have hPc := hP.sub (ws' := [(qM, .inr (8, [.int mt, .int mw, .int mh, .int mg, .int ms, .ref qMT, .ref qMW, .ref qMK, .ref qMM, .int mv, .int md, .ref qMR, .ref qML, .ref qMP, .int mu, .ref qMY, .ref qMF, .int mo, .int mf])), (qMW, .inl (G.2.1, 16, .inl mW))]) [0, 2] rfl
    have hKc := hK
    refine vp_callSi (va_Run.run (va_runV (As := [.int x1, .int x2]) (rest := []) ⟨hx, hb, hml, hown, hts⟩ (tX8_hasWall G l eq7) (cwV 2 hts gX8_joins_X8_hasWall rfl rfl rfl (by decide +kernel) ⟨Nat.le_of_ble_eq_true rfl, Nat.le_of_ble_eq_true rfl⟩) ⟨pcP_blind, va_recv hKc hPc (ci := 8) (q0 := 0) rfl rfl, pcP_pre hPc hKK⟩ rfl rfl hl.1 rfl (lv_room (Nat.le_of_ble_eq_true rfl)) dX8_joins_15 ⟨Nat.zero_le _, Nat.zero_le _⟩)) (fun r0 hr0 => ?_)
    obtain rfl := hr0
    refine lv_if_ne (tgt := 54) hx hb dX8_joins_18 (by decide) (fun c_18 => ?_) (fun c_18 => ?_)
    · have hq := k_f c_18 hq
      refine lv_iconst (v := 0) hx hb dX8_joins_54 (by decide) ?_
      exact J55 0 ls hq (lv_sub hl [] rfl) hP
    · have hq := k_t c_18 hq
      refine lv_aload_n hx hb dX8_joins_21 rfl (lv_at hl 1 rfl) ?_
      refine va_get (D := G.1) (ci := 8) (v := .ref qMT) (C := RX8) (T := TX8) (N := 19) hx hb hts hi8 hown hK hP 0 rfl rfl 5 (by decide) hw0 (fun _ h9 => h9) rfl dX8_joins_22 ?_
      refine lv_iload_n hx hb dX8_joins_25 rfl (lv_at hl 2 rfl) ?_
      obtain ⟨hg, hq⟩ := k_g hq
      refine va_iald hx hb hK hP 1 0 rfl rfl (ix_in hg) dX8_joins_26 ?_
      refine lv_iload_n hx hb dX8_joins_27 rfl (lv_at hl 3 rfl) ?_
      obtain ⟨q8, eq8, hq⟩ := ob hq
      have hPc := hP.sub (ws' := []) [] rfl
      refine vp_callSi (va_Run.run (va_runS (As := [.int (mT x1.toNatClampNeg), .int x2]) (rest := []) ⟨hx, hb, hml, hown, hts⟩ (tX8_isOpen G l eq8) (va_cwS 2 hts gX8_joins_X8_isOpen rfl rfl rfl (by decide +kernel) ⟨Nat.le_of_ble_eq_true rfl, Nat.le_of_ble_eq_true rfl⟩) ⟨pcP_blind, pcP_pre hPc hKK⟩ rfl rfl hl.1 rfl (lv_room (Nat.le_of_ble_eq_true rfl)) dX8_joins_28 ⟨Nat.zero_le _, Nat.zero_le _⟩)) (fun r0 hr0 => ?_)
      obtain rfl := hr0
      refine lv_if_eq (tgt := 54) hx hb dX8_joins_31 (by decide) (fun c_31 => ?_) (fun c_31 => ?_)
      · have hq := k_t c_31 hq
        refine lv_iconst (v := 0) hx hb dX8_joins_54 (by decide) ?_
        exact J55 0 ls hq (lv_sub hl [] rfl) hP
      · have hq := k_f c_31 hq
        refine lv_aload_n hx hb dX8_joins_34 rfl (lv_at hl 1 rfl) ?_
        refine va_get (D := G.1) (ci := 8) (v := .ref qMT) (C := RX8) (T := TX8) (N := 19) hx hb hts hi8 hown hK hP 0 rfl rfl 5 (by decide) hw0 (fun _ h9 => h9) rfl dX8_joins_35 ?_
        refine lv_iload_n hx hb dX8_joins_38 rfl (lv_at hl 0 rfl) ?_
        obtain ⟨hg, hq⟩ := k_g hq
        refine va_iald hx hb hK hP 1 0 rfl rfl (ix_in hg) dX8_joins_39 ?_
        refine lv_iload_n hx hb dX8_joins_40 rfl (lv_at hl 3 rfl) ?_
        obtain ⟨q9, eq9, hq⟩ := ob hq
        have hPc := hP.sub (ws' := []) [] rfl
        refine vp_callSi (va_Run.run (va_runS (As := [.int x2]) (rest := [.int (mT q1.toNatClampNeg)]) ⟨hx, hb, hml, hown, hts⟩ (tX8_opposite G l eq9) (va_cwS 1 hts gX8_joins_X8_opposite rfl rfl rfl (by decide +kernel) ⟨Nat.le_of_ble_eq_true rfl, Nat.le_of_ble_eq_true rfl⟩) ⟨pcP_blind, pcP_pre hPc hKK⟩ rfl rfl hl.1 rfl (lv_room (Nat.le_of_ble_eq_true rfl)) dX8_joins_41 ⟨Nat.zero_le _, Nat.zero_le _⟩)) (fun r0 hr0 => ?_)
        obtain rfl := hr0
        obtain ⟨q10, eq10, hq⟩ := ob hq
        have hPc := hP.sub (ws' := []) [] rfl
        refine vp_callSi (va_Run.run (va_runS (As := [.int (mT q1.toNatClampNeg), .int q9]) (rest := []) ⟨hx, hb, hml, hown, hts⟩ (tX8_isOpen G l eq10) (va_cwS 2 hts gX8_joins_X8_isOpen rfl rfl rfl (by decide +kernel) ⟨Nat.le_of_ble_eq_true rfl, Nat.le_of_ble_eq_true rfl⟩) ⟨pcP_blind, pcP_pre hPc hKK⟩ rfl rfl hl.1 rfl (lv_room (Nat.le_of_ble_eq_true rfl)) dX8_joins_44 ⟨Nat.zero_le _, Nat.zero_le _⟩)) (fun r0 hr0 => ?_)
        obtain rfl := hr0
        refine lv_if_eq (tgt := 54) hx hb dX8_joins_47 (by decide) (fun c_47 => ?_) (fun c_47 => ?_)
        · have hq := k_t c_47 hq
          refine lv_iconst (v := 0) hx hb dX8_joins_54 (by decide) ?_
          exact J55 0 ls hq (lv_sub hl [] rfl) hP
        · have hq := k_f c_47 hq
          refine lv_iconst (v := 1) hx hb dX8_joins_50 (by decide) ?_
          refine lv_goto (tgt := 55) hx hb dX8_joins_51 (by decide) ?_
          exact J55 1 ls hq (lv_sub hl [] rfl) hP

abbrev rmX8_isJoined : Room := { frames := 2, cells := 0, slots := 0, locals := 48 }
set_option maxHeartbeats 40000000 in
set_option maxRecDepth 100000 in
theorem tX8_isJoined (G : GG) (l : Launch) {qM qMT qMW qMK qMM qMR qML qMP qMY qMF : Nat} {mt : Int32} {mw : Int32} {mh : Int32} {mg : Int32} {ms : Int32} {mv : Int32} {md : Int32} {mu : Int32} {mo : Int32} {mf : Int32} {mT : Nat → Int32} {mW : Nat → Int32} {x1 : Int32} {x2 : Int32} {sz : Nat} {F : Nat} {r : Int32 × Int32} (hq : kX8_isJoined F mt mw mh mg mT mW x1 x2 = some r) : Met l yX8_isJoined wsX8_isJoined rmX8_isJoined (pcW G [(qM, .inr (8, [.int mt, .int mw, .int mh, .int mg, .int ms, .ref qMT, .ref qMW, .ref qMK, .ref qMM, .int mv, .int md, .ref qMR, .ref qML, .ref qMP, .int mu, .ref qMY, .ref qMF, .int mo, .int mf])), (qMT, .inl (G.2.1, 16, .inl mT)), (qMW, .inl (G.2.1, 16, .inl mW))] sz [.ref qM, .int x1, .int x2]) (qcI G r.1 [(qM, .inr (8, [.int r.2, .int mw, .int mh, .int mg, .int ms, .ref qMT, .ref qMW, .ref qMK, .ref qMM, .int mv, .int md, .ref qMR, .ref qML, .ref qMP, .int mu, .ref qMY, .ref qMF, .int mo, .int mf])), (qMT, .inl (G.2.1, 16, .inl mT)), (qMW, .inl (G.2.1, 16, .inl mW))] (va_A [(qM, .inr (8, [.int mt, .int mw, .int mh, .int mg, .int ms, .ref qMT, .ref qMW, .ref qMK, .ref qMM, .int mv, .int md, .ref qMR, .ref qML, .ref qMP, .int mu, .ref qMY, .ref qMF, .int mo, .int mf])), (qMT, .inl (G.2.1, 16, .inl mT)), (qMW, .inl (G.2.1, 16, .inl mW))] sz)) 0 0 (va_A [(qM, .inr (8, [.int mt, .int mw, .int mh, .int mg, .int ms, .ref qMT, .ref qMW, .ref qMK, .ref qMM, .int mv, .int md, .ref qMR, .ref qML, .ref qMP, .int mu, .ref qMY, .ref qMF, .int mo, .int mf])), (qMT, .inl (G.2.1, 16, .inl mT)), (qMW, .inl (G.2.1, 16, .inl mW))] sz) := by
  refine Met.ofW (cc := cX8_isJoined) (maxL := 3) (ret := (some .boolean)) (by decide) rfl ?_
  intro p e s m args below meth c s₁ B hml hv
  obtain ⟨rfl, hsz, hP, hKK, hD0⟩ := hv
  have hK := hKK.1
  have hx := B.exec
  have hb := B.bytes
  have hr := B.returns
  have hts := atoms_spec (ws := wsX8_isJoined) B.pre
  have hown : s.vm.findClass RX8 = some m.cls := findClass_of_methodNamed B.named
  have hlocks := B.notSynchronized
  subst hsz
  have hD := hD0.self (sz := s.heap.size)
  generalize hAe : va_A [(qM, .inr (8, [.int mt, .int mw, .int mh, .int mg, .int ms, .ref qMT, .ref qMW, .ref qMK, .ref qMM, .int mv, .int md, .ref qMR, .ref qML, .ref qMP, .int mu, .ref qMY, .ref qMF, .int mo, .int mf])), (qMT, .inl (G.2.1, 16, .inl mT)), (qMW, .inl (G.2.1, 16, .inl mW))] s.heap.size = A at hD ⊢
  have hA : ∀ q : Nat, s.heap.size ≤ q → A q := fun q h => by rw [← hAe]; exact Or.inr h
  have hS : va_S A s.heap s.heap [] := va_S.rf
  have hl := lv_entry ([.ref qM, .int x1, .int x2] : List Value) (n := 3) (Nat.le_of_ble_eq_true rfl)
  rw [lg_entry_eq]
  generalize (lg_sl ([.ref qM, .int x1, .int x2] : List Value) ++ List.replicate (3 - (lg_sl ([.ref qM, .int x1, .int x2] : List Value)).length) Slot.unset).toArray = ls at hl ⊢
  have hl : lv_has ls 3 [(0, .ref qM), (1, .int x1), (2, .int x2)] := hl
  refine wq (fun Q hQ => ?_)
  unfold kX8_isJoined at hq
  refine lv_aload_n hx hb dX8_isJoined_0 rfl (lv_at hl 0 rfl) ?_
  refine lv_aload_n hx hb dX8_isJoined_1 rfl (lv_at hl 0 rfl) ?_
  refine lv_iload_n hx hb dX8_isJoined_2 rfl (lv_at hl 1 rfl) ?_
  obtain ⟨q1, eq1, hq⟩ := ob hq
  have hPc := hP.sub (ws' := [(qM, .inr (8, [.int mt, .int mw, .int mh, .int mg, .int ms, .ref qMT, .ref qMW, .ref qMK, .ref qMM, .int mv, .int md, .ref qMR, .ref qML, .ref qMP, .int mu, .ref qMY, .ref qMF, .int mo, .int mf]))]) [0] rfl
  have hKc := hK
  refine vp_callSi (va_Run.run (va_runV (As := [.int x1]) (rest := [.ref qM]) ⟨hx, hb, hml, hown, hts⟩ (tX8_isCell G l eq1) (cwV 1 hts gX8_isJoined_X8_isCell rfl rfl rfl (by decide +kernel) ⟨Nat.le_of_ble_eq_true rfl, Nat.le_of_ble_eq_true rfl⟩) ⟨pcP_blind, va_recv hKc hPc (ci := 8) (q0 := 0) rfl rfl, pcP_pre hPc hKK⟩ rfl rfl hl.1 rfl (lv_room (Nat.le_of_ble_eq_true rfl)) dX8_isJoined_3 ⟨Nat.zero_le _, Nat.zero_le _⟩)) (fun r0 hr0 => ?_)
  obtain rfl := hr0
  have J21 : ∀ (v3 : Int32) (ls : Array Slot) (H : Heap) (locs : List Loc), kX8_isJoined_j21 F mt mw mh mg mT mW x1 x2 v3 = some r → lv_has ls 3 [(0, .ref qM), (1, .int x1), (2, .int x2)] → va_P G.1 vwCl [(qM, .inr (8, [.int mt, .int mw, .int mh, .int mg, .int ms, .ref qMT, .ref qMW, .ref qMK, .ref qMM, .int mv, .int md, .ref qMR, .ref qML, .ref qMP, .int mu, .ref qMY, .ref qMF, .int mo, .int mf])), (qMT, .inl (G.2.1, 16, .inl mT)), (qMW, .inl (G.2.1, 16, .inl mW))] H → va_D A [(qM, .inr (8, [.int mt, .int mw, .int mh, .int mg, .int ms, .ref qMT, .ref qMW, .ref qMK, .ref qMM, .int mv, .int md, .ref qMR, .ref qML, .ref qMP, .int mu, .ref qMY, .ref qMF, .int mo, .int mf])), (qMT, .inl (G.2.1, 16, .inl mT)), (qMW, .inl (G.2.1, 16, .inl mW))] → va_S A s.heap H locs → W p l e (headSpec wsX8_isJoined rmX8_isJoined).room s m ([.ref qM, .int x1, .int x2] : List Value).toArray below meth c H locs 0 0 Q (F0 m 21 ls [.int v3, .ref qM]) := by
    intro v3 ls H locs hq hl hP hD hS
    unfold kX8_isJoined_j21 at hq
    obtain ⟨q4, eq4, hq⟩ := ob hq
    have hPc := hP.sub (ws' := [(qM, .inr (8, [.int mt, .int mw, .int mh, .int mg, .int ms, .ref qMT, .ref qMW, .ref qMK, .ref qMM, .int mv, .int md, .ref qMR, .ref qML, .ref qMP, .int mu, .ref qMY, .ref qMF, .int mo, .int mf]))]) [0] rfl
    have hKc := hK
    have hDc := hD.sub (ws' := [(qM, .inr (8, [.int mt, .int mw, .int mh, .int mg, .int ms, .ref qMT, .ref qMW, .ref qMK, .ref qMM, .int mv, .int md, .ref qMR, .ref qML, .ref qMP, .int mu, .ref qMY, .ref qMF, .int mo, .int mf]))]) [0] (by decide) rfl
    have hFc := va_free (wc := [(qM, .inr (8, [.int mt, .int mw, .int mh, .int mg, .int ms, .ref qMT, .ref qMW, .ref qMK, .ref qMM, .int mv, .int md, .ref qMR, .ref qML, .ref qMP, .int mu, .ref qMY, .ref qMF, .int mo, .int mf]))]) hD hS hA [0] rfl
    refine va_calli (va_runV (As := [.int v3]) (rest := []) ⟨hx, hb, hml, hown, hts⟩ (tX8_holds G l eq4) (cwV 1 hts gX8_isJoined_X8_holds rfl rfl rfl (by decide +kernel) ⟨Nat.le_of_ble_eq_true rfl, Nat.le_of_ble_eq_true rfl⟩) ⟨pcW_blind, va_recv hKc hPc (ci := 8) (q0 := 0) rfl rfl, pcW_pre hPc hKK hDc⟩ rfl rfl hl.1 rfl (lv_room (Nat.le_of_ble_eq_true rfl)) dX8_isJoined_21 ⟨Nat.zero_le _, Nat.zero_le _⟩) hS (fun q _ h => hFc q h) hFc (fun r0 u t H1 locs ht hvm hw hB hz1 hk1 hS => ?_)
    obtain rfl := hw
    have hB := va_Pto ht hB
    obtain ⟨hP, hD⟩ := jn (ws' := [(qM, .inr (8, [.int q4.2, .int mw, .int mh, .int mg, .int ms, .ref qMT, .ref qMW, .ref qMK, .ref qMM, .int mv, .int md, .ref qMR, .ref qML, .ref qMP, .int mu, .ref qMY, .ref qMF, .int mo, .int mf])), (qMT, .inl (G.2.1, 16, .inl mT)), (qMW, .inl (G.2.1, 16, .inl mW))]) hP hD hk1 hB [0] rfl rfl rfl rfl
    generalize H1 = H at hP hS ⊢
    refine lv_if_eq (tgt := 40) hx hb dX8_isJoined_24 (by decide) (fun c_24 => ?_) (fun c_24 => ?_)
    · have hq := k_t c_24 hq
      refine lv_iconst (v := 0) hx hb dX8_isJoined_40 (by decide) ?_
      obtain rfl := Option.some.inj hq
      rw [hQ]
      exact W.zret hx hb hr rfl (fun t ht hW => ⟨⟨_, (), rfl, rfl, va_Pat ht hP⟩, hS.F ht⟩) hS.2.2 dX8_isJoined_41
    · have hq := k_f c_24 hq
      refine lv_aload_n hx hb dX8_isJoined_27 rfl (lv_at hl 0 rfl) ?_
      refine lv_iload_n hx hb dX8_isJoined_28 rfl (lv_at hl 1 rfl) ?_
      refine lv_iload_n hx hb dX8_isJoined_29 rfl (lv_at hl 2 rfl) ?_
      obtain ⟨q7, eq7, hq⟩ := ob hq
      have hPc := hP.sub (ws' := [(qM, .inr (8, [.int q4.2, .int mw, .int mh, .int mg, .int ms, .ref qMT, .ref qMW, .ref qMK, .ref qMM, .int mv, .int md, .ref qMR, .ref qML, .ref qMP, .int mu, .ref qMY, .ref qMF, .int mo, .int mf])), (qMT, .inl (G.2.1, 16, .inl mT)), (qMW, .inl (G.2.1, 16, .inl mW))]) [0, 1, 2] rfl
      have hKc := hK
      refine vp_callSi (va_Run.run (va_runV (As := [.int x1, .int x2]) (rest := []) ⟨hx, hb, hml, hown, hts⟩ (tX8_joins G l eq7) (cwV 2 hts gX8_isJoined_X8_joins rfl rfl rfl (by decide +kernel) ⟨Nat.le_of_ble_eq_true rfl, Nat.le_of_ble_eq_true rfl⟩) ⟨pcP_blind, va_recv hKc hPc (ci := 8) (q0 := 0) rfl rfl, pcP_pre hPc hKK⟩ rfl rfl hl.1 rfl (lv_room (Nat.le_of_ble_eq_true rfl)) dX8_isJoined_30 ⟨Nat.zero_le _, Nat.zero_le _⟩)) (fun r0 hr0 => ?_)
      obtain rfl := hr0
      refine lv_if_eq (tgt := 40) hx hb dX8_isJoined_33 (by decide) (fun c_33 => ?_) (fun c_33 => ?_)
      · have hq := k_t c_33 hq
        refine lv_iconst (v := 0) hx hb dX8_isJoined_40 (by decide) ?_
        obtain rfl := Option.some.inj hq
        rw [hQ]
        exact W.zret hx hb hr rfl (fun t ht hW => ⟨⟨_, (), rfl, rfl, va_Pat ht hP⟩, hS.F ht⟩) hS.2.2 dX8_isJoined_41
      · have hq := k_f c_33 hq
        refine lv_iconst (v := 1) hx hb dX8_isJoined_36 (by decide) ?_
        refine lv_goto (tgt := 41) hx hb dX8_isJoined_37 (by decide) ?_
        obtain rfl := Option.some.inj hq
        rw [hQ]
        exact W.zret hx hb hr rfl (fun t ht hW => ⟨⟨_, (), rfl, rfl, va_Pat ht hP⟩, hS.F ht⟩) hS.2.2 dX8_isJoined_41
  refine lv_if_eq (tgt := 20) hx hb dX8_isJoined_6 (by decide) (fun c_6 => ?_) (fun c_6 => ?_)
  · have hq := k_t c_6 hq
    refine lv_iconst (v := 1) hx hb dX8_isJoined_20 (by decide) ?_
    exact J21 1 ls _ _ hq (lv_sub hl [0, 1, 2] rfl) hP hD hS
  · have hq := k_f c_6 hq
    refine lv_iload_n hx hb dX8_isJoined_9 rfl (lv_at hl 2 rfl) ?_
    obtain ⟨q9, eq9, hq⟩ := ob hq
    have hPc := hP.sub (ws' := []) [] rfl
    refine vp_callSi (va_Run.run (va_runS (As := [.int x2]) (rest := [.ref qM]) ⟨hx, hb, hml, hown, hts⟩ (tX8_isSide G l eq9) (va_cwS 1 hts gX8_isJoined_X8_isSide rfl rfl rfl (by decide +kernel) ⟨Nat.le_of_ble_eq_true rfl, Nat.le_of_ble_eq_true rfl⟩) ⟨pcP_blind, pcP_pre hPc hKK⟩ rfl rfl hl.1 rfl (lv_room (Nat.le_of_ble_eq_true rfl)) dX8_isJoined_10 ⟨Nat.zero_le _, Nat.zero_le _⟩)) (fun r0 hr0 => ?_)
    obtain rfl := hr0
    refine lv_if_eq (tgt := 20) hx hb dX8_isJoined_13 (by decide) (fun c_13 => ?_) (fun c_13 => ?_)
    · have hq := k_t c_13 hq
      refine lv_iconst (v := 1) hx hb dX8_isJoined_20 (by decide) ?_
      exact J21 1 ls _ _ hq (lv_sub hl [0, 1, 2] rfl) hP hD hS
    · have hq := k_f c_13 hq
      refine lv_iconst (v := 0) hx hb dX8_isJoined_16 (by decide) ?_
      refine lv_goto (tgt := 21) hx hb dX8_isJoined_17 (by decide) ?_
      exact J21 0 ls _ _ hq (lv_sub hl [0, 1, 2] rfl) hP hD hS

abbrev rmX8_reaches : Room := { frames := 2, cells := 0, slots := 0, locals := 48 }
set_option maxHeartbeats 40000000 in
set_option maxRecDepth 100000 in
theorem tX8_reaches (G : GG) (l : Launch) {qM qMT qMW qMK qMM qMR qML qMP qMY qMF : Nat} {mt : Int32} {mw : Int32} {mh : Int32} {mg : Int32} {ms : Int32} {mv : Int32} {md : Int32} {mu : Int32} {mo : Int32} {mf : Int32} {mT : Nat → Int32} {mW : Nat → Int32} {mR : Nat → Int32} {x1 : Int32} {sz : Nat} {F : Nat} {r : Int32 × (Nat → Int32)} (hq : kX8_reaches F mw mh mg mT mW mR x1 = some r) : Met l yX8_reaches wsX8_reaches rmX8_reaches (pcW G [(qM, .inr (8, [.int mt, .int mw, .int mh, .int mg, .int ms, .ref qMT, .ref qMW, .ref qMK, .ref qMM, .int mv, .int md, .ref qMR, .ref qML, .ref qMP, .int mu, .ref qMY, .ref qMF, .int mo, .int mf])), (qMT, .inl (G.2.1, 16, .inl mT)), (qMW, .inl (G.2.1, 16, .inl mW)), (qMR, .inl (G.2.2.2.1, 16, .inl mR))] sz [.ref qM, .int x1]) (qcI G r.1 [(qM, .inr (8, [.int mt, .int mw, .int mh, .int mg, .int ms, .ref qMT, .ref qMW, .ref qMK, .ref qMM, .int mv, .int md, .ref qMR, .ref qML, .ref qMP, .int mu, .ref qMY, .ref qMF, .int mo, .int mf])), (qMT, .inl (G.2.1, 16, .inl mT)), (qMW, .inl (G.2.1, 16, .inl mW)), (qMR, .inl (G.2.2.2.1, 16, .inl r.2))] (va_A [(qM, .inr (8, [.int mt, .int mw, .int mh, .int mg, .int ms, .ref qMT, .ref qMW, .ref qMK, .ref qMM, .int mv, .int md, .ref qMR, .ref qML, .ref qMP, .int mu, .ref qMY, .ref qMF, .int mo, .int mf])), (qMT, .inl (G.2.1, 16, .inl mT)), (qMW, .inl (G.2.1, 16, .inl mW)), (qMR, .inl (G.2.2.2.1, 16, .inl mR))] sz)) 0 0 (va_A [(qM, .inr (8, [.int mt, .int mw, .int mh, .int mg, .int ms, .ref qMT, .ref qMW, .ref qMK, .ref qMM, .int mv, .int md, .ref qMR, .ref qML, .ref qMP, .int mu, .ref qMY, .ref qMF, .int mo, .int mf])), (qMT, .inl (G.2.1, 16, .inl mT)), (qMW, .inl (G.2.1, 16, .inl mW)), (qMR, .inl (G.2.2.2.1, 16, .inl mR))] sz) := by
  refine Met.ofW (cc := cX8_reaches) (maxL := 6) (ret := (some .int)) (by decide) rfl ?_
  intro p e s m args below meth c s₁ B hml hv
  obtain ⟨rfl, hsz, hP, hKK, hD0⟩ := hv
  have hK := hKK.1
  have hx := B.exec
  have hb := B.bytes
  have hr := B.returns
  have hts := atoms_spec (ws := wsX8_reaches) B.pre
  have hown : s.vm.findClass RX8 = some m.cls := findClass_of_methodNamed B.named
  have hlocks := B.notSynchronized
  subst hsz
  have hD := hD0.self (sz := s.heap.size)
  generalize hAe : va_A [(qM, .inr (8, [.int mt, .int mw, .int mh, .int mg, .int ms, .ref qMT, .ref qMW, .ref qMK, .ref qMM, .int mv, .int md, .ref qMR, .ref qML, .ref qMP, .int mu, .ref qMY, .ref qMF, .int mo, .int mf])), (qMT, .inl (G.2.1, 16, .inl mT)), (qMW, .inl (G.2.1, 16, .inl mW)), (qMR, .inl (G.2.2.2.1, 16, .inl mR))] s.heap.size = A at hD ⊢
  have hA : ∀ q : Nat, s.heap.size ≤ q → A q := fun q h => by rw [← hAe]; exact Or.inr h
  have hS : va_S A s.heap s.heap [] := va_S.rf
  have hl := lv_entry ([.ref qM, .int x1] : List Value) (n := 6) (Nat.le_of_ble_eq_true rfl)
  rw [lg_entry_eq]
  generalize (lg_sl ([.ref qM, .int x1] : List Value) ++ List.replicate (6 - (lg_sl ([.ref qM, .int x1] : List Value)).length) Slot.unset).toArray = ls at hl ⊢
  have hl : lv_has ls 6 [(0, .ref qM), (1, .int x1)] := hl
  have hi8 : ∀ w ∈ u_ws RX8 TX8 19, w ∈ wsX8_reaches := by decide +kernel
  have hw0 : (Cond.fieldLink RX8 30 "NetPlumberModel" "reached" "[Z").before #[Value.ref qM, Value.int x1] s = true := hts _ (by decide +kernel)
  refine wq (fun Q hQ => ?_)
  unfold kX8_reaches at hq
  refine lv_iconst (v := 0) hx hb dX8_reaches_0 (by decide) ?_
  refine lv_istore_n (lv' := [(2, .int 0), (0, .ref qM), (1, .int x1)]) hx hb dX8_reaches_1 rfl hl (by decide) rfl (fun ls hl => ?_)
  have L2 : ∀ (n : Nat) (s5 : Int32) (s6 : Nat → Int32) (t_2 : Nat → Int32) (ls : Array Slot) (H : Heap) (locs : List Loc), kloop n (fun s_ => kX8_reaches_s2 F x1 s_.1 s_.2) (s5, s6) = some t_2 → lv_has ls 6 [(0, .ref qM), (1, .int x1), (2, .int s5)] → va_P G.1 vwCl [(qM, .inr (8, [.int mt, .int mw, .int mh, .int mg, .int ms, .ref qMT, .ref qMW, .ref qMK, .ref qMM, .int mv, .int md, .ref qMR, .ref qML, .ref qMP, .int mu, .ref qMY, .ref qMF, .int mo, .int mf])), (qMT, .inl (G.2.1, 16, .inl mT)), (qMW, .inl (G.2.1, 16, .inl mW)), (qMR, .inl (G.2.2.2.1, 16, .inl s6))] H → va_D A [(qM, .inr (8, [.int mt, .int mw, .int mh, .int mg, .int ms, .ref qMT, .ref qMW, .ref qMK, .ref qMM, .int mv, .int md, .ref qMR, .ref qML, .ref qMP, .int mu, .ref qMY, .ref qMF, .int mo, .int mf])), (qMT, .inl (G.2.1, 16, .inl mT)), (qMW, .inl (G.2.1, 16, .inl mW)), (qMR, .inl (G.2.2.2.1, 16, .inl s6))] → va_S A s.heap H locs → (∀ (ls : Array Slot) (H : Heap) (locs : List Loc), lv_has ls 6 [(0, .ref qM)] → va_P G.1 vwCl [(qM, .inr (8, [.int mt, .int mw, .int mh, .int mg, .int ms, .ref qMT, .ref qMW, .ref qMK, .ref qMM, .int mv, .int md, .ref qMR, .ref qML, .ref qMP, .int mu, .ref qMY, .ref qMF, .int mo, .int mf])), (qMT, .inl (G.2.1, 16, .inl mT)), (qMW, .inl (G.2.1, 16, .inl mW)), (qMR, .inl (G.2.2.2.1, 16, .inl t_2))] H → va_D A [(qM, .inr (8, [.int mt, .int mw, .int mh, .int mg, .int ms, .ref qMT, .ref qMW, .ref qMK, .ref qMM, .int mv, .int md, .ref qMR, .ref qML, .ref qMP, .int mu, .ref qMY, .ref qMF, .int mo, .int mf])), (qMT, .inl (G.2.1, 16, .inl mT)), (qMW, .inl (G.2.1, 16, .inl mW)), (qMR, .inl (G.2.2.2.1, 16, .inl t_2))] → va_S A s.heap H locs → W p l e (headSpec wsX8_reaches rmX8_reaches).room s m ([.ref qM, .int x1] : List Value).toArray below meth c H locs 0 0 Q (F0 m 30 ls [])) → W p l e (headSpec wsX8_reaches rmX8_reaches).room s m ([.ref qM, .int x1] : List Value).toArray below meth c H locs 0 0 Q (F0 m 2 ls []) := by
    intro n
    induction n with
    | zero => 
      intro s5 s6 t_2 ls H locs hq hl hP hD hS kk2_30
      exact absurd hq kl_0
    | succ n ih2 =>
      intro s5 s6 t_2 ls H locs hq hl hP hD hS kk2_30
      obtain ⟨y_2, hq, hx2⟩ := kl_s hq
      have hq : kX8_reaches_s2 F x1 s5 s6 = some y_2 := hq
      unfold kX8_reaches_s2 at hq
      refine lv_iload_n hx hb dX8_reaches_2 rfl (lv_at hl 2 rfl) ?_
      refine lv_bipush (v := 16) hx hb dX8_reaches_3 (by decide) ?_
      refine lv_icmp_ge (tgt := 30) hx hb dX8_reaches_5 (by decide) (fun c_5 => ?_) (fun c_5 => ?_)
      · have hq := k_t c_5 hq
        have et := kl_exit hq hx2
        subst et
        exact kk2_30 ls _ _ (lv_sub hl [0] rfl) hP hD hS
      · have hq := k_f c_5 hq
        refine lv_aload_n hx hb dX8_reaches_8 rfl (lv_at hl 0 rfl) ?_
        refine va_get (D := G.1) (ci := 8) (v := .ref qMR) (C := RX8) (T := TX8) (N := 19) hx hb hts hi8 hown hK hP 0 rfl rfl 11 (by decide) hw0 (fun _ h9 => h9) rfl dX8_reaches_9 ?_
        refine lv_iload_n hx hb dX8_reaches_12 rfl (lv_at hl 2 rfl) ?_
        refine lv_iload_n hx hb dX8_reaches_13 rfl (lv_at hl 2 rfl) ?_
        refine lv_iload_n hx hb dX8_reaches_14 rfl (lv_at hl 1 rfl) ?_
        refine lv_icmp_ne (tgt := 22) hx hb dX8_reaches_15 (by decide) (fun c_15 => ?_) (fun c_15 => ?_)
        · have hq := k_f c_15 hq
          refine lv_iconst (v := 0) hx hb dX8_reaches_22 (by decide) ?_
          obtain ⟨hg, hq⟩ := k_g hq
          refine va_zast hx hb hK hP hD hS 3 2 rfl rfl (ix_in hg) dX8_reaches_23 (fun H locs hP hD hS => ?_)
          have hP : va_P G.1 vwCl [(qM, .inr (8, [.int mt, .int mw, .int mh, .int mg, .int ms, .ref qMT, .ref qMW, .ref qMK, .ref qMM, .int mv, .int md, .ref qMR, .ref qML, .ref qMP, .int mu, .ref qMY, .ref qMF, .int mo, .int mf])), (qMT, .inl (G.2.1, 16, .inl mT)), (qMW, .inl (G.2.1, 16, .inl mW)), (qMR, .inl (G.2.2.2.1, 16, .inl (upd s6 s5.toNatClampNeg (vp_nar .boolean 0))))] H := hP
          have hD : va_D A [(qM, .inr (8, [.int mt, .int mw, .int mh, .int mg, .int ms, .ref qMT, .ref qMW, .ref qMK, .ref qMM, .int mv, .int md, .ref qMR, .ref qML, .ref qMP, .int mu, .ref qMY, .ref qMF, .int mo, .int mf])), (qMT, .inl (G.2.1, 16, .inl mT)), (qMW, .inl (G.2.1, 16, .inl mW)), (qMR, .inl (G.2.2.2.1, 16, .inl (upd s6 s5.toNatClampNeg (vp_nar .boolean 0))))] := hD
          refine lv_iinc (v := (s5 + 1)) (lv' := [(2, .int (s5 + 1)), (0, .ref qM), (1, .int x1)]) hx hb dX8_reaches_24 hl (k := 2) rfl rfl (by decide) rfl (fun ls hl => ?_)
          refine lv_goto (tgt := 2) hx hb dX8_reaches_27 (by decide) ?_
          exact ih2 (s5 + 1) (upd s6 s5.toNatClampNeg (vp_nar .boolean 0)) t_2 ls _ _ (kl_back hq hx2) (lv_sub hl [1, 2, 0] rfl) hP hD hS kk2_30
        · have hq := k_t c_15 hq
          refine lv_iconst (v := 1) hx hb dX8_reaches_18 (by decide) ?_
          refine lv_goto (tgt := 23) hx hb dX8_reaches_19 (by decide) ?_
          obtain ⟨hg, hq⟩ := k_g hq
          refine va_zast hx hb hK hP hD hS 3 2 rfl rfl (ix_in hg) dX8_reaches_23 (fun H locs hP hD hS => ?_)
          have hP : va_P G.1 vwCl [(qM, .inr (8, [.int mt, .int mw, .int mh, .int mg, .int ms, .ref qMT, .ref qMW, .ref qMK, .ref qMM, .int mv, .int md, .ref qMR, .ref qML, .ref qMP, .int mu, .ref qMY, .ref qMF, .int mo, .int mf])), (qMT, .inl (G.2.1, 16, .inl mT)), (qMW, .inl (G.2.1, 16, .inl mW)), (qMR, .inl (G.2.2.2.1, 16, .inl (upd s6 s5.toNatClampNeg (vp_nar .boolean 1))))] H := hP
          have hD : va_D A [(qM, .inr (8, [.int mt, .int mw, .int mh, .int mg, .int ms, .ref qMT, .ref qMW, .ref qMK, .ref qMM, .int mv, .int md, .ref qMR, .ref qML, .ref qMP, .int mu, .ref qMY, .ref qMF, .int mo, .int mf])), (qMT, .inl (G.2.1, 16, .inl mT)), (qMW, .inl (G.2.1, 16, .inl mW)), (qMR, .inl (G.2.2.2.1, 16, .inl (upd s6 s5.toNatClampNeg (vp_nar .boolean 1))))] := hD
          refine lv_iinc (v := (s5 + 1)) (lv' := [(2, .int (s5 + 1)), (0, .ref qM), (1, .int x1)]) hx hb dX8_reaches_24 hl (k := 2) rfl rfl (by decide) rfl (fun ls hl => ?_)
          refine lv_goto (tgt := 2) hx hb dX8_reaches_27 (by decide) ?_
          exact ih2 (s5 + 1) (upd s6 s5.toNatClampNeg (vp_nar .boolean 1)) t_2 ls _ _ (kl_back hq hx2) (lv_sub hl [1, 2, 0] rfl) hP hD hS kk2_30
  obtain ⟨q8, eq8, hq⟩ := ob hq
  refine L2 F 0 mR q8 ls _ _ (eq8) (lv_sub hl [1, 2, 0] rfl) hP hD hS (fun ls H locs hl hP hD hS => ?_)
  · refine lv_iconst (v := 0) hx hb dX8_reaches_30 (by decide) ?_
    refine lv_istore_n (lv' := [(2, .int 0), (0, .ref qM)]) hx hb dX8_reaches_31 rfl hl (by decide) rfl (fun ls hl => ?_)
    refine lv_iconst (v := (-1)) hx hb dX8_reaches_32 (by decide) ?_
    refine lv_istore_n (lv' := [(3, .int (-1)), (2, .int 0), (0, .ref qM)]) hx hb dX8_reaches_33 rfl hl (by decide) rfl (fun ls hl => ?_)
    have L34 : ∀ (n : Nat) (s56 : Int32) (s57 : Int32) (s58 : Nat → Int32) (t_34 : Int32 × (Nat → Int32)) (ls : Array Slot) (H : Heap) (locs : List Loc), kloop n (fun s_ => kX8_reaches_s34 F mw mh mg mT mW s_.1 s_.2.1 s_.2.2) (s56, s57, s58) = some t_34 → lv_has ls 6 [(0, .ref qM), (2, .int s56), (3, .int s57)] → va_P G.1 vwCl [(qM, .inr (8, [.int mt, .int mw, .int mh, .int mg, .int ms, .ref qMT, .ref qMW, .ref qMK, .ref qMM, .int mv, .int md, .ref qMR, .ref qML, .ref qMP, .int mu, .ref qMY, .ref qMF, .int mo, .int mf])), (qMT, .inl (G.2.1, 16, .inl mT)), (qMW, .inl (G.2.1, 16, .inl mW)), (qMR, .inl (G.2.2.2.1, 16, .inl s58))] H → va_D A [(qM, .inr (8, [.int mt, .int mw, .int mh, .int mg, .int ms, .ref qMT, .ref qMW, .ref qMK, .ref qMM, .int mv, .int md, .ref qMR, .ref qML, .ref qMP, .int mu, .ref qMY, .ref qMF, .int mo, .int mf])), (qMT, .inl (G.2.1, 16, .inl mT)), (qMW, .inl (G.2.1, 16, .inl mW)), (qMR, .inl (G.2.2.2.1, 16, .inl s58))] → va_S A s.heap H locs → (∀ (ls : Array Slot) (H : Heap) (locs : List Loc), lv_has ls 6 [(2, .int t_34.1)] → va_P G.1 vwCl [(qM, .inr (8, [.int mt, .int mw, .int mh, .int mg, .int ms, .ref qMT, .ref qMW, .ref qMK, .ref qMM, .int mv, .int md, .ref qMR, .ref qML, .ref qMP, .int mu, .ref qMY, .ref qMF, .int mo, .int mf])), (qMT, .inl (G.2.1, 16, .inl mT)), (qMW, .inl (G.2.1, 16, .inl mW)), (qMR, .inl (G.2.2.2.1, 16, .inl t_34.2))] H → va_D A [(qM, .inr (8, [.int mt, .int mw, .int mh, .int mg, .int ms, .ref qMT, .ref qMW, .ref qMK, .ref qMM, .int mv, .int md, .ref qMR, .ref qML, .ref qMP, .int mu, .ref qMY, .ref qMF, .int mo, .int mf])), (qMT, .inl (G.2.1, 16, .inl mT)), (qMW, .inl (G.2.1, 16, .inl mW)), (qMR, .inl (G.2.2.2.1, 16, .inl t_34.2))] → va_S A s.heap H locs → W p l e (headSpec wsX8_reaches rmX8_reaches).room s m ([.ref qM, .int x1] : List Value).toArray below meth c H locs 0 0 Q (F0 m 146 ls [])) → W p l e (headSpec wsX8_reaches rmX8_reaches).room s m ([.ref qM, .int x1] : List Value).toArray below meth c H locs 0 0 Q (F0 m 34 ls []) := by
      intro n
      induction n with
      | zero => 
        intro s56 s57 s58 t_34 ls H locs hq hl hP hD hS kk34_146
        exact absurd hq kl_0
      | succ n ih34 =>
        intro s56 s57 s58 t_34 ls H locs hq hl hP hD hS kk34_146
        obtain ⟨y_34, hq, hx34⟩ := kl_s hq
        have hq : kX8_reaches_s34 F mw mh mg mT mW s56 s57 s58 = some y_34 := hq
        unfold kX8_reaches_s34 at hq
        refine lv_iload_n hx hb dX8_reaches_34 rfl (lv_at hl 1 rfl) ?_
        refine lv_iload_n hx hb dX8_reaches_35 rfl (lv_at hl 2 rfl) ?_
        refine lv_icmp_eq (tgt := 146) hx hb dX8_reaches_36 (by decide) (fun c_36 => ?_) (fun c_36 => ?_)
        · have hq := k_t c_36 hq
          have et := kl_exit hq hx34
          subst et
          exact kk34_146 ls _ _ (lv_sub hl [1] rfl) hP hD hS
        · have hq := k_f c_36 hq
          refine lv_iload_n hx hb dX8_reaches_39 rfl (lv_at hl 1 rfl) ?_
          refine lv_istore_n (lv' := [(3, .int s56), (0, .ref qM), (2, .int s56)]) hx hb dX8_reaches_40 rfl hl (by decide) rfl (fun ls hl => ?_)
          refine lv_iconst (v := 0) hx hb dX8_reaches_41 (by decide) ?_
          refine lv_istore_n (lv' := [(2, .int 0), (3, .int s56), (0, .ref qM)]) hx hb dX8_reaches_42 rfl hl (by decide) rfl (fun ls hl => ?_)
          refine lv_iconst (v := 0) hx hb dX8_reaches_43 (by decide) ?_
          refine lv_istore (lv' := [(4, .int 0), (2, .int 0), (3, .int s56), (0, .ref qM)]) hx hb dX8_reaches_44 hl (by decide) rfl (fun ls hl => ?_)
          have L46 : ∀ (n : Nat) (s81 : Int32) (s82 : Int32) (s83 : Nat → Int32) (t_46 : Int32 × (Nat → Int32)) (ls : Array Slot) (H : Heap) (locs : List Loc), kloop n (fun s_ => kX8_reaches_s46 F mw mh mg mT mW s_.1 s_.2.1 s_.2.2) (s81, s82, s83) = some t_46 → lv_has ls 6 [(0, .ref qM), (2, .int s81), (3, .int s56), (4, .int s82)] → va_P G.1 vwCl [(qM, .inr (8, [.int mt, .int mw, .int mh, .int mg, .int ms, .ref qMT, .ref qMW, .ref qMK, .ref qMM, .int mv, .int md, .ref qMR, .ref qML, .ref qMP, .int mu, .ref qMY, .ref qMF, .int mo, .int mf])), (qMT, .inl (G.2.1, 16, .inl mT)), (qMW, .inl (G.2.1, 16, .inl mW)), (qMR, .inl (G.2.2.2.1, 16, .inl s83))] H → va_D A [(qM, .inr (8, [.int mt, .int mw, .int mh, .int mg, .int ms, .ref qMT, .ref qMW, .ref qMK, .ref qMM, .int mv, .int md, .ref qMR, .ref qML, .ref qMP, .int mu, .ref qMY, .ref qMF, .int mo, .int mf])), (qMT, .inl (G.2.1, 16, .inl mT)), (qMW, .inl (G.2.1, 16, .inl mW)), (qMR, .inl (G.2.2.2.1, 16, .inl s83))] → va_S A s.heap H locs → (∀ (ls : Array Slot) (H : Heap) (locs : List Loc), lv_has ls 6 [(0, .ref qM), (2, .int t_46.1), (3, .int s56)] → va_P G.1 vwCl [(qM, .inr (8, [.int mt, .int mw, .int mh, .int mg, .int ms, .ref qMT, .ref qMW, .ref qMK, .ref qMM, .int mv, .int md, .ref qMR, .ref qML, .ref qMP, .int mu, .ref qMY, .ref qMF, .int mo, .int mf])), (qMT, .inl (G.2.1, 16, .inl mT)), (qMW, .inl (G.2.1, 16, .inl mW)), (qMR, .inl (G.2.2.2.1, 16, .inl t_46.2))] H → va_D A [(qM, .inr (8, [.int mt, .int mw, .int mh, .int mg, .int ms, .ref qMT, .ref qMW, .ref qMK, .ref qMM, .int mv, .int md, .ref qMR, .ref qML, .ref qMP, .int mu, .ref qMY, .ref qMF, .int mo, .int mf])), (qMT, .inl (G.2.1, 16, .inl mT)), (qMW, .inl (G.2.1, 16, .inl mW)), (qMR, .inl (G.2.2.2.1, 16, .inl t_46.2))] → va_S A s.heap H locs → W p l e (headSpec wsX8_reaches rmX8_reaches).room s m ([.ref qM, .int x1] : List Value).toArray below meth c H locs 0 0 Q (F0 m 143 ls [])) → W p l e (headSpec wsX8_reaches rmX8_reaches).room s m ([.ref qM, .int x1] : List Value).toArray below meth c H locs 0 0 Q (F0 m 46 ls []) := by
            intro n
            induction n with
            | zero => 
              intro s81 s82 s83 t_46 ls H locs hq hl hP hD hS kk46_143
              exact absurd hq kl_0
            | succ n ih46 =>
              intro s81 s82 s83 t_46 ls H locs hq hl hP hD hS kk46_143
              obtain ⟨y_46, hq, hx46⟩ := kl_s hq
              have hq : kX8_reaches_s46 F mw mh mg mT mW s81 s82 s83 = some y_46 := hq
              unfold kX8_reaches_s46 at hq
              refine lv_iload hx hb dX8_reaches_46 (lv_at hl 3 rfl) ?_
              refine lv_aload_n hx hb dX8_reaches_48 rfl (lv_at hl 0 rfl) ?_
              obtain ⟨q84, eq84, hq⟩ := ob hq
              have hPc := hP.sub (ws' := [(qM, .inr (8, [.int mt, .int mw, .int mh, .int mg, .int ms, .ref qMT, .ref qMW, .ref qMK, .ref qMM, .int mv, .int md, .ref qMR, .ref qML, .ref qMP, .int mu, .ref qMY, .ref qMF, .int mo, .int mf]))]) [0] rfl
              have hKc := hK
              refine vp_callSi (va_Run.run (va_runV (As := []) (rest := [.int s82]) ⟨hx, hb, hml, hown, hts⟩ (tX8_cells G l eq84) (cwV 0 hts gX8_reaches_X8_cells rfl rfl rfl (by decide +kernel) ⟨Nat.le_of_ble_eq_true rfl, Nat.le_of_ble_eq_true rfl⟩) ⟨pcP_blind, va_recv hKc hPc (ci := 8) (q0 := 0) rfl rfl, pcP_pre hPc hKK⟩ rfl rfl hl.1 rfl (lv_room (Nat.le_of_ble_eq_true rfl)) dX8_reaches_49 ⟨Nat.zero_le _, Nat.zero_le _⟩)) (fun r0 hr0 => ?_)
              obtain rfl := hr0
              refine lv_icmp_ge (tgt := 143) hx hb dX8_reaches_52 (by decide) (fun c_52 => ?_) (fun c_52 => ?_)
              · have hq := k_t c_52 hq
                have et := kl_exit hq hx46
                subst et
                exact kk46_143 ls _ _ (lv_sub hl [0, 1, 2] rfl) hP hD hS
              · have hq := k_f c_52 hq
                refine lv_iconst (v := 0) hx hb dX8_reaches_55 (by decide) ?_
                refine lv_istore (lv' := [(5, .int 0), (0, .ref qM), (2, .int s81), (3, .int s56), (4, .int s82)]) hx hb dX8_reaches_56 hl (by decide) rfl (fun ls hl => ?_)
                have L58 : ∀ (n : Nat) (s94 : Int32) (s95 : Nat → Int32) (t_58 : Nat → Int32) (ls : Array Slot) (H : Heap) (locs : List Loc), kloop n (fun s_ => kX8_reaches_s58 F mw mh mg mT mW s82 s_.1 s_.2) (s94, s95) = some t_58 → lv_has ls 6 [(0, .ref qM), (2, .int s81), (3, .int s56), (4, .int s82), (5, .int s94)] → va_P G.1 vwCl [(qM, .inr (8, [.int mt, .int mw, .int mh, .int mg, .int ms, .ref qMT, .ref qMW, .ref qMK, .ref qMM, .int mv, .int md, .ref qMR, .ref qML, .ref qMP, .int mu, .ref qMY, .ref qMF, .int mo, .int mf])), (qMT, .inl (G.2.1, 16, .inl mT)), (qMW, .inl (G.2.1, 16, .inl mW)), (qMR, .inl (G.2.2.2.1, 16, .inl s95))] H → va_D A [(qM, .inr (8, [.int mt, .int mw, .int mh, .int mg, .int ms, .ref qMT, .ref qMW, .ref qMK, .ref qMM, .int mv, .int md, .ref qMR, .ref qML, .ref qMP, .int mu, .ref qMY, .ref qMF, .int mo, .int mf])), (qMT, .inl (G.2.1, 16, .inl mT)), (qMW, .inl (G.2.1, 16, .inl mW)), (qMR, .inl (G.2.2.2.1, 16, .inl s95))] → va_S A s.heap H locs → (∀ (ls : Array Slot) (H : Heap) (locs : List Loc), lv_has ls 6 [(0, .ref qM), (2, .int s81), (3, .int s56), (4, .int s82)] → va_P G.1 vwCl [(qM, .inr (8, [.int mt, .int mw, .int mh, .int mg, .int ms, .ref qMT, .ref qMW, .ref qMK, .ref qMM, .int mv, .int md, .ref qMR, .ref qML, .ref qMP, .int mu, .ref qMY, .ref qMF, .int mo, .int mf])), (qMT, .inl (G.2.1, 16, .inl mT)), (qMW, .inl (G.2.1, 16, .inl mW)), (qMR, .inl (G.2.2.2.1, 16, .inl t_58))] H → va_D A [(qM, .inr (8, [.int mt, .int mw, .int mh, .int mg, .int ms, .ref qMT, .ref qMW, .ref qMK, .ref qMM, .int mv, .int md, .ref qMR, .ref qML, .ref qMP, .int mu, .ref qMY, .ref qMF, .int mo, .int mf])), (qMT, .inl (G.2.1, 16, .inl mT)), (qMW, .inl (G.2.1, 16, .inl mW)), (qMR, .inl (G.2.2.2.1, 16, .inl t_58))] → va_S A s.heap H locs → W p l e (headSpec wsX8_reaches rmX8_reaches).room s m ([.ref qM, .int x1] : List Value).toArray below meth c H locs 0 0 Q (F0 m 119 ls [])) → W p l e (headSpec wsX8_reaches rmX8_reaches).room s m ([.ref qM, .int x1] : List Value).toArray below meth c H locs 0 0 Q (F0 m 58 ls []) := by
                  intro n
                  induction n with
                  | zero => 
                    intro s94 s95 t_58 ls H locs hq hl hP hD hS kk58_119
                    exact absurd hq kl_0
                  | succ n ih58 =>
                    intro s94 s95 t_58 ls H locs hq hl hP hD hS kk58_119
                    obtain ⟨y_58, hq, hx58⟩ := kl_s hq
                    have hq : kX8_reaches_s58 F mw mh mg mT mW s82 s94 s95 = some y_58 := hq
                    unfold kX8_reaches_s58 at hq
                    refine lv_iload hx hb dX8_reaches_58 (lv_at hl 4 rfl) ?_
                    refine lv_iconst (v := 4) hx hb dX8_reaches_60 (by decide) ?_
                    refine lv_icmp_ge (tgt := 119) hx hb dX8_reaches_61 (by decide) (fun c_61 => ?_) (fun c_61 => ?_)
                    · have hq := k_t c_61 hq
                      have et := kl_exit hq hx58
                      subst et
                      exact kk58_119 ls _ _ (lv_sub hl [0, 1, 2, 3] rfl) hP hD hS
                    · have hq := k_f c_61 hq
                      refine lv_aload_n hx hb dX8_reaches_64 rfl (lv_at hl 0 rfl) ?_
                      refine va_get (D := G.1) (ci := 8) (v := .ref qMR) (C := RX8) (T := TX8) (N := 19) hx hb hts hi8 hown hK hP 0 rfl rfl 11 (by decide) hw0 (fun _ h9 => h9) rfl dX8_reaches_65 ?_
                      refine lv_iload hx hb dX8_reaches_68 (lv_at hl 3 rfl) ?_
                      obtain ⟨hg, hq⟩ := k_g hq
                      refine va_zald hx hb hK hP 3 2 rfl rfl (ix_in hg) dX8_reaches_70 ?_
                      refine lv_if_ne (tgt := 119) hx hb dX8_reaches_71 (by decide) (fun c_71 => ?_) (fun c_71 => ?_)
                      · have hq := k_f c_71 hq
                        have et := kl_exit hq hx58
                        subst et
                        exact kk58_119 ls _ _ (lv_sub hl [0, 1, 2, 3] rfl) hP hD hS
                      · have hq := k_t c_71 hq
                        refine lv_aload_n hx hb dX8_reaches_74 rfl (lv_at hl 0 rfl) ?_
                        refine va_get (D := G.1) (ci := 8) (v := .ref qMR) (C := RX8) (T := TX8) (N := 19) hx hb hts hi8 hown hK hP 0 rfl rfl 11 (by decide) hw0 (fun _ h9 => h9) rfl dX8_reaches_75 ?_
                        refine lv_iload hx hb dX8_reaches_78 (lv_at hl 3 rfl) ?_
                        refine lv_aload_n hx hb dX8_reaches_80 rfl (lv_at hl 0 rfl) ?_
                        refine lv_iload hx hb dX8_reaches_81 (lv_at hl 3 rfl) ?_
                        refine lv_iload hx hb dX8_reaches_83 (lv_at hl 4 rfl) ?_
                        obtain ⟨q96, eq96, hq⟩ := ob hq
                        have hPc := hP.sub (ws' := [(qM, .inr (8, [.int mt, .int mw, .int mh, .int mg, .int ms, .ref qMT, .ref qMW, .ref qMK, .ref qMM, .int mv, .int md, .ref qMR, .ref qML, .ref qMP, .int mu, .ref qMY, .ref qMF, .int mo, .int mf])), (qMT, .inl (G.2.1, 16, .inl mT)), (qMW, .inl (G.2.1, 16, .inl mW))]) [0, 1, 2] rfl
                        have hKc := hK
                        refine vp_callSi (va_Run.run (va_runV (As := [.int s82, .int s94]) (rest := [.int s82, .ref qMR]) ⟨hx, hb, hml, hown, hts⟩ (tX8_joins G l eq96) (cwV 2 hts gX8_reaches_X8_joins rfl rfl rfl (by decide +kernel) ⟨Nat.le_of_ble_eq_true rfl, Nat.le_of_ble_eq_true rfl⟩) ⟨pcP_blind, va_recv hKc hPc (ci := 8) (q0 := 0) rfl rfl, pcP_pre hPc hKK⟩ rfl rfl hl.1 rfl (lv_room (Nat.le_of_ble_eq_true rfl)) dX8_reaches_85 ⟨Nat.zero_le _, Nat.zero_le _⟩)) (fun r0 hr0 => ?_)
                        obtain rfl := hr0
                        have J112 : ∀ (v98 : Int32) (ls : Array Slot) (H : Heap) (locs : List Loc), kX8_reaches_j112 F s82 s94 s95 v98 = some y_58 → lv_has ls 6 [(0, .ref qM), (2, .int s81), (3, .int s56), (4, .int s82), (5, .int s94)] → va_P G.1 vwCl [(qM, .inr (8, [.int mt, .int mw, .int mh, .int mg, .int ms, .ref qMT, .ref qMW, .ref qMK, .ref qMM, .int mv, .int md, .ref qMR, .ref qML, .ref qMP, .int mu, .ref qMY, .ref qMF, .int mo, .int mf])), (qMT, .inl (G.2.1, 16, .inl mT)), (qMW, .inl (G.2.1, 16, .inl mW)), (qMR, .inl (G.2.2.2.1, 16, .inl s95))] H → va_D A [(qM, .inr (8, [.int mt, .int mw, .int mh, .int mg, .int ms, .ref qMT, .ref qMW, .ref qMK, .ref qMM, .int mv, .int md, .ref qMR, .ref qML, .ref qMP, .int mu, .ref qMY, .ref qMF, .int mo, .int mf])), (qMT, .inl (G.2.1, 16, .inl mT)), (qMW, .inl (G.2.1, 16, .inl mW)), (qMR, .inl (G.2.2.2.1, 16, .inl s95))] → va_S A s.heap H locs → W p l e (headSpec wsX8_reaches rmX8_reaches).room s m ([.ref qM, .int x1] : List Value).toArray below meth c H locs 0 0 Q (F0 m 112 ls [.int v98, .int s82, .ref qMR]) := by
                          intro v98 ls H locs hq hl hP hD hS
                          unfold kX8_reaches_j112 at hq
                          obtain ⟨hg, hq⟩ := k_g hq
                          refine va_zast hx hb hK hP hD hS 3 2 rfl rfl (ix_in hg) dX8_reaches_112 (fun H locs hP hD hS => ?_)
                          have hP : va_P G.1 vwCl [(qM, .inr (8, [.int mt, .int mw, .int mh, .int mg, .int ms, .ref qMT, .ref qMW, .ref qMK, .ref qMM, .int mv, .int md, .ref qMR, .ref qML, .ref qMP, .int mu, .ref qMY, .ref qMF, .int mo, .int mf])), (qMT, .inl (G.2.1, 16, .inl mT)), (qMW, .inl (G.2.1, 16, .inl mW)), (qMR, .inl (G.2.2.2.1, 16, .inl (upd s95 s82.toNatClampNeg (vp_nar .boolean v98))))] H := hP
                          have hD : va_D A [(qM, .inr (8, [.int mt, .int mw, .int mh, .int mg, .int ms, .ref qMT, .ref qMW, .ref qMK, .ref qMM, .int mv, .int md, .ref qMR, .ref qML, .ref qMP, .int mu, .ref qMY, .ref qMF, .int mo, .int mf])), (qMT, .inl (G.2.1, 16, .inl mT)), (qMW, .inl (G.2.1, 16, .inl mW)), (qMR, .inl (G.2.2.2.1, 16, .inl (upd s95 s82.toNatClampNeg (vp_nar .boolean v98))))] := hD
                          refine lv_iinc (v := (s94 + 1)) (lv' := [(5, .int (s94 + 1)), (0, .ref qM), (2, .int s81), (3, .int s56), (4, .int s82)]) hx hb dX8_reaches_113 hl (k := 4) rfl rfl (by decide) rfl (fun ls hl => ?_)
                          refine lv_goto (tgt := 58) hx hb dX8_reaches_116 (by decide) ?_
                          exact ih58 (s94 + 1) (upd s95 s82.toNatClampNeg (vp_nar .boolean v98)) t_58 ls _ _ (kl_back hq hx58) (lv_sub hl [1, 2, 3, 4, 0] rfl) hP hD hS kk58_119
                        refine lv_if_eq (tgt := 111) hx hb dX8_reaches_88 (by decide) (fun c_88 => ?_) (fun c_88 => ?_)
                        · have hq := k_t c_88 hq
                          refine lv_iconst (v := 0) hx hb dX8_reaches_111 (by decide) ?_
                          exact J112 0 ls _ _ hq (lv_sub hl [0, 1, 2, 3, 4] rfl) hP hD hS
                        · have hq := k_f c_88 hq
                          refine lv_aload_n hx hb dX8_reaches_91 rfl (lv_at hl 0 rfl) ?_
                          refine va_get (D := G.1) (ci := 8) (v := .ref qMR) (C := RX8) (T := TX8) (N := 19) hx hb hts hi8 hown hK hP 0 rfl rfl 11 (by decide) hw0 (fun _ h9 => h9) rfl dX8_reaches_92 ?_
                          refine lv_aload_n hx hb dX8_reaches_95 rfl (lv_at hl 0 rfl) ?_
                          refine lv_iload hx hb dX8_reaches_96 (lv_at hl 3 rfl) ?_
                          refine lv_iload hx hb dX8_reaches_98 (lv_at hl 4 rfl) ?_
                          obtain ⟨q99, eq99, hq⟩ := ob hq
                          have hPc := hP.sub (ws' := [(qM, .inr (8, [.int mt, .int mw, .int mh, .int mg, .int ms, .ref qMT, .ref qMW, .ref qMK, .ref qMM, .int mv, .int md, .ref qMR, .ref qML, .ref qMP, .int mu, .ref qMY, .ref qMF, .int mo, .int mf]))]) [0] rfl
                          have hKc := hK
                          refine vp_callSi (va_Run.run (va_runV (As := [.int s82, .int s94]) (rest := [.ref qMR, .int s82, .ref qMR]) ⟨hx, hb, hml, hown, hts⟩ (tX8_neighbourOf G l eq99) (cwV 2 hts gX8_reaches_X8_neighbourOf rfl rfl rfl (by decide +kernel) ⟨Nat.le_of_ble_eq_true rfl, Nat.le_of_ble_eq_true rfl⟩) ⟨pcP_blind, va_recv hKc hPc (ci := 8) (q0 := 0) rfl rfl, pcP_pre hPc hKK⟩ rfl rfl hl.1 rfl (lv_room (Nat.le_of_ble_eq_true rfl)) dX8_reaches_100 ⟨Nat.zero_le _, Nat.zero_le _⟩)) (fun r0 hr0 => ?_)
                          obtain rfl := hr0
                          obtain ⟨hg, hq⟩ := k_g hq
                          refine va_zald hx hb hK hP 3 2 rfl rfl (ix_in hg) dX8_reaches_103 ?_
                          refine lv_if_eq (tgt := 111) hx hb dX8_reaches_104 (by decide) (fun c_104 => ?_) (fun c_104 => ?_)
                          · have hq := k_t c_104 hq
                            refine lv_iconst (v := 0) hx hb dX8_reaches_111 (by decide) ?_
                            exact J112 0 ls _ _ hq (lv_sub hl [0, 1, 2, 3, 4] rfl) hP hD hS
                          · have hq := k_f c_104 hq
                            refine lv_iconst (v := 1) hx hb dX8_reaches_107 (by decide) ?_
                            refine lv_goto (tgt := 112) hx hb dX8_reaches_108 (by decide) ?_
                            exact J112 1 ls _ _ hq (lv_sub hl [0, 1, 2, 3, 4] rfl) hP hD hS
                obtain ⟨q100, eq100, hq⟩ := ob hq
                refine L58 F 0 s83 q100 ls _ _ (eq100) (lv_sub hl [1, 2, 3, 4, 0] rfl) hP hD hS (fun ls H locs hl hP hD hS => ?_)
                · refine lv_iload_n hx hb dX8_reaches_119 rfl (lv_at hl 1 rfl) ?_
                  refine lv_aload_n hx hb dX8_reaches_120 rfl (lv_at hl 0 rfl) ?_
                  refine va_get (D := G.1) (ci := 8) (v := .ref qMR) (C := RX8) (T := TX8) (N := 19) hx hb hts hi8 hown hK hP 0 rfl rfl 11 (by decide) hw0 (fun _ h9 => h9) rfl dX8_reaches_121 ?_
                  refine lv_iload hx hb dX8_reaches_124 (lv_at hl 3 rfl) ?_
                  obtain ⟨hg, hq⟩ := k_g hq
                  refine va_zald hx hb hK hP 3 2 rfl rfl (ix_in hg) dX8_reaches_126 ?_
                  refine lv_if_eq (tgt := 134) hx hb dX8_reaches_127 (by decide) (fun c_127 => ?_) (fun c_127 => ?_)
                  · have hq := k_t c_127 hq
                    refine lv_iconst (v := 0) hx hb dX8_reaches_134 (by decide) ?_
                    refine lv_iadd hx hb dX8_reaches_135 ?_
                    refine lv_istore_n (lv' := [(2, .int (s81 + 0)), (0, .ref qM), (3, .int s56), (4, .int s82)]) hx hb dX8_reaches_136 rfl hl (by decide) rfl (fun ls hl => ?_)
                    refine lv_iinc (v := (s82 + 1)) (lv' := [(4, .int (s82 + 1)), (2, .int (s81 + 0)), (0, .ref qM), (3, .int s56)]) hx hb dX8_reaches_137 hl (k := 3) rfl rfl (by decide) rfl (fun ls hl => ?_)
                    refine lv_goto (tgt := 46) hx hb dX8_reaches_140 (by decide) ?_
                    exact ih46 (s81 + 0) (s82 + 1) q100 t_46 ls _ _ (kl_back hq hx46) (lv_sub hl [2, 1, 3, 0] rfl) hP hD hS kk46_143
                  · have hq := k_f c_127 hq
                    refine lv_iconst (v := 1) hx hb dX8_reaches_130 (by decide) ?_
                    refine lv_goto (tgt := 135) hx hb dX8_reaches_131 (by decide) ?_
                    refine lv_iadd hx hb dX8_reaches_135 ?_
                    refine lv_istore_n (lv' := [(2, .int (s81 + 1)), (0, .ref qM), (3, .int s56), (4, .int s82)]) hx hb dX8_reaches_136 rfl hl (by decide) rfl (fun ls hl => ?_)
                    refine lv_iinc (v := (s82 + 1)) (lv' := [(4, .int (s82 + 1)), (2, .int (s81 + 1)), (0, .ref qM), (3, .int s56)]) hx hb dX8_reaches_137 hl (k := 3) rfl rfl (by decide) rfl (fun ls hl => ?_)
                    refine lv_goto (tgt := 46) hx hb dX8_reaches_140 (by decide) ?_
                    exact ih46 (s81 + 1) (s82 + 1) q100 t_46 ls _ _ (kl_back hq hx46) (lv_sub hl [2, 1, 3, 0] rfl) hP hD hS kk46_143
          obtain ⟨q102, eq102, hq⟩ := ob hq
          refine L46 F 0 0 s58 q102 ls _ _ (eq102) (lv_sub hl [3, 1, 2, 0] rfl) hP hD hS (fun ls H locs hl hP hD hS => ?_)
          · refine lv_goto (tgt := 34) hx hb dX8_reaches_143 (by decide) ?_
            exact ih34 q102.1 s56 q102.2 t_34 ls _ _ (kl_back hq hx34) (lv_sub hl [0, 1, 2] rfl) hP hD hS kk34_146
    obtain ⟨q103, eq103, hq⟩ := ob hq
    refine L34 F 0 (-1) q8 q103 ls _ _ (eq103) (lv_sub hl [2, 1, 0] rfl) hP hD hS (fun ls H locs hl hP hD hS => ?_)
    · refine lv_iload_n hx hb dX8_reaches_146 rfl (lv_at hl 0 rfl) ?_
      obtain rfl := Option.some.inj hq
      rw [hQ]
      exact W.iret hx hb hr (fun t ht hW => ⟨⟨_, (), rfl, rfl, va_Pat ht hP⟩, hS.F ht⟩) hS.2.2 dX8_reaches_147

abbrev rmX8_joined : Room := { frames := 2, cells := 0, slots := 0, locals := 48 }
set_option maxHeartbeats 40000000 in
set_option maxRecDepth 100000 in
theorem tX8_joined (G : GG) (l : Launch) {qM qMT qMW qMK qMM qMR qML qMP qMY qMF : Nat} {mt : Int32} {mw : Int32} {mh : Int32} {mg : Int32} {ms : Int32} {mv : Int32} {md : Int32} {mu : Int32} {mo : Int32} {mf : Int32} {mT : Nat → Int32} {mW : Nat → Int32} {F : Nat} {r : Int32} (hq : kX8_joined F mw mh mg mT mW = some r) : Met l yX8_joined wsX8_joined rmX8_joined (pcP G [(qM, .inr (8, [.int mt, .int mw, .int mh, .int mg, .int ms, .ref qMT, .ref qMW, .ref qMK, .ref qMM, .int mv, .int md, .ref qMR, .ref qML, .ref qMP, .int mu, .ref qMY, .ref qMF, .int mo, .int mf])), (qMT, .inl (G.2.1, 16, .inl mT)), (qMW, .inl (G.2.1, 16, .inl mW))] [.ref qM]) (vp_Si (fun x => r = x)) 0 0 (fun _ => False) := by
  refine Met.ofW (cc := cX8_joined) (maxL := 4) (ret := (some .int)) (by decide) rfl ?_
  intro p e s m args below meth c s₁ B hml hv
  obtain ⟨rfl, hP, hKK⟩ := hv
  have hK := hKK.1
  have hx := B.exec
  have hb := B.bytes
  have hr := B.returns
  have hts := atoms_spec (ws := wsX8_joined) B.pre
  have hown : s.vm.findClass RX8 = some m.cls := findClass_of_methodNamed B.named
  have hlocks := B.notSynchronized
  have hl := lv_entry ([.ref qM] : List Value) (n := 4) (Nat.le_of_ble_eq_true rfl)
  rw [lg_entry_eq]
  generalize (lg_sl ([.ref qM] : List Value) ++ List.replicate (4 - (lg_sl ([.ref qM] : List Value)).length) Slot.unset).toArray = ls at hl ⊢
  have hl : lv_has ls 4 [(0, .ref qM)] := hl
  refine wq (fun Q hQ => ?_)
  unfold kX8_joined at hq
  refine lv_iconst (v := 0) hx hb dX8_joined_0 (by decide) ?_
  refine lv_istore_n (lv' := [(1, .int 0), (0, .ref qM)]) hx hb dX8_joined_1 rfl hl (by decide) rfl (fun ls hl => ?_)
  refine lv_iconst (v := 0) hx hb dX8_joined_2 (by decide) ?_
  refine lv_istore_n (lv' := [(2, .int 0), (1, .int 0), (0, .ref qM)]) hx hb dX8_joined_3 rfl hl (by decide) rfl (fun ls hl => ?_)
  have L4 : ∀ (n : Nat) (s14 : Int32) (s15 : Int32) (t_4 : Int32) (ls : Array Slot), kloop n (fun s_ => kX8_joined_s4 F mw mh mg mT mW s_.1 s_.2) (s14, s15) = some t_4 → lv_has ls 4 [(0, .ref qM), (1, .int s14), (2, .int s15)] → va_P G.1 vwCl [(qM, .inr (8, [.int mt, .int mw, .int mh, .int mg, .int ms, .ref qMT, .ref qMW, .ref qMK, .ref qMM, .int mv, .int md, .ref qMR, .ref qML, .ref qMP, .int mu, .ref qMY, .ref qMF, .int mo, .int mf])), (qMT, .inl (G.2.1, 16, .inl mT)), (qMW, .inl (G.2.1, 16, .inl mW))] s.heap → (∀ (ls : Array Slot), lv_has ls 4 [(1, .int t_4)] → va_P G.1 vwCl [(qM, .inr (8, [.int mt, .int mw, .int mh, .int mg, .int ms, .ref qMT, .ref qMW, .ref qMK, .ref qMM, .int mv, .int md, .ref qMR, .ref qML, .ref qMP, .int mu, .ref qMY, .ref qMF, .int mo, .int mf])), (qMT, .inl (G.2.1, 16, .inl mT)), (qMW, .inl (G.2.1, 16, .inl mW))] s.heap → W p l e (headSpec wsX8_joined rmX8_joined).room s m ([.ref qM] : List Value).toArray below meth c s.heap [] 0 0 Q (F0 m 48 ls [])) → W p l e (headSpec wsX8_joined rmX8_joined).room s m ([.ref qM] : List Value).toArray below meth c s.heap [] 0 0 Q (F0 m 4 ls []) := by
    intro n
    induction n with
    | zero => 
      intro s14 s15 t_4 ls hq hl hP kk4_48
      exact absurd hq kl_0
    | succ n ih4 =>
      intro s14 s15 t_4 ls hq hl hP kk4_48
      obtain ⟨y_4, hq, hx4⟩ := kl_s hq
      have hq : kX8_joined_s4 F mw mh mg mT mW s14 s15 = some y_4 := hq
      unfold kX8_joined_s4 at hq
      refine lv_iload_n hx hb dX8_joined_4 rfl (lv_at hl 2 rfl) ?_
      refine lv_aload_n hx hb dX8_joined_5 rfl (lv_at hl 0 rfl) ?_
      obtain ⟨q16, eq16, hq⟩ := ob hq
      have hPc := hP.sub (ws' := [(qM, .inr (8, [.int mt, .int mw, .int mh, .int mg, .int ms, .ref qMT, .ref qMW, .ref qMK, .ref qMM, .int mv, .int md, .ref qMR, .ref qML, .ref qMP, .int mu, .ref qMY, .ref qMF, .int mo, .int mf]))]) [0] rfl
      have hKc := hK
      refine vp_callSi (va_Run.run (va_runV (As := []) (rest := [.int s15]) ⟨hx, hb, hml, hown, hts⟩ (tX8_cells G l eq16) (cwV 0 hts gX8_joined_X8_cells rfl rfl rfl (by decide +kernel) ⟨Nat.le_of_ble_eq_true rfl, Nat.le_of_ble_eq_true rfl⟩) ⟨pcP_blind, va_recv hKc hPc (ci := 8) (q0 := 0) rfl rfl, pcP_pre hPc hKK⟩ rfl rfl hl.1 rfl (lv_room (Nat.le_of_ble_eq_true rfl)) dX8_joined_6 ⟨Nat.zero_le _, Nat.zero_le _⟩)) (fun r0 hr0 => ?_)
      obtain rfl := hr0
      refine lv_icmp_ge (tgt := 48) hx hb dX8_joined_9 (by decide) (fun c_9 => ?_) (fun c_9 => ?_)
      · have hq := k_t c_9 hq
        have et := kl_exit hq hx4
        subst et
        exact kk4_48 ls (lv_sub hl [1] rfl) hP
      · have hq := k_f c_9 hq
        refine lv_iconst (v := 0) hx hb dX8_joined_12 (by decide) ?_
        refine lv_istore_n (lv' := [(3, .int 0), (0, .ref qM), (1, .int s14), (2, .int s15)]) hx hb dX8_joined_13 rfl hl (by decide) rfl (fun ls hl => ?_)
        have L14 : ∀ (n : Nat) (s22 : Int32) (s23 : Int32) (t_14 : Int32) (ls : Array Slot), kloop n (fun s_ => kX8_joined_s14 F mw mh mg mT mW s15 s_.1 s_.2) (s22, s23) = some t_14 → lv_has ls 4 [(0, .ref qM), (1, .int s22), (2, .int s15), (3, .int s23)] → va_P G.1 vwCl [(qM, .inr (8, [.int mt, .int mw, .int mh, .int mg, .int ms, .ref qMT, .ref qMW, .ref qMK, .ref qMM, .int mv, .int md, .ref qMR, .ref qML, .ref qMP, .int mu, .ref qMY, .ref qMF, .int mo, .int mf])), (qMT, .inl (G.2.1, 16, .inl mT)), (qMW, .inl (G.2.1, 16, .inl mW))] s.heap → (∀ (ls : Array Slot), lv_has ls 4 [(0, .ref qM), (1, .int t_14), (2, .int s15)] → va_P G.1 vwCl [(qM, .inr (8, [.int mt, .int mw, .int mh, .int mg, .int ms, .ref qMT, .ref qMW, .ref qMK, .ref qMM, .int mv, .int md, .ref qMR, .ref qML, .ref qMP, .int mu, .ref qMY, .ref qMF, .int mo, .int mf])), (qMT, .inl (G.2.1, 16, .inl mT)), (qMW, .inl (G.2.1, 16, .inl mW))] s.heap → W p l e (headSpec wsX8_joined rmX8_joined).room s m ([.ref qM] : List Value).toArray below meth c s.heap [] 0 0 Q (F0 m 42 ls [])) → W p l e (headSpec wsX8_joined rmX8_joined).room s m ([.ref qM] : List Value).toArray below meth c s.heap [] 0 0 Q (F0 m 14 ls []) := by
          intro n
          induction n with
          | zero => 
            intro s22 s23 t_14 ls hq hl hP kk14_42
            exact absurd hq kl_0
          | succ n ih14 =>
            intro s22 s23 t_14 ls hq hl hP kk14_42
            obtain ⟨y_14, hq, hx14⟩ := kl_s hq
            have hq : kX8_joined_s14 F mw mh mg mT mW s15 s22 s23 = some y_14 := hq
            unfold kX8_joined_s14 at hq
            refine lv_iload_n hx hb dX8_joined_14 rfl (lv_at hl 3 rfl) ?_
            refine lv_iconst (v := 4) hx hb dX8_joined_15 (by decide) ?_
            refine lv_icmp_ge (tgt := 42) hx hb dX8_joined_16 (by decide) (fun c_16 => ?_) (fun c_16 => ?_)
            · have hq := k_t c_16 hq
              have et := kl_exit hq hx14
              subst et
              exact kk14_42 ls (lv_sub hl [0, 1, 2] rfl) hP
            · have hq := k_f c_16 hq
              refine lv_iload_n hx hb dX8_joined_19 rfl (lv_at hl 1 rfl) ?_
              refine lv_aload_n hx hb dX8_joined_20 rfl (lv_at hl 0 rfl) ?_
              refine lv_iload_n hx hb dX8_joined_21 rfl (lv_at hl 2 rfl) ?_
              refine lv_iload_n hx hb dX8_joined_22 rfl (lv_at hl 3 rfl) ?_
              obtain ⟨q24, eq24, hq⟩ := ob hq
              have hPc := hP.sub (ws' := [(qM, .inr (8, [.int mt, .int mw, .int mh, .int mg, .int ms, .ref qMT, .ref qMW, .ref qMK, .ref qMM, .int mv, .int md, .ref qMR, .ref qML, .ref qMP, .int mu, .ref qMY, .ref qMF, .int mo, .int mf])), (qMT, .inl (G.2.1, 16, .inl mT)), (qMW, .inl (G.2.1, 16, .inl mW))]) [0, 1, 2] rfl
              have hKc := hK
              refine vp_callSi (va_Run.run (va_runV (As := [.int s15, .int s23]) (rest := [.int s22]) ⟨hx, hb, hml, hown, hts⟩ (tX8_joins G l eq24) (cwV 2 hts gX8_joined_X8_joins rfl rfl rfl (by decide +kernel) ⟨Nat.le_of_ble_eq_true rfl, Nat.le_of_ble_eq_true rfl⟩) ⟨pcP_blind, va_recv hKc hPc (ci := 8) (q0 := 0) rfl rfl, pcP_pre hPc hKK⟩ rfl rfl hl.1 rfl (lv_room (Nat.le_of_ble_eq_true rfl)) dX8_joined_23 ⟨Nat.zero_le _, Nat.zero_le _⟩)) (fun r0 hr0 => ?_)
              obtain rfl := hr0
              refine lv_if_eq (tgt := 33) hx hb dX8_joined_26 (by decide) (fun c_26 => ?_) (fun c_26 => ?_)
              · have hq := k_t c_26 hq
                refine lv_iconst (v := 0) hx hb dX8_joined_33 (by decide) ?_
                refine lv_iadd hx hb dX8_joined_34 ?_
                refine lv_istore_n (lv' := [(1, .int (s22 + 0)), (0, .ref qM), (2, .int s15), (3, .int s23)]) hx hb dX8_joined_35 rfl hl (by decide) rfl (fun ls hl => ?_)
                refine lv_iinc (v := (s23 + 1)) (lv' := [(3, .int (s23 + 1)), (1, .int (s22 + 0)), (0, .ref qM), (2, .int s15)]) hx hb dX8_joined_36 hl (k := 3) rfl rfl (by decide) rfl (fun ls hl => ?_)
                refine lv_goto (tgt := 14) hx hb dX8_joined_39 (by decide) ?_
                exact ih14 (s22 + 0) (s23 + 1) t_14 ls (kl_back hq hx14) (lv_sub hl [2, 1, 3, 0] rfl) hP kk14_42
              · have hq := k_f c_26 hq
                refine lv_iconst (v := 1) hx hb dX8_joined_29 (by decide) ?_
                refine lv_goto (tgt := 34) hx hb dX8_joined_30 (by decide) ?_
                refine lv_iadd hx hb dX8_joined_34 ?_
                refine lv_istore_n (lv' := [(1, .int (s22 + 1)), (0, .ref qM), (2, .int s15), (3, .int s23)]) hx hb dX8_joined_35 rfl hl (by decide) rfl (fun ls hl => ?_)
                refine lv_iinc (v := (s23 + 1)) (lv' := [(3, .int (s23 + 1)), (1, .int (s22 + 1)), (0, .ref qM), (2, .int s15)]) hx hb dX8_joined_36 hl (k := 3) rfl rfl (by decide) rfl (fun ls hl => ?_)
                refine lv_goto (tgt := 14) hx hb dX8_joined_39 (by decide) ?_
                exact ih14 (s22 + 1) (s23 + 1) t_14 ls (kl_back hq hx14) (lv_sub hl [2, 1, 3, 0] rfl) hP kk14_42
        obtain ⟨q26, eq26, hq⟩ := ob hq
        refine L14 F s14 0 q26 ls (eq26) (lv_sub hl [1, 2, 3, 0] rfl) hP (fun ls hl hP => ?_)
        · refine lv_iinc (v := (s15 + 1)) (lv' := [(2, .int (s15 + 1)), (0, .ref qM), (1, .int q26)]) hx hb dX8_joined_42 hl (k := 2) rfl rfl (by decide) rfl (fun ls hl => ?_)
          refine lv_goto (tgt := 4) hx hb dX8_joined_45 (by decide) ?_
          exact ih4 q26 (s15 + 1) t_4 ls (kl_back hq hx4) (lv_sub hl [1, 2, 0] rfl) hP kk4_48
  obtain ⟨q27, eq27, hq⟩ := ob hq
  refine L4 F 0 0 q27 ls (eq27) (lv_sub hl [2, 1, 0] rfl) hP (fun ls hl hP => ?_)
  · refine lv_iload_n hx hb dX8_joined_48 rfl (lv_at hl 0 rfl) ?_
    obtain rfl := Option.some.inj hq
    rw [hQ]
    exact W.iret hx hb hr (fun t ht hW => ⟨_, rfl, rfl, ht⟩) (fun _ h => absurd h List.not_mem_nil) dX8_joined_49

abbrev rmX8_open : Room := { frames := 1, cells := 0, slots := 0, locals := 20 }
set_option maxHeartbeats 40000000 in
set_option maxRecDepth 100000 in
theorem tX8_open (G : GG) (l : Launch) {qM qMT qMW qMK qMM qMR qML qMP qMY qMF : Nat} {mt : Int32} {mw : Int32} {mh : Int32} {mg : Int32} {ms : Int32} {mv : Int32} {md : Int32} {mu : Int32} {mo : Int32} {mf : Int32} {mT : Nat → Int32} {F : Nat} {r : Int32} (hq : kX8_open F mw mh mT = some r) : Met l yX8_open wsX8_open rmX8_open (pcP G [(qM, .inr (8, [.int mt, .int mw, .int mh, .int mg, .int ms, .ref qMT, .ref qMW, .ref qMK, .ref qMM, .int mv, .int md, .ref qMR, .ref qML, .ref qMP, .int mu, .ref qMY, .ref qMF, .int mo, .int mf])), (qMT, .inl (G.2.1, 16, .inl mT))] [.ref qM]) (vp_Si (fun x => r = x)) 0 0 (fun _ => False) := by
  refine Met.ofW (cc := cX8_open) (maxL := 3) (ret := (some .int)) (by decide) rfl ?_
  intro p e s m args below meth c s₁ B hml hv
  obtain ⟨rfl, hP, hKK⟩ := hv
  have hK := hKK.1
  have hx := B.exec
  have hb := B.bytes
  have hr := B.returns
  have hts := atoms_spec (ws := wsX8_open) B.pre
  have hown : s.vm.findClass RX8 = some m.cls := findClass_of_methodNamed B.named
  have hlocks := B.notSynchronized
  have hl := lv_entry ([.ref qM] : List Value) (n := 3) (Nat.le_of_ble_eq_true rfl)
  rw [lg_entry_eq]
  generalize (lg_sl ([.ref qM] : List Value) ++ List.replicate (3 - (lg_sl ([.ref qM] : List Value)).length) Slot.unset).toArray = ls at hl ⊢
  have hl : lv_has ls 3 [(0, .ref qM)] := hl
  have hi8 : ∀ w ∈ u_ws RX8 TX8 19, w ∈ wsX8_open := by decide +kernel
  have hw0 : (Cond.fieldLink RX8 16 "NetPlumberModel" "tiles" "[I").before #[Value.ref qM] s = true := hts _ (by decide +kernel)
  refine wq (fun Q hQ => ?_)
  unfold kX8_open at hq
  refine lv_iconst (v := 0) hx hb dX8_open_0 (by decide) ?_
  refine lv_istore_n (lv' := [(1, .int 0), (0, .ref qM)]) hx hb dX8_open_1 rfl hl (by decide) rfl (fun ls hl => ?_)
  refine lv_iconst (v := 0) hx hb dX8_open_2 (by decide) ?_
  refine lv_istore_n (lv' := [(2, .int 0), (1, .int 0), (0, .ref qM)]) hx hb dX8_open_3 rfl hl (by decide) rfl (fun ls hl => ?_)
  have L4 : ∀ (n : Nat) (s5 : Int32) (s6 : Int32) (t_4 : Int32) (ls : Array Slot), kloop n (fun s_ => kX8_open_s4 F mw mh mT s_.1 s_.2) (s5, s6) = some t_4 → lv_has ls 3 [(0, .ref qM), (1, .int s5), (2, .int s6)] → va_P G.1 vwCl [(qM, .inr (8, [.int mt, .int mw, .int mh, .int mg, .int ms, .ref qMT, .ref qMW, .ref qMK, .ref qMM, .int mv, .int md, .ref qMR, .ref qML, .ref qMP, .int mu, .ref qMY, .ref qMF, .int mo, .int mf])), (qMT, .inl (G.2.1, 16, .inl mT))] s.heap → (∀ (ls : Array Slot), lv_has ls 3 [(1, .int t_4)] → va_P G.1 vwCl [(qM, .inr (8, [.int mt, .int mw, .int mh, .int mg, .int ms, .ref qMT, .ref qMW, .ref qMK, .ref qMM, .int mv, .int md, .ref qMR, .ref qML, .ref qMP, .int mu, .ref qMY, .ref qMF, .int mo, .int mf])), (qMT, .inl (G.2.1, 16, .inl mT))] s.heap → W p l e (headSpec wsX8_open rmX8_open).room s m ([.ref qM] : List Value).toArray below meth c s.heap [] 0 0 Q (F0 m 30 ls [])) → W p l e (headSpec wsX8_open rmX8_open).room s m ([.ref qM] : List Value).toArray below meth c s.heap [] 0 0 Q (F0 m 4 ls []) := by
    intro n
    induction n with
    | zero => 
      intro s5 s6 t_4 ls hq hl hP kk4_30
      exact absurd hq kl_0
    | succ n ih4 =>
      intro s5 s6 t_4 ls hq hl hP kk4_30
      obtain ⟨y_4, hq, hx4⟩ := kl_s hq
      have hq : kX8_open_s4 F mw mh mT s5 s6 = some y_4 := hq
      unfold kX8_open_s4 at hq
      refine lv_iload_n hx hb dX8_open_4 rfl (lv_at hl 2 rfl) ?_
      refine lv_aload_n hx hb dX8_open_5 rfl (lv_at hl 0 rfl) ?_
      obtain ⟨q7, eq7, hq⟩ := ob hq
      have hPc := hP.sub (ws' := [(qM, .inr (8, [.int mt, .int mw, .int mh, .int mg, .int ms, .ref qMT, .ref qMW, .ref qMK, .ref qMM, .int mv, .int md, .ref qMR, .ref qML, .ref qMP, .int mu, .ref qMY, .ref qMF, .int mo, .int mf]))]) [0] rfl
      have hKc := hK
      refine vp_callSi (va_Run.run (va_runV (As := []) (rest := [.int s6]) ⟨hx, hb, hml, hown, hts⟩ (tX8_cells G l eq7) (cwV 0 hts gX8_open_X8_cells rfl rfl rfl (by decide +kernel) ⟨Nat.le_of_ble_eq_true rfl, Nat.le_of_ble_eq_true rfl⟩) ⟨pcP_blind, va_recv hKc hPc (ci := 8) (q0 := 0) rfl rfl, pcP_pre hPc hKK⟩ rfl rfl hl.1 rfl (lv_room (Nat.le_of_ble_eq_true rfl)) dX8_open_6 ⟨Nat.zero_le _, Nat.zero_le _⟩)) (fun r0 hr0 => ?_)
      obtain rfl := hr0
      refine lv_icmp_ge (tgt := 30) hx hb dX8_open_9 (by decide) (fun c_9 => ?_) (fun c_9 => ?_)
      · have hq := k_t c_9 hq
        have et := kl_exit hq hx4
        subst et
        exact kk4_30 ls (lv_sub hl [1] rfl) hP
      · have hq := k_f c_9 hq
        refine lv_iload_n hx hb dX8_open_12 rfl (lv_at hl 1 rfl) ?_
        refine lv_aload_n hx hb dX8_open_13 rfl (lv_at hl 0 rfl) ?_
        refine va_get (D := G.1) (ci := 8) (v := .ref qMT) (C := RX8) (T := TX8) (N := 19) hx hb hts hi8 hown hK hP 0 rfl rfl 5 (by decide) hw0 (fun _ h9 => h9) rfl dX8_open_14 ?_
        refine lv_iload_n hx hb dX8_open_17 rfl (lv_at hl 2 rfl) ?_
        obtain ⟨hg, hq⟩ := k_g hq
        refine va_iald hx hb hK hP 1 0 rfl rfl (ix_in hg) dX8_open_18 ?_
        obtain ⟨q8, eq8, hq⟩ := ob hq
        have hPc := hP.sub (ws' := []) [] rfl
        refine vp_callSi (va_Run.run (va_runS (As := [.int (mT s6.toNatClampNeg)]) (rest := [.int s5]) ⟨hx, hb, hml, hown, hts⟩ (tX8_sides G l eq8) (va_cwS 1 hts gX8_open_X8_sides rfl rfl rfl (by decide +kernel) ⟨Nat.le_of_ble_eq_true rfl, Nat.le_of_ble_eq_true rfl⟩) ⟨pcP_blind, pcP_pre hPc hKK⟩ rfl rfl hl.1 rfl (lv_room (Nat.le_of_ble_eq_true rfl)) dX8_open_19 ⟨Nat.zero_le _, Nat.zero_le _⟩)) (fun r0 hr0 => ?_)
        obtain rfl := hr0
        refine lv_iadd hx hb dX8_open_22 ?_
        refine lv_istore_n (lv' := [(1, .int (s5 + q8)), (0, .ref qM), (2, .int s6)]) hx hb dX8_open_23 rfl hl (by decide) rfl (fun ls hl => ?_)
        refine lv_iinc (v := (s6 + 1)) (lv' := [(2, .int (s6 + 1)), (1, .int (s5 + q8)), (0, .ref qM)]) hx hb dX8_open_24 hl (k := 2) rfl rfl (by decide) rfl (fun ls hl => ?_)
        refine lv_goto (tgt := 4) hx hb dX8_open_27 (by decide) ?_
        exact ih4 (s5 + q8) (s6 + 1) t_4 ls (kl_back hq hx4) (lv_sub hl [2, 1, 0] rfl) hP kk4_30
  obtain ⟨q9, eq9, hq⟩ := ob hq
  refine L4 F 0 0 q9 ls (eq9) (lv_sub hl [2, 1, 0] rfl) hP (fun ls hl hP => ?_)
  · refine lv_iload_n hx hb dX8_open_30 rfl (lv_at hl 0 rfl) ?_
    obtain rfl := Option.some.inj hq
    rw [hQ]
    exact W.iret hx hb hr (fun t ht hW => ⟨_, rfl, rfl, ht⟩) (fun _ h => absurd h List.not_mem_nil) dX8_open_31

abbrev rmX8_loose : Room := { frames := 3, cells := 0, slots := 0, locals := 71 }
set_option maxHeartbeats 40000000 in
set_option maxRecDepth 100000 in
theorem tX8_loose (G : GG) (l : Launch) {qM qMT qMW qMK qMM qMR qML qMP qMY qMF : Nat} {mt : Int32} {mw : Int32} {mh : Int32} {mg : Int32} {ms : Int32} {mv : Int32} {md : Int32} {mu : Int32} {mo : Int32} {mf : Int32} {mT : Nat → Int32} {mW : Nat → Int32} {sz : Nat} {F : Nat} {r : Int32 × Int32} (hq : kX8_loose F mt mw mh mg mT mW = some r) : Met l yX8_loose wsX8_loose rmX8_loose (pcW G [(qM, .inr (8, [.int mt, .int mw, .int mh, .int mg, .int ms, .ref qMT, .ref qMW, .ref qMK, .ref qMM, .int mv, .int md, .ref qMR, .ref qML, .ref qMP, .int mu, .ref qMY, .ref qMF, .int mo, .int mf])), (qMT, .inl (G.2.1, 16, .inl mT)), (qMW, .inl (G.2.1, 16, .inl mW))] sz [.ref qM]) (qcI G r.1 [(qM, .inr (8, [.int r.2, .int mw, .int mh, .int mg, .int ms, .ref qMT, .ref qMW, .ref qMK, .ref qMM, .int mv, .int md, .ref qMR, .ref qML, .ref qMP, .int mu, .ref qMY, .ref qMF, .int mo, .int mf])), (qMT, .inl (G.2.1, 16, .inl mT)), (qMW, .inl (G.2.1, 16, .inl mW))] (va_A [(qM, .inr (8, [.int mt, .int mw, .int mh, .int mg, .int ms, .ref qMT, .ref qMW, .ref qMK, .ref qMM, .int mv, .int md, .ref qMR, .ref qML, .ref qMP, .int mu, .ref qMY, .ref qMF, .int mo, .int mf])), (qMT, .inl (G.2.1, 16, .inl mT)), (qMW, .inl (G.2.1, 16, .inl mW))] sz)) 0 0 (va_A [(qM, .inr (8, [.int mt, .int mw, .int mh, .int mg, .int ms, .ref qMT, .ref qMW, .ref qMK, .ref qMM, .int mv, .int md, .ref qMR, .ref qML, .ref qMP, .int mu, .ref qMY, .ref qMF, .int mo, .int mf])), (qMT, .inl (G.2.1, 16, .inl mT)), (qMW, .inl (G.2.1, 16, .inl mW))] sz) := by
  refine Met.ofW (cc := cX8_loose) (maxL := 1) (ret := (some .int)) (by decide) rfl ?_
  intro p e s m args below meth c s₁ B hml hv
  obtain ⟨rfl, hsz, hP, hKK, hD0⟩ := hv
  have hK := hKK.1
  have hx := B.exec
  have hb := B.bytes
  have hr := B.returns
  have hts := atoms_spec (ws := wsX8_loose) B.pre
  have hown : s.vm.findClass RX8 = some m.cls := findClass_of_methodNamed B.named
  have hlocks := B.notSynchronized
  subst hsz
  have hD := hD0.self (sz := s.heap.size)
  generalize hAe : va_A [(qM, .inr (8, [.int mt, .int mw, .int mh, .int mg, .int ms, .ref qMT, .ref qMW, .ref qMK, .ref qMM, .int mv, .int md, .ref qMR, .ref qML, .ref qMP, .int mu, .ref qMY, .ref qMF, .int mo, .int mf])), (qMT, .inl (G.2.1, 16, .inl mT)), (qMW, .inl (G.2.1, 16, .inl mW))] s.heap.size = A at hD ⊢
  have hA : ∀ q : Nat, s.heap.size ≤ q → A q := fun q h => by rw [← hAe]; exact Or.inr h
  have hS : va_S A s.heap s.heap [] := va_S.rf
  have hl := lv_entry ([.ref qM] : List Value) (n := 1) (Nat.le_of_ble_eq_true rfl)
  rw [lg_entry_eq]
  generalize (lg_sl ([.ref qM] : List Value) ++ List.replicate (1 - (lg_sl ([.ref qM] : List Value)).length) Slot.unset).toArray = ls at hl ⊢
  have hl : lv_has ls 1 [(0, .ref qM)] := hl
  have hi8 : ∀ w ∈ u_ws RX8 TX8 19, w ∈ wsX8_loose := by decide +kernel
  have hw0 : (Cond.fieldLink RX8 45 "NetPlumberModel" "thrown" "I").before #[Value.ref qM] s = true := hts _ (by decide +kernel)
  refine wq (fun Q hQ => ?_)
  unfold kX8_loose at hq
  refine lv_aload_n hx hb dX8_loose_0 rfl (lv_at hl 0 rfl) ?_
  refine lv_iconst (v := 0) hx hb dX8_loose_1 (by decide) ?_
  refine va_put (D := G.1) (ci := 8) (v := .int 0) (ty := .int) (C := RX8) (T := TX8) (N := 19) hx hb hts hi8 tyX8 tyX8_ok nmX8 hown hK hP hD hS 0 rfl rfl 0 (by decide) hw0 (fun _ h9 => h9) rfl (by decide +kernel) rfl rfl (Nat.le_of_ble_eq_true rfl) dX8_loose_2 (fun H locs hP hD hS => ?_)
  have hP : va_P G.1 vwCl [(qM, .inr (8, [.int 0, .int mw, .int mh, .int mg, .int ms, .ref qMT, .ref qMW, .ref qMK, .ref qMM, .int mv, .int md, .ref qMR, .ref qML, .ref qMP, .int mu, .ref qMY, .ref qMF, .int mo, .int mf])), (qMT, .inl (G.2.1, 16, .inl mT)), (qMW, .inl (G.2.1, 16, .inl mW))] H := hP
  have hD : va_D A [(qM, .inr (8, [.int 0, .int mw, .int mh, .int mg, .int ms, .ref qMT, .ref qMW, .ref qMK, .ref qMM, .int mv, .int md, .ref qMR, .ref qML, .ref qMP, .int mu, .ref qMY, .ref qMF, .int mo, .int mf])), (qMT, .inl (G.2.1, 16, .inl mT)), (qMW, .inl (G.2.1, 16, .inl mW))] := hD
  refine lv_aload_n hx hb dX8_loose_5 rfl (lv_at hl 0 rfl) ?_
  obtain ⟨q1, eq1, hq⟩ := ob hq
  have hPc := hP.sub (ws' := [(qM, .inr (8, [.int 0, .int mw, .int mh, .int mg, .int ms, .ref qMT, .ref qMW, .ref qMK, .ref qMM, .int mv, .int md, .ref qMR, .ref qML, .ref qMP, .int mu, .ref qMY, .ref qMF, .int mo, .int mf])), (qMT, .inl (G.2.1, 16, .inl mT))]) [0, 1] rfl
  have hKc := hK
  refine vp_callSi (va_Run.run (va_runV (As := []) (rest := []) ⟨hx, hb, hml, hown, hts⟩ (tX8_open G l eq1) (cwV 0 hts gX8_loose_X8_open rfl rfl rfl (by decide +kernel) ⟨Nat.le_of_ble_eq_true rfl, Nat.le_of_ble_eq_true rfl⟩) ⟨pcP_blind, va_recv hKc hPc (ci := 8) (q0 := 0) rfl rfl, pcP_pre hPc hKK⟩ rfl rfl hl.1 rfl (lv_room (Nat.le_of_ble_eq_true rfl)) dX8_loose_6 ⟨Nat.zero_le _, Nat.zero_le _⟩)) (fun r0 hr0 => ?_)
  obtain rfl := hr0
  refine lv_aload_n hx hb dX8_loose_9 rfl (lv_at hl 0 rfl) ?_
  obtain ⟨q2, eq2, hq⟩ := ob hq
  have hPc := hP.sub (ws' := [(qM, .inr (8, [.int 0, .int mw, .int mh, .int mg, .int ms, .ref qMT, .ref qMW, .ref qMK, .ref qMM, .int mv, .int md, .ref qMR, .ref qML, .ref qMP, .int mu, .ref qMY, .ref qMF, .int mo, .int mf])), (qMT, .inl (G.2.1, 16, .inl mT)), (qMW, .inl (G.2.1, 16, .inl mW))]) [0, 1, 2] rfl
  have hKc := hK
  refine vp_callSi (va_Run.run (va_runV (As := []) (rest := [.int q1]) ⟨hx, hb, hml, hown, hts⟩ (tX8_joined G l eq2) (cwV 0 hts gX8_loose_X8_joined rfl rfl rfl (by decide +kernel) ⟨Nat.le_of_ble_eq_true rfl, Nat.le_of_ble_eq_true rfl⟩) ⟨pcP_blind, va_recv hKc hPc (ci := 8) (q0 := 0) rfl rfl, pcP_pre hPc hKK⟩ rfl rfl hl.1 rfl (lv_room (Nat.le_of_ble_eq_true rfl)) dX8_loose_10 ⟨Nat.zero_le _, Nat.zero_le _⟩)) (fun r0 hr0 => ?_)
  obtain rfl := hr0
  refine lv_isub hx hb dX8_loose_13 ?_
  obtain rfl := Option.some.inj hq
  rw [hQ]
  exact W.iret hx hb hr (fun t ht hW => ⟨⟨_, (), rfl, rfl, va_Pat ht hP⟩, hS.F ht⟩) hS.2.2 dX8_loose_14

abbrev rmX8_watered : Room := { frames := 3, cells := 0, slots := 0, locals := 73 }
set_option maxHeartbeats 40000000 in
set_option maxRecDepth 100000 in
theorem tX8_watered (G : GG) (l : Launch) {qM qMT qMW qMK qMM qMR qML qMP qMY qMF : Nat} {mt : Int32} {mw : Int32} {mh : Int32} {mg : Int32} {ms : Int32} {mv : Int32} {md : Int32} {mu : Int32} {mo : Int32} {mf : Int32} {mT : Nat → Int32} {mW : Nat → Int32} {mR : Nat → Int32} {sz : Nat} {F : Nat} {r : Int32 × Int32 × (Nat → Int32)} (hq : kX8_watered F mt mw mh mg ms mT mW mR = some r) : Met l yX8_watered wsX8_watered rmX8_watered (pcW G [(qM, .inr (8, [.int mt, .int mw, .int mh, .int mg, .int ms, .ref qMT, .ref qMW, .ref qMK, .ref qMM, .int mv, .int md, .ref qMR, .ref qML, .ref qMP, .int mu, .ref qMY, .ref qMF, .int mo, .int mf])), (qMT, .inl (G.2.1, 16, .inl mT)), (qMW, .inl (G.2.1, 16, .inl mW)), (qMR, .inl (G.2.2.2.1, 16, .inl mR))] sz [.ref qM]) (qcI G r.1 [(qM, .inr (8, [.int r.2.1, .int mw, .int mh, .int mg, .int ms, .ref qMT, .ref qMW, .ref qMK, .ref qMM, .int mv, .int md, .ref qMR, .ref qML, .ref qMP, .int mu, .ref qMY, .ref qMF, .int mo, .int mf])), (qMT, .inl (G.2.1, 16, .inl mT)), (qMW, .inl (G.2.1, 16, .inl mW)), (qMR, .inl (G.2.2.2.1, 16, .inl r.2.2))] (va_A [(qM, .inr (8, [.int mt, .int mw, .int mh, .int mg, .int ms, .ref qMT, .ref qMW, .ref qMK, .ref qMM, .int mv, .int md, .ref qMR, .ref qML, .ref qMP, .int mu, .ref qMY, .ref qMF, .int mo, .int mf])), (qMT, .inl (G.2.1, 16, .inl mT)), (qMW, .inl (G.2.1, 16, .inl mW)), (qMR, .inl (G.2.2.2.1, 16, .inl mR))] sz)) 0 0 (va_A [(qM, .inr (8, [.int mt, .int mw, .int mh, .int mg, .int ms, .ref qMT, .ref qMW, .ref qMK, .ref qMM, .int mv, .int md, .ref qMR, .ref qML, .ref qMP, .int mu, .ref qMY, .ref qMF, .int mo, .int mf])), (qMT, .inl (G.2.1, 16, .inl mT)), (qMW, .inl (G.2.1, 16, .inl mW)), (qMR, .inl (G.2.2.2.1, 16, .inl mR))] sz) := by
  refine Met.ofW (cc := cX8_watered) (maxL := 1) (ret := (some .int)) (by decide) rfl ?_
  intro p e s m args below meth c s₁ B hml hv
  obtain ⟨rfl, hsz, hP, hKK, hD0⟩ := hv
  have hK := hKK.1
  have hx := B.exec
  have hb := B.bytes
  have hr := B.returns
  have hts := atoms_spec (ws := wsX8_watered) B.pre
  have hown : s.vm.findClass RX8 = some m.cls := findClass_of_methodNamed B.named
  have hlocks := B.notSynchronized
  subst hsz
  have hD := hD0.self (sz := s.heap.size)
  generalize hAe : va_A [(qM, .inr (8, [.int mt, .int mw, .int mh, .int mg, .int ms, .ref qMT, .ref qMW, .ref qMK, .ref qMM, .int mv, .int md, .ref qMR, .ref qML, .ref qMP, .int mu, .ref qMY, .ref qMF, .int mo, .int mf])), (qMT, .inl (G.2.1, 16, .inl mT)), (qMW, .inl (G.2.1, 16, .inl mW)), (qMR, .inl (G.2.2.2.1, 16, .inl mR))] s.heap.size = A at hD ⊢
  have hA : ∀ q : Nat, s.heap.size ≤ q → A q := fun q h => by rw [← hAe]; exact Or.inr h
  have hS : va_S A s.heap s.heap [] := va_S.rf
  have hl := lv_entry ([.ref qM] : List Value) (n := 1) (Nat.le_of_ble_eq_true rfl)
  rw [lg_entry_eq]
  generalize (lg_sl ([.ref qM] : List Value) ++ List.replicate (1 - (lg_sl ([.ref qM] : List Value)).length) Slot.unset).toArray = ls at hl ⊢
  have hl : lv_has ls 1 [(0, .ref qM)] := hl
  have hi8 : ∀ w ∈ u_ws RX8 TX8 19, w ∈ wsX8_watered := by decide +kernel
  have hw0 : (Cond.fieldLink RX8 45 "NetPlumberModel" "thrown" "I").before #[Value.ref qM] s = true := hts _ (by decide +kernel)
  have hw1 : (Cond.fieldLink RX8 56 "NetPlumberModel" "source" "I").before #[Value.ref qM] s = true := hts _ (by decide +kernel)
  refine wq (fun Q hQ => ?_)
  unfold kX8_watered at hq
  refine lv_aload_n hx hb dX8_watered_0 rfl (lv_at hl 0 rfl) ?_
  refine lv_iconst (v := 0) hx hb dX8_watered_1 (by decide) ?_
  refine va_put (D := G.1) (ci := 8) (v := .int 0) (ty := .int) (C := RX8) (T := TX8) (N := 19) hx hb hts hi8 tyX8 tyX8_ok nmX8 hown hK hP hD hS 0 rfl rfl 0 (by decide) hw0 (fun _ h9 => h9) rfl (by decide +kernel) rfl rfl (Nat.le_of_ble_eq_true rfl) dX8_watered_2 (fun H locs hP hD hS => ?_)
  have hP : va_P G.1 vwCl [(qM, .inr (8, [.int 0, .int mw, .int mh, .int mg, .int ms, .ref qMT, .ref qMW, .ref qMK, .ref qMM, .int mv, .int md, .ref qMR, .ref qML, .ref qMP, .int mu, .ref qMY, .ref qMF, .int mo, .int mf])), (qMT, .inl (G.2.1, 16, .inl mT)), (qMW, .inl (G.2.1, 16, .inl mW)), (qMR, .inl (G.2.2.2.1, 16, .inl mR))] H := hP
  have hD : va_D A [(qM, .inr (8, [.int 0, .int mw, .int mh, .int mg, .int ms, .ref qMT, .ref qMW, .ref qMK, .ref qMM, .int mv, .int md, .ref qMR, .ref qML, .ref qMP, .int mu, .ref qMY, .ref qMF, .int mo, .int mf])), (qMT, .inl (G.2.1, 16, .inl mT)), (qMW, .inl (G.2.1, 16, .inl mW)), (qMR, .inl (G.2.2.2.1, 16, .inl mR))] := hD
  refine lv_aload_n hx hb dX8_watered_5 rfl (lv_at hl 0 rfl) ?_
  refine lv_aload_n hx hb dX8_watered_6 rfl (lv_at hl 0 rfl) ?_
  refine va_get (D := G.1) (ci := 8) (v := .int ms) (C := RX8) (T := TX8) (N := 19) hx hb hts hi8 hown hK hP 0 rfl rfl 4 (by decide) hw1 (fun _ h9 => h9) rfl dX8_watered_7 ?_
  obtain ⟨q1, eq1, hq⟩ := ob hq
  have hPc := hP.sub (ws' := [(qM, .inr (8, [.int 0, .int mw, .int mh, .int mg, .int ms, .ref qMT, .ref qMW, .ref qMK, .ref qMM, .int mv, .int md, .ref qMR, .ref qML, .ref qMP, .int mu, .ref qMY, .ref qMF, .int mo, .int mf])), (qMT, .inl (G.2.1, 16, .inl mT)), (qMW, .inl (G.2.1, 16, .inl mW)), (qMR, .inl (G.2.2.2.1, 16, .inl mR))]) [0, 1, 2, 3] rfl
  have hKc := hK
  have hDc := hD.sub (ws' := [(qM, .inr (8, [.int 0, .int mw, .int mh, .int mg, .int ms, .ref qMT, .ref qMW, .ref qMK, .ref qMM, .int mv, .int md, .ref qMR, .ref qML, .ref qMP, .int mu, .ref qMY, .ref qMF, .int mo, .int mf])), (qMT, .inl (G.2.1, 16, .inl mT)), (qMW, .inl (G.2.1, 16, .inl mW)), (qMR, .inl (G.2.2.2.1, 16, .inl mR))]) [0, 1, 2, 3] (by decide) rfl
  have hFc := va_free (wc := [(qM, .inr (8, [.int 0, .int mw, .int mh, .int mg, .int ms, .ref qMT, .ref qMW, .ref qMK, .ref qMM, .int mv, .int md, .ref qMR, .ref qML, .ref qMP, .int mu, .ref qMY, .ref qMF, .int mo, .int mf])), (qMT, .inl (G.2.1, 16, .inl mT)), (qMW, .inl (G.2.1, 16, .inl mW)), (qMR, .inl (G.2.2.2.1, 16, .inl mR))]) hD hS hA [0, 1, 2, 3] rfl
  refine va_calli (va_runV (As := [.int ms]) (rest := []) ⟨hx, hb, hml, hown, hts⟩ (tX8_reaches G l eq1) (cwV 1 hts gX8_watered_X8_reaches rfl rfl rfl (by decide +kernel) ⟨Nat.le_of_ble_eq_true rfl, Nat.le_of_ble_eq_true rfl⟩) ⟨pcW_blind, va_recv hKc hPc (ci := 8) (q0 := 0) rfl rfl, pcW_pre hPc hKK hDc⟩ rfl rfl hl.1 rfl (lv_room (Nat.le_of_ble_eq_true rfl)) dX8_watered_10 ⟨Nat.zero_le _, Nat.zero_le _⟩) hS (fun q _ h => hFc q h) hFc (fun r0 u t H1 locs ht hvm hw hB hz1 hk1 hS => ?_)
  obtain rfl := hw
  have hB := va_Pto ht hB
  obtain ⟨hP, hD⟩ := jn (ws' := [(qM, .inr (8, [.int 0, .int mw, .int mh, .int mg, .int ms, .ref qMT, .ref qMW, .ref qMK, .ref qMM, .int mv, .int md, .ref qMR, .ref qML, .ref qMP, .int mu, .ref qMY, .ref qMF, .int mo, .int mf])), (qMT, .inl (G.2.1, 16, .inl mT)), (qMW, .inl (G.2.1, 16, .inl mW)), (qMR, .inl (G.2.2.2.1, 16, .inl q1.2))]) hP hD hk1 hB [0, 1, 2, 3] rfl rfl rfl rfl
  generalize H1 = H at hP hS ⊢
  obtain rfl := Option.some.inj hq
  rw [hQ]
  exact W.iret hx hb hr (fun t ht hW => ⟨⟨_, (), rfl, rfl, va_Pat ht hP⟩, hS.F ht⟩) hS.2.2 dX8_watered_13

abbrev rmX8_isWatered : Room := { frames := 3, cells := 0, slots := 0, locals := 73 }
set_option maxHeartbeats 40000000 in
set_option maxRecDepth 100000 in
theorem tX8_isWatered (G : GG) (l : Launch) {qM qMT qMW qMK qMM qMR qML qMP qMY qMF : Nat} {mt : Int32} {mw : Int32} {mh : Int32} {mg : Int32} {ms : Int32} {mv : Int32} {md : Int32} {mu : Int32} {mo : Int32} {mf : Int32} {mT : Nat → Int32} {mW : Nat → Int32} {mR : Nat → Int32} {x1 : Int32} {sz : Nat} {F : Nat} {r : Int32 × Int32 × (Nat → Int32)} (hq : kX8_isWatered F mt mw mh mg ms mT mW mR x1 = some r) : Met l yX8_isWatered wsX8_isWatered rmX8_isWatered (pcW G [(qM, .inr (8, [.int mt, .int mw, .int mh, .int mg, .int ms, .ref qMT, .ref qMW, .ref qMK, .ref qMM, .int mv, .int md, .ref qMR, .ref qML, .ref qMP, .int mu, .ref qMY, .ref qMF, .int mo, .int mf])), (qMT, .inl (G.2.1, 16, .inl mT)), (qMW, .inl (G.2.1, 16, .inl mW)), (qMR, .inl (G.2.2.2.1, 16, .inl mR))] sz [.ref qM, .int x1]) (qcI G r.1 [(qM, .inr (8, [.int r.2.1, .int mw, .int mh, .int mg, .int ms, .ref qMT, .ref qMW, .ref qMK, .ref qMM, .int mv, .int md, .ref qMR, .ref qML, .ref qMP, .int mu, .ref qMY, .ref qMF, .int mo, .int mf])), (qMT, .inl (G.2.1, 16, .inl mT)), (qMW, .inl (G.2.1, 16, .inl mW)), (qMR, .inl (G.2.2.2.1, 16, .inl r.2.2))] (va_A [(qM, .inr (8, [.int mt, .int mw, .int mh, .int mg, .int ms, .ref qMT, .ref qMW, .ref qMK, .ref qMM, .int mv, .int md, .ref qMR, .ref qML, .ref qMP, .int mu, .ref qMY, .ref qMF, .int mo, .int mf])), (qMT, .inl (G.2.1, 16, .inl mT)), (qMW, .inl (G.2.1, 16, .inl mW)), (qMR, .inl (G.2.2.2.1, 16, .inl mR))] sz)) 0 0 (va_A [(qM, .inr (8, [.int mt, .int mw, .int mh, .int mg, .int ms, .ref qMT, .ref qMW, .ref qMK, .ref qMM, .int mv, .int md, .ref qMR, .ref qML, .ref qMP, .int mu, .ref qMY, .ref qMF, .int mo, .int mf])), (qMT, .inl (G.2.1, 16, .inl mT)), (qMW, .inl (G.2.1, 16, .inl mW)), (qMR, .inl (G.2.2.2.1, 16, .inl mR))] sz) := by
  refine Met.ofW (cc := cX8_isWatered) (maxL := 3) (ret := (some .boolean)) (by decide) rfl ?_
  intro p e s m args below meth c s₁ B hml hv
  obtain ⟨rfl, hsz, hP, hKK, hD0⟩ := hv
  have hK := hKK.1
  have hx := B.exec
  have hb := B.bytes
  have hr := B.returns
  have hts := atoms_spec (ws := wsX8_isWatered) B.pre
  have hown : s.vm.findClass RX8 = some m.cls := findClass_of_methodNamed B.named
  have hlocks := B.notSynchronized
  subst hsz
  have hD := hD0.self (sz := s.heap.size)
  generalize hAe : va_A [(qM, .inr (8, [.int mt, .int mw, .int mh, .int mg, .int ms, .ref qMT, .ref qMW, .ref qMK, .ref qMM, .int mv, .int md, .ref qMR, .ref qML, .ref qMP, .int mu, .ref qMY, .ref qMF, .int mo, .int mf])), (qMT, .inl (G.2.1, 16, .inl mT)), (qMW, .inl (G.2.1, 16, .inl mW)), (qMR, .inl (G.2.2.2.1, 16, .inl mR))] s.heap.size = A at hD ⊢
  have hA : ∀ q : Nat, s.heap.size ≤ q → A q := fun q h => by rw [← hAe]; exact Or.inr h
  have hS : va_S A s.heap s.heap [] := va_S.rf
  have hl := lv_entry ([.ref qM, .int x1] : List Value) (n := 3) (Nat.le_of_ble_eq_true rfl)
  rw [lg_entry_eq]
  generalize (lg_sl ([.ref qM, .int x1] : List Value) ++ List.replicate (3 - (lg_sl ([.ref qM, .int x1] : List Value)).length) Slot.unset).toArray = ls at hl ⊢
  have hl : lv_has ls 3 [(0, .ref qM), (1, .int x1)] := hl
  have hi8 : ∀ w ∈ u_ws RX8 TX8 19, w ∈ wsX8_isWatered := by decide +kernel
  have hw0 : (Cond.fieldLink RX8 56 "NetPlumberModel" "source" "I").before #[Value.ref qM, Value.int x1] s = true := hts _ (by decide +kernel)
  have hw1 : (Cond.fieldLink RX8 30 "NetPlumberModel" "reached" "[Z").before #[Value.ref qM, Value.int x1] s = true := hts _ (by decide +kernel)
  refine wq (fun Q hQ => ?_)
  unfold kX8_isWatered at hq
  refine lv_aload_n hx hb dX8_isWatered_0 rfl (lv_at hl 0 rfl) ?_
  refine lv_aload_n hx hb dX8_isWatered_1 rfl (lv_at hl 0 rfl) ?_
  refine lv_iload_n hx hb dX8_isWatered_2 rfl (lv_at hl 1 rfl) ?_
  obtain ⟨q1, eq1, hq⟩ := ob hq
  have hPc := hP.sub (ws' := [(qM, .inr (8, [.int mt, .int mw, .int mh, .int mg, .int ms, .ref qMT, .ref qMW, .ref qMK, .ref qMM, .int mv, .int md, .ref qMR, .ref qML, .ref qMP, .int mu, .ref qMY, .ref qMF, .int mo, .int mf]))]) [0] rfl
  have hKc := hK
  refine vp_callSi (va_Run.run (va_runV (As := [.int x1]) (rest := [.ref qM]) ⟨hx, hb, hml, hown, hts⟩ (tX8_isCell G l eq1) (cwV 1 hts gX8_isWatered_X8_isCell rfl rfl rfl (by decide +kernel) ⟨Nat.le_of_ble_eq_true rfl, Nat.le_of_ble_eq_true rfl⟩) ⟨pcP_blind, va_recv hKc hPc (ci := 8) (q0 := 0) rfl rfl, pcP_pre hPc hKK⟩ rfl rfl hl.1 rfl (lv_room (Nat.le_of_ble_eq_true rfl)) dX8_isWatered_3 ⟨Nat.zero_le _, Nat.zero_le _⟩)) (fun r0 hr0 => ?_)
  obtain rfl := hr0
  have J14 : ∀ (v2 : Int32) (ls : Array Slot) (H : Heap) (locs : List Loc), kX8_isWatered_j14 F mt mw mh mg ms mT mW mR x1 v2 = some r → lv_has ls 3 [(0, .ref qM), (1, .int x1)] → va_P G.1 vwCl [(qM, .inr (8, [.int mt, .int mw, .int mh, .int mg, .int ms, .ref qMT, .ref qMW, .ref qMK, .ref qMM, .int mv, .int md, .ref qMR, .ref qML, .ref qMP, .int mu, .ref qMY, .ref qMF, .int mo, .int mf])), (qMT, .inl (G.2.1, 16, .inl mT)), (qMW, .inl (G.2.1, 16, .inl mW)), (qMR, .inl (G.2.2.2.1, 16, .inl mR))] H → va_D A [(qM, .inr (8, [.int mt, .int mw, .int mh, .int mg, .int ms, .ref qMT, .ref qMW, .ref qMK, .ref qMM, .int mv, .int md, .ref qMR, .ref qML, .ref qMP, .int mu, .ref qMY, .ref qMF, .int mo, .int mf])), (qMT, .inl (G.2.1, 16, .inl mT)), (qMW, .inl (G.2.1, 16, .inl mW)), (qMR, .inl (G.2.2.2.1, 16, .inl mR))] → va_S A s.heap H locs → W p l e (headSpec wsX8_isWatered rmX8_isWatered).room s m ([.ref qM, .int x1] : List Value).toArray below meth c H locs 0 0 Q (F0 m 14 ls [.int v2, .ref qM]) := by
    intro v2 ls H locs hq hl hP hD hS
    unfold kX8_isWatered_j14 at hq
    obtain ⟨q3, eq3, hq⟩ := ob hq
    have hPc := hP.sub (ws' := [(qM, .inr (8, [.int mt, .int mw, .int mh, .int mg, .int ms, .ref qMT, .ref qMW, .ref qMK, .ref qMM, .int mv, .int md, .ref qMR, .ref qML, .ref qMP, .int mu, .ref qMY, .ref qMF, .int mo, .int mf]))]) [0] rfl
    have hKc := hK
    have hDc := hD.sub (ws' := [(qM, .inr (8, [.int mt, .int mw, .int mh, .int mg, .int ms, .ref qMT, .ref qMW, .ref qMK, .ref qMM, .int mv, .int md, .ref qMR, .ref qML, .ref qMP, .int mu, .ref qMY, .ref qMF, .int mo, .int mf]))]) [0] (by decide) rfl
    have hFc := va_free (wc := [(qM, .inr (8, [.int mt, .int mw, .int mh, .int mg, .int ms, .ref qMT, .ref qMW, .ref qMK, .ref qMM, .int mv, .int md, .ref qMR, .ref qML, .ref qMP, .int mu, .ref qMY, .ref qMF, .int mo, .int mf]))]) hD hS hA [0] rfl
    refine va_calli (va_runV (As := [.int v2]) (rest := []) ⟨hx, hb, hml, hown, hts⟩ (tX8_holds G l eq3) (cwV 1 hts gX8_isWatered_X8_holds rfl rfl rfl (by decide +kernel) ⟨Nat.le_of_ble_eq_true rfl, Nat.le_of_ble_eq_true rfl⟩) ⟨pcW_blind, va_recv hKc hPc (ci := 8) (q0 := 0) rfl rfl, pcW_pre hPc hKK hDc⟩ rfl rfl hl.1 rfl (lv_room (Nat.le_of_ble_eq_true rfl)) dX8_isWatered_14 ⟨Nat.zero_le _, Nat.zero_le _⟩) hS (fun q _ h => hFc q h) hFc (fun r0 u t H1 locs ht hvm hw hB hz1 hk1 hS => ?_)
    obtain rfl := hw
    have hB := va_Pto ht hB
    obtain ⟨hP, hD⟩ := jn (ws' := [(qM, .inr (8, [.int q3.2, .int mw, .int mh, .int mg, .int ms, .ref qMT, .ref qMW, .ref qMK, .ref qMM, .int mv, .int md, .ref qMR, .ref qML, .ref qMP, .int mu, .ref qMY, .ref qMF, .int mo, .int mf])), (qMT, .inl (G.2.1, 16, .inl mT)), (qMW, .inl (G.2.1, 16, .inl mW)), (qMR, .inl (G.2.2.2.1, 16, .inl mR))]) hP hD hk1 hB [0] rfl rfl rfl rfl
    generalize H1 = H at hP hS ⊢
    refine lv_if_ne (tgt := 22) hx hb dX8_isWatered_17 (by decide) (fun c_17 => ?_) (fun c_17 => ?_)
    · have hq := k_f c_17 hq
      refine lv_aload_n hx hb dX8_isWatered_22 rfl (lv_at hl 0 rfl) ?_
      refine lv_aload_n hx hb dX8_isWatered_23 rfl (lv_at hl 0 rfl) ?_
      refine va_get (D := G.1) (ci := 8) (v := .int ms) (C := RX8) (T := TX8) (N := 19) hx hb hts hi8 hown hK hP 0 rfl rfl 4 (by decide) hw0 (fun _ h9 => h9) rfl dX8_isWatered_24 ?_
      obtain ⟨q4, eq4, hq⟩ := ob hq
      have hPc := hP.sub (ws' := [(qM, .inr (8, [.int q3.2, .int mw, .int mh, .int mg, .int ms, .ref qMT, .ref qMW, .ref qMK, .ref qMM, .int mv, .int md, .ref qMR, .ref qML, .ref qMP, .int mu, .ref qMY, .ref qMF, .int mo, .int mf])), (qMT, .inl (G.2.1, 16, .inl mT)), (qMW, .inl (G.2.1, 16, .inl mW)), (qMR, .inl (G.2.2.2.1, 16, .inl mR))]) [0, 1, 2, 3] rfl
      have hKc := hK
      have hDc := hD.sub (ws' := [(qM, .inr (8, [.int q3.2, .int mw, .int mh, .int mg, .int ms, .ref qMT, .ref qMW, .ref qMK, .ref qMM, .int mv, .int md, .ref qMR, .ref qML, .ref qMP, .int mu, .ref qMY, .ref qMF, .int mo, .int mf])), (qMT, .inl (G.2.1, 16, .inl mT)), (qMW, .inl (G.2.1, 16, .inl mW)), (qMR, .inl (G.2.2.2.1, 16, .inl mR))]) [0, 1, 2, 3] (by decide) rfl
      have hFc := va_free (wc := [(qM, .inr (8, [.int q3.2, .int mw, .int mh, .int mg, .int ms, .ref qMT, .ref qMW, .ref qMK, .ref qMM, .int mv, .int md, .ref qMR, .ref qML, .ref qMP, .int mu, .ref qMY, .ref qMF, .int mo, .int mf])), (qMT, .inl (G.2.1, 16, .inl mT)), (qMW, .inl (G.2.1, 16, .inl mW)), (qMR, .inl (G.2.2.2.1, 16, .inl mR))]) hD hS hA [0, 1, 2, 3] rfl
      refine va_calli (va_runV (As := [.int ms]) (rest := []) ⟨hx, hb, hml, hown, hts⟩ (tX8_reaches G l eq4) (cwV 1 hts gX8_isWatered_X8_reaches rfl rfl rfl (by decide +kernel) ⟨Nat.le_of_ble_eq_true rfl, Nat.le_of_ble_eq_true rfl⟩) ⟨pcW_blind, va_recv hKc hPc (ci := 8) (q0 := 0) rfl rfl, pcW_pre hPc hKK hDc⟩ rfl rfl hl.1 rfl (lv_room (Nat.le_of_ble_eq_true rfl)) dX8_isWatered_27 ⟨Nat.zero_le _, Nat.zero_le _⟩) hS (fun q _ h => hFc q h) hFc (fun r0 u t H1 locs ht hvm hw hB hz1 hk1 hS => ?_)
      obtain rfl := hw
      have hB := va_Pto ht hB
      obtain ⟨hP, hD⟩ := jn (ws' := [(qM, .inr (8, [.int q3.2, .int mw, .int mh, .int mg, .int ms, .ref qMT, .ref qMW, .ref qMK, .ref qMM, .int mv, .int md, .ref qMR, .ref qML, .ref qMP, .int mu, .ref qMY, .ref qMF, .int mo, .int mf])), (qMT, .inl (G.2.1, 16, .inl mT)), (qMW, .inl (G.2.1, 16, .inl mW)), (qMR, .inl (G.2.2.2.1, 16, .inl q4.2))]) hP hD hk1 hB [0, 1, 2, 3] rfl rfl rfl rfl
      generalize H1 = H at hP hS ⊢
      refine lv_istore_n (lv' := [(2, .int q4.1), (0, .ref qM), (1, .int x1)]) hx hb dX8_isWatered_30 rfl hl (by decide) rfl (fun ls hl => ?_)
      refine lv_iload_n hx hb dX8_isWatered_31 rfl (lv_at hl 0 rfl) ?_
      refine lv_if_le (tgt := 48) hx hb dX8_isWatered_32 (by decide) (fun c_32 => ?_) (fun c_32 => ?_)
      · have hq := k_t c_32 hq
        refine lv_iconst (v := 0) hx hb dX8_isWatered_48 (by decide) ?_
        obtain rfl := Option.some.inj hq
        rw [hQ]
        exact W.zret hx hb hr rfl (fun t ht hW => ⟨⟨_, (), rfl, rfl, va_Pat ht hP⟩, hS.F ht⟩) hS.2.2 dX8_isWatered_49
      · have hq := k_f c_32 hq
        refine lv_aload_n hx hb dX8_isWatered_35 rfl (lv_at hl 1 rfl) ?_
        refine va_get (D := G.1) (ci := 8) (v := .ref qMR) (C := RX8) (T := TX8) (N := 19) hx hb hts hi8 hown hK hP 0 rfl rfl 11 (by decide) hw1 (fun _ h9 => h9) rfl dX8_isWatered_36 ?_
        refine lv_iload_n hx hb dX8_isWatered_39 rfl (lv_at hl 2 rfl) ?_
        obtain ⟨hg, hq⟩ := k_g hq
        refine va_zald hx hb hK hP 3 2 rfl rfl (ix_in hg) dX8_isWatered_40 ?_
        refine lv_if_eq (tgt := 48) hx hb dX8_isWatered_41 (by decide) (fun c_41 => ?_) (fun c_41 => ?_)
        · have hq := k_t c_41 hq
          refine lv_iconst (v := 0) hx hb dX8_isWatered_48 (by decide) ?_
          obtain rfl := Option.some.inj hq
          rw [hQ]
          exact W.zret hx hb hr rfl (fun t ht hW => ⟨⟨_, (), rfl, rfl, va_Pat ht hP⟩, hS.F ht⟩) hS.2.2 dX8_isWatered_49
        · have hq := k_f c_41 hq
          refine lv_iconst (v := 1) hx hb dX8_isWatered_44 (by decide) ?_
          refine lv_goto (tgt := 49) hx hb dX8_isWatered_45 (by decide) ?_
          obtain rfl := Option.some.inj hq
          rw [hQ]
          exact W.zret hx hb hr rfl (fun t ht hW => ⟨⟨_, (), rfl, rfl, va_Pat ht hP⟩, hS.F ht⟩) hS.2.2 dX8_isWatered_49
    · have hq := k_t c_17 hq
      refine lv_iconst (v := 0) hx hb dX8_isWatered_20 (by decide) ?_
      obtain rfl := Option.some.inj hq
      rw [hQ]
      exact W.zret hx hb hr rfl (fun t ht hW => ⟨⟨_, (), rfl, rfl, va_Pat ht hP⟩, hS.F ht⟩) hS.2.2 dX8_isWatered_21
  refine lv_if_eq (tgt := 13) hx hb dX8_isWatered_6 (by decide) (fun c_6 => ?_) (fun c_6 => ?_)
  · have hq := k_t c_6 hq
    refine lv_iconst (v := 1) hx hb dX8_isWatered_13 (by decide) ?_
    exact J14 1 ls _ _ hq (lv_sub hl [0, 1] rfl) hP hD hS
  · have hq := k_f c_6 hq
    refine lv_iconst (v := 0) hx hb dX8_isWatered_9 (by decide) ?_
    refine lv_goto (tgt := 14) hx hb dX8_isWatered_10 (by decide) ?_
    exact J14 0 ls _ _ hq (lv_sub hl [0, 1] rfl) hP hD hS

abbrev rmX8_isDone : Room := { frames := 3, cells := 0, slots := 0, locals := 73 }
set_option maxHeartbeats 40000000 in
set_option maxRecDepth 100000 in
theorem tX8_isDone (G : GG) (l : Launch) {qM qMT qMW qMK qMM qMR qML qMP qMY qMF : Nat} {mt : Int32} {mw : Int32} {mh : Int32} {mg : Int32} {ms : Int32} {mv : Int32} {md : Int32} {mu : Int32} {mo : Int32} {mf : Int32} {mT : Nat → Int32} {mW : Nat → Int32} {mR : Nat → Int32} {sz : Nat} {F : Nat} {r : Int32 × (Nat → Int32)} (hq : kX8_isDone F mw mh mg mT mW mR = some r) : Met l yX8_isDone wsX8_isDone rmX8_isDone (pcW G [(qM, .inr (8, [.int mt, .int mw, .int mh, .int mg, .int ms, .ref qMT, .ref qMW, .ref qMK, .ref qMM, .int mv, .int md, .ref qMR, .ref qML, .ref qMP, .int mu, .ref qMY, .ref qMF, .int mo, .int mf])), (qMT, .inl (G.2.1, 16, .inl mT)), (qMW, .inl (G.2.1, 16, .inl mW)), (qMR, .inl (G.2.2.2.1, 16, .inl mR))] sz [.ref qM]) (qcI G r.1 [(qM, .inr (8, [.int mt, .int mw, .int mh, .int mg, .int ms, .ref qMT, .ref qMW, .ref qMK, .ref qMM, .int mv, .int md, .ref qMR, .ref qML, .ref qMP, .int mu, .ref qMY, .ref qMF, .int mo, .int mf])), (qMT, .inl (G.2.1, 16, .inl mT)), (qMW, .inl (G.2.1, 16, .inl mW)), (qMR, .inl (G.2.2.2.1, 16, .inl r.2))] (va_A [(qM, .inr (8, [.int mt, .int mw, .int mh, .int mg, .int ms, .ref qMT, .ref qMW, .ref qMK, .ref qMM, .int mv, .int md, .ref qMR, .ref qML, .ref qMP, .int mu, .ref qMY, .ref qMF, .int mo, .int mf])), (qMT, .inl (G.2.1, 16, .inl mT)), (qMW, .inl (G.2.1, 16, .inl mW)), (qMR, .inl (G.2.2.2.1, 16, .inl mR))] sz)) 0 0 (va_A [(qM, .inr (8, [.int mt, .int mw, .int mh, .int mg, .int ms, .ref qMT, .ref qMW, .ref qMK, .ref qMM, .int mv, .int md, .ref qMR, .ref qML, .ref qMP, .int mu, .ref qMY, .ref qMF, .int mo, .int mf])), (qMT, .inl (G.2.1, 16, .inl mT)), (qMW, .inl (G.2.1, 16, .inl mW)), (qMR, .inl (G.2.2.2.1, 16, .inl mR))] sz) := by
  refine Met.ofW (cc := cX8_isDone) (maxL := 1) (ret := (some .boolean)) (by decide) rfl ?_
  intro p e s m args below meth c s₁ B hml hv
  obtain ⟨rfl, hsz, hP, hKK, hD0⟩ := hv
  have hK := hKK.1
  have hx := B.exec
  have hb := B.bytes
  have hr := B.returns
  have hts := atoms_spec (ws := wsX8_isDone) B.pre
  have hown : s.vm.findClass RX8 = some m.cls := findClass_of_methodNamed B.named
  have hlocks := B.notSynchronized
  subst hsz
  have hD := hD0.self (sz := s.heap.size)
  generalize hAe : va_A [(qM, .inr (8, [.int mt, .int mw, .int mh, .int mg, .int ms, .ref qMT, .ref qMW, .ref qMK, .ref qMM, .int mv, .int md, .ref qMR, .ref qML, .ref qMP, .int mu, .ref qMY, .ref qMF, .int mo, .int mf])), (qMT, .inl (G.2.1, 16, .inl mT)), (qMW, .inl (G.2.1, 16, .inl mW)), (qMR, .inl (G.2.2.2.1, 16, .inl mR))] s.heap.size = A at hD ⊢
  have hA : ∀ q : Nat, s.heap.size ≤ q → A q := fun q h => by rw [← hAe]; exact Or.inr h
  have hS : va_S A s.heap s.heap [] := va_S.rf
  have hl := lv_entry ([.ref qM] : List Value) (n := 1) (Nat.le_of_ble_eq_true rfl)
  rw [lg_entry_eq]
  generalize (lg_sl ([.ref qM] : List Value) ++ List.replicate (1 - (lg_sl ([.ref qM] : List Value)).length) Slot.unset).toArray = ls at hl ⊢
  have hl : lv_has ls 1 [(0, .ref qM)] := hl
  refine wq (fun Q hQ => ?_)
  unfold kX8_isDone at hq
  refine lv_aload_n hx hb dX8_isDone_0 rfl (lv_at hl 0 rfl) ?_
  obtain ⟨q1, eq1, hq⟩ := ob hq
  have hPc := hP.sub (ws' := [(qM, .inr (8, [.int mt, .int mw, .int mh, .int mg, .int ms, .ref qMT, .ref qMW, .ref qMK, .ref qMM, .int mv, .int md, .ref qMR, .ref qML, .ref qMP, .int mu, .ref qMY, .ref qMF, .int mo, .int mf])), (qMT, .inl (G.2.1, 16, .inl mT))]) [0, 1] rfl
  have hKc := hK
  refine vp_callSi (va_Run.run (va_runV (As := []) (rest := []) ⟨hx, hb, hml, hown, hts⟩ (tX8_open G l eq1) (cwV 0 hts gX8_isDone_X8_open rfl rfl rfl (by decide +kernel) ⟨Nat.le_of_ble_eq_true rfl, Nat.le_of_ble_eq_true rfl⟩) ⟨pcP_blind, va_recv hKc hPc (ci := 8) (q0 := 0) rfl rfl, pcP_pre hPc hKK⟩ rfl rfl hl.1 rfl (lv_room (Nat.le_of_ble_eq_true rfl)) dX8_isDone_1 ⟨Nat.zero_le _, Nat.zero_le _⟩)) (fun r0 hr0 => ?_)
  obtain rfl := hr0
  refine lv_aload_n hx hb dX8_isDone_4 rfl (lv_at hl 0 rfl) ?_
  obtain ⟨q2, eq2, hq⟩ := ob hq
  have hPc := hP.sub (ws' := [(qM, .inr (8, [.int mt, .int mw, .int mh, .int mg, .int ms, .ref qMT, .ref qMW, .ref qMK, .ref qMM, .int mv, .int md, .ref qMR, .ref qML, .ref qMP, .int mu, .ref qMY, .ref qMF, .int mo, .int mf])), (qMT, .inl (G.2.1, 16, .inl mT)), (qMW, .inl (G.2.1, 16, .inl mW))]) [0, 1, 2] rfl
  have hKc := hK
  refine vp_callSi (va_Run.run (va_runV (As := []) (rest := [.int q1]) ⟨hx, hb, hml, hown, hts⟩ (tX8_joined G l eq2) (cwV 0 hts gX8_isDone_X8_joined rfl rfl rfl (by decide +kernel) ⟨Nat.le_of_ble_eq_true rfl, Nat.le_of_ble_eq_true rfl⟩) ⟨pcP_blind, va_recv hKc hPc (ci := 8) (q0 := 0) rfl rfl, pcP_pre hPc hKK⟩ rfl rfl hl.1 rfl (lv_room (Nat.le_of_ble_eq_true rfl)) dX8_isDone_5 ⟨Nat.zero_le _, Nat.zero_le _⟩)) (fun r0 hr0 => ?_)
  obtain rfl := hr0
  refine lv_icmp_ne (tgt := 42) hx hb dX8_isDone_8 (by decide) (fun c_8 => ?_) (fun c_8 => ?_)
  · have hq := k_f c_8 hq
    refine lv_iconst (v := 0) hx hb dX8_isDone_42 (by decide) ?_
    obtain rfl := Option.some.inj hq
    rw [hQ]
    exact W.zret hx hb hr rfl (fun t ht hW => ⟨⟨_, (), rfl, rfl, va_Pat ht hP⟩, hS.F ht⟩) hS.2.2 dX8_isDone_43
  · have hq := k_t c_8 hq
    refine lv_aload_n hx hb dX8_isDone_11 rfl (lv_at hl 0 rfl) ?_
    obtain ⟨q9, eq9, hq⟩ := ob hq
    have hPc := hP.sub (ws' := [(qM, .inr (8, [.int mt, .int mw, .int mh, .int mg, .int ms, .ref qMT, .ref qMW, .ref qMK, .ref qMM, .int mv, .int md, .ref qMR, .ref qML, .ref qMP, .int mu, .ref qMY, .ref qMF, .int mo, .int mf])), (qMT, .inl (G.2.1, 16, .inl mT)), (qMW, .inl (G.2.1, 16, .inl mW))]) [0, 1, 2] rfl
    have hKc := hK
    refine vp_callSi (va_Run.run (va_runV (As := []) (rest := []) ⟨hx, hb, hml, hown, hts⟩ (tX8_joined G l eq9) (cwV 0 hts gX8_isDone_X8_joined rfl rfl rfl (by decide +kernel) ⟨Nat.le_of_ble_eq_true rfl, Nat.le_of_ble_eq_true rfl⟩) ⟨pcP_blind, va_recv hKc hPc (ci := 8) (q0 := 0) rfl rfl, pcP_pre hPc hKK⟩ rfl rfl hl.1 rfl (lv_room (Nat.le_of_ble_eq_true rfl)) dX8_isDone_12 ⟨Nat.zero_le _, Nat.zero_le _⟩)) (fun r0 hr0 => ?_)
    obtain rfl := hr0
    refine lv_iconst (v := 2) hx hb dX8_isDone_15 (by decide) ?_
    refine lv_aload_n hx hb dX8_isDone_16 rfl (lv_at hl 0 rfl) ?_
    obtain ⟨q10, eq10, hq⟩ := ob hq
    have hPc := hP.sub (ws' := [(qM, .inr (8, [.int mt, .int mw, .int mh, .int mg, .int ms, .ref qMT, .ref qMW, .ref qMK, .ref qMM, .int mv, .int md, .ref qMR, .ref qML, .ref qMP, .int mu, .ref qMY, .ref qMF, .int mo, .int mf]))]) [0] rfl
    have hKc := hK
    refine vp_callSi (va_Run.run (va_runV (As := []) (rest := [.int 2, .int q9]) ⟨hx, hb, hml, hown, hts⟩ (tX8_cells G l eq10) (cwV 0 hts gX8_isDone_X8_cells rfl rfl rfl (by decide +kernel) ⟨Nat.le_of_ble_eq_true rfl, Nat.le_of_ble_eq_true rfl⟩) ⟨pcP_blind, va_recv hKc hPc (ci := 8) (q0 := 0) rfl rfl, pcP_pre hPc hKK⟩ rfl rfl hl.1 rfl (lv_room (Nat.le_of_ble_eq_true rfl)) dX8_isDone_17 ⟨Nat.zero_le _, Nat.zero_le _⟩)) (fun r0 hr0 => ?_)
    obtain rfl := hr0
    refine lv_iconst (v := 1) hx hb dX8_isDone_20 (by decide) ?_
    refine lv_isub hx hb dX8_isDone_21 ?_
    refine lv_imul hx hb dX8_isDone_22 ?_
    refine lv_icmp_ne (tgt := 42) hx hb dX8_isDone_23 (by decide) (fun c_23 => ?_) (fun c_23 => ?_)
    · have hq := k_f c_23 hq
      refine lv_iconst (v := 0) hx hb dX8_isDone_42 (by decide) ?_
      obtain rfl := Option.some.inj hq
      rw [hQ]
      exact W.zret hx hb hr rfl (fun t ht hW => ⟨⟨_, (), rfl, rfl, va_Pat ht hP⟩, hS.F ht⟩) hS.2.2 dX8_isDone_43
    · have hq := k_t c_23 hq
      refine lv_aload_n hx hb dX8_isDone_26 rfl (lv_at hl 0 rfl) ?_
      refine lv_iconst (v := 0) hx hb dX8_isDone_27 (by decide) ?_
      obtain ⟨q15, eq15, hq⟩ := ob hq
      have hPc := hP.sub (ws' := [(qM, .inr (8, [.int mt, .int mw, .int mh, .int mg, .int ms, .ref qMT, .ref qMW, .ref qMK, .ref qMM, .int mv, .int md, .ref qMR, .ref qML, .ref qMP, .int mu, .ref qMY, .ref qMF, .int mo, .int mf])), (qMT, .inl (G.2.1, 16, .inl mT)), (qMW, .inl (G.2.1, 16, .inl mW)), (qMR, .inl (G.2.2.2.1, 16, .inl mR))]) [0, 1, 2, 3] rfl
      have hKc := hK
      have hDc := hD.sub (ws' := [(qM, .inr (8, [.int mt, .int mw, .int mh, .int mg, .int ms, .ref qMT, .ref qMW, .ref qMK, .ref qMM, .int mv, .int md, .ref qMR, .ref qML, .ref qMP, .int mu, .ref qMY, .ref qMF, .int mo, .int mf])), (qMT, .inl (G.2.1, 16, .inl mT)), (qMW, .inl (G.2.1, 16, .inl mW)), (qMR, .inl (G.2.2.2.1, 16, .inl mR))]) [0, 1, 2, 3] (by decide) rfl
      have hFc := va_free (wc := [(qM, .inr (8, [.int mt, .int mw, .int mh, .int mg, .int ms, .ref qMT, .ref qMW, .ref qMK, .ref qMM, .int mv, .int md, .ref qMR, .ref qML, .ref qMP, .int mu, .ref qMY, .ref qMF, .int mo, .int mf])), (qMT, .inl (G.2.1, 16, .inl mT)), (qMW, .inl (G.2.1, 16, .inl mW)), (qMR, .inl (G.2.2.2.1, 16, .inl mR))]) hD hS hA [0, 1, 2, 3] rfl
      refine va_calli (va_runV (As := [.int 0]) (rest := []) ⟨hx, hb, hml, hown, hts⟩ (tX8_reaches G l eq15) (cwV 1 hts gX8_isDone_X8_reaches rfl rfl rfl (by decide +kernel) ⟨Nat.le_of_ble_eq_true rfl, Nat.le_of_ble_eq_true rfl⟩) ⟨pcW_blind, va_recv hKc hPc (ci := 8) (q0 := 0) rfl rfl, pcW_pre hPc hKK hDc⟩ rfl rfl hl.1 rfl (lv_room (Nat.le_of_ble_eq_true rfl)) dX8_isDone_28 ⟨Nat.zero_le _, Nat.zero_le _⟩) hS (fun q _ h => hFc q h) hFc (fun r0 u t H1 locs ht hvm hw hB hz1 hk1 hS => ?_)
      obtain rfl := hw
      have hB := va_Pto ht hB
      obtain ⟨hP, hD⟩ := jn (ws' := [(qM, .inr (8, [.int mt, .int mw, .int mh, .int mg, .int ms, .ref qMT, .ref qMW, .ref qMK, .ref qMM, .int mv, .int md, .ref qMR, .ref qML, .ref qMP, .int mu, .ref qMY, .ref qMF, .int mo, .int mf])), (qMT, .inl (G.2.1, 16, .inl mT)), (qMW, .inl (G.2.1, 16, .inl mW)), (qMR, .inl (G.2.2.2.1, 16, .inl q15.2))]) hP hD hk1 hB [0, 1, 2, 3] rfl rfl rfl rfl
      generalize H1 = H at hP hS ⊢
      refine lv_aload_n hx hb dX8_isDone_31 rfl (lv_at hl 0 rfl) ?_
      obtain ⟨q16, eq16, hq⟩ := ob hq
      have hPc := hP.sub (ws' := [(qM, .inr (8, [.int mt, .int mw, .int mh, .int mg, .int ms, .ref qMT, .ref qMW, .ref qMK, .ref qMM, .int mv, .int md, .ref qMR, .ref qML, .ref qMP, .int mu, .ref qMY, .ref qMF, .int mo, .int mf]))]) [0] rfl
      have hKc := hK
      refine vp_callSi (va_Run.run (va_runV (As := []) (rest := [.int q15.1]) ⟨hx, hb, hml, hown, hts⟩ (tX8_cells G l eq16) (cwV 0 hts gX8_isDone_X8_cells rfl rfl rfl (by decide +kernel) ⟨Nat.le_of_ble_eq_true rfl, Nat.le_of_ble_eq_true rfl⟩) ⟨pcP_blind, va_recv hKc hPc (ci := 8) (q0 := 0) rfl rfl, pcP_pre hPc hKK⟩ rfl rfl hl.1 rfl (lv_room (Nat.le_of_ble_eq_true rfl)) dX8_isDone_32 ⟨Nat.zero_le _, Nat.zero_le _⟩)) (fun r0 hr0 => ?_)
      obtain rfl := hr0
      refine lv_icmp_ne (tgt := 42) hx hb dX8_isDone_35 (by decide) (fun c_35 => ?_) (fun c_35 => ?_)
      · have hq := k_f c_35 hq
        refine lv_iconst (v := 0) hx hb dX8_isDone_42 (by decide) ?_
        obtain rfl := Option.some.inj hq
        rw [hQ]
        exact W.zret hx hb hr rfl (fun t ht hW => ⟨⟨_, (), rfl, rfl, va_Pat ht hP⟩, hS.F ht⟩) hS.2.2 dX8_isDone_43
      · have hq := k_t c_35 hq
        refine lv_iconst (v := 1) hx hb dX8_isDone_38 (by decide) ?_
        refine lv_goto (tgt := 43) hx hb dX8_isDone_39 (by decide) ?_
        obtain rfl := Option.some.inj hq
        rw [hQ]
        exact W.zret hx hb hr rfl (fun t ht hW => ⟨⟨_, (), rfl, rfl, va_Pat ht hP⟩, hS.F ht⟩) hS.2.2 dX8_isDone_43

abbrev rmX8_isSolved : Room := { frames := 4, cells := 0, slots := 0, locals := 93 }
set_option maxHeartbeats 40000000 in
set_option maxRecDepth 100000 in
theorem tX8_isSolved (G : GG) (l : Launch) {qM qMT qMW qMK qMM qMR qML qMP qMY qMF : Nat} {mt : Int32} {mw : Int32} {mh : Int32} {mg : Int32} {ms : Int32} {mv : Int32} {md : Int32} {mu : Int32} {mo : Int32} {mf : Int32} {mT : Nat → Int32} {mW : Nat → Int32} {mR : Nat → Int32} {sz : Nat} {F : Nat} {r : Int32 × Int32 × (Nat → Int32)} (hq : kX8_isSolved F mt mw mh mg mT mW mR = some r) : Met l yX8_isSolved wsX8_isSolved rmX8_isSolved (pcW G [(qM, .inr (8, [.int mt, .int mw, .int mh, .int mg, .int ms, .ref qMT, .ref qMW, .ref qMK, .ref qMM, .int mv, .int md, .ref qMR, .ref qML, .ref qMP, .int mu, .ref qMY, .ref qMF, .int mo, .int mf])), (qMT, .inl (G.2.1, 16, .inl mT)), (qMW, .inl (G.2.1, 16, .inl mW)), (qMR, .inl (G.2.2.2.1, 16, .inl mR))] sz [.ref qM]) (qcI G r.1 [(qM, .inr (8, [.int r.2.1, .int mw, .int mh, .int mg, .int ms, .ref qMT, .ref qMW, .ref qMK, .ref qMM, .int mv, .int md, .ref qMR, .ref qML, .ref qMP, .int mu, .ref qMY, .ref qMF, .int mo, .int mf])), (qMT, .inl (G.2.1, 16, .inl mT)), (qMW, .inl (G.2.1, 16, .inl mW)), (qMR, .inl (G.2.2.2.1, 16, .inl r.2.2))] (va_A [(qM, .inr (8, [.int mt, .int mw, .int mh, .int mg, .int ms, .ref qMT, .ref qMW, .ref qMK, .ref qMM, .int mv, .int md, .ref qMR, .ref qML, .ref qMP, .int mu, .ref qMY, .ref qMF, .int mo, .int mf])), (qMT, .inl (G.2.1, 16, .inl mT)), (qMW, .inl (G.2.1, 16, .inl mW)), (qMR, .inl (G.2.2.2.1, 16, .inl mR))] sz)) 0 0 (va_A [(qM, .inr (8, [.int mt, .int mw, .int mh, .int mg, .int ms, .ref qMT, .ref qMW, .ref qMK, .ref qMM, .int mv, .int md, .ref qMR, .ref qML, .ref qMP, .int mu, .ref qMY, .ref qMF, .int mo, .int mf])), (qMT, .inl (G.2.1, 16, .inl mT)), (qMW, .inl (G.2.1, 16, .inl mW)), (qMR, .inl (G.2.2.2.1, 16, .inl mR))] sz) := by
  refine Met.ofW (cc := cX8_isSolved) (maxL := 1) (ret := (some .boolean)) (by decide) rfl ?_
  intro p e s m args below meth c s₁ B hml hv
  obtain ⟨rfl, hsz, hP, hKK, hD0⟩ := hv
  have hK := hKK.1
  have hx := B.exec
  have hb := B.bytes
  have hr := B.returns
  have hts := atoms_spec (ws := wsX8_isSolved) B.pre
  have hown : s.vm.findClass RX8 = some m.cls := findClass_of_methodNamed B.named
  have hlocks := B.notSynchronized
  subst hsz
  have hD := hD0.self (sz := s.heap.size)
  generalize hAe : va_A [(qM, .inr (8, [.int mt, .int mw, .int mh, .int mg, .int ms, .ref qMT, .ref qMW, .ref qMK, .ref qMM, .int mv, .int md, .ref qMR, .ref qML, .ref qMP, .int mu, .ref qMY, .ref qMF, .int mo, .int mf])), (qMT, .inl (G.2.1, 16, .inl mT)), (qMW, .inl (G.2.1, 16, .inl mW)), (qMR, .inl (G.2.2.2.1, 16, .inl mR))] s.heap.size = A at hD ⊢
  have hA : ∀ q : Nat, s.heap.size ≤ q → A q := fun q h => by rw [← hAe]; exact Or.inr h
  have hS : va_S A s.heap s.heap [] := va_S.rf
  have hl := lv_entry ([.ref qM] : List Value) (n := 1) (Nat.le_of_ble_eq_true rfl)
  rw [lg_entry_eq]
  generalize (lg_sl ([.ref qM] : List Value) ++ List.replicate (1 - (lg_sl ([.ref qM] : List Value)).length) Slot.unset).toArray = ls at hl ⊢
  have hl : lv_has ls 1 [(0, .ref qM)] := hl
  have hi8 : ∀ w ∈ u_ws RX8 TX8 19, w ∈ wsX8_isSolved := by decide +kernel
  have hw0 : (Cond.fieldLink RX8 45 "NetPlumberModel" "thrown" "I").before #[Value.ref qM] s = true := hts _ (by decide +kernel)
  refine wq (fun Q hQ => ?_)
  unfold kX8_isSolved at hq
  refine lv_aload_n hx hb dX8_isSolved_0 rfl (lv_at hl 0 rfl) ?_
  refine lv_iconst (v := 0) hx hb dX8_isSolved_1 (by decide) ?_
  refine va_put (D := G.1) (ci := 8) (v := .int 0) (ty := .int) (C := RX8) (T := TX8) (N := 19) hx hb hts hi8 tyX8 tyX8_ok nmX8 hown hK hP hD hS 0 rfl rfl 0 (by decide) hw0 (fun _ h9 => h9) rfl (by decide +kernel) rfl rfl (Nat.le_of_ble_eq_true rfl) dX8_isSolved_2 (fun H locs hP hD hS => ?_)
  have hP : va_P G.1 vwCl [(qM, .inr (8, [.int 0, .int mw, .int mh, .int mg, .int ms, .ref qMT, .ref qMW, .ref qMK, .ref qMM, .int mv, .int md, .ref qMR, .ref qML, .ref qMP, .int mu, .ref qMY, .ref qMF, .int mo, .int mf])), (qMT, .inl (G.2.1, 16, .inl mT)), (qMW, .inl (G.2.1, 16, .inl mW)), (qMR, .inl (G.2.2.2.1, 16, .inl mR))] H := hP
  have hD : va_D A [(qM, .inr (8, [.int 0, .int mw, .int mh, .int mg, .int ms, .ref qMT, .ref qMW, .ref qMK, .ref qMM, .int mv, .int md, .ref qMR, .ref qML, .ref qMP, .int mu, .ref qMY, .ref qMF, .int mo, .int mf])), (qMT, .inl (G.2.1, 16, .inl mT)), (qMW, .inl (G.2.1, 16, .inl mW)), (qMR, .inl (G.2.2.2.1, 16, .inl mR))] := hD
  refine lv_aload_n hx hb dX8_isSolved_5 rfl (lv_at hl 0 rfl) ?_
  obtain ⟨q1, eq1, hq⟩ := ob hq
  have hPc := hP.sub (ws' := [(qM, .inr (8, [.int 0, .int mw, .int mh, .int mg, .int ms, .ref qMT, .ref qMW, .ref qMK, .ref qMM, .int mv, .int md, .ref qMR, .ref qML, .ref qMP, .int mu, .ref qMY, .ref qMF, .int mo, .int mf])), (qMT, .inl (G.2.1, 16, .inl mT)), (qMW, .inl (G.2.1, 16, .inl mW)), (qMR, .inl (G.2.2.2.1, 16, .inl mR))]) [0, 1, 2, 3] rfl
  have hKc := hK
  have hDc := hD.sub (ws' := [(qM, .inr (8, [.int 0, .int mw, .int mh, .int mg, .int ms, .ref qMT, .ref qMW, .ref qMK, .ref qMM, .int mv, .int md, .ref qMR, .ref qML, .ref qMP, .int mu, .ref qMY, .ref qMF, .int mo, .int mf])), (qMT, .inl (G.2.1, 16, .inl mT)), (qMW, .inl (G.2.1, 16, .inl mW)), (qMR, .inl (G.2.2.2.1, 16, .inl mR))]) [0, 1, 2, 3] (by decide) rfl
  have hFc := va_free (wc := [(qM, .inr (8, [.int 0, .int mw, .int mh, .int mg, .int ms, .ref qMT, .ref qMW, .ref qMK, .ref qMM, .int mv, .int md, .ref qMR, .ref qML, .ref qMP, .int mu, .ref qMY, .ref qMF, .int mo, .int mf])), (qMT, .inl (G.2.1, 16, .inl mT)), (qMW, .inl (G.2.1, 16, .inl mW)), (qMR, .inl (G.2.2.2.1, 16, .inl mR))]) hD hS hA [0, 1, 2, 3] rfl
  refine va_calli (va_runV (As := []) (rest := []) ⟨hx, hb, hml, hown, hts⟩ (tX8_isDone G l eq1) (cwV 0 hts gX8_isSolved_X8_isDone rfl rfl rfl (by decide +kernel) ⟨Nat.le_of_ble_eq_true rfl, Nat.le_of_ble_eq_true rfl⟩) ⟨pcW_blind, va_recv hKc hPc (ci := 8) (q0 := 0) rfl rfl, pcW_pre hPc hKK hDc⟩ rfl rfl hl.1 rfl (lv_room (Nat.le_of_ble_eq_true rfl)) dX8_isSolved_6 ⟨Nat.zero_le _, Nat.zero_le _⟩) hS (fun q _ h => hFc q h) hFc (fun r0 u t H1 locs ht hvm hw hB hz1 hk1 hS => ?_)
  obtain rfl := hw
  have hB := va_Pto ht hB
  obtain ⟨hP, hD⟩ := jn (ws' := [(qM, .inr (8, [.int 0, .int mw, .int mh, .int mg, .int ms, .ref qMT, .ref qMW, .ref qMK, .ref qMM, .int mv, .int md, .ref qMR, .ref qML, .ref qMP, .int mu, .ref qMY, .ref qMF, .int mo, .int mf])), (qMT, .inl (G.2.1, 16, .inl mT)), (qMW, .inl (G.2.1, 16, .inl mW)), (qMR, .inl (G.2.2.2.1, 16, .inl q1.2))]) hP hD hk1 hB [0, 1, 2, 3] rfl rfl rfl rfl
  generalize H1 = H at hP hS ⊢
  obtain ⟨hg, hq⟩ := k_g hq
  obtain rfl := Option.some.inj hq
  rw [hQ]
  exact W.zret hx hb hr (isZ_n hg) (fun t ht hW => ⟨⟨_, (), rfl, rfl, va_Pat ht hP⟩, hS.F ht⟩) hS.2.2 dX8_isSolved_9

abbrev rmX8_laysOf : Room := { frames := 0, cells := 0, slots := 0, locals := 0 }
set_option maxHeartbeats 40000000 in
set_option maxRecDepth 100000 in
theorem tX8_laysOf (G : GG) (l : Launch) {qM qMT qMW qMK qMM qMR qML qMP qMY qMF : Nat} {mt : Int32} {mw : Int32} {mh : Int32} {mg : Int32} {ms : Int32} {mv : Int32} {md : Int32} {mu : Int32} {mo : Int32} {mf : Int32} {mT : Nat → Int32} {mK : Nat → Int32} {x1 : Int32} {F : Nat} {r : Int32} (hq : kX8_laysOf F mT mK x1 = some r) : Met l yX8_laysOf wsX8_laysOf rmX8_laysOf (pcP G [(qM, .inr (8, [.int mt, .int mw, .int mh, .int mg, .int ms, .ref qMT, .ref qMW, .ref qMK, .ref qMM, .int mv, .int md, .ref qMR, .ref qML, .ref qMP, .int mu, .ref qMY, .ref qMF, .int mo, .int mf])), (qMT, .inl (G.2.1, 16, .inl mT)), (qMK, .inl (G.2.2.2.1, 16, .inl mK))] [.ref qM, .int x1]) (vp_Si (fun x => r = x)) 0 0 (fun _ => False) := by
  refine Met.ofW (cc := cX8_laysOf) (maxL := 2) (ret := (some .int)) (by decide) rfl ?_
  intro p e s m args below meth c s₁ B hml hv
  obtain ⟨rfl, hP, hKK⟩ := hv
  have hK := hKK.1
  have hx := B.exec
  have hb := B.bytes
  have hr := B.returns
  have hts := atoms_spec (ws := wsX8_laysOf) B.pre
  have hown : s.vm.findClass RX8 = some m.cls := findClass_of_methodNamed B.named
  have hlocks := B.notSynchronized
  have hl := lv_entry ([.ref qM, .int x1] : List Value) (n := 2) (Nat.le_of_ble_eq_true rfl)
  rw [lg_entry_eq]
  generalize (lg_sl ([.ref qM, .int x1] : List Value) ++ List.replicate (2 - (lg_sl ([.ref qM, .int x1] : List Value)).length) Slot.unset).toArray = ls at hl ⊢
  have hl : lv_has ls 2 [(0, .ref qM), (1, .int x1)] := hl
  have hi8 : ∀ w ∈ u_ws RX8 TX8 19, w ∈ wsX8_laysOf := by decide +kernel
  have hw0 : (Cond.fieldLink RX8 23 "NetPlumberModel" "locked" "[Z").before #[Value.ref qM, Value.int x1] s = true := hts _ (by decide +kernel)
  have hw1 : (Cond.fieldLink RX8 16 "NetPlumberModel" "tiles" "[I").before #[Value.ref qM, Value.int x1] s = true := hts _ (by decide +kernel)
  refine wq (fun Q hQ => ?_)
  unfold kX8_laysOf at hq
  refine lv_aload_n hx hb dX8_laysOf_0 rfl (lv_at hl 0 rfl) ?_
  refine va_get (D := G.1) (ci := 8) (v := .ref qMK) (C := RX8) (T := TX8) (N := 19) hx hb hts hi8 hown hK hP 0 rfl rfl 7 (by decide) hw0 (fun _ h9 => h9) rfl dX8_laysOf_1 ?_
  refine lv_iload_n hx hb dX8_laysOf_4 rfl (lv_at hl 1 rfl) ?_
  obtain ⟨hg, hq⟩ := k_g hq
  refine va_zald hx hb hK hP 2 2 rfl rfl (ix_in hg) dX8_laysOf_5 ?_
  refine lv_if_ne (tgt := 29) hx hb dX8_laysOf_6 (by decide) (fun c_6 => ?_) (fun c_6 => ?_)
  · have hq := k_f c_6 hq
    refine lv_iconst (v := 1) hx hb dX8_laysOf_29 (by decide) ?_
    obtain rfl := Option.some.inj hq
    rw [hQ]
    exact W.iret hx hb hr (fun t ht hW => ⟨_, rfl, rfl, ht⟩) (fun _ h => absurd h List.not_mem_nil) dX8_laysOf_30
  · have hq := k_t c_6 hq
    refine lv_aload_n hx hb dX8_laysOf_9 rfl (lv_at hl 0 rfl) ?_
    refine va_get (D := G.1) (ci := 8) (v := .ref qMT) (C := RX8) (T := TX8) (N := 19) hx hb hts hi8 hown hK hP 0 rfl rfl 5 (by decide) hw1 (fun _ h9 => h9) rfl dX8_laysOf_10 ?_
    refine lv_iload_n hx hb dX8_laysOf_13 rfl (lv_at hl 1 rfl) ?_
    obtain ⟨hg, hq⟩ := k_g hq
    refine va_iald hx hb hK hP 1 0 rfl rfl (ix_in hg) dX8_laysOf_14 ?_
    refine lv_if_eq (tgt := 29) hx hb dX8_laysOf_15 (by decide) (fun c_15 => ?_) (fun c_15 => ?_)
    · have hq := k_t c_15 hq
      refine lv_iconst (v := 1) hx hb dX8_laysOf_29 (by decide) ?_
      obtain rfl := Option.some.inj hq
      rw [hQ]
      exact W.iret hx hb hr (fun t ht hW => ⟨_, rfl, rfl, ht⟩) (fun _ h => absurd h List.not_mem_nil) dX8_laysOf_30
    · have hq := k_f c_15 hq
      refine lv_aload_n hx hb dX8_laysOf_18 rfl (lv_at hl 0 rfl) ?_
      refine va_get (D := G.1) (ci := 8) (v := .ref qMT) (C := RX8) (T := TX8) (N := 19) hx hb hts hi8 hown hK hP 0 rfl rfl 5 (by decide) hw1 (fun _ h9 => h9) rfl dX8_laysOf_19 ?_
      refine lv_iload_n hx hb dX8_laysOf_22 rfl (lv_at hl 1 rfl) ?_
      obtain ⟨hg, hq⟩ := k_g hq
      refine va_iald hx hb hK hP 1 0 rfl rfl (ix_in hg) dX8_laysOf_23 ?_
      refine lv_bipush (v := 15) hx hb dX8_laysOf_24 (by decide) ?_
      refine lv_icmp_ne (tgt := 31) hx hb dX8_laysOf_26 (by decide) (fun c_26 => ?_) (fun c_26 => ?_)
      · have hq := k_f c_26 hq
        refine lv_aload_n hx hb dX8_laysOf_31 rfl (lv_at hl 0 rfl) ?_
        refine va_get (D := G.1) (ci := 8) (v := .ref qMT) (C := RX8) (T := TX8) (N := 19) hx hb hts hi8 hown hK hP 0 rfl rfl 5 (by decide) hw1 (fun _ h9 => h9) rfl dX8_laysOf_32 ?_
        refine lv_iload_n hx hb dX8_laysOf_35 rfl (lv_at hl 1 rfl) ?_
        obtain ⟨hg, hq⟩ := k_g hq
        refine va_iald hx hb hK hP 1 0 rfl rfl (ix_in hg) dX8_laysOf_36 ?_
        refine lv_iconst (v := 5) hx hb dX8_laysOf_37 (by decide) ?_
        refine lv_icmp_eq (tgt := 52) hx hb dX8_laysOf_38 (by decide) (fun c_38 => ?_) (fun c_38 => ?_)
        · have hq := k_t c_38 hq
          refine lv_iconst (v := 2) hx hb dX8_laysOf_52 (by decide) ?_
          refine lv_goto (tgt := 57) hx hb dX8_laysOf_53 (by decide) ?_
          obtain rfl := Option.some.inj hq
          rw [hQ]
          exact W.iret hx hb hr (fun t ht hW => ⟨_, rfl, rfl, ht⟩) (fun _ h => absurd h List.not_mem_nil) dX8_laysOf_57
        · have hq := k_f c_38 hq
          refine lv_aload_n hx hb dX8_laysOf_41 rfl (lv_at hl 0 rfl) ?_
          refine va_get (D := G.1) (ci := 8) (v := .ref qMT) (C := RX8) (T := TX8) (N := 19) hx hb hts hi8 hown hK hP 0 rfl rfl 5 (by decide) hw1 (fun _ h9 => h9) rfl dX8_laysOf_42 ?_
          refine lv_iload_n hx hb dX8_laysOf_45 rfl (lv_at hl 1 rfl) ?_
          obtain ⟨hg, hq⟩ := k_g hq
          refine va_iald hx hb hK hP 1 0 rfl rfl (ix_in hg) dX8_laysOf_46 ?_
          refine lv_bipush (v := 10) hx hb dX8_laysOf_47 (by decide) ?_
          refine lv_icmp_ne (tgt := 56) hx hb dX8_laysOf_49 (by decide) (fun c_49 => ?_) (fun c_49 => ?_)
          · have hq := k_f c_49 hq
            refine lv_iconst (v := 4) hx hb dX8_laysOf_56 (by decide) ?_
            obtain rfl := Option.some.inj hq
            rw [hQ]
            exact W.iret hx hb hr (fun t ht hW => ⟨_, rfl, rfl, ht⟩) (fun _ h => absurd h List.not_mem_nil) dX8_laysOf_57
          · have hq := k_t c_49 hq
            refine lv_iconst (v := 2) hx hb dX8_laysOf_52 (by decide) ?_
            refine lv_goto (tgt := 57) hx hb dX8_laysOf_53 (by decide) ?_
            obtain rfl := Option.some.inj hq
            rw [hQ]
            exact W.iret hx hb hr (fun t ht hW => ⟨_, rfl, rfl, ht⟩) (fun _ h => absurd h List.not_mem_nil) dX8_laysOf_57
      · have hq := k_t c_26 hq
        refine lv_iconst (v := 1) hx hb dX8_laysOf_29 (by decide) ?_
        obtain rfl := Option.some.inj hq
        rw [hQ]
        exact W.iret hx hb hr (fun t ht hW => ⟨_, rfl, rfl, ht⟩) (fun _ h => absurd h List.not_mem_nil) dX8_laysOf_30

abbrev rmX8_canBe : Room := { frames := 1, cells := 0, slots := 0, locals := 23 }
set_option maxHeartbeats 40000000 in
set_option maxRecDepth 100000 in
theorem tX8_canBe (G : GG) (l : Launch) {qM qMT qMW qMK qMM qMR qML qMP qMY qMF : Nat} {mt : Int32} {mw : Int32} {mh : Int32} {mg : Int32} {ms : Int32} {mv : Int32} {md : Int32} {mu : Int32} {mo : Int32} {mf : Int32} {mT : Nat → Int32} {mL : Nat → Int32} {x1 : Int32} {x2 : Int32} {x3 : Int32} {F : Nat} {r : Int32} (hq : kX8_canBe F mT mL x1 x2 x3 = some r) : Met l yX8_canBe wsX8_canBe rmX8_canBe (pcP G [(qM, .inr (8, [.int mt, .int mw, .int mh, .int mg, .int ms, .ref qMT, .ref qMW, .ref qMK, .ref qMM, .int mv, .int md, .ref qMR, .ref qML, .ref qMP, .int mu, .ref qMY, .ref qMF, .int mo, .int mf])), (qMT, .inl (G.2.1, 16, .inl mT)), (qML, .inl (G.2.1, 16, .inl mL))] [.ref qM, .int x1, .int x2, .int x3]) (vp_Si (fun x => r = x)) 0 0 (fun _ => False) := by
  refine Met.ofW (cc := cX8_canBe) (maxL := 6) (ret := (some .boolean)) (by decide) rfl ?_
  intro p e s m args below meth c s₁ B hml hv
  obtain ⟨rfl, hP, hKK⟩ := hv
  have hK := hKK.1
  have hx := B.exec
  have hb := B.bytes
  have hr := B.returns
  have hts := atoms_spec (ws := wsX8_canBe) B.pre
  have hown : s.vm.findClass RX8 = some m.cls := findClass_of_methodNamed B.named
  have hlocks := B.notSynchronized
  have hl := lv_entry ([.ref qM, .int x1, .int x2, .int x3] : List Value) (n := 6) (Nat.le_of_ble_eq_true rfl)
  rw [lg_entry_eq]
  generalize (lg_sl ([.ref qM, .int x1, .int x2, .int x3] : List Value) ++ List.replicate (6 - (lg_sl ([.ref qM, .int x1, .int x2, .int x3] : List Value)).length) Slot.unset).toArray = ls at hl ⊢
  have hl : lv_has ls 6 [(0, .ref qM), (1, .int x1), (2, .int x2), (3, .int x3)] := hl
  have hi8 : ∀ w ∈ u_ws RX8 TX8 19, w ∈ wsX8_canBe := by decide +kernel
  have hw0 : (Cond.fieldLink RX8 33 "NetPlumberModel" "left" "[I").before #[Value.ref qM, Value.int x1, Value.int x2, Value.int x3] s = true := hts _ (by decide +kernel)
  have hw1 : (Cond.fieldLink RX8 16 "NetPlumberModel" "tiles" "[I").before #[Value.ref qM, Value.int x1, Value.int x2, Value.int x3] s = true := hts _ (by decide +kernel)
  refine wq (fun Q hQ => ?_)
  unfold kX8_canBe at hq
  refine lv_iconst (v := 0) hx hb dX8_canBe_0 (by decide) ?_
  refine lv_istore (lv' := [(4, .int 0), (0, .ref qM), (1, .int x1), (2, .int x2), (3, .int x3)]) hx hb dX8_canBe_1 hl (by decide) rfl (fun ls hl => ?_)
  refine lv_iconst (v := 0) hx hb dX8_canBe_3 (by decide) ?_
  refine lv_istore (lv' := [(5, .int 0), (4, .int 0), (0, .ref qM), (1, .int x1), (2, .int x2), (3, .int x3)]) hx hb dX8_canBe_4 hl (by decide) rfl (fun ls hl => ?_)
  have L6 : ∀ (n : Nat) (s15 : Int32) (s16 : Int32) (t_6 : Int32) (ls : Array Slot), kloop n (fun s_ => kX8_canBe_s6 F mT mL x1 x2 x3 s_.1 s_.2) (s15, s16) = some t_6 → lv_has ls 6 [(0, .ref qM), (1, .int x1), (2, .int x2), (3, .int x3), (4, .int s15), (5, .int s16)] → va_P G.1 vwCl [(qM, .inr (8, [.int mt, .int mw, .int mh, .int mg, .int ms, .ref qMT, .ref qMW, .ref qMK, .ref qMM, .int mv, .int md, .ref qMR, .ref qML, .ref qMP, .int mu, .ref qMY, .ref qMF, .int mo, .int mf])), (qMT, .inl (G.2.1, 16, .inl mT)), (qML, .inl (G.2.1, 16, .inl mL))] s.heap → (∀ (ls : Array Slot), lv_has ls 6 [(4, .int t_6)] → va_P G.1 vwCl [(qM, .inr (8, [.int mt, .int mw, .int mh, .int mg, .int ms, .ref qMT, .ref qMW, .ref qMK, .ref qMM, .int mv, .int md, .ref qMR, .ref qML, .ref qMP, .int mu, .ref qMY, .ref qMF, .int mo, .int mf])), (qMT, .inl (G.2.1, 16, .inl mT)), (qML, .inl (G.2.1, 16, .inl mL))] s.heap → W p l e (headSpec wsX8_canBe rmX8_canBe).room s m ([.ref qM, .int x1, .int x2, .int x3] : List Value).toArray below meth c s.heap [] 0 0 Q (F0 m 64 ls [])) → W p l e (headSpec wsX8_canBe rmX8_canBe).room s m ([.ref qM, .int x1, .int x2, .int x3] : List Value).toArray below meth c s.heap [] 0 0 Q (F0 m 6 ls []) := by
    intro n
    induction n with
    | zero => 
      intro s15 s16 t_6 ls hq hl hP kk6_64
      exact absurd hq kl_0
    | succ n ih6 =>
      intro s15 s16 t_6 ls hq hl hP kk6_64
      obtain ⟨y_6, hq, hx6⟩ := kl_s hq
      have hq : kX8_canBe_s6 F mT mL x1 x2 x3 s15 s16 = some y_6 := hq
      unfold kX8_canBe_s6 at hq
      refine lv_iload hx hb dX8_canBe_6 (lv_at hl 5 rfl) ?_
      refine lv_iconst (v := 4) hx hb dX8_canBe_8 (by decide) ?_
      refine lv_icmp_ge (tgt := 64) hx hb dX8_canBe_9 (by decide) (fun c_9 => ?_) (fun c_9 => ?_)
      · have hq := k_t c_9 hq
        have et := kl_exit hq hx6
        subst et
        exact kk6_64 ls (lv_sub hl [4] rfl) hP
      · have hq := k_f c_9 hq
        refine lv_iload hx hb dX8_canBe_12 (lv_at hl 4 rfl) ?_
        refine lv_if_ne (tgt := 51) hx hb dX8_canBe_14 (by decide) (fun c_14 => ?_) (fun c_14 => ?_)
        · have hq := k_f c_14 hq
          refine lv_iconst (v := 1) hx hb dX8_canBe_51 (by decide) ?_
          refine lv_goto (tgt := 56) hx hb dX8_canBe_52 (by decide) ?_
          refine lv_istore (lv' := [(4, .int 1), (0, .ref qM), (1, .int x1), (2, .int x2), (3, .int x3), (5, .int s16)]) hx hb dX8_canBe_56 hl (by decide) rfl (fun ls hl => ?_)
          refine lv_iinc (v := (s16 + 1)) (lv' := [(5, .int (s16 + 1)), (4, .int 1), (0, .ref qM), (1, .int x1), (2, .int x2), (3, .int x3)]) hx hb dX8_canBe_58 hl (k := 5) rfl rfl (by decide) rfl (fun ls hl => ?_)
          refine lv_goto (tgt := 6) hx hb dX8_canBe_61 (by decide) ?_
          exact ih6 1 (s16 + 1) t_6 ls (kl_back hq hx6) (lv_sub hl [2, 3, 4, 5, 1, 0] rfl) hP kk6_64
        · have hq := k_t c_14 hq
          refine lv_aload_n hx hb dX8_canBe_17 rfl (lv_at hl 0 rfl) ?_
          refine va_get (D := G.1) (ci := 8) (v := .ref qML) (C := RX8) (T := TX8) (N := 19) hx hb hts hi8 hown hK hP 0 rfl rfl 12 (by decide) hw0 (fun _ h9 => h9) rfl dX8_canBe_18 ?_
          refine lv_iload_n hx hb dX8_canBe_21 rfl (lv_at hl 1 rfl) ?_
          obtain ⟨hg, hq⟩ := k_g hq
          refine va_iald hx hb hK hP 2 0 rfl rfl (ix_in hg) dX8_canBe_22 ?_
          refine lv_iload hx hb dX8_canBe_23 (lv_at hl 5 rfl) ?_
          refine lv_ishr hx hb dX8_canBe_25 ?_
          refine lv_iconst (v := 1) hx hb dX8_canBe_26 (by decide) ?_
          refine lv_iand hx hb dX8_canBe_27 ?_
          refine lv_iconst (v := 1) hx hb dX8_canBe_28 (by decide) ?_
          refine lv_icmp_ne (tgt := 55) hx hb dX8_canBe_29 (by decide) (fun c_29 => ?_) (fun c_29 => ?_)
          · have hq := k_f c_29 hq
            refine lv_iconst (v := 0) hx hb dX8_canBe_55 (by decide) ?_
            refine lv_istore (lv' := [(4, .int 0), (0, .ref qM), (1, .int x1), (2, .int x2), (3, .int x3), (5, .int s16)]) hx hb dX8_canBe_56 hl (by decide) rfl (fun ls hl => ?_)
            refine lv_iinc (v := (s16 + 1)) (lv' := [(5, .int (s16 + 1)), (4, .int 0), (0, .ref qM), (1, .int x1), (2, .int x2), (3, .int x3)]) hx hb dX8_canBe_58 hl (k := 5) rfl rfl (by decide) rfl (fun ls hl => ?_)
            refine lv_goto (tgt := 6) hx hb dX8_canBe_61 (by decide) ?_
            exact ih6 0 (s16 + 1) t_6 ls (kl_back hq hx6) (lv_sub hl [2, 3, 4, 5, 1, 0] rfl) hP kk6_64
          · have hq := k_t c_29 hq
            refine lv_aload_n hx hb dX8_canBe_32 rfl (lv_at hl 0 rfl) ?_
            refine va_get (D := G.1) (ci := 8) (v := .ref qMT) (C := RX8) (T := TX8) (N := 19) hx hb hts hi8 hown hK hP 0 rfl rfl 5 (by decide) hw1 (fun _ h9 => h9) rfl dX8_canBe_33 ?_
            refine lv_iload_n hx hb dX8_canBe_36 rfl (lv_at hl 1 rfl) ?_
            obtain ⟨hg, hq⟩ := k_g hq
            refine va_iald hx hb hK hP 1 0 rfl rfl (ix_in hg) dX8_canBe_37 ?_
            refine lv_iload hx hb dX8_canBe_38 (lv_at hl 5 rfl) ?_
            obtain ⟨q23, eq23, hq⟩ := ob hq
            have hPc := hP.sub (ws' := []) [] rfl
            refine vp_callSi (va_Run.run (va_runS (As := [.int (mT x1.toNatClampNeg), .int s16]) (rest := []) ⟨hx, hb, hml, hown, hts⟩ (tX8_turned G l eq23) (va_cwS 2 hts gX8_canBe_X8_turned rfl rfl rfl (by decide +kernel) ⟨Nat.le_of_ble_eq_true rfl, Nat.le_of_ble_eq_true rfl⟩) ⟨pcP_blind, pcP_pre hPc hKK⟩ rfl rfl hl.1 rfl (lv_room (Nat.le_of_ble_eq_true rfl)) dX8_canBe_40 ⟨Nat.zero_le _, Nat.zero_le _⟩)) (fun r0 hr0 => ?_)
            obtain rfl := hr0
            refine lv_iload_n hx hb dX8_canBe_43 rfl (lv_at hl 2 rfl) ?_
            obtain ⟨q24, eq24, hq⟩ := ob hq
            have hPc := hP.sub (ws' := []) [] rfl
            refine vp_callSi (va_Run.run (va_runS (As := [.int q23, .int x2]) (rest := []) ⟨hx, hb, hml, hown, hts⟩ (tX8_isOpen G l eq24) (va_cwS 2 hts gX8_canBe_X8_isOpen rfl rfl rfl (by decide +kernel) ⟨Nat.le_of_ble_eq_true rfl, Nat.le_of_ble_eq_true rfl⟩) ⟨pcP_blind, pcP_pre hPc hKK⟩ rfl rfl hl.1 rfl (lv_room (Nat.le_of_ble_eq_true rfl)) dX8_canBe_44 ⟨Nat.zero_le _, Nat.zero_le _⟩)) (fun r0 hr0 => ?_)
            obtain rfl := hr0
            refine lv_iload_n hx hb dX8_canBe_47 rfl (lv_at hl 3 rfl) ?_
            refine lv_icmp_ne (tgt := 55) hx hb dX8_canBe_48 (by decide) (fun c_48 => ?_) (fun c_48 => ?_)
            · have hq := k_f c_48 hq
              refine lv_iconst (v := 0) hx hb dX8_canBe_55 (by decide) ?_
              refine lv_istore (lv' := [(4, .int 0), (0, .ref qM), (1, .int x1), (2, .int x2), (3, .int x3), (5, .int s16)]) hx hb dX8_canBe_56 hl (by decide) rfl (fun ls hl => ?_)
              refine lv_iinc (v := (s16 + 1)) (lv' := [(5, .int (s16 + 1)), (4, .int 0), (0, .ref qM), (1, .int x1), (2, .int x2), (3, .int x3)]) hx hb dX8_canBe_58 hl (k := 5) rfl rfl (by decide) rfl (fun ls hl => ?_)
              refine lv_goto (tgt := 6) hx hb dX8_canBe_61 (by decide) ?_
              exact ih6 0 (s16 + 1) t_6 ls (kl_back hq hx6) (lv_sub hl [2, 3, 4, 5, 1, 0] rfl) hP kk6_64
            · have hq := k_t c_48 hq
              refine lv_iconst (v := 1) hx hb dX8_canBe_51 (by decide) ?_
              refine lv_goto (tgt := 56) hx hb dX8_canBe_52 (by decide) ?_
              refine lv_istore (lv' := [(4, .int 1), (0, .ref qM), (1, .int x1), (2, .int x2), (3, .int x3), (5, .int s16)]) hx hb dX8_canBe_56 hl (by decide) rfl (fun ls hl => ?_)
              refine lv_iinc (v := (s16 + 1)) (lv' := [(5, .int (s16 + 1)), (4, .int 1), (0, .ref qM), (1, .int x1), (2, .int x2), (3, .int x3)]) hx hb dX8_canBe_58 hl (k := 5) rfl rfl (by decide) rfl (fun ls hl => ?_)
              refine lv_goto (tgt := 6) hx hb dX8_canBe_61 (by decide) ?_
              exact ih6 1 (s16 + 1) t_6 ls (kl_back hq hx6) (lv_sub hl [2, 3, 4, 5, 1, 0] rfl) hP kk6_64
  obtain ⟨q26, eq26, hq⟩ := ob hq
  refine L6 F 0 0 q26 ls (eq26) (lv_sub hl [2, 3, 4, 5, 1, 0] rfl) hP (fun ls hl hP => ?_)
  · refine lv_iload hx hb dX8_canBe_64 (lv_at hl 0 rfl) ?_
    obtain ⟨hg, hq⟩ := k_g hq
    obtain rfl := Option.some.inj hq
    rw [hQ]
    exact W.zret hx hb hr (isZ_n hg) (fun t ht hW => ⟨_, rfl, rfl, ht⟩) (fun _ h => absurd h List.not_mem_nil) dX8_canBe_66

abbrev rmX8_isSettled : Room := { frames := 2, cells := 0, slots := 0, locals := 48 }
set_option maxHeartbeats 40000000 in
set_option maxRecDepth 100000 in
theorem tX8_isSettled (G : GG) (l : Launch) {qM qMT qMW qMK qMM qMR qML qMP qMY qMF : Nat} {mt : Int32} {mw : Int32} {mh : Int32} {mg : Int32} {ms : Int32} {mv : Int32} {md : Int32} {mu : Int32} {mo : Int32} {mf : Int32} {mT : Nat → Int32} {mW : Nat → Int32} {mL : Nat → Int32} {x1 : Int32} {x2 : Int32} {F : Nat} {r : Int32} (hq : kX8_isSettled F mw mh mg mT mW mL x1 x2 = some r) : Met l yX8_isSettled wsX8_isSettled rmX8_isSettled (pcP G [(qM, .inr (8, [.int mt, .int mw, .int mh, .int mg, .int ms, .ref qMT, .ref qMW, .ref qMK, .ref qMM, .int mv, .int md, .ref qMR, .ref qML, .ref qMP, .int mu, .ref qMY, .ref qMF, .int mo, .int mf])), (qMT, .inl (G.2.1, 16, .inl mT)), (qMW, .inl (G.2.1, 16, .inl mW)), (qML, .inl (G.2.1, 16, .inl mL))] [.ref qM, .int x1, .int x2]) (vp_Si (fun x => r = x)) 0 0 (fun _ => False) := by
  refine Met.ofW (cc := cX8_isSettled) (maxL := 4) (ret := (some .boolean)) (by decide) rfl ?_
  intro p e s m args below meth c s₁ B hml hv
  obtain ⟨rfl, hP, hKK⟩ := hv
  have hK := hKK.1
  have hx := B.exec
  have hb := B.bytes
  have hr := B.returns
  have hts := atoms_spec (ws := wsX8_isSettled) B.pre
  have hown : s.vm.findClass RX8 = some m.cls := findClass_of_methodNamed B.named
  have hlocks := B.notSynchronized
  have hl := lv_entry ([.ref qM, .int x1, .int x2] : List Value) (n := 4) (Nat.le_of_ble_eq_true rfl)
  rw [lg_entry_eq]
  generalize (lg_sl ([.ref qM, .int x1, .int x2] : List Value) ++ List.replicate (4 - (lg_sl ([.ref qM, .int x1, .int x2] : List Value)).length) Slot.unset).toArray = ls at hl ⊢
  have hl : lv_has ls 4 [(0, .ref qM), (1, .int x1), (2, .int x2)] := hl
  refine wq (fun Q hQ => ?_)
  unfold kX8_isSettled at hq
  refine lv_aload_n hx hb dX8_isSettled_0 rfl (lv_at hl 0 rfl) ?_
  refine lv_iload_n hx hb dX8_isSettled_1 rfl (lv_at hl 1 rfl) ?_
  refine lv_iload_n hx hb dX8_isSettled_2 rfl (lv_at hl 2 rfl) ?_
  obtain ⟨q1, eq1, hq⟩ := ob hq
  have hPc := hP.sub (ws' := [(qM, .inr (8, [.int mt, .int mw, .int mh, .int mg, .int ms, .ref qMT, .ref qMW, .ref qMK, .ref qMM, .int mv, .int md, .ref qMR, .ref qML, .ref qMP, .int mu, .ref qMY, .ref qMF, .int mo, .int mf]))]) [0] rfl
  have hKc := hK
  refine vp_callSi (va_Run.run (va_runV (As := [.int x1, .int x2]) (rest := []) ⟨hx, hb, hml, hown, hts⟩ (tX8_neighbourOf G l eq1) (cwV 2 hts gX8_isSettled_X8_neighbourOf rfl rfl rfl (by decide +kernel) ⟨Nat.le_of_ble_eq_true rfl, Nat.le_of_ble_eq_true rfl⟩) ⟨pcP_blind, va_recv hKc hPc (ci := 8) (q0 := 0) rfl rfl, pcP_pre hPc hKK⟩ rfl rfl hl.1 rfl (lv_room (Nat.le_of_ble_eq_true rfl)) dX8_isSettled_3 ⟨Nat.zero_le _, Nat.zero_le _⟩)) (fun r0 hr0 => ?_)
  obtain rfl := hr0
  refine lv_istore_n (lv' := [(3, .int q1), (0, .ref qM), (1, .int x1), (2, .int x2)]) hx hb dX8_isSettled_6 rfl hl (by decide) rfl (fun ls hl => ?_)
  refine lv_iload_n hx hb dX8_isSettled_7 rfl (lv_at hl 0 rfl) ?_
  refine lv_iconst (v := (-1)) hx hb dX8_isSettled_8 (by decide) ?_
  have J49 : ∀ (v6 : Int32) (ls : Array Slot), kX8_isSettled_j49 F v6 = some r → lv_has ls 4 [] → va_P G.1 vwCl [(qM, .inr (8, [.int mt, .int mw, .int mh, .int mg, .int ms, .ref qMT, .ref qMW, .ref qMK, .ref qMM, .int mv, .int md, .ref qMR, .ref qML, .ref qMP, .int mu, .ref qMY, .ref qMF, .int mo, .int mf])), (qMT, .inl (G.2.1, 16, .inl mT)), (qMW, .inl (G.2.1, 16, .inl mW)), (qML, .inl (G.2.1, 16, .inl mL))] s.heap → W p l e (headSpec wsX8_isSettled rmX8_isSettled).room s m ([.ref qM, .int x1, .int x2] : List Value).toArray below meth c s.heap [] 0 0 Q (F0 m 49 ls [.int v6]) := by
    intro v6 ls hq hl hP
    unfold kX8_isSettled_j49 at hq
    obtain ⟨hg, hq⟩ := k_g hq
    obtain rfl := Option.some.inj hq
    rw [hQ]
    exact W.zret hx hb hr (isZ_n hg) (fun t ht hW => ⟨_, rfl, rfl, ht⟩) (fun _ h => absurd h List.not_mem_nil) dX8_isSettled_49
  refine lv_icmp_eq (tgt := 48) hx hb dX8_isSettled_9 (by decide) (fun c_9 => ?_) (fun c_9 => ?_)
  · have hq := k_t c_9 hq
    refine lv_iconst (v := 0) hx hb dX8_isSettled_48 (by decide) ?_
    exact J49 0 ls hq (lv_sub hl [] rfl) hP
  · have hq := k_f c_9 hq
    refine lv_aload_n hx hb dX8_isSettled_12 rfl (lv_at hl 1 rfl) ?_
    refine lv_iload_n hx hb dX8_isSettled_13 rfl (lv_at hl 2 rfl) ?_
    refine lv_iload_n hx hb dX8_isSettled_14 rfl (lv_at hl 3 rfl) ?_
    obtain ⟨q7, eq7, hq⟩ := ob hq
    have hPc := hP.sub (ws' := [(qM, .inr (8, [.int mt, .int mw, .int mh, .int mg, .int ms, .ref qMT, .ref qMW, .ref qMK, .ref qMM, .int mv, .int md, .ref qMR, .ref qML, .ref qMP, .int mu, .ref qMY, .ref qMF, .int mo, .int mf])), (qMW, .inl (G.2.1, 16, .inl mW))]) [0, 2] rfl
    have hKc := hK
    refine vp_callSi (va_Run.run (va_runV (As := [.int x1, .int x2]) (rest := []) ⟨hx, hb, hml, hown, hts⟩ (tX8_hasWall G l eq7) (cwV 2 hts gX8_isSettled_X8_hasWall rfl rfl rfl (by decide +kernel) ⟨Nat.le_of_ble_eq_true rfl, Nat.le_of_ble_eq_true rfl⟩) ⟨pcP_blind, va_recv hKc hPc (ci := 8) (q0 := 0) rfl rfl, pcP_pre hPc hKK⟩ rfl rfl hl.1 rfl (lv_room (Nat.le_of_ble_eq_true rfl)) dX8_isSettled_15 ⟨Nat.zero_le _, Nat.zero_le _⟩)) (fun r0 hr0 => ?_)
    obtain rfl := hr0
    refine lv_if_ne (tgt := 48) hx hb dX8_isSettled_18 (by decide) (fun c_18 => ?_) (fun c_18 => ?_)
    · have hq := k_f c_18 hq
      refine lv_iconst (v := 0) hx hb dX8_isSettled_48 (by decide) ?_
      exact J49 0 ls hq (lv_sub hl [] rfl) hP
    · have hq := k_t c_18 hq
      refine lv_aload_n hx hb dX8_isSettled_21 rfl (lv_at hl 1 rfl) ?_
      refine lv_iload_n hx hb dX8_isSettled_22 rfl (lv_at hl 2 rfl) ?_
      refine lv_iload_n hx hb dX8_isSettled_23 rfl (lv_at hl 3 rfl) ?_
      refine lv_iconst (v := 0) hx hb dX8_isSettled_24 (by decide) ?_
      obtain ⟨q8, eq8, hq⟩ := ob hq
      have hPc := hP.sub (ws' := [(qM, .inr (8, [.int mt, .int mw, .int mh, .int mg, .int ms, .ref qMT, .ref qMW, .ref qMK, .ref qMM, .int mv, .int md, .ref qMR, .ref qML, .ref qMP, .int mu, .ref qMY, .ref qMF, .int mo, .int mf])), (qMT, .inl (G.2.1, 16, .inl mT)), (qML, .inl (G.2.1, 16, .inl mL))]) [0, 1, 3] rfl
      have hKc := hK
      refine vp_callSi (va_Run.run (va_runV (As := [.int x1, .int x2, .int 0]) (rest := []) ⟨hx, hb, hml, hown, hts⟩ (tX8_canBe G l eq8) (cwV 3 hts gX8_isSettled_X8_canBe rfl rfl rfl (by decide +kernel) ⟨Nat.le_of_ble_eq_true rfl, Nat.le_of_ble_eq_true rfl⟩) ⟨pcP_blind, va_recv hKc hPc (ci := 8) (q0 := 0) rfl rfl, pcP_pre hPc hKK⟩ rfl rfl hl.1 rfl (lv_room (Nat.le_of_ble_eq_true rfl)) dX8_isSettled_25 ⟨Nat.zero_le _, Nat.zero_le _⟩)) (fun r0 hr0 => ?_)
      obtain rfl := hr0
      refine lv_if_ne (tgt := 48) hx hb dX8_isSettled_28 (by decide) (fun c_28 => ?_) (fun c_28 => ?_)
      · have hq := k_f c_28 hq
        refine lv_iconst (v := 0) hx hb dX8_isSettled_48 (by decide) ?_
        exact J49 0 ls hq (lv_sub hl [] rfl) hP
      · have hq := k_t c_28 hq
        refine lv_aload_n hx hb dX8_isSettled_31 rfl (lv_at hl 1 rfl) ?_
        refine lv_iload_n hx hb dX8_isSettled_32 rfl (lv_at hl 0 rfl) ?_
        refine lv_iload_n hx hb dX8_isSettled_33 rfl (lv_at hl 3 rfl) ?_
        obtain ⟨q9, eq9, hq⟩ := ob hq
        have hPc := hP.sub (ws' := []) [] rfl
        refine vp_callSi (va_Run.run (va_runS (As := [.int x2]) (rest := [.int q1, .ref qM]) ⟨hx, hb, hml, hown, hts⟩ (tX8_opposite G l eq9) (va_cwS 1 hts gX8_isSettled_X8_opposite rfl rfl rfl (by decide +kernel) ⟨Nat.le_of_ble_eq_true rfl, Nat.le_of_ble_eq_true rfl⟩) ⟨pcP_blind, pcP_pre hPc hKK⟩ rfl rfl hl.1 rfl (lv_room (Nat.le_of_ble_eq_true rfl)) dX8_isSettled_34 ⟨Nat.zero_le _, Nat.zero_le _⟩)) (fun r0 hr0 => ?_)
        obtain rfl := hr0
        refine lv_iconst (v := 0) hx hb dX8_isSettled_37 (by decide) ?_
        obtain ⟨q10, eq10, hq⟩ := ob hq
        have hPc := hP.sub (ws' := [(qM, .inr (8, [.int mt, .int mw, .int mh, .int mg, .int ms, .ref qMT, .ref qMW, .ref qMK, .ref qMM, .int mv, .int md, .ref qMR, .ref qML, .ref qMP, .int mu, .ref qMY, .ref qMF, .int mo, .int mf])), (qMT, .inl (G.2.1, 16, .inl mT)), (qML, .inl (G.2.1, 16, .inl mL))]) [0, 1, 3] rfl
        have hKc := hK
        refine vp_callSi (va_Run.run (va_runV (As := [.int q1, .int q9, .int 0]) (rest := []) ⟨hx, hb, hml, hown, hts⟩ (tX8_canBe G l eq10) (cwV 3 hts gX8_isSettled_X8_canBe rfl rfl rfl (by decide +kernel) ⟨Nat.le_of_ble_eq_true rfl, Nat.le_of_ble_eq_true rfl⟩) ⟨pcP_blind, va_recv hKc hPc (ci := 8) (q0 := 0) rfl rfl, pcP_pre hPc hKK⟩ rfl rfl hl.1 rfl (lv_room (Nat.le_of_ble_eq_true rfl)) dX8_isSettled_38 ⟨Nat.zero_le _, Nat.zero_le _⟩)) (fun r0 hr0 => ?_)
        obtain rfl := hr0
        refine lv_if_ne (tgt := 48) hx hb dX8_isSettled_41 (by decide) (fun c_41 => ?_) (fun c_41 => ?_)
        · have hq := k_f c_41 hq
          refine lv_iconst (v := 0) hx hb dX8_isSettled_48 (by decide) ?_
          exact J49 0 ls hq (lv_sub hl [] rfl) hP
        · have hq := k_t c_41 hq
          refine lv_iconst (v := 1) hx hb dX8_isSettled_44 (by decide) ?_
          refine lv_goto (tgt := 49) hx hb dX8_isSettled_45 (by decide) ?_
          exact J49 1 ls hq (lv_sub hl [] rfl) hP

abbrev rmX8_hang : Room := { frames := 3, cells := 0, slots := 0, locals := 71 }
set_option maxHeartbeats 40000000 in
set_option maxRecDepth 100000 in
theorem tX8_hang (G : GG) (l : Launch) {qM qMT qMW qMK qMM qMR qML qMP qMY qMF : Nat} {mt : Int32} {mw : Int32} {mh : Int32} {mg : Int32} {ms : Int32} {mv : Int32} {md : Int32} {mu : Int32} {mo : Int32} {mf : Int32} {mT : Nat → Int32} {mW : Nat → Int32} {mR : Nat → Int32} {mL : Nat → Int32} {x1 : Int32} {x2 : Int32} {x3 : Int32} {sz : Nat} {F : Nat} {r : Int32 × (Nat → Int32)} (hq : kX8_hang F mw mh mg mT mW mR mL x1 x2 x3 = some r) : Met l yX8_hang wsX8_hang rmX8_hang (pcW G [(qM, .inr (8, [.int mt, .int mw, .int mh, .int mg, .int ms, .ref qMT, .ref qMW, .ref qMK, .ref qMM, .int mv, .int md, .ref qMR, .ref qML, .ref qMP, .int mu, .ref qMY, .ref qMF, .int mo, .int mf])), (qMT, .inl (G.2.1, 16, .inl mT)), (qMW, .inl (G.2.1, 16, .inl mW)), (qMR, .inl (G.2.2.2.1, 16, .inl mR)), (qML, .inl (G.2.1, 16, .inl mL))] sz [.ref qM, .int x1, .int x2, .int x3]) (qcI G r.1 [(qM, .inr (8, [.int mt, .int mw, .int mh, .int mg, .int ms, .ref qMT, .ref qMW, .ref qMK, .ref qMM, .int mv, .int md, .ref qMR, .ref qML, .ref qMP, .int mu, .ref qMY, .ref qMF, .int mo, .int mf])), (qMT, .inl (G.2.1, 16, .inl mT)), (qMW, .inl (G.2.1, 16, .inl mW)), (qMR, .inl (G.2.2.2.1, 16, .inl r.2)), (qML, .inl (G.2.1, 16, .inl mL))] (va_A [(qM, .inr (8, [.int mt, .int mw, .int mh, .int mg, .int ms, .ref qMT, .ref qMW, .ref qMK, .ref qMM, .int mv, .int md, .ref qMR, .ref qML, .ref qMP, .int mu, .ref qMY, .ref qMF, .int mo, .int mf])), (qMT, .inl (G.2.1, 16, .inl mT)), (qMW, .inl (G.2.1, 16, .inl mW)), (qMR, .inl (G.2.2.2.1, 16, .inl mR)), (qML, .inl (G.2.1, 16, .inl mL))] sz)) 0 0 (va_A [(qM, .inr (8, [.int mt, .int mw, .int mh, .int mg, .int ms, .ref qMT, .ref qMW, .ref qMK, .ref qMM, .int mv, .int md, .ref qMR, .ref qML, .ref qMP, .int mu, .ref qMY, .ref qMF, .int mo, .int mf])), (qMT, .inl (G.2.1, 16, .inl mT)), (qMW, .inl (G.2.1, 16, .inl mW)), (qMR, .inl (G.2.2.2.1, 16, .inl mR)), (qML, .inl (G.2.1, 16, .inl mL))] sz) := by
  refine Met.ofW (cc := cX8_hang) (maxL := 8) (ret := (some .boolean)) (by decide) rfl ?_
  intro p e s m args below meth c s₁ B hml hv
  obtain ⟨rfl, hsz, hP, hKK, hD0⟩ := hv
  have hK := hKK.1
  have hx := B.exec
  have hb := B.bytes
  have hr := B.returns
  have hts := atoms_spec (ws := wsX8_hang) B.pre
  have hown : s.vm.findClass RX8 = some m.cls := findClass_of_methodNamed B.named
  have hlocks := B.notSynchronized
  subst hsz
  have hD := hD0.self (sz := s.heap.size)
  generalize hAe : va_A [(qM, .inr (8, [.int mt, .int mw, .int mh, .int mg, .int ms, .ref qMT, .ref qMW, .ref qMK, .ref qMM, .int mv, .int md, .ref qMR, .ref qML, .ref qMP, .int mu, .ref qMY, .ref qMF, .int mo, .int mf])), (qMT, .inl (G.2.1, 16, .inl mT)), (qMW, .inl (G.2.1, 16, .inl mW)), (qMR, .inl (G.2.2.2.1, 16, .inl mR)), (qML, .inl (G.2.1, 16, .inl mL))] s.heap.size = A at hD ⊢
  have hA : ∀ q : Nat, s.heap.size ≤ q → A q := fun q h => by rw [← hAe]; exact Or.inr h
  have hS : va_S A s.heap s.heap [] := va_S.rf
  have hl := lv_entry ([.ref qM, .int x1, .int x2, .int x3] : List Value) (n := 8) (Nat.le_of_ble_eq_true rfl)
  rw [lg_entry_eq]
  generalize (lg_sl ([.ref qM, .int x1, .int x2, .int x3] : List Value) ++ List.replicate (8 - (lg_sl ([.ref qM, .int x1, .int x2, .int x3] : List Value)).length) Slot.unset).toArray = ls at hl ⊢
  have hl : lv_has ls 8 [(0, .ref qM), (1, .int x1), (2, .int x2), (3, .int x3)] := hl
  have hi8 : ∀ w ∈ u_ws RX8 TX8 19, w ∈ wsX8_hang := by decide +kernel
  have hw0 : (Cond.fieldLink RX8 30 "NetPlumberModel" "reached" "[Z").before #[Value.ref qM, Value.int x1, Value.int x2, Value.int x3] s = true := hts _ (by decide +kernel)
  refine wq (fun Q hQ => ?_)
  unfold kX8_hang at hq
  refine lv_iconst (v := 0) hx hb dX8_hang_0 (by decide) ?_
  refine lv_istore (lv' := [(4, .int 0), (0, .ref qM), (1, .int x1), (2, .int x2), (3, .int x3)]) hx hb dX8_hang_1 hl (by decide) rfl (fun ls hl => ?_)
  have L3 : ∀ (n : Nat) (s7 : Int32) (s8 : Nat → Int32) (t_3 : Nat → Int32) (ls : Array Slot) (H : Heap) (locs : List Loc), kloop n (fun s_ => kX8_hang_s3 F x1 s_.1 s_.2) (s7, s8) = some t_3 → lv_has ls 8 [(0, .ref qM), (1, .int x1), (2, .int x2), (3, .int x3), (4, .int s7)] → va_P G.1 vwCl [(qM, .inr (8, [.int mt, .int mw, .int mh, .int mg, .int ms, .ref qMT, .ref qMW, .ref qMK, .ref qMM, .int mv, .int md, .ref qMR, .ref qML, .ref qMP, .int mu, .ref qMY, .ref qMF, .int mo, .int mf])), (qMT, .inl (G.2.1, 16, .inl mT)), (qMW, .inl (G.2.1, 16, .inl mW)), (qMR, .inl (G.2.2.2.1, 16, .inl s8)), (qML, .inl (G.2.1, 16, .inl mL))] H → va_D A [(qM, .inr (8, [.int mt, .int mw, .int mh, .int mg, .int ms, .ref qMT, .ref qMW, .ref qMK, .ref qMM, .int mv, .int md, .ref qMR, .ref qML, .ref qMP, .int mu, .ref qMY, .ref qMF, .int mo, .int mf])), (qMT, .inl (G.2.1, 16, .inl mT)), (qMW, .inl (G.2.1, 16, .inl mW)), (qMR, .inl (G.2.2.2.1, 16, .inl s8)), (qML, .inl (G.2.1, 16, .inl mL))] → va_S A s.heap H locs → (∀ (ls : Array Slot) (H : Heap) (locs : List Loc), lv_has ls 8 [(0, .ref qM), (2, .int x2), (3, .int x3)] → va_P G.1 vwCl [(qM, .inr (8, [.int mt, .int mw, .int mh, .int mg, .int ms, .ref qMT, .ref qMW, .ref qMK, .ref qMM, .int mv, .int md, .ref qMR, .ref qML, .ref qMP, .int mu, .ref qMY, .ref qMF, .int mo, .int mf])), (qMT, .inl (G.2.1, 16, .inl mT)), (qMW, .inl (G.2.1, 16, .inl mW)), (qMR, .inl (G.2.2.2.1, 16, .inl t_3)), (qML, .inl (G.2.1, 16, .inl mL))] H → va_D A [(qM, .inr (8, [.int mt, .int mw, .int mh, .int mg, .int ms, .ref qMT, .ref qMW, .ref qMK, .ref qMM, .int mv, .int md, .ref qMR, .ref qML, .ref qMP, .int mu, .ref qMY, .ref qMF, .int mo, .int mf])), (qMT, .inl (G.2.1, 16, .inl mT)), (qMW, .inl (G.2.1, 16, .inl mW)), (qMR, .inl (G.2.2.2.1, 16, .inl t_3)), (qML, .inl (G.2.1, 16, .inl mL))] → va_S A s.heap H locs → W p l e (headSpec wsX8_hang rmX8_hang).room s m ([.ref qM, .int x1, .int x2, .int x3] : List Value).toArray below meth c H locs 0 0 Q (F0 m 34 ls [])) → W p l e (headSpec wsX8_hang rmX8_hang).room s m ([.ref qM, .int x1, .int x2, .int x3] : List Value).toArray below meth c H locs 0 0 Q (F0 m 3 ls []) := by
    intro n
    induction n with
    | zero => 
      intro s7 s8 t_3 ls H locs hq hl hP hD hS kk3_34
      exact absurd hq kl_0
    | succ n ih3 =>
      intro s7 s8 t_3 ls H locs hq hl hP hD hS kk3_34
      obtain ⟨y_3, hq, hx3⟩ := kl_s hq
      have hq : kX8_hang_s3 F x1 s7 s8 = some y_3 := hq
      unfold kX8_hang_s3 at hq
      refine lv_iload hx hb dX8_hang_3 (lv_at hl 4 rfl) ?_
      refine lv_bipush (v := 16) hx hb dX8_hang_5 (by decide) ?_
      refine lv_icmp_ge (tgt := 34) hx hb dX8_hang_7 (by decide) (fun c_7 => ?_) (fun c_7 => ?_)
      · have hq := k_t c_7 hq
        have et := kl_exit hq hx3
        subst et
        exact kk3_34 ls _ _ (lv_sub hl [0, 2, 3] rfl) hP hD hS
      · have hq := k_f c_7 hq
        refine lv_aload_n hx hb dX8_hang_10 rfl (lv_at hl 0 rfl) ?_
        refine va_get (D := G.1) (ci := 8) (v := .ref qMR) (C := RX8) (T := TX8) (N := 19) hx hb hts hi8 hown hK hP 0 rfl rfl 11 (by decide) hw0 (fun _ h9 => h9) rfl dX8_hang_11 ?_
        refine lv_iload hx hb dX8_hang_14 (lv_at hl 4 rfl) ?_
        refine lv_iload hx hb dX8_hang_16 (lv_at hl 4 rfl) ?_
        refine lv_iload_n hx hb dX8_hang_18 rfl (lv_at hl 1 rfl) ?_
        refine lv_icmp_ne (tgt := 26) hx hb dX8_hang_19 (by decide) (fun c_19 => ?_) (fun c_19 => ?_)
        · have hq := k_f c_19 hq
          refine lv_iconst (v := 0) hx hb dX8_hang_26 (by decide) ?_
          obtain ⟨hg, hq⟩ := k_g hq
          refine va_zast hx hb hK hP hD hS 3 2 rfl rfl (ix_in hg) dX8_hang_27 (fun H locs hP hD hS => ?_)
          have hP : va_P G.1 vwCl [(qM, .inr (8, [.int mt, .int mw, .int mh, .int mg, .int ms, .ref qMT, .ref qMW, .ref qMK, .ref qMM, .int mv, .int md, .ref qMR, .ref qML, .ref qMP, .int mu, .ref qMY, .ref qMF, .int mo, .int mf])), (qMT, .inl (G.2.1, 16, .inl mT)), (qMW, .inl (G.2.1, 16, .inl mW)), (qMR, .inl (G.2.2.2.1, 16, .inl (upd s8 s7.toNatClampNeg (vp_nar .boolean 0)))), (qML, .inl (G.2.1, 16, .inl mL))] H := hP
          have hD : va_D A [(qM, .inr (8, [.int mt, .int mw, .int mh, .int mg, .int ms, .ref qMT, .ref qMW, .ref qMK, .ref qMM, .int mv, .int md, .ref qMR, .ref qML, .ref qMP, .int mu, .ref qMY, .ref qMF, .int mo, .int mf])), (qMT, .inl (G.2.1, 16, .inl mT)), (qMW, .inl (G.2.1, 16, .inl mW)), (qMR, .inl (G.2.2.2.1, 16, .inl (upd s8 s7.toNatClampNeg (vp_nar .boolean 0)))), (qML, .inl (G.2.1, 16, .inl mL))] := hD
          refine lv_iinc (v := (s7 + 1)) (lv' := [(4, .int (s7 + 1)), (0, .ref qM), (1, .int x1), (2, .int x2), (3, .int x3)]) hx hb dX8_hang_28 hl (k := 4) rfl rfl (by decide) rfl (fun ls hl => ?_)
          refine lv_goto (tgt := 3) hx hb dX8_hang_31 (by decide) ?_
          exact ih3 (s7 + 1) (upd s8 s7.toNatClampNeg (vp_nar .boolean 0)) t_3 ls _ _ (kl_back hq hx3) (lv_sub hl [1, 2, 3, 4, 0] rfl) hP hD hS kk3_34
        · have hq := k_t c_19 hq
          refine lv_iconst (v := 1) hx hb dX8_hang_22 (by decide) ?_
          refine lv_goto (tgt := 27) hx hb dX8_hang_23 (by decide) ?_
          obtain ⟨hg, hq⟩ := k_g hq
          refine va_zast hx hb hK hP hD hS 3 2 rfl rfl (ix_in hg) dX8_hang_27 (fun H locs hP hD hS => ?_)
          have hP : va_P G.1 vwCl [(qM, .inr (8, [.int mt, .int mw, .int mh, .int mg, .int ms, .ref qMT, .ref qMW, .ref qMK, .ref qMM, .int mv, .int md, .ref qMR, .ref qML, .ref qMP, .int mu, .ref qMY, .ref qMF, .int mo, .int mf])), (qMT, .inl (G.2.1, 16, .inl mT)), (qMW, .inl (G.2.1, 16, .inl mW)), (qMR, .inl (G.2.2.2.1, 16, .inl (upd s8 s7.toNatClampNeg (vp_nar .boolean 1)))), (qML, .inl (G.2.1, 16, .inl mL))] H := hP
          have hD : va_D A [(qM, .inr (8, [.int mt, .int mw, .int mh, .int mg, .int ms, .ref qMT, .ref qMW, .ref qMK, .ref qMM, .int mv, .int md, .ref qMR, .ref qML, .ref qMP, .int mu, .ref qMY, .ref qMF, .int mo, .int mf])), (qMT, .inl (G.2.1, 16, .inl mT)), (qMW, .inl (G.2.1, 16, .inl mW)), (qMR, .inl (G.2.2.2.1, 16, .inl (upd s8 s7.toNatClampNeg (vp_nar .boolean 1)))), (qML, .inl (G.2.1, 16, .inl mL))] := hD
          refine lv_iinc (v := (s7 + 1)) (lv' := [(4, .int (s7 + 1)), (0, .ref qM), (1, .int x1), (2, .int x2), (3, .int x3)]) hx hb dX8_hang_28 hl (k := 4) rfl rfl (by decide) rfl (fun ls hl => ?_)
          refine lv_goto (tgt := 3) hx hb dX8_hang_31 (by decide) ?_
          exact ih3 (s7 + 1) (upd s8 s7.toNatClampNeg (vp_nar .boolean 1)) t_3 ls _ _ (kl_back hq hx3) (lv_sub hl [1, 2, 3, 4, 0] rfl) hP hD hS kk3_34
  obtain ⟨q10, eq10, hq⟩ := ob hq
  refine L3 F 0 mR q10 ls _ _ (eq10) (lv_sub hl [1, 2, 3, 4, 0] rfl) hP hD hS (fun ls H locs hl hP hD hS => ?_)
  · refine lv_iconst (v := 1) hx hb dX8_hang_34 (by decide) ?_
    refine lv_istore (lv' := [(4, .int 1), (0, .ref qM), (2, .int x2), (3, .int x3)]) hx hb dX8_hang_35 hl (by decide) rfl (fun ls hl => ?_)
    have L37 : ∀ (n : Nat) (s70 : Int32) (s71 : Nat → Int32) (t_37 : Nat → Int32) (ls : Array Slot) (H : Heap) (locs : List Loc), kloop n (fun s_ => kX8_hang_s37 F mw mh mg mT mW mL x2 x3 s_.1 s_.2) (s70, s71) = some t_37 → lv_has ls 8 [(0, .ref qM), (2, .int x2), (3, .int x3), (4, .int s70)] → va_P G.1 vwCl [(qM, .inr (8, [.int mt, .int mw, .int mh, .int mg, .int ms, .ref qMT, .ref qMW, .ref qMK, .ref qMM, .int mv, .int md, .ref qMR, .ref qML, .ref qMP, .int mu, .ref qMY, .ref qMF, .int mo, .int mf])), (qMT, .inl (G.2.1, 16, .inl mT)), (qMW, .inl (G.2.1, 16, .inl mW)), (qMR, .inl (G.2.2.2.1, 16, .inl s71)), (qML, .inl (G.2.1, 16, .inl mL))] H → va_D A [(qM, .inr (8, [.int mt, .int mw, .int mh, .int mg, .int ms, .ref qMT, .ref qMW, .ref qMK, .ref qMM, .int mv, .int md, .ref qMR, .ref qML, .ref qMP, .int mu, .ref qMY, .ref qMF, .int mo, .int mf])), (qMT, .inl (G.2.1, 16, .inl mT)), (qMW, .inl (G.2.1, 16, .inl mW)), (qMR, .inl (G.2.2.2.1, 16, .inl s71)), (qML, .inl (G.2.1, 16, .inl mL))] → va_S A s.heap H locs → (∀ (ls : Array Slot) (H : Heap) (locs : List Loc), lv_has ls 8 [(0, .ref qM), (2, .int x2)] → va_P G.1 vwCl [(qM, .inr (8, [.int mt, .int mw, .int mh, .int mg, .int ms, .ref qMT, .ref qMW, .ref qMK, .ref qMM, .int mv, .int md, .ref qMR, .ref qML, .ref qMP, .int mu, .ref qMY, .ref qMF, .int mo, .int mf])), (qMT, .inl (G.2.1, 16, .inl mT)), (qMW, .inl (G.2.1, 16, .inl mW)), (qMR, .inl (G.2.2.2.1, 16, .inl t_37)), (qML, .inl (G.2.1, 16, .inl mL))] H → va_D A [(qM, .inr (8, [.int mt, .int mw, .int mh, .int mg, .int ms, .ref qMT, .ref qMW, .ref qMK, .ref qMM, .int mv, .int md, .ref qMR, .ref qML, .ref qMP, .int mu, .ref qMY, .ref qMF, .int mo, .int mf])), (qMT, .inl (G.2.1, 16, .inl mT)), (qMW, .inl (G.2.1, 16, .inl mW)), (qMR, .inl (G.2.2.2.1, 16, .inl t_37)), (qML, .inl (G.2.1, 16, .inl mL))] → va_S A s.heap H locs → W p l e (headSpec wsX8_hang rmX8_hang).room s m ([.ref qM, .int x1, .int x2, .int x3] : List Value).toArray below meth c H locs 0 0 Q (F0 m 166 ls [])) → W p l e (headSpec wsX8_hang rmX8_hang).room s m ([.ref qM, .int x1, .int x2, .int x3] : List Value).toArray below meth c H locs 0 0 Q (F0 m 37 ls []) := by
      intro n
      induction n with
      | zero => 
        intro s70 s71 t_37 ls H locs hq hl hP hD hS kk37_166
        exact absurd hq kl_0
      | succ n ih37 =>
        intro s70 s71 t_37 ls H locs hq hl hP hD hS kk37_166
        obtain ⟨y_37, hq, hx37⟩ := kl_s hq
        have hq : kX8_hang_s37 F mw mh mg mT mW mL x2 x3 s70 s71 = some y_37 := hq
        unfold kX8_hang_s37 at hq
        refine lv_iload hx hb dX8_hang_37 (lv_at hl 3 rfl) ?_
        refine lv_if_eq (tgt := 166) hx hb dX8_hang_39 (by decide) (fun c_39 => ?_) (fun c_39 => ?_)
        · have hq := k_t c_39 hq
          have et := kl_exit hq hx37
          subst et
          exact kk37_166 ls _ _ (lv_sub hl [0, 1] rfl) hP hD hS
        · have hq := k_f c_39 hq
          refine lv_aload_n hx hb dX8_hang_42 rfl (lv_at hl 0 rfl) ?_
          refine va_get (D := G.1) (ci := 8) (v := .ref qMR) (C := RX8) (T := TX8) (N := 19) hx hb hts hi8 hown hK hP 0 rfl rfl 11 (by decide) hw0 (fun _ h9 => h9) rfl dX8_hang_43 ?_
          refine lv_iload_n hx hb dX8_hang_46 rfl (lv_at hl 1 rfl) ?_
          obtain ⟨hg, hq⟩ := k_g hq
          refine va_zald hx hb hK hP 3 2 rfl rfl (ix_in hg) dX8_hang_47 ?_
          refine lv_if_ne (tgt := 166) hx hb dX8_hang_48 (by decide) (fun c_48 => ?_) (fun c_48 => ?_)
          · have hq := k_f c_48 hq
            have et := kl_exit hq hx37
            subst et
            exact kk37_166 ls _ _ (lv_sub hl [0, 1] rfl) hP hD hS
          · have hq := k_t c_48 hq
            refine lv_iconst (v := 0) hx hb dX8_hang_51 (by decide) ?_
            refine lv_istore (lv' := [(4, .int 0), (0, .ref qM), (2, .int x2), (3, .int x3)]) hx hb dX8_hang_52 hl (by decide) rfl (fun ls hl => ?_)
            refine lv_iconst (v := 0) hx hb dX8_hang_54 (by decide) ?_
            refine lv_istore (lv' := [(5, .int 0), (4, .int 0), (0, .ref qM), (2, .int x2), (3, .int x3)]) hx hb dX8_hang_55 hl (by decide) rfl (fun ls hl => ?_)
            have L57 : ∀ (n : Nat) (s100 : Int32) (s101 : Int32) (s102 : Nat → Int32) (t_57 : Int32 × (Nat → Int32)) (ls : Array Slot) (H : Heap) (locs : List Loc), kloop n (fun s_ => kX8_hang_s57 F mw mh mg mT mW mL x3 s_.1 s_.2.1 s_.2.2) (s100, s101, s102) = some t_57 → lv_has ls 8 [(0, .ref qM), (2, .int x2), (3, .int x3), (4, .int s100), (5, .int s101)] → va_P G.1 vwCl [(qM, .inr (8, [.int mt, .int mw, .int mh, .int mg, .int ms, .ref qMT, .ref qMW, .ref qMK, .ref qMM, .int mv, .int md, .ref qMR, .ref qML, .ref qMP, .int mu, .ref qMY, .ref qMF, .int mo, .int mf])), (qMT, .inl (G.2.1, 16, .inl mT)), (qMW, .inl (G.2.1, 16, .inl mW)), (qMR, .inl (G.2.2.2.1, 16, .inl s102)), (qML, .inl (G.2.1, 16, .inl mL))] H → va_D A [(qM, .inr (8, [.int mt, .int mw, .int mh, .int mg, .int ms, .ref qMT, .ref qMW, .ref qMK, .ref qMM, .int mv, .int md, .ref qMR, .ref qML, .ref qMP, .int mu, .ref qMY, .ref qMF, .int mo, .int mf])), (qMT, .inl (G.2.1, 16, .inl mT)), (qMW, .inl (G.2.1, 16, .inl mW)), (qMR, .inl (G.2.2.2.1, 16, .inl s102)), (qML, .inl (G.2.1, 16, .inl mL))] → va_S A s.heap H locs → (∀ (ls : Array Slot) (H : Heap) (locs : List Loc), lv_has ls 8 [(0, .ref qM), (2, .int x2), (3, .int x3), (4, .int t_57.1)] → va_P G.1 vwCl [(qM, .inr (8, [.int mt, .int mw, .int mh, .int mg, .int ms, .ref qMT, .ref qMW, .ref qMK, .ref qMM, .int mv, .int md, .ref qMR, .ref qML, .ref qMP, .int mu, .ref qMY, .ref qMF, .int mo, .int mf])), (qMT, .inl (G.2.1, 16, .inl mT)), (qMW, .inl (G.2.1, 16, .inl mW)), (qMR, .inl (G.2.2.2.1, 16, .inl t_57.2)), (qML, .inl (G.2.1, 16, .inl mL))] H → va_D A [(qM, .inr (8, [.int mt, .int mw, .int mh, .int mg, .int ms, .ref qMT, .ref qMW, .ref qMK, .ref qMM, .int mv, .int md, .ref qMR, .ref qML, .ref qMP, .int mu, .ref qMY, .ref qMF, .int mo, .int mf])), (qMT, .inl (G.2.1, 16, .inl mT)), (qMW, .inl (G.2.1, 16, .inl mW)), (qMR, .inl (G.2.2.2.1, 16, .inl t_57.2)), (qML, .inl (G.2.1, 16, .inl mL))] → va_S A s.heap H locs → W p l e (headSpec wsX8_hang rmX8_hang).room s m ([.ref qM, .int x1, .int x2, .int x3] : List Value).toArray below meth c H locs 0 0 Q (F0 m 163 ls [])) → W p l e (headSpec wsX8_hang rmX8_hang).room s m ([.ref qM, .int x1, .int x2, .int x3] : List Value).toArray below meth c H locs 0 0 Q (F0 m 57 ls []) := by
              intro n
              induction n with
              | zero => 
                intro s100 s101 s102 t_57 ls H locs hq hl hP hD hS kk57_163
                exact absurd hq kl_0
              | succ n ih57 =>
                intro s100 s101 s102 t_57 ls H locs hq hl hP hD hS kk57_163
                obtain ⟨y_57, hq, hx57⟩ := kl_s hq
                have hq : kX8_hang_s57 F mw mh mg mT mW mL x3 s100 s101 s102 = some y_57 := hq
                unfold kX8_hang_s57 at hq
                refine lv_iload hx hb dX8_hang_57 (lv_at hl 4 rfl) ?_
                refine lv_aload_n hx hb dX8_hang_59 rfl (lv_at hl 0 rfl) ?_
                obtain ⟨q103, eq103, hq⟩ := ob hq
                have hPc := hP.sub (ws' := [(qM, .inr (8, [.int mt, .int mw, .int mh, .int mg, .int ms, .ref qMT, .ref qMW, .ref qMK, .ref qMM, .int mv, .int md, .ref qMR, .ref qML, .ref qMP, .int mu, .ref qMY, .ref qMF, .int mo, .int mf]))]) [0] rfl
                have hKc := hK
                refine vp_callSi (va_Run.run (va_runV (As := []) (rest := [.int s101]) ⟨hx, hb, hml, hown, hts⟩ (tX8_cells G l eq103) (cwV 0 hts gX8_hang_X8_cells rfl rfl rfl (by decide +kernel) ⟨Nat.le_of_ble_eq_true rfl, Nat.le_of_ble_eq_true rfl⟩) ⟨pcP_blind, va_recv hKc hPc (ci := 8) (q0 := 0) rfl rfl, pcP_pre hPc hKK⟩ rfl rfl hl.1 rfl (lv_room (Nat.le_of_ble_eq_true rfl)) dX8_hang_60 ⟨Nat.zero_le _, Nat.zero_le _⟩)) (fun r0 hr0 => ?_)
                obtain rfl := hr0
                refine lv_icmp_ge (tgt := 163) hx hb dX8_hang_63 (by decide) (fun c_63 => ?_) (fun c_63 => ?_)
                · have hq := k_t c_63 hq
                  have et := kl_exit hq hx57
                  subst et
                  exact kk57_163 ls _ _ (lv_sub hl [0, 1, 2, 3] rfl) hP hD hS
                · have hq := k_f c_63 hq
                  refine lv_iconst (v := 0) hx hb dX8_hang_66 (by decide) ?_
                  refine lv_istore (lv' := [(6, .int 0), (0, .ref qM), (2, .int x2), (3, .int x3), (4, .int s100), (5, .int s101)]) hx hb dX8_hang_67 hl (by decide) rfl (fun ls hl => ?_)
                  have L69 : ∀ (n : Nat) (s116 : Int32) (s117 : Int32) (s118 : Nat → Int32) (t_69 : Int32 × (Nat → Int32)) (ls : Array Slot) (H : Heap) (locs : List Loc), kloop n (fun s_ => kX8_hang_s69 F mw mh mg mT mW mL x3 s101 s_.1 s_.2.1 s_.2.2) (s116, s117, s118) = some t_69 → lv_has ls 8 [(0, .ref qM), (2, .int x2), (3, .int x3), (4, .int s116), (5, .int s101), (6, .int s117)] → va_P G.1 vwCl [(qM, .inr (8, [.int mt, .int mw, .int mh, .int mg, .int ms, .ref qMT, .ref qMW, .ref qMK, .ref qMM, .int mv, .int md, .ref qMR, .ref qML, .ref qMP, .int mu, .ref qMY, .ref qMF, .int mo, .int mf])), (qMT, .inl (G.2.1, 16, .inl mT)), (qMW, .inl (G.2.1, 16, .inl mW)), (qMR, .inl (G.2.2.2.1, 16, .inl s118)), (qML, .inl (G.2.1, 16, .inl mL))] H → va_D A [(qM, .inr (8, [.int mt, .int mw, .int mh, .int mg, .int ms, .ref qMT, .ref qMW, .ref qMK, .ref qMM, .int mv, .int md, .ref qMR, .ref qML, .ref qMP, .int mu, .ref qMY, .ref qMF, .int mo, .int mf])), (qMT, .inl (G.2.1, 16, .inl mT)), (qMW, .inl (G.2.1, 16, .inl mW)), (qMR, .inl (G.2.2.2.1, 16, .inl s118)), (qML, .inl (G.2.1, 16, .inl mL))] → va_S A s.heap H locs → (∀ (ls : Array Slot) (H : Heap) (locs : List Loc), lv_has ls 8 [(0, .ref qM), (2, .int x2), (3, .int x3), (4, .int t_69.1), (5, .int s101)] → va_P G.1 vwCl [(qM, .inr (8, [.int mt, .int mw, .int mh, .int mg, .int ms, .ref qMT, .ref qMW, .ref qMK, .ref qMM, .int mv, .int md, .ref qMR, .ref qML, .ref qMP, .int mu, .ref qMY, .ref qMF, .int mo, .int mf])), (qMT, .inl (G.2.1, 16, .inl mT)), (qMW, .inl (G.2.1, 16, .inl mW)), (qMR, .inl (G.2.2.2.1, 16, .inl t_69.2)), (qML, .inl (G.2.1, 16, .inl mL))] H → va_D A [(qM, .inr (8, [.int mt, .int mw, .int mh, .int mg, .int ms, .ref qMT, .ref qMW, .ref qMK, .ref qMM, .int mv, .int md, .ref qMR, .ref qML, .ref qMP, .int mu, .ref qMY, .ref qMF, .int mo, .int mf])), (qMT, .inl (G.2.1, 16, .inl mT)), (qMW, .inl (G.2.1, 16, .inl mW)), (qMR, .inl (G.2.2.2.1, 16, .inl t_69.2)), (qML, .inl (G.2.1, 16, .inl mL))] → va_S A s.heap H locs → W p l e (headSpec wsX8_hang rmX8_hang).room s m ([.ref qM, .int x1, .int x2, .int x3] : List Value).toArray below meth c H locs 0 0 Q (F0 m 157 ls [])) → W p l e (headSpec wsX8_hang rmX8_hang).room s m ([.ref qM, .int x1, .int x2, .int x3] : List Value).toArray below meth c H locs 0 0 Q (F0 m 69 ls []) := by
                    intro n
                    induction n with
                    | zero => 
                      intro s116 s117 s118 t_69 ls H locs hq hl hP hD hS kk69_157
                      exact absurd hq kl_0
                    | succ n ih69 =>
                      intro s116 s117 s118 t_69 ls H locs hq hl hP hD hS kk69_157
                      obtain ⟨y_69, hq, hx69⟩ := kl_s hq
                      have hq : kX8_hang_s69 F mw mh mg mT mW mL x3 s101 s116 s117 s118 = some y_69 := hq
                      unfold kX8_hang_s69 at hq
                      refine lv_iload hx hb dX8_hang_69 (lv_at hl 5 rfl) ?_
                      refine lv_iconst (v := 4) hx hb dX8_hang_71 (by decide) ?_
                      refine lv_icmp_ge (tgt := 157) hx hb dX8_hang_72 (by decide) (fun c_72 => ?_) (fun c_72 => ?_)
                      · have hq := k_t c_72 hq
                        have et := kl_exit hq hx69
                        subst et
                        exact kk69_157 ls _ _ (lv_sub hl [0, 1, 2, 3, 4] rfl) hP hD hS
                      · have hq := k_f c_72 hq
                        refine lv_aload_n hx hb dX8_hang_75 rfl (lv_at hl 0 rfl) ?_
                        refine va_get (D := G.1) (ci := 8) (v := .ref qMR) (C := RX8) (T := TX8) (N := 19) hx hb hts hi8 hown hK hP 0 rfl rfl 11 (by decide) hw0 (fun _ h9 => h9) rfl dX8_hang_76 ?_
                        refine lv_iload hx hb dX8_hang_79 (lv_at hl 4 rfl) ?_
                        obtain ⟨hg, hq⟩ := k_g hq
                        refine va_zald hx hb hK hP 3 2 rfl rfl (ix_in hg) dX8_hang_81 ?_
                        refine lv_if_ne (tgt := 157) hx hb dX8_hang_82 (by decide) (fun c_82 => ?_) (fun c_82 => ?_)
                        · have hq := k_f c_82 hq
                          have et := kl_exit hq hx69
                          subst et
                          exact kk69_157 ls _ _ (lv_sub hl [0, 1, 2, 3, 4] rfl) hP hD hS
                        · have hq := k_t c_82 hq
                          refine lv_iload hx hb dX8_hang_85 (lv_at hl 4 rfl) ?_
                          refine lv_iload_n hx hb dX8_hang_87 rfl (lv_at hl 2 rfl) ?_
                          refine lv_icmp_eq (tgt := 157) hx hb dX8_hang_88 (by decide) (fun c_88 => ?_) (fun c_88 => ?_)
                          · have hq := k_t c_88 hq
                            have et := kl_exit hq hx69
                            subst et
                            exact kk69_157 ls _ _ (lv_sub hl [0, 1, 2, 3, 4] rfl) hP hD hS
                          · have hq := k_f c_88 hq
                            refine lv_aload_n hx hb dX8_hang_91 rfl (lv_at hl 0 rfl) ?_
                            refine lv_iload hx hb dX8_hang_92 (lv_at hl 4 rfl) ?_
                            refine lv_iload hx hb dX8_hang_94 (lv_at hl 5 rfl) ?_
                            obtain ⟨q119, eq119, hq⟩ := ob hq
                            have hPc := hP.sub (ws' := [(qM, .inr (8, [.int mt, .int mw, .int mh, .int mg, .int ms, .ref qMT, .ref qMW, .ref qMK, .ref qMM, .int mv, .int md, .ref qMR, .ref qML, .ref qMP, .int mu, .ref qMY, .ref qMF, .int mo, .int mf])), (qMT, .inl (G.2.1, 16, .inl mT)), (qMW, .inl (G.2.1, 16, .inl mW)), (qML, .inl (G.2.1, 16, .inl mL))]) [0, 1, 2, 4] rfl
                            have hKc := hK
                            refine vp_callSi (va_Run.run (va_runV (As := [.int s101, .int s117]) (rest := []) ⟨hx, hb, hml, hown, hts⟩ (tX8_isSettled G l eq119) (cwV 2 hts gX8_hang_X8_isSettled rfl rfl rfl (by decide +kernel) ⟨Nat.le_of_ble_eq_true rfl, Nat.le_of_ble_eq_true rfl⟩) ⟨pcP_blind, va_recv hKc hPc (ci := 8) (q0 := 0) rfl rfl, pcP_pre hPc hKK⟩ rfl rfl hl.1 rfl (lv_room (Nat.le_of_ble_eq_true rfl)) dX8_hang_96 ⟨Nat.zero_le _, Nat.zero_le _⟩)) (fun r0 hr0 => ?_)
                            obtain rfl := hr0
                            have J123 : ∀ (v121 : Int32) (ls : Array Slot) (H : Heap) (locs : List Loc), kX8_hang_j123 F s101 s116 s117 s118 v121 = some y_69 → lv_has ls 8 [(0, .ref qM), (2, .int x2), (3, .int x3), (4, .int s116), (5, .int s101), (6, .int s117)] → va_P G.1 vwCl [(qM, .inr (8, [.int mt, .int mw, .int mh, .int mg, .int ms, .ref qMT, .ref qMW, .ref qMK, .ref qMM, .int mv, .int md, .ref qMR, .ref qML, .ref qMP, .int mu, .ref qMY, .ref qMF, .int mo, .int mf])), (qMT, .inl (G.2.1, 16, .inl mT)), (qMW, .inl (G.2.1, 16, .inl mW)), (qMR, .inl (G.2.2.2.1, 16, .inl s118)), (qML, .inl (G.2.1, 16, .inl mL))] H → va_D A [(qM, .inr (8, [.int mt, .int mw, .int mh, .int mg, .int ms, .ref qMT, .ref qMW, .ref qMK, .ref qMM, .int mv, .int md, .ref qMR, .ref qML, .ref qMP, .int mu, .ref qMY, .ref qMF, .int mo, .int mf])), (qMT, .inl (G.2.1, 16, .inl mT)), (qMW, .inl (G.2.1, 16, .inl mW)), (qMR, .inl (G.2.2.2.1, 16, .inl s118)), (qML, .inl (G.2.1, 16, .inl mL))] → va_S A s.heap H locs → W p l e (headSpec wsX8_hang rmX8_hang).room s m ([.ref qM, .int x1, .int x2, .int x3] : List Value).toArray below meth c H locs 0 0 Q (F0 m 123 ls [.int v121]) := by
                              intro v121 ls H locs hq hl hP hD hS
                              unfold kX8_hang_j123 at hq
                              refine lv_istore (lv' := [(7, .int v121), (0, .ref qM), (2, .int x2), (3, .int x3), (4, .int s116), (5, .int s101), (6, .int s117)]) hx hb dX8_hang_123 hl (by decide) rfl (fun ls hl => ?_)
                              refine lv_aload_n hx hb dX8_hang_125 rfl (lv_at hl 1 rfl) ?_
                              refine va_get (D := G.1) (ci := 8) (v := .ref qMR) (C := RX8) (T := TX8) (N := 19) hx hb hts hi8 hown hK hP 0 rfl rfl 11 (by decide) hw0 (fun _ h9 => h9) rfl dX8_hang_126 ?_
                              refine lv_iload hx hb dX8_hang_129 (lv_at hl 5 rfl) ?_
                              refine lv_iload hx hb dX8_hang_131 (lv_at hl 0 rfl) ?_
                              obtain ⟨hg, hq⟩ := k_g hq
                              refine va_zast hx hb hK hP hD hS 3 2 rfl rfl (ix_in hg) dX8_hang_133 (fun H locs hP hD hS => ?_)
                              have hP : va_P G.1 vwCl [(qM, .inr (8, [.int mt, .int mw, .int mh, .int mg, .int ms, .ref qMT, .ref qMW, .ref qMK, .ref qMM, .int mv, .int md, .ref qMR, .ref qML, .ref qMP, .int mu, .ref qMY, .ref qMF, .int mo, .int mf])), (qMT, .inl (G.2.1, 16, .inl mT)), (qMW, .inl (G.2.1, 16, .inl mW)), (qMR, .inl (G.2.2.2.1, 16, .inl (upd s118 s101.toNatClampNeg (vp_nar .boolean v121)))), (qML, .inl (G.2.1, 16, .inl mL))] H := hP
                              have hD : va_D A [(qM, .inr (8, [.int mt, .int mw, .int mh, .int mg, .int ms, .ref qMT, .ref qMW, .ref qMK, .ref qMM, .int mv, .int md, .ref qMR, .ref qML, .ref qMP, .int mu, .ref qMY, .ref qMF, .int mo, .int mf])), (qMT, .inl (G.2.1, 16, .inl mT)), (qMW, .inl (G.2.1, 16, .inl mW)), (qMR, .inl (G.2.2.2.1, 16, .inl (upd s118 s101.toNatClampNeg (vp_nar .boolean v121)))), (qML, .inl (G.2.1, 16, .inl mL))] := hD
                              refine lv_iload hx hb dX8_hang_134 (lv_at hl 4 rfl) ?_
                              refine lv_if_ne (tgt := 144) hx hb dX8_hang_136 (by decide) (fun c_136 => ?_) (fun c_136 => ?_)
                              · have hq := k_f c_136 hq
                                refine lv_iconst (v := 1) hx hb dX8_hang_144 (by decide) ?_
                                refine lv_goto (tgt := 149) hx hb dX8_hang_145 (by decide) ?_
                                refine lv_istore (lv' := [(4, .int 1), (7, .int v121), (0, .ref qM), (2, .int x2), (3, .int x3), (5, .int s101), (6, .int s117)]) hx hb dX8_hang_149 hl (by decide) rfl (fun ls hl => ?_)
                                refine lv_iinc (v := (s117 + 1)) (lv' := [(6, .int (s117 + 1)), (4, .int 1), (7, .int v121), (0, .ref qM), (2, .int x2), (3, .int x3), (5, .int s101)]) hx hb dX8_hang_151 hl (k := 6) rfl rfl (by decide) rfl (fun ls hl => ?_)
                                refine lv_goto (tgt := 69) hx hb dX8_hang_154 (by decide) ?_
                                exact ih69 1 (s117 + 1) (upd s118 s101.toNatClampNeg (vp_nar .boolean v121)) t_69 ls _ _ (kl_back hq hx69) (lv_sub hl [3, 4, 5, 1, 6, 0] rfl) hP hD hS kk69_157
                              · have hq := k_t c_136 hq
                                refine lv_iload hx hb dX8_hang_139 (lv_at hl 0 rfl) ?_
                                refine lv_if_eq (tgt := 148) hx hb dX8_hang_141 (by decide) (fun c_141 => ?_) (fun c_141 => ?_)
                                · have hq := k_t c_141 hq
                                  refine lv_iconst (v := 0) hx hb dX8_hang_148 (by decide) ?_
                                  refine lv_istore (lv' := [(4, .int 0), (7, .int v121), (0, .ref qM), (2, .int x2), (3, .int x3), (5, .int s101), (6, .int s117)]) hx hb dX8_hang_149 hl (by decide) rfl (fun ls hl => ?_)
                                  refine lv_iinc (v := (s117 + 1)) (lv' := [(6, .int (s117 + 1)), (4, .int 0), (7, .int v121), (0, .ref qM), (2, .int x2), (3, .int x3), (5, .int s101)]) hx hb dX8_hang_151 hl (k := 6) rfl rfl (by decide) rfl (fun ls hl => ?_)
                                  refine lv_goto (tgt := 69) hx hb dX8_hang_154 (by decide) ?_
                                  exact ih69 0 (s117 + 1) (upd s118 s101.toNatClampNeg (vp_nar .boolean v121)) t_69 ls _ _ (kl_back hq hx69) (lv_sub hl [3, 4, 5, 1, 6, 0] rfl) hP hD hS kk69_157
                                · have hq := k_f c_141 hq
                                  refine lv_iconst (v := 1) hx hb dX8_hang_144 (by decide) ?_
                                  refine lv_goto (tgt := 149) hx hb dX8_hang_145 (by decide) ?_
                                  refine lv_istore (lv' := [(4, .int 1), (7, .int v121), (0, .ref qM), (2, .int x2), (3, .int x3), (5, .int s101), (6, .int s117)]) hx hb dX8_hang_149 hl (by decide) rfl (fun ls hl => ?_)
                                  refine lv_iinc (v := (s117 + 1)) (lv' := [(6, .int (s117 + 1)), (4, .int 1), (7, .int v121), (0, .ref qM), (2, .int x2), (3, .int x3), (5, .int s101)]) hx hb dX8_hang_151 hl (k := 6) rfl rfl (by decide) rfl (fun ls hl => ?_)
                                  refine lv_goto (tgt := 69) hx hb dX8_hang_154 (by decide) ?_
                                  exact ih69 1 (s117 + 1) (upd s118 s101.toNatClampNeg (vp_nar .boolean v121)) t_69 ls _ _ (kl_back hq hx69) (lv_sub hl [3, 4, 5, 1, 6, 0] rfl) hP hD hS kk69_157
                            refine lv_if_eq (tgt := 122) hx hb dX8_hang_99 (by decide) (fun c_99 => ?_) (fun c_99 => ?_)
                            · have hq := k_t c_99 hq
                              refine lv_iconst (v := 0) hx hb dX8_hang_122 (by decide) ?_
                              exact J123 0 ls _ _ hq (lv_sub hl [0, 1, 2, 3, 4, 5] rfl) hP hD hS
                            · have hq := k_f c_99 hq
                              refine lv_aload_n hx hb dX8_hang_102 rfl (lv_at hl 0 rfl) ?_
                              refine va_get (D := G.1) (ci := 8) (v := .ref qMR) (C := RX8) (T := TX8) (N := 19) hx hb hts hi8 hown hK hP 0 rfl rfl 11 (by decide) hw0 (fun _ h9 => h9) rfl dX8_hang_103 ?_
                              refine lv_aload_n hx hb dX8_hang_106 rfl (lv_at hl 0 rfl) ?_
                              refine lv_iload hx hb dX8_hang_107 (lv_at hl 4 rfl) ?_
                              refine lv_iload hx hb dX8_hang_109 (lv_at hl 5 rfl) ?_
                              obtain ⟨q124, eq124, hq⟩ := ob hq
                              have hPc := hP.sub (ws' := [(qM, .inr (8, [.int mt, .int mw, .int mh, .int mg, .int ms, .ref qMT, .ref qMW, .ref qMK, .ref qMM, .int mv, .int md, .ref qMR, .ref qML, .ref qMP, .int mu, .ref qMY, .ref qMF, .int mo, .int mf]))]) [0] rfl
                              have hKc := hK
                              refine vp_callSi (va_Run.run (va_runV (As := [.int s101, .int s117]) (rest := [.ref qMR]) ⟨hx, hb, hml, hown, hts⟩ (tX8_neighbourOf G l eq124) (cwV 2 hts gX8_hang_X8_neighbourOf rfl rfl rfl (by decide +kernel) ⟨Nat.le_of_ble_eq_true rfl, Nat.le_of_ble_eq_true rfl⟩) ⟨pcP_blind, va_recv hKc hPc (ci := 8) (q0 := 0) rfl rfl, pcP_pre hPc hKK⟩ rfl rfl hl.1 rfl (lv_room (Nat.le_of_ble_eq_true rfl)) dX8_hang_111 ⟨Nat.zero_le _, Nat.zero_le _⟩)) (fun r0 hr0 => ?_)
                              obtain rfl := hr0
                              obtain ⟨hg, hq⟩ := k_g hq
                              refine va_zald hx hb hK hP 3 2 rfl rfl (ix_in hg) dX8_hang_114 ?_
                              refine lv_if_eq (tgt := 122) hx hb dX8_hang_115 (by decide) (fun c_115 => ?_) (fun c_115 => ?_)
                              · have hq := k_t c_115 hq
                                refine lv_iconst (v := 0) hx hb dX8_hang_122 (by decide) ?_
                                exact J123 0 ls _ _ hq (lv_sub hl [0, 1, 2, 3, 4, 5] rfl) hP hD hS
                              · have hq := k_f c_115 hq
                                refine lv_iconst (v := 1) hx hb dX8_hang_118 (by decide) ?_
                                refine lv_goto (tgt := 123) hx hb dX8_hang_119 (by decide) ?_
                                exact J123 1 ls _ _ hq (lv_sub hl [0, 1, 2, 3, 4, 5] rfl) hP hD hS
                  obtain ⟨q125, eq125, hq⟩ := ob hq
                  refine L69 F s100 0 s102 q125 ls _ _ (eq125) (lv_sub hl [1, 2, 3, 4, 5, 0] rfl) hP hD hS (fun ls H locs hl hP hD hS => ?_)
                  · refine lv_iinc (v := (s101 + 1)) (lv' := [(5, .int (s101 + 1)), (0, .ref qM), (2, .int x2), (3, .int x3), (4, .int q125.1)]) hx hb dX8_hang_157 hl (k := 4) rfl rfl (by decide) rfl (fun ls hl => ?_)
                    refine lv_goto (tgt := 57) hx hb dX8_hang_160 (by decide) ?_
                    exact ih57 q125.1 (s101 + 1) q125.2 t_57 ls _ _ (kl_back hq hx57) (lv_sub hl [1, 2, 3, 4, 0] rfl) hP hD hS kk57_163
            obtain ⟨q126, eq126, hq⟩ := ob hq
            refine L57 F 0 0 s71 q126 ls _ _ (eq126) (lv_sub hl [2, 3, 4, 1, 0] rfl) hP hD hS (fun ls H locs hl hP hD hS => ?_)
            · refine lv_goto (tgt := 37) hx hb dX8_hang_163 (by decide) ?_
              exact ih37 q126.1 q126.2 t_37 ls _ _ (kl_back hq hx37) (lv_sub hl [0, 1, 2, 3] rfl) hP hD hS kk37_166
    obtain ⟨q127, eq127, hq⟩ := ob hq
    refine L37 F 1 q10 q127 ls _ _ (eq127) (lv_sub hl [1, 2, 3, 0] rfl) hP hD hS (fun ls H locs hl hP hD hS => ?_)
    · refine lv_aload_n hx hb dX8_hang_166 rfl (lv_at hl 0 rfl) ?_
      refine va_get (D := G.1) (ci := 8) (v := .ref qMR) (C := RX8) (T := TX8) (N := 19) hx hb hts hi8 hown hK hP 0 rfl rfl 11 (by decide) hw0 (fun _ h9 => h9) rfl dX8_hang_167 ?_
      refine lv_iload_n hx hb dX8_hang_170 rfl (lv_at hl 1 rfl) ?_
      obtain ⟨hg, hq⟩ := k_g hq
      refine va_zald hx hb hK hP 3 2 rfl rfl (ix_in hg) dX8_hang_171 ?_
      obtain ⟨hg, hq⟩ := k_g hq
      obtain rfl := Option.some.inj hq
      rw [hQ]
      exact W.zret hx hb hr (isZ_n hg) (fun t ht hW => ⟨⟨_, (), rfl, rfl, va_Pat ht hP⟩, hS.F ht⟩) hS.2.2 dX8_hang_172

abbrev rmX8_isStruck : Room := { frames := 4, cells := 0, slots := 0, locals := 98 }
set_option maxHeartbeats 40000000 in
set_option maxRecDepth 100000 in
theorem tX8_isStruck (G : GG) (l : Launch) {qM qMT qMW qMK qMM qMR qML qMP qMY qMF : Nat} {mt : Int32} {mw : Int32} {mh : Int32} {mg : Int32} {ms : Int32} {mv : Int32} {md : Int32} {mu : Int32} {mo : Int32} {mf : Int32} {mT : Nat → Int32} {mW : Nat → Int32} {mR : Nat → Int32} {mL : Nat → Int32} {x1 : Int32} {x2 : Int32} {sz : Nat} {F : Nat} {r : Int32 × (Nat → Int32)} (hq : kX8_isStruck F mw mh mg mT mW mR mL x1 x2 = some r) : Met l yX8_isStruck wsX8_isStruck rmX8_isStruck (pcW G [(qM, .inr (8, [.int mt, .int mw, .int mh, .int mg, .int ms, .ref qMT, .ref qMW, .ref qMK, .ref qMM, .int mv, .int md, .ref qMR, .ref qML, .ref qMP, .int mu, .ref qMY, .ref qMF, .int mo, .int mf])), (qMT, .inl (G.2.1, 16, .inl mT)), (qMW, .inl (G.2.1, 16, .inl mW)), (qMR, .inl (G.2.2.2.1, 16, .inl mR)), (qML, .inl (G.2.1, 16, .inl mL))] sz [.ref qM, .int x1, .int x2]) (qcI G r.1 [(qM, .inr (8, [.int mt, .int mw, .int mh, .int mg, .int ms, .ref qMT, .ref qMW, .ref qMK, .ref qMM, .int mv, .int md, .ref qMR, .ref qML, .ref qMP, .int mu, .ref qMY, .ref qMF, .int mo, .int mf])), (qMT, .inl (G.2.1, 16, .inl mT)), (qMW, .inl (G.2.1, 16, .inl mW)), (qMR, .inl (G.2.2.2.1, 16, .inl r.2)), (qML, .inl (G.2.1, 16, .inl mL))] (va_A [(qM, .inr (8, [.int mt, .int mw, .int mh, .int mg, .int ms, .ref qMT, .ref qMW, .ref qMK, .ref qMM, .int mv, .int md, .ref qMR, .ref qML, .ref qMP, .int mu, .ref qMY, .ref qMF, .int mo, .int mf])), (qMT, .inl (G.2.1, 16, .inl mT)), (qMW, .inl (G.2.1, 16, .inl mW)), (qMR, .inl (G.2.2.2.1, 16, .inl mR)), (qML, .inl (G.2.1, 16, .inl mL))] sz)) 0 0 (va_A [(qM, .inr (8, [.int mt, .int mw, .int mh, .int mg, .int ms, .ref qMT, .ref qMW, .ref qMK, .ref qMM, .int mv, .int md, .ref qMR, .ref qML, .ref qMP, .int mu, .ref qMY, .ref qMF, .int mo, .int mf])), (qMT, .inl (G.2.1, 16, .inl mT)), (qMW, .inl (G.2.1, 16, .inl mW)), (qMR, .inl (G.2.2.2.1, 16, .inl mR)), (qML, .inl (G.2.1, 16, .inl mL))] sz) := by
  refine Met.ofW (cc := cX8_isStruck) (maxL := 11) (ret := (some .boolean)) (by decide) rfl ?_
  intro p e s m args below meth c s₁ B hml hv
  obtain ⟨rfl, hsz, hP, hKK, hD0⟩ := hv
  have hK := hKK.1
  have hx := B.exec
  have hb := B.bytes
  have hr := B.returns
  have hts := atoms_spec (ws := wsX8_isStruck) B.pre
  have hown : s.vm.findClass RX8 = some m.cls := findClass_of_methodNamed B.named
  have hlocks := B.notSynchronized
  subst hsz
  have hD := hD0.self (sz := s.heap.size)
  generalize hAe : va_A [(qM, .inr (8, [.int mt, .int mw, .int mh, .int mg, .int ms, .ref qMT, .ref qMW, .ref qMK, .ref qMM, .int mv, .int md, .ref qMR, .ref qML, .ref qMP, .int mu, .ref qMY, .ref qMF, .int mo, .int mf])), (qMT, .inl (G.2.1, 16, .inl mT)), (qMW, .inl (G.2.1, 16, .inl mW)), (qMR, .inl (G.2.2.2.1, 16, .inl mR)), (qML, .inl (G.2.1, 16, .inl mL))] s.heap.size = A at hD ⊢
  have hA : ∀ q : Nat, s.heap.size ≤ q → A q := fun q h => by rw [← hAe]; exact Or.inr h
  have hS : va_S A s.heap s.heap [] := va_S.rf
  have hl := lv_entry ([.ref qM, .int x1, .int x2] : List Value) (n := 11) (Nat.le_of_ble_eq_true rfl)
  rw [lg_entry_eq]
  generalize (lg_sl ([.ref qM, .int x1, .int x2] : List Value) ++ List.replicate (11 - (lg_sl ([.ref qM, .int x1, .int x2] : List Value)).length) Slot.unset).toArray = ls at hl ⊢
  have hl : lv_has ls 11 [(0, .ref qM), (1, .int x1), (2, .int x2)] := hl
  have hi8 : ∀ w ∈ u_ws RX8 TX8 19, w ∈ wsX8_isStruck := by decide +kernel
  have hw0 : (Cond.fieldLink RX8 16 "NetPlumberModel" "tiles" "[I").before #[Value.ref qM, Value.int x1, Value.int x2] s = true := hts _ (by decide +kernel)
  refine wq (fun Q hQ => ?_)
  unfold kX8_isStruck at hq
  refine lv_aload_n hx hb dX8_isStruck_0 rfl (lv_at hl 0 rfl) ?_
  refine va_get (D := G.1) (ci := 8) (v := .ref qMT) (C := RX8) (T := TX8) (N := 19) hx hb hts hi8 hown hK hP 0 rfl rfl 5 (by decide) hw0 (fun _ h9 => h9) rfl dX8_isStruck_1 ?_
  refine lv_iload_n hx hb dX8_isStruck_4 rfl (lv_at hl 1 rfl) ?_
  obtain ⟨hg, hq⟩ := k_g hq
  refine va_iald hx hb hK hP 1 0 rfl rfl (ix_in hg) dX8_isStruck_5 ?_
  refine lv_iload_n hx hb dX8_isStruck_6 rfl (lv_at hl 2 rfl) ?_
  obtain ⟨q1, eq1, hq⟩ := ob hq
  have hPc := hP.sub (ws' := []) [] rfl
  refine vp_callSi (va_Run.run (va_runS (As := [.int (mT x1.toNatClampNeg), .int x2]) (rest := []) ⟨hx, hb, hml, hown, hts⟩ (tX8_turned G l eq1) (va_cwS 2 hts gX8_isStruck_X8_turned rfl rfl rfl (by decide +kernel) ⟨Nat.le_of_ble_eq_true rfl, Nat.le_of_ble_eq_true rfl⟩) ⟨pcP_blind, pcP_pre hPc hKK⟩ rfl rfl hl.1 rfl (lv_room (Nat.le_of_ble_eq_true rfl)) dX8_isStruck_7 ⟨Nat.zero_le _, Nat.zero_le _⟩)) (fun r0 hr0 => ?_)
  obtain rfl := hr0
  refine lv_istore_n (lv' := [(3, .int q1), (0, .ref qM), (1, .int x1), (2, .int x2)]) hx hb dX8_isStruck_10 rfl hl (by decide) rfl (fun ls hl => ?_)
  refine lv_iconst (v := 0) hx hb dX8_isStruck_11 (by decide) ?_
  refine lv_istore (lv' := [(4, .int 0), (3, .int q1), (0, .ref qM), (1, .int x1), (2, .int x2)]) hx hb dX8_isStruck_12 hl (by decide) rfl (fun ls hl => ?_)
  refine lv_iconst (v := 0) hx hb dX8_isStruck_14 (by decide) ?_
  refine lv_istore (lv' := [(5, .int 0), (4, .int 0), (3, .int q1), (0, .ref qM), (1, .int x1), (2, .int x2)]) hx hb dX8_isStruck_15 hl (by decide) rfl (fun ls hl => ?_)
  have L17 : ∀ (n : Nat) (s56 : Int32) (s57 : Int32) (s58 : Nat → Int32) (t_17 : Int32 × (Nat → Int32)) (ls : Array Slot) (H : Heap) (locs : List Loc), kloop n (fun s_ => kX8_isStruck_s17 F mw mh mg mT mW mL x1 q1 s_.1 s_.2.1 s_.2.2) (s56, s57, s58) = some t_17 → lv_has ls 11 [(0, .ref qM), (1, .int x1), (3, .int q1), (4, .int s56), (5, .int s57)] → va_P G.1 vwCl [(qM, .inr (8, [.int mt, .int mw, .int mh, .int mg, .int ms, .ref qMT, .ref qMW, .ref qMK, .ref qMM, .int mv, .int md, .ref qMR, .ref qML, .ref qMP, .int mu, .ref qMY, .ref qMF, .int mo, .int mf])), (qMT, .inl (G.2.1, 16, .inl mT)), (qMW, .inl (G.2.1, 16, .inl mW)), (qMR, .inl (G.2.2.2.1, 16, .inl s58)), (qML, .inl (G.2.1, 16, .inl mL))] H → va_D A [(qM, .inr (8, [.int mt, .int mw, .int mh, .int mg, .int ms, .ref qMT, .ref qMW, .ref qMK, .ref qMM, .int mv, .int md, .ref qMR, .ref qML, .ref qMP, .int mu, .ref qMY, .ref qMF, .int mo, .int mf])), (qMT, .inl (G.2.1, 16, .inl mT)), (qMW, .inl (G.2.1, 16, .inl mW)), (qMR, .inl (G.2.2.2.1, 16, .inl s58)), (qML, .inl (G.2.1, 16, .inl mL))] → va_S A s.heap H locs → (∀ (ls : Array Slot) (H : Heap) (locs : List Loc), lv_has ls 11 [(4, .int t_17.1)] → va_P G.1 vwCl [(qM, .inr (8, [.int mt, .int mw, .int mh, .int mg, .int ms, .ref qMT, .ref qMW, .ref qMK, .ref qMM, .int mv, .int md, .ref qMR, .ref qML, .ref qMP, .int mu, .ref qMY, .ref qMF, .int mo, .int mf])), (qMT, .inl (G.2.1, 16, .inl mT)), (qMW, .inl (G.2.1, 16, .inl mW)), (qMR, .inl (G.2.2.2.1, 16, .inl t_17.2)), (qML, .inl (G.2.1, 16, .inl mL))] H → va_D A [(qM, .inr (8, [.int mt, .int mw, .int mh, .int mg, .int ms, .ref qMT, .ref qMW, .ref qMK, .ref qMM, .int mv, .int md, .ref qMR, .ref qML, .ref qMP, .int mu, .ref qMY, .ref qMF, .int mo, .int mf])), (qMT, .inl (G.2.1, 16, .inl mT)), (qMW, .inl (G.2.1, 16, .inl mW)), (qMR, .inl (G.2.2.2.1, 16, .inl t_17.2)), (qML, .inl (G.2.1, 16, .inl mL))] → va_S A s.heap H locs → W p l e (headSpec wsX8_isStruck rmX8_isStruck).room s m ([.ref qM, .int x1, .int x2] : List Value).toArray below meth c H locs 0 0 Q (F0 m 207 ls [])) → W p l e (headSpec wsX8_isStruck rmX8_isStruck).room s m ([.ref qM, .int x1, .int x2] : List Value).toArray below meth c H locs 0 0 Q (F0 m 17 ls []) := by
    intro n
    induction n with
    | zero => 
      intro s56 s57 s58 t_17 ls H locs hq hl hP hD hS kk17_207
      exact absurd hq kl_0
    | succ n ih17 =>
      intro s56 s57 s58 t_17 ls H locs hq hl hP hD hS kk17_207
      obtain ⟨y_17, hq, hx17⟩ := kl_s hq
      have hq : kX8_isStruck_s17 F mw mh mg mT mW mL x1 q1 s56 s57 s58 = some y_17 := hq
      unfold kX8_isStruck_s17 at hq
      refine lv_iload hx hb dX8_isStruck_17 (lv_at hl 4 rfl) ?_
      refine lv_iconst (v := 4) hx hb dX8_isStruck_19 (by decide) ?_
      refine lv_icmp_ge (tgt := 207) hx hb dX8_isStruck_20 (by decide) (fun c_20 => ?_) (fun c_20 => ?_)
      · have hq := k_t c_20 hq
        have et := kl_exit hq hx17
        subst et
        exact kk17_207 ls _ _ (lv_sub hl [3] rfl) hP hD hS
      · have hq := k_f c_20 hq
        refine lv_iload hx hb dX8_isStruck_23 (lv_at hl 3 rfl) ?_
        refine lv_if_ne (tgt := 207) hx hb dX8_isStruck_25 (by decide) (fun c_25 => ?_) (fun c_25 => ?_)
        · have hq := k_f c_25 hq
          have et := kl_exit hq hx17
          subst et
          exact kk17_207 ls _ _ (lv_sub hl [3] rfl) hP hD hS
        · have hq := k_t c_25 hq
          refine lv_aload_n hx hb dX8_isStruck_28 rfl (lv_at hl 0 rfl) ?_
          refine lv_iload_n hx hb dX8_isStruck_29 rfl (lv_at hl 1 rfl) ?_
          refine lv_iload hx hb dX8_isStruck_30 (lv_at hl 4 rfl) ?_
          obtain ⟨q59, eq59, hq⟩ := ob hq
          have hPc := hP.sub (ws' := [(qM, .inr (8, [.int mt, .int mw, .int mh, .int mg, .int ms, .ref qMT, .ref qMW, .ref qMK, .ref qMM, .int mv, .int md, .ref qMR, .ref qML, .ref qMP, .int mu, .ref qMY, .ref qMF, .int mo, .int mf]))]) [0] rfl
          have hKc := hK
          refine vp_callSi (va_Run.run (va_runV (As := [.int x1, .int s57]) (rest := []) ⟨hx, hb, hml, hown, hts⟩ (tX8_neighbourOf G l eq59) (cwV 2 hts gX8_isStruck_X8_neighbourOf rfl rfl rfl (by decide +kernel) ⟨Nat.le_of_ble_eq_true rfl, Nat.le_of_ble_eq_true rfl⟩) ⟨pcP_blind, va_recv hKc hPc (ci := 8) (q0 := 0) rfl rfl, pcP_pre hPc hKK⟩ rfl rfl hl.1 rfl (lv_room (Nat.le_of_ble_eq_true rfl)) dX8_isStruck_32 ⟨Nat.zero_le _, Nat.zero_le _⟩)) (fun r0 hr0 => ?_)
          obtain rfl := hr0
          refine lv_istore (lv' := [(6, .int q59), (0, .ref qM), (1, .int x1), (3, .int q1), (4, .int s56), (5, .int s57)]) hx hb dX8_isStruck_35 hl (by decide) rfl (fun ls hl => ?_)
          refine lv_iload hx hb dX8_isStruck_37 (lv_at hl 0 rfl) ?_
          refine lv_iconst (v := (-1)) hx hb dX8_isStruck_39 (by decide) ?_
          have J58 : ∀ (v61 : Int32) (ls : Array Slot) (H : Heap) (locs : List Loc), kX8_isStruck_j58 F mw mh mg mT mW mL x1 q1 s57 s58 q59 v61 = some y_17 → lv_has ls 11 [(0, .ref qM), (1, .int x1), (3, .int q1), (5, .int s57), (6, .int q59)] → va_P G.1 vwCl [(qM, .inr (8, [.int mt, .int mw, .int mh, .int mg, .int ms, .ref qMT, .ref qMW, .ref qMK, .ref qMM, .int mv, .int md, .ref qMR, .ref qML, .ref qMP, .int mu, .ref qMY, .ref qMF, .int mo, .int mf])), (qMT, .inl (G.2.1, 16, .inl mT)), (qMW, .inl (G.2.1, 16, .inl mW)), (qMR, .inl (G.2.2.2.1, 16, .inl s58)), (qML, .inl (G.2.1, 16, .inl mL))] H → va_D A [(qM, .inr (8, [.int mt, .int mw, .int mh, .int mg, .int ms, .ref qMT, .ref qMW, .ref qMK, .ref qMM, .int mv, .int md, .ref qMR, .ref qML, .ref qMP, .int mu, .ref qMY, .ref qMF, .int mo, .int mf])), (qMT, .inl (G.2.1, 16, .inl mT)), (qMW, .inl (G.2.1, 16, .inl mW)), (qMR, .inl (G.2.2.2.1, 16, .inl s58)), (qML, .inl (G.2.1, 16, .inl mL))] → va_S A s.heap H locs → W p l e (headSpec wsX8_isStruck rmX8_isStruck).room s m ([.ref qM, .int x1, .int x2] : List Value).toArray below meth c H locs 0 0 Q (F0 m 58 ls [.int v61]) := by
            intro v61 ls H locs hq hl hP hD hS
            unfold kX8_isStruck_j58 at hq
            refine lv_istore (lv' := [(7, .int v61), (0, .ref qM), (1, .int x1), (3, .int q1), (5, .int s57), (6, .int q59)]) hx hb dX8_isStruck_58 hl (by decide) rfl (fun ls hl => ?_)
            refine lv_iload hx hb dX8_isStruck_60 (lv_at hl 0 rfl) ?_
            have J99 : ∀ (v66 : Int32) (ls : Array Slot) (H : Heap) (locs : List Loc), kX8_isStruck_j99 F mw mh mg mT mW mL x1 q1 s57 s58 q59 v61 v66 = some y_17 → lv_has ls 11 [(0, .ref qM), (1, .int x1), (3, .int q1), (5, .int s57), (6, .int q59), (7, .int v61)] → va_P G.1 vwCl [(qM, .inr (8, [.int mt, .int mw, .int mh, .int mg, .int ms, .ref qMT, .ref qMW, .ref qMK, .ref qMM, .int mv, .int md, .ref qMR, .ref qML, .ref qMP, .int mu, .ref qMY, .ref qMF, .int mo, .int mf])), (qMT, .inl (G.2.1, 16, .inl mT)), (qMW, .inl (G.2.1, 16, .inl mW)), (qMR, .inl (G.2.2.2.1, 16, .inl s58)), (qML, .inl (G.2.1, 16, .inl mL))] H → va_D A [(qM, .inr (8, [.int mt, .int mw, .int mh, .int mg, .int ms, .ref qMT, .ref qMW, .ref qMK, .ref qMM, .int mv, .int md, .ref qMR, .ref qML, .ref qMP, .int mu, .ref qMY, .ref qMF, .int mo, .int mf])), (qMT, .inl (G.2.1, 16, .inl mT)), (qMW, .inl (G.2.1, 16, .inl mW)), (qMR, .inl (G.2.2.2.1, 16, .inl s58)), (qML, .inl (G.2.1, 16, .inl mL))] → va_S A s.heap H locs → W p l e (headSpec wsX8_isStruck rmX8_isStruck).room s m ([.ref qM, .int x1, .int x2] : List Value).toArray below meth c H locs 0 0 Q (F0 m 99 ls [.int v66]) := by
              intro v66 ls H locs hq hl hP hD hS
              unfold kX8_isStruck_j99 at hq
              refine lv_istore (lv' := [(4, .int v66), (0, .ref qM), (1, .int x1), (3, .int q1), (5, .int s57), (6, .int q59), (7, .int v61)]) hx hb dX8_isStruck_99 hl (by decide) rfl (fun ls hl => ?_)
              refine lv_iconst (v := 0) hx hb dX8_isStruck_101 (by decide) ?_
              refine lv_istore (lv' := [(8, .int 0), (4, .int v66), (0, .ref qM), (1, .int x1), (3, .int q1), (5, .int s57), (6, .int q59), (7, .int v61)]) hx hb dX8_isStruck_102 hl (by decide) rfl (fun ls hl => ?_)
              have L104 : ∀ (n : Nat) (s87 : Int32) (s88 : Int32) (s89 : Nat → Int32) (t_104 : Int32 × (Nat → Int32)) (ls : Array Slot) (H : Heap) (locs : List Loc), kloop n (fun s_ => kX8_isStruck_s104 F mw mh mg mT mW mL x1 q1 s57 q59 v61 s_.1 s_.2.1 s_.2.2) (s87, s88, s89) = some t_104 → lv_has ls 11 [(0, .ref qM), (1, .int x1), (3, .int q1), (4, .int s87), (5, .int s57), (6, .int q59), (7, .int v61), (8, .int s88)] → va_P G.1 vwCl [(qM, .inr (8, [.int mt, .int mw, .int mh, .int mg, .int ms, .ref qMT, .ref qMW, .ref qMK, .ref qMM, .int mv, .int md, .ref qMR, .ref qML, .ref qMP, .int mu, .ref qMY, .ref qMF, .int mo, .int mf])), (qMT, .inl (G.2.1, 16, .inl mT)), (qMW, .inl (G.2.1, 16, .inl mW)), (qMR, .inl (G.2.2.2.1, 16, .inl s89)), (qML, .inl (G.2.1, 16, .inl mL))] H → va_D A [(qM, .inr (8, [.int mt, .int mw, .int mh, .int mg, .int ms, .ref qMT, .ref qMW, .ref qMK, .ref qMM, .int mv, .int md, .ref qMR, .ref qML, .ref qMP, .int mu, .ref qMY, .ref qMF, .int mo, .int mf])), (qMT, .inl (G.2.1, 16, .inl mT)), (qMW, .inl (G.2.1, 16, .inl mW)), (qMR, .inl (G.2.2.2.1, 16, .inl s89)), (qML, .inl (G.2.1, 16, .inl mL))] → va_S A s.heap H locs → (∀ (ls : Array Slot) (H : Heap) (locs : List Loc), lv_has ls 11 [(0, .ref qM), (1, .int x1), (3, .int q1), (4, .int t_104.1), (5, .int s57)] → va_P G.1 vwCl [(qM, .inr (8, [.int mt, .int mw, .int mh, .int mg, .int ms, .ref qMT, .ref qMW, .ref qMK, .ref qMM, .int mv, .int md, .ref qMR, .ref qML, .ref qMP, .int mu, .ref qMY, .ref qMF, .int mo, .int mf])), (qMT, .inl (G.2.1, 16, .inl mT)), (qMW, .inl (G.2.1, 16, .inl mW)), (qMR, .inl (G.2.2.2.1, 16, .inl t_104.2)), (qML, .inl (G.2.1, 16, .inl mL))] H → va_D A [(qM, .inr (8, [.int mt, .int mw, .int mh, .int mg, .int ms, .ref qMT, .ref qMW, .ref qMK, .ref qMM, .int mv, .int md, .ref qMR, .ref qML, .ref qMP, .int mu, .ref qMY, .ref qMF, .int mo, .int mf])), (qMT, .inl (G.2.1, 16, .inl mT)), (qMW, .inl (G.2.1, 16, .inl mW)), (qMR, .inl (G.2.2.2.1, 16, .inl t_104.2)), (qML, .inl (G.2.1, 16, .inl mL))] → va_S A s.heap H locs → W p l e (headSpec wsX8_isStruck rmX8_isStruck).room s m ([.ref qM, .int x1, .int x2] : List Value).toArray below meth c H locs 0 0 Q (F0 m 201 ls [])) → W p l e (headSpec wsX8_isStruck rmX8_isStruck).room s m ([.ref qM, .int x1, .int x2] : List Value).toArray below meth c H locs 0 0 Q (F0 m 104 ls []) := by
                intro n
                induction n with
                | zero => 
                  intro s87 s88 s89 t_104 ls H locs hq hl hP hD hS kk104_201
                  exact absurd hq kl_0
                | succ n ih104 =>
                  intro s87 s88 s89 t_104 ls H locs hq hl hP hD hS kk104_201
                  obtain ⟨y_104, hq, hx104⟩ := kl_s hq
                  have hq : kX8_isStruck_s104 F mw mh mg mT mW mL x1 q1 s57 q59 v61 s87 s88 s89 = some y_104 := hq
                  unfold kX8_isStruck_s104 at hq
                  refine lv_iload hx hb dX8_isStruck_104 (lv_at hl 7 rfl) ?_
                  refine lv_iload hx hb dX8_isStruck_106 (lv_at hl 4 rfl) ?_
                  refine lv_icmp_ge (tgt := 201) hx hb dX8_isStruck_108 (by decide) (fun c_108 => ?_) (fun c_108 => ?_)
                  · have hq := k_t c_108 hq
                    have et := kl_exit hq hx104
                    subst et
                    exact kk104_201 ls _ _ (lv_sub hl [0, 1, 2, 3, 4] rfl) hP hD hS
                  · have hq := k_f c_108 hq
                    refine lv_iload hx hb dX8_isStruck_111 (lv_at hl 3 rfl) ?_
                    refine lv_if_ne (tgt := 201) hx hb dX8_isStruck_113 (by decide) (fun c_113 => ?_) (fun c_113 => ?_)
                    · have hq := k_f c_113 hq
                      have et := kl_exit hq hx104
                      subst et
                      exact kk104_201 ls _ _ (lv_sub hl [0, 1, 2, 3, 4] rfl) hP hD hS
                    · have hq := k_t c_113 hq
                      refine lv_iload hx hb dX8_isStruck_116 (lv_at hl 6 rfl) ?_
                      refine lv_if_eq (tgt := 201) hx hb dX8_isStruck_118 (by decide) (fun c_118 => ?_) (fun c_118 => ?_)
                      · have hq := k_t c_118 hq
                        have et := kl_exit hq hx104
                        subst et
                        exact kk104_201 ls _ _ (lv_sub hl [0, 1, 2, 3, 4] rfl) hP hD hS
                      · have hq := k_f c_118 hq
                        refine lv_aload_n hx hb dX8_isStruck_121 rfl (lv_at hl 0 rfl) ?_
                        refine lv_iload_n hx hb dX8_isStruck_122 rfl (lv_at hl 1 rfl) ?_
                        refine lv_iload hx hb dX8_isStruck_123 (lv_at hl 7 rfl) ?_
                        obtain ⟨q90, eq90, hq⟩ := ob hq
                        have hPc := hP.sub (ws' := [(qM, .inr (8, [.int mt, .int mw, .int mh, .int mg, .int ms, .ref qMT, .ref qMW, .ref qMK, .ref qMM, .int mv, .int md, .ref qMR, .ref qML, .ref qMP, .int mu, .ref qMY, .ref qMF, .int mo, .int mf]))]) [0] rfl
                        have hKc := hK
                        refine vp_callSi (va_Run.run (va_runV (As := [.int x1, .int s88]) (rest := []) ⟨hx, hb, hml, hown, hts⟩ (tX8_neighbourOf G l eq90) (cwV 2 hts gX8_isStruck_X8_neighbourOf rfl rfl rfl (by decide +kernel) ⟨Nat.le_of_ble_eq_true rfl, Nat.le_of_ble_eq_true rfl⟩) ⟨pcP_blind, va_recv hKc hPc (ci := 8) (q0 := 0) rfl rfl, pcP_pre hPc hKK⟩ rfl rfl hl.1 rfl (lv_room (Nat.le_of_ble_eq_true rfl)) dX8_isStruck_125 ⟨Nat.zero_le _, Nat.zero_le _⟩)) (fun r0 hr0 => ?_)
                        obtain rfl := hr0
                        refine lv_istore (lv' := [(9, .int q90), (0, .ref qM), (1, .int x1), (3, .int q1), (4, .int s87), (5, .int s57), (6, .int q59), (7, .int v61), (8, .int s88)]) hx hb dX8_isStruck_128 hl (by decide) rfl (fun ls hl => ?_)
                        refine lv_iload_n hx hb dX8_isStruck_130 rfl (lv_at hl 3 rfl) ?_
                        refine lv_iload hx hb dX8_isStruck_131 (lv_at hl 5 rfl) ?_
                        obtain ⟨q91, eq91, hq⟩ := ob hq
                        have hPc := hP.sub (ws' := []) [] rfl
                        refine vp_callSi (va_Run.run (va_runS (As := [.int q1, .int s57]) (rest := []) ⟨hx, hb, hml, hown, hts⟩ (tX8_isOpen G l eq91) (va_cwS 2 hts gX8_isStruck_X8_isOpen rfl rfl rfl (by decide +kernel) ⟨Nat.le_of_ble_eq_true rfl, Nat.le_of_ble_eq_true rfl⟩) ⟨pcP_blind, pcP_pre hPc hKK⟩ rfl rfl hl.1 rfl (lv_room (Nat.le_of_ble_eq_true rfl)) dX8_isStruck_133 ⟨Nat.zero_le _, Nat.zero_le _⟩)) (fun r0 hr0 => ?_)
                        obtain rfl := hr0
                        have J169 : ∀ (v94 : Int32) (ls : Array Slot) (H : Heap) (locs : List Loc), kX8_isStruck_j169 F mw mh mg mT mW mL x1 q59 s88 s89 q90 v94 = some y_104 → lv_has ls 11 [(0, .ref qM), (1, .int x1), (3, .int q1), (5, .int s57), (6, .int q59), (7, .int v61), (8, .int s88), (9, .int q90)] → va_P G.1 vwCl [(qM, .inr (8, [.int mt, .int mw, .int mh, .int mg, .int ms, .ref qMT, .ref qMW, .ref qMK, .ref qMM, .int mv, .int md, .ref qMR, .ref qML, .ref qMP, .int mu, .ref qMY, .ref qMF, .int mo, .int mf])), (qMT, .inl (G.2.1, 16, .inl mT)), (qMW, .inl (G.2.1, 16, .inl mW)), (qMR, .inl (G.2.2.2.1, 16, .inl s89)), (qML, .inl (G.2.1, 16, .inl mL))] H → va_D A [(qM, .inr (8, [.int mt, .int mw, .int mh, .int mg, .int ms, .ref qMT, .ref qMW, .ref qMK, .ref qMM, .int mv, .int md, .ref qMR, .ref qML, .ref qMP, .int mu, .ref qMY, .ref qMF, .int mo, .int mf])), (qMT, .inl (G.2.1, 16, .inl mT)), (qMW, .inl (G.2.1, 16, .inl mW)), (qMR, .inl (G.2.2.2.1, 16, .inl s89)), (qML, .inl (G.2.1, 16, .inl mL))] → va_S A s.heap H locs → W p l e (headSpec wsX8_isStruck rmX8_isStruck).room s m ([.ref qM, .int x1, .int x2] : List Value).toArray below meth c H locs 0 0 Q (F0 m 169 ls [.int v94]) := by
                          intro v94 ls H locs hq hl hP hD hS
                          unfold kX8_isStruck_j169 at hq
                          refine lv_istore (lv' := [(10, .int v94), (0, .ref qM), (1, .int x1), (3, .int q1), (5, .int s57), (6, .int q59), (7, .int v61), (8, .int s88), (9, .int q90)]) hx hb dX8_isStruck_169 hl (by decide) rfl (fun ls hl => ?_)
                          refine lv_iload hx hb dX8_isStruck_171 (lv_at hl 0 rfl) ?_
                          refine lv_if_eq (tgt := 192) hx hb dX8_isStruck_173 (by decide) (fun c_173 => ?_) (fun c_173 => ?_)
                          · have hq := k_t c_173 hq
                            refine lv_iconst (v := 0) hx hb dX8_isStruck_192 (by decide) ?_
                            refine lv_istore (lv' := [(4, .int 0), (10, .int v94), (0, .ref qM), (1, .int x1), (3, .int q1), (5, .int s57), (6, .int q59), (7, .int v61), (8, .int s88), (9, .int q90)]) hx hb dX8_isStruck_193 hl (by decide) rfl (fun ls hl => ?_)
                            refine lv_iinc (v := (s88 + 1)) (lv' := [(8, .int (s88 + 1)), (4, .int 0), (10, .int v94), (0, .ref qM), (1, .int x1), (3, .int q1), (5, .int s57), (6, .int q59), (7, .int v61), (9, .int q90)]) hx hb dX8_isStruck_195 hl (k := 8) rfl rfl (by decide) rfl (fun ls hl => ?_)
                            refine lv_goto (tgt := 104) hx hb dX8_isStruck_198 (by decide) ?_
                            exact ih104 0 (s88 + 1) s89 t_104 ls _ _ (kl_back hq hx104) (lv_sub hl [3, 4, 5, 1, 6, 7, 8, 0] rfl) hP hD hS kk104_201
                          · have hq := k_f c_173 hq
                            refine lv_aload_n hx hb dX8_isStruck_176 rfl (lv_at hl 1 rfl) ?_
                            refine lv_iload hx hb dX8_isStruck_177 (lv_at hl 5 rfl) ?_
                            refine lv_iload hx hb dX8_isStruck_179 (lv_at hl 8 rfl) ?_
                            refine lv_iload_n hx hb dX8_isStruck_181 rfl (lv_at hl 2 rfl) ?_
                            obtain ⟨q98, eq98, hq⟩ := ob hq
                            have hPc := hP.sub (ws' := [(qM, .inr (8, [.int mt, .int mw, .int mh, .int mg, .int ms, .ref qMT, .ref qMW, .ref qMK, .ref qMM, .int mv, .int md, .ref qMR, .ref qML, .ref qMP, .int mu, .ref qMY, .ref qMF, .int mo, .int mf])), (qMT, .inl (G.2.1, 16, .inl mT)), (qMW, .inl (G.2.1, 16, .inl mW)), (qMR, .inl (G.2.2.2.1, 16, .inl s89)), (qML, .inl (G.2.1, 16, .inl mL))]) [0, 1, 2, 3, 4] rfl
                            have hKc := hK
                            have hDc := hD.sub (ws' := [(qM, .inr (8, [.int mt, .int mw, .int mh, .int mg, .int ms, .ref qMT, .ref qMW, .ref qMK, .ref qMM, .int mv, .int md, .ref qMR, .ref qML, .ref qMP, .int mu, .ref qMY, .ref qMF, .int mo, .int mf])), (qMT, .inl (G.2.1, 16, .inl mT)), (qMW, .inl (G.2.1, 16, .inl mW)), (qMR, .inl (G.2.2.2.1, 16, .inl s89)), (qML, .inl (G.2.1, 16, .inl mL))]) [0, 1, 2, 3, 4] (by decide) rfl
                            have hFc := va_free (wc := [(qM, .inr (8, [.int mt, .int mw, .int mh, .int mg, .int ms, .ref qMT, .ref qMW, .ref qMK, .ref qMM, .int mv, .int md, .ref qMR, .ref qML, .ref qMP, .int mu, .ref qMY, .ref qMF, .int mo, .int mf])), (qMT, .inl (G.2.1, 16, .inl mT)), (qMW, .inl (G.2.1, 16, .inl mW)), (qMR, .inl (G.2.2.2.1, 16, .inl s89)), (qML, .inl (G.2.1, 16, .inl mL))]) hD hS hA [0, 1, 2, 3, 4] rfl
                            refine va_calli (va_runV (As := [.int q59, .int q90, .int x1]) (rest := []) ⟨hx, hb, hml, hown, hts⟩ (tX8_hang G l eq98) (cwV 3 hts gX8_isStruck_X8_hang rfl rfl rfl (by decide +kernel) ⟨Nat.le_of_ble_eq_true rfl, Nat.le_of_ble_eq_true rfl⟩) ⟨pcW_blind, va_recv hKc hPc (ci := 8) (q0 := 0) rfl rfl, pcW_pre hPc hKK hDc⟩ rfl rfl hl.1 rfl (lv_room (Nat.le_of_ble_eq_true rfl)) dX8_isStruck_182 ⟨Nat.zero_le _, Nat.zero_le _⟩) hS (fun q _ h => hFc q h) hFc (fun r0 u t H1 locs ht hvm hw hB hz1 hk1 hS => ?_)
                            obtain rfl := hw
                            have hB := va_Pto ht hB
                            obtain ⟨hP, hD⟩ := jn (ws' := [(qM, .inr (8, [.int mt, .int mw, .int mh, .int mg, .int ms, .ref qMT, .ref qMW, .ref qMK, .ref qMM, .int mv, .int md, .ref qMR, .ref qML, .ref qMP, .int mu, .ref qMY, .ref qMF, .int mo, .int mf])), (qMT, .inl (G.2.1, 16, .inl mT)), (qMW, .inl (G.2.1, 16, .inl mW)), (qMR, .inl (G.2.2.2.1, 16, .inl q98.2)), (qML, .inl (G.2.1, 16, .inl mL))]) hP hD hk1 hB [0, 1, 2, 3, 4] rfl rfl rfl rfl
                            generalize H1 = H at hP hS ⊢
                            refine lv_if_eq (tgt := 192) hx hb dX8_isStruck_185 (by decide) (fun c_185 => ?_) (fun c_185 => ?_)
                            · have hq := k_t c_185 hq
                              refine lv_iconst (v := 0) hx hb dX8_isStruck_192 (by decide) ?_
                              refine lv_istore (lv' := [(4, .int 0), (10, .int v94), (0, .ref qM), (1, .int x1), (3, .int q1), (5, .int s57), (6, .int q59), (7, .int v61), (8, .int s88), (9, .int q90)]) hx hb dX8_isStruck_193 hl (by decide) rfl (fun ls hl => ?_)
                              refine lv_iinc (v := (s88 + 1)) (lv' := [(8, .int (s88 + 1)), (4, .int 0), (10, .int v94), (0, .ref qM), (1, .int x1), (3, .int q1), (5, .int s57), (6, .int q59), (7, .int v61), (9, .int q90)]) hx hb dX8_isStruck_195 hl (k := 8) rfl rfl (by decide) rfl (fun ls hl => ?_)
                              refine lv_goto (tgt := 104) hx hb dX8_isStruck_198 (by decide) ?_
                              exact ih104 0 (s88 + 1) q98.2 t_104 ls _ _ (kl_back hq hx104) (lv_sub hl [3, 4, 5, 1, 6, 7, 8, 0] rfl) hP hD hS kk104_201
                            · have hq := k_f c_185 hq
                              refine lv_iconst (v := 1) hx hb dX8_isStruck_188 (by decide) ?_
                              refine lv_goto (tgt := 193) hx hb dX8_isStruck_189 (by decide) ?_
                              refine lv_istore (lv' := [(4, .int 1), (10, .int v94), (0, .ref qM), (1, .int x1), (3, .int q1), (5, .int s57), (6, .int q59), (7, .int v61), (8, .int s88), (9, .int q90)]) hx hb dX8_isStruck_193 hl (by decide) rfl (fun ls hl => ?_)
                              refine lv_iinc (v := (s88 + 1)) (lv' := [(8, .int (s88 + 1)), (4, .int 1), (10, .int v94), (0, .ref qM), (1, .int x1), (3, .int q1), (5, .int s57), (6, .int q59), (7, .int v61), (9, .int q90)]) hx hb dX8_isStruck_195 hl (k := 8) rfl rfl (by decide) rfl (fun ls hl => ?_)
                              refine lv_goto (tgt := 104) hx hb dX8_isStruck_198 (by decide) ?_
                              exact ih104 1 (s88 + 1) q98.2 t_104 ls _ _ (kl_back hq hx104) (lv_sub hl [3, 4, 5, 1, 6, 7, 8, 0] rfl) hP hD hS kk104_201
                        refine lv_if_eq (tgt := 168) hx hb dX8_isStruck_136 (by decide) (fun c_136 => ?_) (fun c_136 => ?_)
                        · have hq := k_t c_136 hq
                          refine lv_iconst (v := 0) hx hb dX8_isStruck_168 (by decide) ?_
                          exact J169 0 ls _ _ hq (lv_sub hl [1, 2, 3, 5, 6, 7, 8, 0] rfl) hP hD hS
                        · have hq := k_f c_136 hq
                          refine lv_iload_n hx hb dX8_isStruck_139 rfl (lv_at hl 3 rfl) ?_
                          refine lv_iload hx hb dX8_isStruck_140 (lv_at hl 8 rfl) ?_
                          obtain ⟨q100, eq100, hq⟩ := ob hq
                          have hPc := hP.sub (ws' := []) [] rfl
                          refine vp_callSi (va_Run.run (va_runS (As := [.int q1, .int s88]) (rest := []) ⟨hx, hb, hml, hown, hts⟩ (tX8_isOpen G l eq100) (va_cwS 2 hts gX8_isStruck_X8_isOpen rfl rfl rfl (by decide +kernel) ⟨Nat.le_of_ble_eq_true rfl, Nat.le_of_ble_eq_true rfl⟩) ⟨pcP_blind, pcP_pre hPc hKK⟩ rfl rfl hl.1 rfl (lv_room (Nat.le_of_ble_eq_true rfl)) dX8_isStruck_142 ⟨Nat.zero_le _, Nat.zero_le _⟩)) (fun r0 hr0 => ?_)
                          obtain rfl := hr0
                          refine lv_if_eq (tgt := 168) hx hb dX8_isStruck_145 (by decide) (fun c_145 => ?_) (fun c_145 => ?_)
                          · have hq := k_t c_145 hq
                            refine lv_iconst (v := 0) hx hb dX8_isStruck_168 (by decide) ?_
                            exact J169 0 ls _ _ hq (lv_sub hl [1, 2, 3, 5, 6, 7, 8, 0] rfl) hP hD hS
                          · have hq := k_f c_145 hq
                            refine lv_iload hx hb dX8_isStruck_148 (lv_at hl 0 rfl) ?_
                            refine lv_iconst (v := (-1)) hx hb dX8_isStruck_150 (by decide) ?_
                            refine lv_icmp_eq (tgt := 168) hx hb dX8_isStruck_151 (by decide) (fun c_151 => ?_) (fun c_151 => ?_)
                            · have hq := k_t c_151 hq
                              refine lv_iconst (v := 0) hx hb dX8_isStruck_168 (by decide) ?_
                              exact J169 0 ls _ _ hq (lv_sub hl [1, 2, 3, 5, 6, 7, 8, 0] rfl) hP hD hS
                            · have hq := k_f c_151 hq
                              refine lv_aload_n hx hb dX8_isStruck_154 rfl (lv_at hl 1 rfl) ?_
                              refine lv_iload_n hx hb dX8_isStruck_155 rfl (lv_at hl 2 rfl) ?_
                              refine lv_iload hx hb dX8_isStruck_156 (lv_at hl 8 rfl) ?_
                              obtain ⟨q101, eq101, hq⟩ := ob hq
                              have hPc := hP.sub (ws' := [(qM, .inr (8, [.int mt, .int mw, .int mh, .int mg, .int ms, .ref qMT, .ref qMW, .ref qMK, .ref qMM, .int mv, .int md, .ref qMR, .ref qML, .ref qMP, .int mu, .ref qMY, .ref qMF, .int mo, .int mf])), (qMW, .inl (G.2.1, 16, .inl mW))]) [0, 2] rfl
                              have hKc := hK
                              refine vp_callSi (va_Run.run (va_runV (As := [.int x1, .int s88]) (rest := []) ⟨hx, hb, hml, hown, hts⟩ (tX8_hasWall G l eq101) (cwV 2 hts gX8_isStruck_X8_hasWall rfl rfl rfl (by decide +kernel) ⟨Nat.le_of_ble_eq_true rfl, Nat.le_of_ble_eq_true rfl⟩) ⟨pcP_blind, va_recv hKc hPc (ci := 8) (q0 := 0) rfl rfl, pcP_pre hPc hKK⟩ rfl rfl hl.1 rfl (lv_room (Nat.le_of_ble_eq_true rfl)) dX8_isStruck_158 ⟨Nat.zero_le _, Nat.zero_le _⟩)) (fun r0 hr0 => ?_)
                              obtain rfl := hr0
                              refine lv_if_ne (tgt := 168) hx hb dX8_isStruck_161 (by decide) (fun c_161 => ?_) (fun c_161 => ?_)
                              · have hq := k_f c_161 hq
                                refine lv_iconst (v := 0) hx hb dX8_isStruck_168 (by decide) ?_
                                exact J169 0 ls _ _ hq (lv_sub hl [1, 2, 3, 5, 6, 7, 8, 0] rfl) hP hD hS
                              · have hq := k_t c_161 hq
                                refine lv_iconst (v := 1) hx hb dX8_isStruck_164 (by decide) ?_
                                refine lv_goto (tgt := 169) hx hb dX8_isStruck_165 (by decide) ?_
                                exact J169 1 ls _ _ hq (lv_sub hl [1, 2, 3, 5, 6, 7, 8, 0] rfl) hP hD hS
              obtain ⟨q102, eq102, hq⟩ := ob hq
              refine L104 F v66 0 s58 q102 ls _ _ (eq102) (lv_sub hl [2, 3, 4, 1, 5, 6, 7, 0] rfl) hP hD hS (fun ls H locs hl hP hD hS => ?_)
              · refine lv_iinc (v := (s57 + 1)) (lv' := [(5, .int (s57 + 1)), (0, .ref qM), (1, .int x1), (3, .int q1), (4, .int q102.1)]) hx hb dX8_isStruck_201 hl (k := 4) rfl rfl (by decide) rfl (fun ls hl => ?_)
                refine lv_goto (tgt := 17) hx hb dX8_isStruck_204 (by decide) ?_
                exact ih17 q102.1 (s57 + 1) q102.2 t_17 ls _ _ (kl_back hq hx17) (lv_sub hl [1, 2, 3, 4, 0] rfl) hP hD hS kk17_207
            refine lv_if_eq (tgt := 93) hx hb dX8_isStruck_62 (by decide) (fun c_62 => ?_) (fun c_62 => ?_)
            · have hq := k_t c_62 hq
              refine lv_iload_n hx hb dX8_isStruck_93 rfl (lv_at hl 3 rfl) ?_
              refine lv_iload hx hb dX8_isStruck_94 (lv_at hl 4 rfl) ?_
              obtain ⟨q103, eq103, hq⟩ := ob hq
              have hPc := hP.sub (ws' := []) [] rfl
              refine vp_callSi (va_Run.run (va_runS (As := [.int q1, .int s57]) (rest := []) ⟨hx, hb, hml, hown, hts⟩ (tX8_isOpen G l eq103) (va_cwS 2 hts gX8_isStruck_X8_isOpen rfl rfl rfl (by decide +kernel) ⟨Nat.le_of_ble_eq_true rfl, Nat.le_of_ble_eq_true rfl⟩) ⟨pcP_blind, pcP_pre hPc hKK⟩ rfl rfl hl.1 rfl (lv_room (Nat.le_of_ble_eq_true rfl)) dX8_isStruck_96 ⟨Nat.zero_le _, Nat.zero_le _⟩)) (fun r0 hr0 => ?_)
              obtain rfl := hr0
              exact J99 q103 ls _ _ hq (lv_sub hl [1, 2, 3, 4, 5, 0] rfl) hP hD hS
            · have hq := k_f c_62 hq
              refine lv_aload_n hx hb dX8_isStruck_65 rfl (lv_at hl 1 rfl) ?_
              refine lv_iload hx hb dX8_isStruck_66 (lv_at hl 5 rfl) ?_
              refine lv_iload hx hb dX8_isStruck_68 (lv_at hl 4 rfl) ?_
              obtain ⟨q104, eq104, hq⟩ := ob hq
              have hPc := hP.sub (ws' := []) [] rfl
              refine vp_callSi (va_Run.run (va_runS (As := [.int s57]) (rest := [.int q59, .ref qM]) ⟨hx, hb, hml, hown, hts⟩ (tX8_opposite G l eq104) (va_cwS 1 hts gX8_isStruck_X8_opposite rfl rfl rfl (by decide +kernel) ⟨Nat.le_of_ble_eq_true rfl, Nat.le_of_ble_eq_true rfl⟩) ⟨pcP_blind, pcP_pre hPc hKK⟩ rfl rfl hl.1 rfl (lv_room (Nat.le_of_ble_eq_true rfl)) dX8_isStruck_70 ⟨Nat.zero_le _, Nat.zero_le _⟩)) (fun r0 hr0 => ?_)
              obtain rfl := hr0
              refine lv_iload_n hx hb dX8_isStruck_73 rfl (lv_at hl 3 rfl) ?_
              refine lv_iload hx hb dX8_isStruck_74 (lv_at hl 4 rfl) ?_
              obtain ⟨q105, eq105, hq⟩ := ob hq
              have hPc := hP.sub (ws' := []) [] rfl
              refine vp_callSi (va_Run.run (va_runS (As := [.int q1, .int s57]) (rest := [.int q104, .int q59, .ref qM]) ⟨hx, hb, hml, hown, hts⟩ (tX8_isOpen G l eq105) (va_cwS 2 hts gX8_isStruck_X8_isOpen rfl rfl rfl (by decide +kernel) ⟨Nat.le_of_ble_eq_true rfl, Nat.le_of_ble_eq_true rfl⟩) ⟨pcP_blind, pcP_pre hPc hKK⟩ rfl rfl hl.1 rfl (lv_room (Nat.le_of_ble_eq_true rfl)) dX8_isStruck_76 ⟨Nat.zero_le _, Nat.zero_le _⟩)) (fun r0 hr0 => ?_)
              obtain rfl := hr0
              obtain ⟨q106, eq106, hq⟩ := ob hq
              have hPc := hP.sub (ws' := [(qM, .inr (8, [.int mt, .int mw, .int mh, .int mg, .int ms, .ref qMT, .ref qMW, .ref qMK, .ref qMM, .int mv, .int md, .ref qMR, .ref qML, .ref qMP, .int mu, .ref qMY, .ref qMF, .int mo, .int mf])), (qMT, .inl (G.2.1, 16, .inl mT)), (qML, .inl (G.2.1, 16, .inl mL))]) [0, 1, 4] rfl
              have hKc := hK
              refine vp_callSi (va_Run.run (va_runV (As := [.int q59, .int q104, .int q105]) (rest := []) ⟨hx, hb, hml, hown, hts⟩ (tX8_canBe G l eq106) (cwV 3 hts gX8_isStruck_X8_canBe rfl rfl rfl (by decide +kernel) ⟨Nat.le_of_ble_eq_true rfl, Nat.le_of_ble_eq_true rfl⟩) ⟨pcP_blind, va_recv hKc hPc (ci := 8) (q0 := 0) rfl rfl, pcP_pre hPc hKK⟩ rfl rfl hl.1 rfl (lv_room (Nat.le_of_ble_eq_true rfl)) dX8_isStruck_79 ⟨Nat.zero_le _, Nat.zero_le _⟩)) (fun r0 hr0 => ?_)
              obtain rfl := hr0
              refine lv_if_ne (tgt := 89) hx hb dX8_isStruck_82 (by decide) (fun c_82 => ?_) (fun c_82 => ?_)
              · have hq := k_f c_82 hq
                refine lv_iconst (v := 0) hx hb dX8_isStruck_89 (by decide) ?_
                refine lv_goto (tgt := 99) hx hb dX8_isStruck_90 (by decide) ?_
                exact J99 0 ls _ _ hq (lv_sub hl [1, 2, 3, 4, 5, 0] rfl) hP hD hS
              · have hq := k_t c_82 hq
                refine lv_iconst (v := 1) hx hb dX8_isStruck_85 (by decide) ?_
                refine lv_goto (tgt := 99) hx hb dX8_isStruck_86 (by decide) ?_
                exact J99 1 ls _ _ hq (lv_sub hl [1, 2, 3, 4, 5, 0] rfl) hP hD hS
          refine lv_icmp_eq (tgt := 57) hx hb dX8_isStruck_40 (by decide) (fun c_40 => ?_) (fun c_40 => ?_)
          · have hq := k_t c_40 hq
            refine lv_iconst (v := 0) hx hb dX8_isStruck_57 (by decide) ?_
            exact J58 0 ls _ _ hq (lv_sub hl [1, 2, 3, 5, 0] rfl) hP hD hS
          · have hq := k_f c_40 hq
            refine lv_aload_n hx hb dX8_isStruck_43 rfl (lv_at hl 1 rfl) ?_
            refine lv_iload_n hx hb dX8_isStruck_44 rfl (lv_at hl 2 rfl) ?_
            refine lv_iload hx hb dX8_isStruck_45 (lv_at hl 5 rfl) ?_
            obtain ⟨q107, eq107, hq⟩ := ob hq
            have hPc := hP.sub (ws' := [(qM, .inr (8, [.int mt, .int mw, .int mh, .int mg, .int ms, .ref qMT, .ref qMW, .ref qMK, .ref qMM, .int mv, .int md, .ref qMR, .ref qML, .ref qMP, .int mu, .ref qMY, .ref qMF, .int mo, .int mf])), (qMW, .inl (G.2.1, 16, .inl mW))]) [0, 2] rfl
            have hKc := hK
            refine vp_callSi (va_Run.run (va_runV (As := [.int x1, .int s57]) (rest := []) ⟨hx, hb, hml, hown, hts⟩ (tX8_hasWall G l eq107) (cwV 2 hts gX8_isStruck_X8_hasWall rfl rfl rfl (by decide +kernel) ⟨Nat.le_of_ble_eq_true rfl, Nat.le_of_ble_eq_true rfl⟩) ⟨pcP_blind, va_recv hKc hPc (ci := 8) (q0 := 0) rfl rfl, pcP_pre hPc hKK⟩ rfl rfl hl.1 rfl (lv_room (Nat.le_of_ble_eq_true rfl)) dX8_isStruck_47 ⟨Nat.zero_le _, Nat.zero_le _⟩)) (fun r0 hr0 => ?_)
            obtain rfl := hr0
            refine lv_if_ne (tgt := 57) hx hb dX8_isStruck_50 (by decide) (fun c_50 => ?_) (fun c_50 => ?_)
            · have hq := k_f c_50 hq
              refine lv_iconst (v := 0) hx hb dX8_isStruck_57 (by decide) ?_
              exact J58 0 ls _ _ hq (lv_sub hl [1, 2, 3, 5, 0] rfl) hP hD hS
            · have hq := k_t c_50 hq
              refine lv_iconst (v := 1) hx hb dX8_isStruck_53 (by decide) ?_
              refine lv_goto (tgt := 58) hx hb dX8_isStruck_54 (by decide) ?_
              exact J58 1 ls _ _ hq (lv_sub hl [1, 2, 3, 5, 0] rfl) hP hD hS
  obtain ⟨q108, eq108, hq⟩ := ob hq
  refine L17 F 0 0 mR q108 ls _ _ (eq108) (lv_sub hl [3, 4, 2, 1, 0] rfl) hP hD hS (fun ls H locs hl hP hD hS => ?_)
  · refine lv_iload hx hb dX8_isStruck_207 (lv_at hl 0 rfl) ?_
    obtain ⟨hg, hq⟩ := k_g hq
    obtain rfl := Option.some.inj hq
    rw [hQ]
    exact W.zret hx hb hr (isZ_n hg) (fun t ht hW => ⟨⟨_, (), rfl, rfl, va_Pat ht hP⟩, hS.F ht⟩) hS.2.2 dX8_isStruck_209

abbrev rmX8_strikes : Room := { frames := 5, cells := 0, slots := 0, locals := 128 }
set_option maxHeartbeats 40000000 in
set_option maxRecDepth 100000 in
theorem tX8_strikes (G : GG) (l : Launch) {qM qMT qMW qMK qMM qMR qML qMP qMY qMF : Nat} {mt : Int32} {mw : Int32} {mh : Int32} {mg : Int32} {ms : Int32} {mv : Int32} {md : Int32} {mu : Int32} {mo : Int32} {mf : Int32} {mT : Nat → Int32} {mW : Nat → Int32} {mK : Nat → Int32} {mR : Nat → Int32} {mL : Nat → Int32} {sz : Nat} {F : Nat} {r : (Nat → Int32) × (Nat → Int32)} (hq : kX8_strikes F mw mh mg mT mW mK mR mL = some r) : Met l yX8_strikes wsX8_strikes rmX8_strikes (pcW G [(qM, .inr (8, [.int mt, .int mw, .int mh, .int mg, .int ms, .ref qMT, .ref qMW, .ref qMK, .ref qMM, .int mv, .int md, .ref qMR, .ref qML, .ref qMP, .int mu, .ref qMY, .ref qMF, .int mo, .int mf])), (qMT, .inl (G.2.1, 16, .inl mT)), (qMW, .inl (G.2.1, 16, .inl mW)), (qMK, .inl (G.2.2.2.1, 16, .inl mK)), (qMR, .inl (G.2.2.2.1, 16, .inl mR)), (qML, .inl (G.2.1, 16, .inl mL))] sz [.ref qM]) (qcV G [(qM, .inr (8, [.int mt, .int mw, .int mh, .int mg, .int ms, .ref qMT, .ref qMW, .ref qMK, .ref qMM, .int mv, .int md, .ref qMR, .ref qML, .ref qMP, .int mu, .ref qMY, .ref qMF, .int mo, .int mf])), (qMT, .inl (G.2.1, 16, .inl mT)), (qMW, .inl (G.2.1, 16, .inl mW)), (qMK, .inl (G.2.2.2.1, 16, .inl mK)), (qMR, .inl (G.2.2.2.1, 16, .inl r.1)), (qML, .inl (G.2.1, 16, .inl r.2))] (va_A [(qM, .inr (8, [.int mt, .int mw, .int mh, .int mg, .int ms, .ref qMT, .ref qMW, .ref qMK, .ref qMM, .int mv, .int md, .ref qMR, .ref qML, .ref qMP, .int mu, .ref qMY, .ref qMF, .int mo, .int mf])), (qMT, .inl (G.2.1, 16, .inl mT)), (qMW, .inl (G.2.1, 16, .inl mW)), (qMK, .inl (G.2.2.2.1, 16, .inl mK)), (qMR, .inl (G.2.2.2.1, 16, .inl mR)), (qML, .inl (G.2.1, 16, .inl mL))] sz)) 0 0 (va_A [(qM, .inr (8, [.int mt, .int mw, .int mh, .int mg, .int ms, .ref qMT, .ref qMW, .ref qMK, .ref qMM, .int mv, .int md, .ref qMR, .ref qML, .ref qMP, .int mu, .ref qMY, .ref qMF, .int mo, .int mf])), (qMT, .inl (G.2.1, 16, .inl mT)), (qMW, .inl (G.2.1, 16, .inl mW)), (qMK, .inl (G.2.2.2.1, 16, .inl mK)), (qMR, .inl (G.2.2.2.1, 16, .inl mR)), (qML, .inl (G.2.1, 16, .inl mL))] sz) := by
  refine Met.ofW (cc := cX8_strikes) (maxL := 4) (ret := none) (by decide) rfl ?_
  intro p e s m args below meth c s₁ B hml hv
  obtain ⟨rfl, hsz, hP, hKK, hD0⟩ := hv
  have hK := hKK.1
  have hx := B.exec
  have hb := B.bytes
  have hr := B.returns
  have hts := atoms_spec (ws := wsX8_strikes) B.pre
  have hown : s.vm.findClass RX8 = some m.cls := findClass_of_methodNamed B.named
  have hlocks := B.notSynchronized
  subst hsz
  have hD := hD0.self (sz := s.heap.size)
  generalize hAe : va_A [(qM, .inr (8, [.int mt, .int mw, .int mh, .int mg, .int ms, .ref qMT, .ref qMW, .ref qMK, .ref qMM, .int mv, .int md, .ref qMR, .ref qML, .ref qMP, .int mu, .ref qMY, .ref qMF, .int mo, .int mf])), (qMT, .inl (G.2.1, 16, .inl mT)), (qMW, .inl (G.2.1, 16, .inl mW)), (qMK, .inl (G.2.2.2.1, 16, .inl mK)), (qMR, .inl (G.2.2.2.1, 16, .inl mR)), (qML, .inl (G.2.1, 16, .inl mL))] s.heap.size = A at hD ⊢
  have hA : ∀ q : Nat, s.heap.size ≤ q → A q := fun q h => by rw [← hAe]; exact Or.inr h
  have hS : va_S A s.heap s.heap [] := va_S.rf
  have hl := lv_entry ([.ref qM] : List Value) (n := 4) (Nat.le_of_ble_eq_true rfl)
  rw [lg_entry_eq]
  generalize (lg_sl ([.ref qM] : List Value) ++ List.replicate (4 - (lg_sl ([.ref qM] : List Value)).length) Slot.unset).toArray = ls at hl ⊢
  have hl : lv_has ls 4 [(0, .ref qM)] := hl
  have hi8 : ∀ w ∈ u_ws RX8 TX8 19, w ∈ wsX8_strikes := by decide +kernel
  have hw0 : (Cond.fieldLink RX8 33 "NetPlumberModel" "left" "[I").before #[Value.ref qM] s = true := hts _ (by decide +kernel)
  refine wq (fun Q hQ => ?_)
  unfold kX8_strikes at hq
  refine lv_iconst (v := 0) hx hb dX8_strikes_0 (by decide) ?_
  refine lv_istore_n (lv' := [(1, .int 0), (0, .ref qM)]) hx hb dX8_strikes_1 rfl hl (by decide) rfl (fun ls hl => ?_)
  have L2 : ∀ (n : Nat) (s6 : Int32) (s7 : Nat → Int32) (t_2 : Nat → Int32) (ls : Array Slot) (H : Heap) (locs : List Loc), kloop n (fun s_ => kX8_strikes_s2 F mw mh mT mK s_.1 s_.2) (s6, s7) = some t_2 → lv_has ls 4 [(0, .ref qM), (1, .int s6)] → va_P G.1 vwCl [(qM, .inr (8, [.int mt, .int mw, .int mh, .int mg, .int ms, .ref qMT, .ref qMW, .ref qMK, .ref qMM, .int mv, .int md, .ref qMR, .ref qML, .ref qMP, .int mu, .ref qMY, .ref qMF, .int mo, .int mf])), (qMT, .inl (G.2.1, 16, .inl mT)), (qMW, .inl (G.2.1, 16, .inl mW)), (qMK, .inl (G.2.2.2.1, 16, .inl mK)), (qMR, .inl (G.2.2.2.1, 16, .inl mR)), (qML, .inl (G.2.1, 16, .inl s7))] H → va_D A [(qM, .inr (8, [.int mt, .int mw, .int mh, .int mg, .int ms, .ref qMT, .ref qMW, .ref qMK, .ref qMM, .int mv, .int md, .ref qMR, .ref qML, .ref qMP, .int mu, .ref qMY, .ref qMF, .int mo, .int mf])), (qMT, .inl (G.2.1, 16, .inl mT)), (qMW, .inl (G.2.1, 16, .inl mW)), (qMK, .inl (G.2.2.2.1, 16, .inl mK)), (qMR, .inl (G.2.2.2.1, 16, .inl mR)), (qML, .inl (G.2.1, 16, .inl s7))] → va_S A s.heap H locs → (∀ (ls : Array Slot) (H : Heap) (locs : List Loc), lv_has ls 4 [(0, .ref qM)] → va_P G.1 vwCl [(qM, .inr (8, [.int mt, .int mw, .int mh, .int mg, .int ms, .ref qMT, .ref qMW, .ref qMK, .ref qMM, .int mv, .int md, .ref qMR, .ref qML, .ref qMP, .int mu, .ref qMY, .ref qMF, .int mo, .int mf])), (qMT, .inl (G.2.1, 16, .inl mT)), (qMW, .inl (G.2.1, 16, .inl mW)), (qMK, .inl (G.2.2.2.1, 16, .inl mK)), (qMR, .inl (G.2.2.2.1, 16, .inl mR)), (qML, .inl (G.2.1, 16, .inl t_2))] H → va_D A [(qM, .inr (8, [.int mt, .int mw, .int mh, .int mg, .int ms, .ref qMT, .ref qMW, .ref qMK, .ref qMM, .int mv, .int md, .ref qMR, .ref qML, .ref qMP, .int mu, .ref qMY, .ref qMF, .int mo, .int mf])), (qMT, .inl (G.2.1, 16, .inl mT)), (qMW, .inl (G.2.1, 16, .inl mW)), (qMK, .inl (G.2.2.2.1, 16, .inl mK)), (qMR, .inl (G.2.2.2.1, 16, .inl mR)), (qML, .inl (G.2.1, 16, .inl t_2))] → va_S A s.heap H locs → W p l e (headSpec wsX8_strikes rmX8_strikes).room s m ([.ref qM] : List Value).toArray below meth c H locs 0 0 Q (F0 m 31 ls [])) → W p l e (headSpec wsX8_strikes rmX8_strikes).room s m ([.ref qM] : List Value).toArray below meth c H locs 0 0 Q (F0 m 2 ls []) := by
    intro n
    induction n with
    | zero => 
      intro s6 s7 t_2 ls H locs hq hl hP hD hS kk2_31
      exact absurd hq kl_0
    | succ n ih2 =>
      intro s6 s7 t_2 ls H locs hq hl hP hD hS kk2_31
      obtain ⟨y_2, hq, hx2⟩ := kl_s hq
      have hq : kX8_strikes_s2 F mw mh mT mK s6 s7 = some y_2 := hq
      unfold kX8_strikes_s2 at hq
      refine lv_iload_n hx hb dX8_strikes_2 rfl (lv_at hl 1 rfl) ?_
      refine lv_aload_n hx hb dX8_strikes_3 rfl (lv_at hl 0 rfl) ?_
      obtain ⟨q8, eq8, hq⟩ := ob hq
      have hPc := hP.sub (ws' := [(qM, .inr (8, [.int mt, .int mw, .int mh, .int mg, .int ms, .ref qMT, .ref qMW, .ref qMK, .ref qMM, .int mv, .int md, .ref qMR, .ref qML, .ref qMP, .int mu, .ref qMY, .ref qMF, .int mo, .int mf]))]) [0] rfl
      have hKc := hK
      refine vp_callSi (va_Run.run (va_runV (As := []) (rest := [.int s6]) ⟨hx, hb, hml, hown, hts⟩ (tX8_cells G l eq8) (cwV 0 hts gX8_strikes_X8_cells rfl rfl rfl (by decide +kernel) ⟨Nat.le_of_ble_eq_true rfl, Nat.le_of_ble_eq_true rfl⟩) ⟨pcP_blind, va_recv hKc hPc (ci := 8) (q0 := 0) rfl rfl, pcP_pre hPc hKK⟩ rfl rfl hl.1 rfl (lv_room (Nat.le_of_ble_eq_true rfl)) dX8_strikes_4 ⟨Nat.zero_le _, Nat.zero_le _⟩)) (fun r0 hr0 => ?_)
      obtain rfl := hr0
      refine lv_icmp_ge (tgt := 31) hx hb dX8_strikes_7 (by decide) (fun c_7 => ?_) (fun c_7 => ?_)
      · have hq := k_t c_7 hq
        have et := kl_exit hq hx2
        subst et
        exact kk2_31 ls _ _ (lv_sub hl [0] rfl) hP hD hS
      · have hq := k_f c_7 hq
        refine lv_aload_n hx hb dX8_strikes_10 rfl (lv_at hl 0 rfl) ?_
        refine va_get (D := G.1) (ci := 8) (v := .ref qML) (C := RX8) (T := TX8) (N := 19) hx hb hts hi8 hown hK hP 0 rfl rfl 12 (by decide) hw0 (fun _ h9 => h9) rfl dX8_strikes_11 ?_
        refine lv_iload_n hx hb dX8_strikes_14 rfl (lv_at hl 1 rfl) ?_
        refine lv_iconst (v := 1) hx hb dX8_strikes_15 (by decide) ?_
        refine lv_aload_n hx hb dX8_strikes_16 rfl (lv_at hl 0 rfl) ?_
        refine lv_iload_n hx hb dX8_strikes_17 rfl (lv_at hl 1 rfl) ?_
        obtain ⟨q9, eq9, hq⟩ := ob hq
        have hPc := hP.sub (ws' := [(qM, .inr (8, [.int mt, .int mw, .int mh, .int mg, .int ms, .ref qMT, .ref qMW, .ref qMK, .ref qMM, .int mv, .int md, .ref qMR, .ref qML, .ref qMP, .int mu, .ref qMY, .ref qMF, .int mo, .int mf])), (qMT, .inl (G.2.1, 16, .inl mT)), (qMK, .inl (G.2.2.2.1, 16, .inl mK))]) [0, 1, 3] rfl
        have hKc := hK
        refine vp_callSi (va_Run.run (va_runV (As := [.int s6]) (rest := [.int 1, .int s6, .ref qML]) ⟨hx, hb, hml, hown, hts⟩ (tX8_laysOf G l eq9) (cwV 1 hts gX8_strikes_X8_laysOf rfl rfl rfl (by decide +kernel) ⟨Nat.le_of_ble_eq_true rfl, Nat.le_of_ble_eq_true rfl⟩) ⟨pcP_blind, va_recv hKc hPc (ci := 8) (q0 := 0) rfl rfl, pcP_pre hPc hKK⟩ rfl rfl hl.1 rfl (lv_room (Nat.le_of_ble_eq_true rfl)) dX8_strikes_18 ⟨Nat.zero_le _, Nat.zero_le _⟩)) (fun r0 hr0 => ?_)
        obtain rfl := hr0
        refine lv_ishl hx hb dX8_strikes_21 ?_
        refine lv_iconst (v := 1) hx hb dX8_strikes_22 (by decide) ?_
        refine lv_isub hx hb dX8_strikes_23 ?_
        obtain ⟨hg, hq⟩ := k_g hq
        refine va_iast hx hb hK hP hD hS 5 0 rfl rfl (ix_in hg) dX8_strikes_24 (fun H locs hP hD hS => ?_)
        have hP : va_P G.1 vwCl [(qM, .inr (8, [.int mt, .int mw, .int mh, .int mg, .int ms, .ref qMT, .ref qMW, .ref qMK, .ref qMM, .int mv, .int md, .ref qMR, .ref qML, .ref qMP, .int mu, .ref qMY, .ref qMF, .int mo, .int mf])), (qMT, .inl (G.2.1, 16, .inl mT)), (qMW, .inl (G.2.1, 16, .inl mW)), (qMK, .inl (G.2.2.2.1, 16, .inl mK)), (qMR, .inl (G.2.2.2.1, 16, .inl mR)), (qML, .inl (G.2.1, 16, .inl (upd s7 s6.toNatClampNeg (((1 : Int32) <<< (q9 &&& 31)) - 1))))] H := hP
        have hD : va_D A [(qM, .inr (8, [.int mt, .int mw, .int mh, .int mg, .int ms, .ref qMT, .ref qMW, .ref qMK, .ref qMM, .int mv, .int md, .ref qMR, .ref qML, .ref qMP, .int mu, .ref qMY, .ref qMF, .int mo, .int mf])), (qMT, .inl (G.2.1, 16, .inl mT)), (qMW, .inl (G.2.1, 16, .inl mW)), (qMK, .inl (G.2.2.2.1, 16, .inl mK)), (qMR, .inl (G.2.2.2.1, 16, .inl mR)), (qML, .inl (G.2.1, 16, .inl (upd s7 s6.toNatClampNeg (((1 : Int32) <<< (q9 &&& 31)) - 1))))] := hD
        refine lv_iinc (v := (s6 + 1)) (lv' := [(1, .int (s6 + 1)), (0, .ref qM)]) hx hb dX8_strikes_25 hl (k := 1) rfl rfl (by decide) rfl (fun ls hl => ?_)
        refine lv_goto (tgt := 2) hx hb dX8_strikes_28 (by decide) ?_
        exact ih2 (s6 + 1) (upd s7 s6.toNatClampNeg (((1 : Int32) <<< (q9 &&& 31)) - 1)) t_2 ls _ _ (kl_back hq hx2) (lv_sub hl [1, 0] rfl) hP hD hS kk2_31
  obtain ⟨q10, eq10, hq⟩ := ob hq
  refine L2 F 0 mL q10 ls _ _ (eq10) (lv_sub hl [1, 0] rfl) hP hD hS (fun ls H locs hl hP hD hS => ?_)
  · refine lv_iconst (v := 1) hx hb dX8_strikes_31 (by decide) ?_
    refine lv_istore_n (lv' := [(1, .int 1), (0, .ref qM)]) hx hb dX8_strikes_32 rfl hl (by decide) rfl (fun ls hl => ?_)
    have L33 : ∀ (n : Nat) (s73 : Int32) (s74 : Nat → Int32) (s75 : Nat → Int32) (t_33 : (Nat → Int32) × (Nat → Int32)) (ls : Array Slot) (H : Heap) (locs : List Loc), kloop n (fun s_ => kX8_strikes_s33 F mw mh mg mT mW s_.1 s_.2.1 s_.2.2) (s73, s74, s75) = some t_33 → lv_has ls 4 [(0, .ref qM), (1, .int s73)] → va_P G.1 vwCl [(qM, .inr (8, [.int mt, .int mw, .int mh, .int mg, .int ms, .ref qMT, .ref qMW, .ref qMK, .ref qMM, .int mv, .int md, .ref qMR, .ref qML, .ref qMP, .int mu, .ref qMY, .ref qMF, .int mo, .int mf])), (qMT, .inl (G.2.1, 16, .inl mT)), (qMW, .inl (G.2.1, 16, .inl mW)), (qMK, .inl (G.2.2.2.1, 16, .inl mK)), (qMR, .inl (G.2.2.2.1, 16, .inl s74)), (qML, .inl (G.2.1, 16, .inl s75))] H → va_D A [(qM, .inr (8, [.int mt, .int mw, .int mh, .int mg, .int ms, .ref qMT, .ref qMW, .ref qMK, .ref qMM, .int mv, .int md, .ref qMR, .ref qML, .ref qMP, .int mu, .ref qMY, .ref qMF, .int mo, .int mf])), (qMT, .inl (G.2.1, 16, .inl mT)), (qMW, .inl (G.2.1, 16, .inl mW)), (qMK, .inl (G.2.2.2.1, 16, .inl mK)), (qMR, .inl (G.2.2.2.1, 16, .inl s74)), (qML, .inl (G.2.1, 16, .inl s75))] → va_S A s.heap H locs → (∀ (ls : Array Slot) (H : Heap) (locs : List Loc), lv_has ls 4 [] → va_P G.1 vwCl [(qM, .inr (8, [.int mt, .int mw, .int mh, .int mg, .int ms, .ref qMT, .ref qMW, .ref qMK, .ref qMM, .int mv, .int md, .ref qMR, .ref qML, .ref qMP, .int mu, .ref qMY, .ref qMF, .int mo, .int mf])), (qMT, .inl (G.2.1, 16, .inl mT)), (qMW, .inl (G.2.1, 16, .inl mW)), (qMK, .inl (G.2.2.2.1, 16, .inl mK)), (qMR, .inl (G.2.2.2.1, 16, .inl t_33.1)), (qML, .inl (G.2.1, 16, .inl t_33.2))] H → va_D A [(qM, .inr (8, [.int mt, .int mw, .int mh, .int mg, .int ms, .ref qMT, .ref qMW, .ref qMK, .ref qMM, .int mv, .int md, .ref qMR, .ref qML, .ref qMP, .int mu, .ref qMY, .ref qMF, .int mo, .int mf])), (qMT, .inl (G.2.1, 16, .inl mT)), (qMW, .inl (G.2.1, 16, .inl mW)), (qMK, .inl (G.2.2.2.1, 16, .inl mK)), (qMR, .inl (G.2.2.2.1, 16, .inl t_33.1)), (qML, .inl (G.2.1, 16, .inl t_33.2))] → va_S A s.heap H locs → W p l e (headSpec wsX8_strikes rmX8_strikes).room s m ([.ref qM] : List Value).toArray below meth c H locs 0 0 Q (F0 m 110 ls [])) → W p l e (headSpec wsX8_strikes rmX8_strikes).room s m ([.ref qM] : List Value).toArray below meth c H locs 0 0 Q (F0 m 33 ls []) := by
      intro n
      induction n with
      | zero => 
        intro s73 s74 s75 t_33 ls H locs hq hl hP hD hS kk33_110
        exact absurd hq kl_0
      | succ n ih33 =>
        intro s73 s74 s75 t_33 ls H locs hq hl hP hD hS kk33_110
        obtain ⟨y_33, hq, hx33⟩ := kl_s hq
        have hq : kX8_strikes_s33 F mw mh mg mT mW s73 s74 s75 = some y_33 := hq
        unfold kX8_strikes_s33 at hq
        refine lv_iload_n hx hb dX8_strikes_33 rfl (lv_at hl 1 rfl) ?_
        refine lv_if_eq (tgt := 110) hx hb dX8_strikes_34 (by decide) (fun c_34 => ?_) (fun c_34 => ?_)
        · have hq := k_t c_34 hq
          have et := kl_exit hq hx33
          subst et
          exact kk33_110 ls _ _ (lv_sub hl [] rfl) hP hD hS
        · have hq := k_f c_34 hq
          refine lv_iconst (v := 0) hx hb dX8_strikes_37 (by decide) ?_
          refine lv_istore_n (lv' := [(1, .int 0), (0, .ref qM)]) hx hb dX8_strikes_38 rfl hl (by decide) rfl (fun ls hl => ?_)
          refine lv_iconst (v := 0) hx hb dX8_strikes_39 (by decide) ?_
          refine lv_istore_n (lv' := [(2, .int 0), (1, .int 0), (0, .ref qM)]) hx hb dX8_strikes_40 rfl hl (by decide) rfl (fun ls hl => ?_)
          have L41 : ∀ (n : Nat) (s105 : Int32) (s106 : Int32) (s107 : Nat → Int32) (s108 : Nat → Int32) (t_41 : Int32 × (Nat → Int32) × (Nat → Int32)) (ls : Array Slot) (H : Heap) (locs : List Loc), kloop n (fun s_ => kX8_strikes_s41 F mw mh mg mT mW s_.1 s_.2.1 s_.2.2.1 s_.2.2.2) (s105, s106, s107, s108) = some t_41 → lv_has ls 4 [(0, .ref qM), (1, .int s105), (2, .int s106)] → va_P G.1 vwCl [(qM, .inr (8, [.int mt, .int mw, .int mh, .int mg, .int ms, .ref qMT, .ref qMW, .ref qMK, .ref qMM, .int mv, .int md, .ref qMR, .ref qML, .ref qMP, .int mu, .ref qMY, .ref qMF, .int mo, .int mf])), (qMT, .inl (G.2.1, 16, .inl mT)), (qMW, .inl (G.2.1, 16, .inl mW)), (qMK, .inl (G.2.2.2.1, 16, .inl mK)), (qMR, .inl (G.2.2.2.1, 16, .inl s107)), (qML, .inl (G.2.1, 16, .inl s108))] H → va_D A [(qM, .inr (8, [.int mt, .int mw, .int mh, .int mg, .int ms, .ref qMT, .ref qMW, .ref qMK, .ref qMM, .int mv, .int md, .ref qMR, .ref qML, .ref qMP, .int mu, .ref qMY, .ref qMF, .int mo, .int mf])), (qMT, .inl (G.2.1, 16, .inl mT)), (qMW, .inl (G.2.1, 16, .inl mW)), (qMK, .inl (G.2.2.2.1, 16, .inl mK)), (qMR, .inl (G.2.2.2.1, 16, .inl s107)), (qML, .inl (G.2.1, 16, .inl s108))] → va_S A s.heap H locs → (∀ (ls : Array Slot) (H : Heap) (locs : List Loc), lv_has ls 4 [(0, .ref qM), (1, .int t_41.1)] → va_P G.1 vwCl [(qM, .inr (8, [.int mt, .int mw, .int mh, .int mg, .int ms, .ref qMT, .ref qMW, .ref qMK, .ref qMM, .int mv, .int md, .ref qMR, .ref qML, .ref qMP, .int mu, .ref qMY, .ref qMF, .int mo, .int mf])), (qMT, .inl (G.2.1, 16, .inl mT)), (qMW, .inl (G.2.1, 16, .inl mW)), (qMK, .inl (G.2.2.2.1, 16, .inl mK)), (qMR, .inl (G.2.2.2.1, 16, .inl t_41.2.1)), (qML, .inl (G.2.1, 16, .inl t_41.2.2))] H → va_D A [(qM, .inr (8, [.int mt, .int mw, .int mh, .int mg, .int ms, .ref qMT, .ref qMW, .ref qMK, .ref qMM, .int mv, .int md, .ref qMR, .ref qML, .ref qMP, .int mu, .ref qMY, .ref qMF, .int mo, .int mf])), (qMT, .inl (G.2.1, 16, .inl mT)), (qMW, .inl (G.2.1, 16, .inl mW)), (qMK, .inl (G.2.2.2.1, 16, .inl mK)), (qMR, .inl (G.2.2.2.1, 16, .inl t_41.2.1)), (qML, .inl (G.2.1, 16, .inl t_41.2.2))] → va_S A s.heap H locs → W p l e (headSpec wsX8_strikes rmX8_strikes).room s m ([.ref qM] : List Value).toArray below meth c H locs 0 0 Q (F0 m 107 ls [])) → W p l e (headSpec wsX8_strikes rmX8_strikes).room s m ([.ref qM] : List Value).toArray below meth c H locs 0 0 Q (F0 m 41 ls []) := by
            intro n
            induction n with
            | zero => 
              intro s105 s106 s107 s108 t_41 ls H locs hq hl hP hD hS kk41_107
              exact absurd hq kl_0
            | succ n ih41 =>
              intro s105 s106 s107 s108 t_41 ls H locs hq hl hP hD hS kk41_107
              obtain ⟨y_41, hq, hx41⟩ := kl_s hq
              have hq : kX8_strikes_s41 F mw mh mg mT mW s105 s106 s107 s108 = some y_41 := hq
              unfold kX8_strikes_s41 at hq
              refine lv_iload_n hx hb dX8_strikes_41 rfl (lv_at hl 2 rfl) ?_
              refine lv_aload_n hx hb dX8_strikes_42 rfl (lv_at hl 0 rfl) ?_
              obtain ⟨q109, eq109, hq⟩ := ob hq
              have hPc := hP.sub (ws' := [(qM, .inr (8, [.int mt, .int mw, .int mh, .int mg, .int ms, .ref qMT, .ref qMW, .ref qMK, .ref qMM, .int mv, .int md, .ref qMR, .ref qML, .ref qMP, .int mu, .ref qMY, .ref qMF, .int mo, .int mf]))]) [0] rfl
              have hKc := hK
              refine vp_callSi (va_Run.run (va_runV (As := []) (rest := [.int s106]) ⟨hx, hb, hml, hown, hts⟩ (tX8_cells G l eq109) (cwV 0 hts gX8_strikes_X8_cells rfl rfl rfl (by decide +kernel) ⟨Nat.le_of_ble_eq_true rfl, Nat.le_of_ble_eq_true rfl⟩) ⟨pcP_blind, va_recv hKc hPc (ci := 8) (q0 := 0) rfl rfl, pcP_pre hPc hKK⟩ rfl rfl hl.1 rfl (lv_room (Nat.le_of_ble_eq_true rfl)) dX8_strikes_43 ⟨Nat.zero_le _, Nat.zero_le _⟩)) (fun r0 hr0 => ?_)
              obtain rfl := hr0
              refine lv_icmp_ge (tgt := 107) hx hb dX8_strikes_46 (by decide) (fun c_46 => ?_) (fun c_46 => ?_)
              · have hq := k_t c_46 hq
                have et := kl_exit hq hx41
                subst et
                exact kk41_107 ls _ _ (lv_sub hl [0, 1] rfl) hP hD hS
              · have hq := k_f c_46 hq
                refine lv_iconst (v := 0) hx hb dX8_strikes_49 (by decide) ?_
                refine lv_istore_n (lv' := [(3, .int 0), (0, .ref qM), (1, .int s105), (2, .int s106)]) hx hb dX8_strikes_50 rfl hl (by decide) rfl (fun ls hl => ?_)
                have L51 : ∀ (n : Nat) (s122 : Int32) (s123 : Int32) (s124 : Nat → Int32) (s125 : Nat → Int32) (t_51 : Int32 × (Nat → Int32) × (Nat → Int32)) (ls : Array Slot) (H : Heap) (locs : List Loc), kloop n (fun s_ => kX8_strikes_s51 F mw mh mg mT mW s106 s_.1 s_.2.1 s_.2.2.1 s_.2.2.2) (s122, s123, s124, s125) = some t_51 → lv_has ls 4 [(0, .ref qM), (1, .int s122), (2, .int s106), (3, .int s123)] → va_P G.1 vwCl [(qM, .inr (8, [.int mt, .int mw, .int mh, .int mg, .int ms, .ref qMT, .ref qMW, .ref qMK, .ref qMM, .int mv, .int md, .ref qMR, .ref qML, .ref qMP, .int mu, .ref qMY, .ref qMF, .int mo, .int mf])), (qMT, .inl (G.2.1, 16, .inl mT)), (qMW, .inl (G.2.1, 16, .inl mW)), (qMK, .inl (G.2.2.2.1, 16, .inl mK)), (qMR, .inl (G.2.2.2.1, 16, .inl s124)), (qML, .inl (G.2.1, 16, .inl s125))] H → va_D A [(qM, .inr (8, [.int mt, .int mw, .int mh, .int mg, .int ms, .ref qMT, .ref qMW, .ref qMK, .ref qMM, .int mv, .int md, .ref qMR, .ref qML, .ref qMP, .int mu, .ref qMY, .ref qMF, .int mo, .int mf])), (qMT, .inl (G.2.1, 16, .inl mT)), (qMW, .inl (G.2.1, 16, .inl mW)), (qMK, .inl (G.2.2.2.1, 16, .inl mK)), (qMR, .inl (G.2.2.2.1, 16, .inl s124)), (qML, .inl (G.2.1, 16, .inl s125))] → va_S A s.heap H locs → (∀ (ls : Array Slot) (H : Heap) (locs : List Loc), lv_has ls 4 [(0, .ref qM), (1, .int t_51.1), (2, .int s106)] → va_P G.1 vwCl [(qM, .inr (8, [.int mt, .int mw, .int mh, .int mg, .int ms, .ref qMT, .ref qMW, .ref qMK, .ref qMM, .int mv, .int md, .ref qMR, .ref qML, .ref qMP, .int mu, .ref qMY, .ref qMF, .int mo, .int mf])), (qMT, .inl (G.2.1, 16, .inl mT)), (qMW, .inl (G.2.1, 16, .inl mW)), (qMK, .inl (G.2.2.2.1, 16, .inl mK)), (qMR, .inl (G.2.2.2.1, 16, .inl t_51.2.1)), (qML, .inl (G.2.1, 16, .inl t_51.2.2))] H → va_D A [(qM, .inr (8, [.int mt, .int mw, .int mh, .int mg, .int ms, .ref qMT, .ref qMW, .ref qMK, .ref qMM, .int mv, .int md, .ref qMR, .ref qML, .ref qMP, .int mu, .ref qMY, .ref qMF, .int mo, .int mf])), (qMT, .inl (G.2.1, 16, .inl mT)), (qMW, .inl (G.2.1, 16, .inl mW)), (qMK, .inl (G.2.2.2.1, 16, .inl mK)), (qMR, .inl (G.2.2.2.1, 16, .inl t_51.2.1)), (qML, .inl (G.2.1, 16, .inl t_51.2.2))] → va_S A s.heap H locs → W p l e (headSpec wsX8_strikes rmX8_strikes).room s m ([.ref qM] : List Value).toArray below meth c H locs 0 0 Q (F0 m 101 ls [])) → W p l e (headSpec wsX8_strikes rmX8_strikes).room s m ([.ref qM] : List Value).toArray below meth c H locs 0 0 Q (F0 m 51 ls []) := by
                  intro n
                  induction n with
                  | zero => 
                    intro s122 s123 s124 s125 t_51 ls H locs hq hl hP hD hS kk51_101
                    exact absurd hq kl_0
                  | succ n ih51 =>
                    intro s122 s123 s124 s125 t_51 ls H locs hq hl hP hD hS kk51_101
                    obtain ⟨y_51, hq, hx51⟩ := kl_s hq
                    have hq : kX8_strikes_s51 F mw mh mg mT mW s106 s122 s123 s124 s125 = some y_51 := hq
                    unfold kX8_strikes_s51 at hq
                    refine lv_iload_n hx hb dX8_strikes_51 rfl (lv_at hl 3 rfl) ?_
                    refine lv_iconst (v := 4) hx hb dX8_strikes_52 (by decide) ?_
                    refine lv_icmp_ge (tgt := 101) hx hb dX8_strikes_53 (by decide) (fun c_53 => ?_) (fun c_53 => ?_)
                    · have hq := k_t c_53 hq
                      have et := kl_exit hq hx51
                      subst et
                      exact kk51_101 ls _ _ (lv_sub hl [0, 1, 2] rfl) hP hD hS
                    · have hq := k_f c_53 hq
                      refine lv_aload_n hx hb dX8_strikes_56 rfl (lv_at hl 0 rfl) ?_
                      refine va_get (D := G.1) (ci := 8) (v := .ref qML) (C := RX8) (T := TX8) (N := 19) hx hb hts hi8 hown hK hP 0 rfl rfl 12 (by decide) hw0 (fun _ h9 => h9) rfl dX8_strikes_57 ?_
                      refine lv_iload_n hx hb dX8_strikes_60 rfl (lv_at hl 2 rfl) ?_
                      obtain ⟨hg, hq⟩ := k_g hq
                      refine va_iald hx hb hK hP 5 0 rfl rfl (ix_in hg) dX8_strikes_61 ?_
                      refine lv_iload_n hx hb dX8_strikes_62 rfl (lv_at hl 3 rfl) ?_
                      refine lv_ishr hx hb dX8_strikes_63 ?_
                      refine lv_iconst (v := 1) hx hb dX8_strikes_64 (by decide) ?_
                      refine lv_iand hx hb dX8_strikes_65 ?_
                      refine lv_iconst (v := 1) hx hb dX8_strikes_66 (by decide) ?_
                      refine lv_icmp_ne (tgt := 95) hx hb dX8_strikes_67 (by decide) (fun c_67 => ?_) (fun c_67 => ?_)
                      · have hq := k_f c_67 hq
                        refine lv_iinc (v := (s123 + 1)) (lv' := [(3, .int (s123 + 1)), (0, .ref qM), (1, .int s122), (2, .int s106)]) hx hb dX8_strikes_95 hl (k := 3) rfl rfl (by decide) rfl (fun ls hl => ?_)
                        refine lv_goto (tgt := 51) hx hb dX8_strikes_98 (by decide) ?_
                        exact ih51 s122 (s123 + 1) s124 s125 t_51 ls _ _ (kl_back hq hx51) (lv_sub hl [1, 2, 3, 0] rfl) hP hD hS kk51_101
                      · have hq := k_t c_67 hq
                        refine lv_aload_n hx hb dX8_strikes_70 rfl (lv_at hl 0 rfl) ?_
                        refine lv_iload_n hx hb dX8_strikes_71 rfl (lv_at hl 2 rfl) ?_
                        refine lv_iload_n hx hb dX8_strikes_72 rfl (lv_at hl 3 rfl) ?_
                        obtain ⟨q130, eq130, hq⟩ := ob hq
                        have hPc := hP.sub (ws' := [(qM, .inr (8, [.int mt, .int mw, .int mh, .int mg, .int ms, .ref qMT, .ref qMW, .ref qMK, .ref qMM, .int mv, .int md, .ref qMR, .ref qML, .ref qMP, .int mu, .ref qMY, .ref qMF, .int mo, .int mf])), (qMT, .inl (G.2.1, 16, .inl mT)), (qMW, .inl (G.2.1, 16, .inl mW)), (qMR, .inl (G.2.2.2.1, 16, .inl s124)), (qML, .inl (G.2.1, 16, .inl s125))]) [0, 1, 2, 4, 5] rfl
                        have hKc := hK
                        have hDc := hD.sub (ws' := [(qM, .inr (8, [.int mt, .int mw, .int mh, .int mg, .int ms, .ref qMT, .ref qMW, .ref qMK, .ref qMM, .int mv, .int md, .ref qMR, .ref qML, .ref qMP, .int mu, .ref qMY, .ref qMF, .int mo, .int mf])), (qMT, .inl (G.2.1, 16, .inl mT)), (qMW, .inl (G.2.1, 16, .inl mW)), (qMR, .inl (G.2.2.2.1, 16, .inl s124)), (qML, .inl (G.2.1, 16, .inl s125))]) [0, 1, 2, 4, 5] (by decide) rfl
                        have hFc := va_free (wc := [(qM, .inr (8, [.int mt, .int mw, .int mh, .int mg, .int ms, .ref qMT, .ref qMW, .ref qMK, .ref qMM, .int mv, .int md, .ref qMR, .ref qML, .ref qMP, .int mu, .ref qMY, .ref qMF, .int mo, .int mf])), (qMT, .inl (G.2.1, 16, .inl mT)), (qMW, .inl (G.2.1, 16, .inl mW)), (qMR, .inl (G.2.2.2.1, 16, .inl s124)), (qML, .inl (G.2.1, 16, .inl s125))]) hD hS hA [0, 1, 2, 4, 5] rfl
                        refine va_calli (va_runV (As := [.int s106, .int s123]) (rest := []) ⟨hx, hb, hml, hown, hts⟩ (tX8_isStruck G l eq130) (cwV 2 hts gX8_strikes_X8_isStruck rfl rfl rfl (by decide +kernel) ⟨Nat.le_of_ble_eq_true rfl, Nat.le_of_ble_eq_true rfl⟩) ⟨pcW_blind, va_recv hKc hPc (ci := 8) (q0 := 0) rfl rfl, pcW_pre hPc hKK hDc⟩ rfl rfl hl.1 rfl (lv_room (Nat.le_of_ble_eq_true rfl)) dX8_strikes_73 ⟨Nat.zero_le _, Nat.zero_le _⟩) hS (fun q _ h => hFc q h) hFc (fun r0 u t H1 locs ht hvm hw hB hz1 hk1 hS => ?_)
                        obtain rfl := hw
                        have hB := va_Pto ht hB
                        obtain ⟨hP, hD⟩ := jn (ws' := [(qM, .inr (8, [.int mt, .int mw, .int mh, .int mg, .int ms, .ref qMT, .ref qMW, .ref qMK, .ref qMM, .int mv, .int md, .ref qMR, .ref qML, .ref qMP, .int mu, .ref qMY, .ref qMF, .int mo, .int mf])), (qMT, .inl (G.2.1, 16, .inl mT)), (qMW, .inl (G.2.1, 16, .inl mW)), (qMK, .inl (G.2.2.2.1, 16, .inl mK)), (qMR, .inl (G.2.2.2.1, 16, .inl q130.2)), (qML, .inl (G.2.1, 16, .inl s125))]) hP hD hk1 hB [0, 1, 2, 4, 5] rfl rfl rfl rfl
                        generalize H1 = H at hP hS ⊢
                        refine lv_if_eq (tgt := 95) hx hb dX8_strikes_76 (by decide) (fun c_76 => ?_) (fun c_76 => ?_)
                        · have hq := k_t c_76 hq
                          refine lv_iinc (v := (s123 + 1)) (lv' := [(3, .int (s123 + 1)), (0, .ref qM), (1, .int s122), (2, .int s106)]) hx hb dX8_strikes_95 hl (k := 3) rfl rfl (by decide) rfl (fun ls hl => ?_)
                          refine lv_goto (tgt := 51) hx hb dX8_strikes_98 (by decide) ?_
                          exact ih51 s122 (s123 + 1) q130.2 s125 t_51 ls _ _ (kl_back hq hx51) (lv_sub hl [1, 2, 3, 0] rfl) hP hD hS kk51_101
                        · have hq := k_f c_76 hq
                          refine lv_aload_n hx hb dX8_strikes_79 rfl (lv_at hl 0 rfl) ?_
                          refine va_get (D := G.1) (ci := 8) (v := .ref qML) (C := RX8) (T := TX8) (N := 19) hx hb hts hi8 hown hK hP 0 rfl rfl 12 (by decide) hw0 (fun _ h9 => h9) rfl dX8_strikes_80 ?_
                          refine lv_iload_n hx hb dX8_strikes_83 rfl (lv_at hl 2 rfl) ?_
                          refine lv_dup2_11 hx hb dX8_strikes_84 rfl rfl ?_
                          obtain ⟨hg, hq⟩ := k_g hq
                          refine va_iald hx hb hK hP 5 0 rfl rfl (ix_in hg) dX8_strikes_85 ?_
                          refine lv_iconst (v := 1) hx hb dX8_strikes_86 (by decide) ?_
                          refine lv_iload_n hx hb dX8_strikes_87 rfl (lv_at hl 3 rfl) ?_
                          refine lv_ishl hx hb dX8_strikes_88 ?_
                          refine lv_iconst (v := (-1)) hx hb dX8_strikes_89 (by decide) ?_
                          refine lv_ixor hx hb dX8_strikes_90 ?_
                          refine lv_iand hx hb dX8_strikes_91 ?_
                          obtain ⟨hg, hq⟩ := k_g hq
                          refine va_iast hx hb hK hP hD hS 5 0 rfl rfl (ix_in hg) dX8_strikes_92 (fun H locs hP hD hS => ?_)
                          have hP : va_P G.1 vwCl [(qM, .inr (8, [.int mt, .int mw, .int mh, .int mg, .int ms, .ref qMT, .ref qMW, .ref qMK, .ref qMM, .int mv, .int md, .ref qMR, .ref qML, .ref qMP, .int mu, .ref qMY, .ref qMF, .int mo, .int mf])), (qMT, .inl (G.2.1, 16, .inl mT)), (qMW, .inl (G.2.1, 16, .inl mW)), (qMK, .inl (G.2.2.2.1, 16, .inl mK)), (qMR, .inl (G.2.2.2.1, 16, .inl q130.2)), (qML, .inl (G.2.1, 16, .inl (upd s125 s106.toNatClampNeg ((s125 s106.toNatClampNeg) &&& (((1 : Int32) <<< (s123 &&& 31)) ^^^ (-1))))))] H := hP
                          have hD : va_D A [(qM, .inr (8, [.int mt, .int mw, .int mh, .int mg, .int ms, .ref qMT, .ref qMW, .ref qMK, .ref qMM, .int mv, .int md, .ref qMR, .ref qML, .ref qMP, .int mu, .ref qMY, .ref qMF, .int mo, .int mf])), (qMT, .inl (G.2.1, 16, .inl mT)), (qMW, .inl (G.2.1, 16, .inl mW)), (qMK, .inl (G.2.2.2.1, 16, .inl mK)), (qMR, .inl (G.2.2.2.1, 16, .inl q130.2)), (qML, .inl (G.2.1, 16, .inl (upd s125 s106.toNatClampNeg ((s125 s106.toNatClampNeg) &&& (((1 : Int32) <<< (s123 &&& 31)) ^^^ (-1))))))] := hD
                          refine lv_iconst (v := 1) hx hb dX8_strikes_93 (by decide) ?_
                          refine lv_istore_n (lv' := [(1, .int 1), (0, .ref qM), (2, .int s106), (3, .int s123)]) hx hb dX8_strikes_94 rfl hl (by decide) rfl (fun ls hl => ?_)
                          refine lv_iinc (v := (s123 + 1)) (lv' := [(3, .int (s123 + 1)), (1, .int 1), (0, .ref qM), (2, .int s106)]) hx hb dX8_strikes_95 hl (k := 3) rfl rfl (by decide) rfl (fun ls hl => ?_)
                          refine lv_goto (tgt := 51) hx hb dX8_strikes_98 (by decide) ?_
                          exact ih51 1 (s123 + 1) q130.2 (upd s125 s106.toNatClampNeg ((s125 s106.toNatClampNeg) &&& (((1 : Int32) <<< (s123 &&& 31)) ^^^ (-1)))) t_51 ls _ _ (kl_back hq hx51) (lv_sub hl [2, 1, 3, 0] rfl) hP hD hS kk51_101
                obtain ⟨q133, eq133, hq⟩ := ob hq
                refine L51 F s105 0 s107 s108 q133 ls _ _ (eq133) (lv_sub hl [1, 2, 3, 0] rfl) hP hD hS (fun ls H locs hl hP hD hS => ?_)
                · refine lv_iinc (v := (s106 + 1)) (lv' := [(2, .int (s106 + 1)), (0, .ref qM), (1, .int q133.1)]) hx hb dX8_strikes_101 hl (k := 2) rfl rfl (by decide) rfl (fun ls hl => ?_)
                  refine lv_goto (tgt := 41) hx hb dX8_strikes_104 (by decide) ?_
                  exact ih41 q133.1 (s106 + 1) q133.2.1 q133.2.2 t_41 ls _ _ (kl_back hq hx41) (lv_sub hl [1, 2, 0] rfl) hP hD hS kk41_107
          obtain ⟨q134, eq134, hq⟩ := ob hq
          refine L41 F 0 0 s74 s75 q134 ls _ _ (eq134) (lv_sub hl [2, 1, 0] rfl) hP hD hS (fun ls H locs hl hP hD hS => ?_)
          · refine lv_goto (tgt := 33) hx hb dX8_strikes_107 (by decide) ?_
            exact ih33 q134.1 q134.2.1 q134.2.2 t_33 ls _ _ (kl_back hq hx33) (lv_sub hl [0, 1] rfl) hP hD hS kk33_110
    obtain ⟨q135, eq135, hq⟩ := ob hq
    refine L33 F 1 mR q10 q135 ls _ _ (eq135) (lv_sub hl [1, 0] rfl) hP hD hS (fun ls H locs hl hP hD hS => ?_)
    · obtain rfl := Option.some.inj hq
      rw [hQ]
      exact W.vret hx hb hr (fun t ht hW => ⟨⟨(), rfl, trivial, va_Pat ht hP⟩, hS.F ht⟩) hS.2.2 dX8_strikes_110

abbrev rmX8_lays : Room := { frames := 6, cells := 0, slots := 0, locals := 151 }
set_option maxHeartbeats 40000000 in
set_option maxRecDepth 100000 in
theorem tX8_lays (G : GG) (l : Launch) {qM qMT qMW qMK qMM qMR qML qMP qMY qMF : Nat} {mt : Int32} {mw : Int32} {mh : Int32} {mg : Int32} {ms : Int32} {mv : Int32} {md : Int32} {mu : Int32} {mo : Int32} {mf : Int32} {mT : Nat → Int32} {mW : Nat → Int32} {mK : Nat → Int32} {mR : Nat → Int32} {mL : Nat → Int32} {x1 : Int32} {sz : Nat} {F : Nat} {r : Int32 × Int32 × (Nat → Int32) × (Nat → Int32)} (hq : kX8_lays F mt mw mh mg mT mW mK mR mL x1 = some r) : Met l yX8_lays wsX8_lays rmX8_lays (pcW G [(qM, .inr (8, [.int mt, .int mw, .int mh, .int mg, .int ms, .ref qMT, .ref qMW, .ref qMK, .ref qMM, .int mv, .int md, .ref qMR, .ref qML, .ref qMP, .int mu, .ref qMY, .ref qMF, .int mo, .int mf])), (qMT, .inl (G.2.1, 16, .inl mT)), (qMW, .inl (G.2.1, 16, .inl mW)), (qMK, .inl (G.2.2.2.1, 16, .inl mK)), (qMR, .inl (G.2.2.2.1, 16, .inl mR)), (qML, .inl (G.2.1, 16, .inl mL))] sz [.ref qM, .int x1]) (qcI G r.1 [(qM, .inr (8, [.int r.2.1, .int mw, .int mh, .int mg, .int ms, .ref qMT, .ref qMW, .ref qMK, .ref qMM, .int mv, .int md, .ref qMR, .ref qML, .ref qMP, .int mu, .ref qMY, .ref qMF, .int mo, .int mf])), (qMT, .inl (G.2.1, 16, .inl mT)), (qMW, .inl (G.2.1, 16, .inl mW)), (qMK, .inl (G.2.2.2.1, 16, .inl mK)), (qMR, .inl (G.2.2.2.1, 16, .inl r.2.2.1)), (qML, .inl (G.2.1, 16, .inl r.2.2.2))] (va_A [(qM, .inr (8, [.int mt, .int mw, .int mh, .int mg, .int ms, .ref qMT, .ref qMW, .ref qMK, .ref qMM, .int mv, .int md, .ref qMR, .ref qML, .ref qMP, .int mu, .ref qMY, .ref qMF, .int mo, .int mf])), (qMT, .inl (G.2.1, 16, .inl mT)), (qMW, .inl (G.2.1, 16, .inl mW)), (qMK, .inl (G.2.2.2.1, 16, .inl mK)), (qMR, .inl (G.2.2.2.1, 16, .inl mR)), (qML, .inl (G.2.1, 16, .inl mL))] sz)) 0 0 (va_A [(qM, .inr (8, [.int mt, .int mw, .int mh, .int mg, .int ms, .ref qMT, .ref qMW, .ref qMK, .ref qMM, .int mv, .int md, .ref qMR, .ref qML, .ref qMP, .int mu, .ref qMY, .ref qMF, .int mo, .int mf])), (qMT, .inl (G.2.1, 16, .inl mT)), (qMW, .inl (G.2.1, 16, .inl mW)), (qMK, .inl (G.2.2.2.1, 16, .inl mK)), (qMR, .inl (G.2.2.2.1, 16, .inl mR)), (qML, .inl (G.2.1, 16, .inl mL))] sz) := by
  refine Met.ofW (cc := cX8_lays) (maxL := 2) (ret := (some .int)) (by decide) rfl ?_
  intro p e s m args below meth c s₁ B hml hv
  obtain ⟨rfl, hsz, hP, hKK, hD0⟩ := hv
  have hK := hKK.1
  have hx := B.exec
  have hb := B.bytes
  have hr := B.returns
  have hts := atoms_spec (ws := wsX8_lays) B.pre
  have hown : s.vm.findClass RX8 = some m.cls := findClass_of_methodNamed B.named
  have hlocks := B.notSynchronized
  subst hsz
  have hD := hD0.self (sz := s.heap.size)
  generalize hAe : va_A [(qM, .inr (8, [.int mt, .int mw, .int mh, .int mg, .int ms, .ref qMT, .ref qMW, .ref qMK, .ref qMM, .int mv, .int md, .ref qMR, .ref qML, .ref qMP, .int mu, .ref qMY, .ref qMF, .int mo, .int mf])), (qMT, .inl (G.2.1, 16, .inl mT)), (qMW, .inl (G.2.1, 16, .inl mW)), (qMK, .inl (G.2.2.2.1, 16, .inl mK)), (qMR, .inl (G.2.2.2.1, 16, .inl mR)), (qML, .inl (G.2.1, 16, .inl mL))] s.heap.size = A at hD ⊢
  have hA : ∀ q : Nat, s.heap.size ≤ q → A q := fun q h => by rw [← hAe]; exact Or.inr h
  have hS : va_S A s.heap s.heap [] := va_S.rf
  have hl := lv_entry ([.ref qM, .int x1] : List Value) (n := 2) (Nat.le_of_ble_eq_true rfl)
  rw [lg_entry_eq]
  generalize (lg_sl ([.ref qM, .int x1] : List Value) ++ List.replicate (2 - (lg_sl ([.ref qM, .int x1] : List Value)).length) Slot.unset).toArray = ls at hl ⊢
  have hl : lv_has ls 2 [(0, .ref qM), (1, .int x1)] := hl
  have hi8 : ∀ w ∈ u_ws RX8 TX8 19, w ∈ wsX8_lays := by decide +kernel
  have hw0 : (Cond.fieldLink RX8 33 "NetPlumberModel" "left" "[I").before #[Value.ref qM, Value.int x1] s = true := hts _ (by decide +kernel)
  refine wq (fun Q hQ => ?_)
  unfold kX8_lays at hq
  refine lv_aload_n hx hb dX8_lays_0 rfl (lv_at hl 0 rfl) ?_
  refine lv_aload_n hx hb dX8_lays_1 rfl (lv_at hl 0 rfl) ?_
  refine lv_iload_n hx hb dX8_lays_2 rfl (lv_at hl 1 rfl) ?_
  obtain ⟨q1, eq1, hq⟩ := ob hq
  have hPc := hP.sub (ws' := [(qM, .inr (8, [.int mt, .int mw, .int mh, .int mg, .int ms, .ref qMT, .ref qMW, .ref qMK, .ref qMM, .int mv, .int md, .ref qMR, .ref qML, .ref qMP, .int mu, .ref qMY, .ref qMF, .int mo, .int mf]))]) [0] rfl
  have hKc := hK
  refine vp_callSi (va_Run.run (va_runV (As := [.int x1]) (rest := [.ref qM]) ⟨hx, hb, hml, hown, hts⟩ (tX8_isCell G l eq1) (cwV 1 hts gX8_lays_X8_isCell rfl rfl rfl (by decide +kernel) ⟨Nat.le_of_ble_eq_true rfl, Nat.le_of_ble_eq_true rfl⟩) ⟨pcP_blind, va_recv hKc hPc (ci := 8) (q0 := 0) rfl rfl, pcP_pre hPc hKK⟩ rfl rfl hl.1 rfl (lv_room (Nat.le_of_ble_eq_true rfl)) dX8_lays_3 ⟨Nat.zero_le _, Nat.zero_le _⟩)) (fun r0 hr0 => ?_)
  obtain rfl := hr0
  have J14 : ∀ (v2 : Int32) (ls : Array Slot) (H : Heap) (locs : List Loc), kX8_lays_j14 F mt mw mh mg mT mW mK mR mL x1 v2 = some r → lv_has ls 2 [(0, .ref qM), (1, .int x1)] → va_P G.1 vwCl [(qM, .inr (8, [.int mt, .int mw, .int mh, .int mg, .int ms, .ref qMT, .ref qMW, .ref qMK, .ref qMM, .int mv, .int md, .ref qMR, .ref qML, .ref qMP, .int mu, .ref qMY, .ref qMF, .int mo, .int mf])), (qMT, .inl (G.2.1, 16, .inl mT)), (qMW, .inl (G.2.1, 16, .inl mW)), (qMK, .inl (G.2.2.2.1, 16, .inl mK)), (qMR, .inl (G.2.2.2.1, 16, .inl mR)), (qML, .inl (G.2.1, 16, .inl mL))] H → va_D A [(qM, .inr (8, [.int mt, .int mw, .int mh, .int mg, .int ms, .ref qMT, .ref qMW, .ref qMK, .ref qMM, .int mv, .int md, .ref qMR, .ref qML, .ref qMP, .int mu, .ref qMY, .ref qMF, .int mo, .int mf])), (qMT, .inl (G.2.1, 16, .inl mT)), (qMW, .inl (G.2.1, 16, .inl mW)), (qMK, .inl (G.2.2.2.1, 16, .inl mK)), (qMR, .inl (G.2.2.2.1, 16, .inl mR)), (qML, .inl (G.2.1, 16, .inl mL))] → va_S A s.heap H locs → W p l e (headSpec wsX8_lays rmX8_lays).room s m ([.ref qM, .int x1] : List Value).toArray below meth c H locs 0 0 Q (F0 m 14 ls [.int v2, .ref qM]) := by
    intro v2 ls H locs hq hl hP hD hS
    unfold kX8_lays_j14 at hq
    obtain ⟨q3, eq3, hq⟩ := ob hq
    have hPc := hP.sub (ws' := [(qM, .inr (8, [.int mt, .int mw, .int mh, .int mg, .int ms, .ref qMT, .ref qMW, .ref qMK, .ref qMM, .int mv, .int md, .ref qMR, .ref qML, .ref qMP, .int mu, .ref qMY, .ref qMF, .int mo, .int mf]))]) [0] rfl
    have hKc := hK
    have hDc := hD.sub (ws' := [(qM, .inr (8, [.int mt, .int mw, .int mh, .int mg, .int ms, .ref qMT, .ref qMW, .ref qMK, .ref qMM, .int mv, .int md, .ref qMR, .ref qML, .ref qMP, .int mu, .ref qMY, .ref qMF, .int mo, .int mf]))]) [0] (by decide) rfl
    have hFc := va_free (wc := [(qM, .inr (8, [.int mt, .int mw, .int mh, .int mg, .int ms, .ref qMT, .ref qMW, .ref qMK, .ref qMM, .int mv, .int md, .ref qMR, .ref qML, .ref qMP, .int mu, .ref qMY, .ref qMF, .int mo, .int mf]))]) hD hS hA [0] rfl
    refine va_calli (va_runV (As := [.int v2]) (rest := []) ⟨hx, hb, hml, hown, hts⟩ (tX8_holds G l eq3) (cwV 1 hts gX8_lays_X8_holds rfl rfl rfl (by decide +kernel) ⟨Nat.le_of_ble_eq_true rfl, Nat.le_of_ble_eq_true rfl⟩) ⟨pcW_blind, va_recv hKc hPc (ci := 8) (q0 := 0) rfl rfl, pcW_pre hPc hKK hDc⟩ rfl rfl hl.1 rfl (lv_room (Nat.le_of_ble_eq_true rfl)) dX8_lays_14 ⟨Nat.zero_le _, Nat.zero_le _⟩) hS (fun q _ h => hFc q h) hFc (fun r0 u t H1 locs ht hvm hw hB hz1 hk1 hS => ?_)
    obtain rfl := hw
    have hB := va_Pto ht hB
    obtain ⟨hP, hD⟩ := jn (ws' := [(qM, .inr (8, [.int q3.2, .int mw, .int mh, .int mg, .int ms, .ref qMT, .ref qMW, .ref qMK, .ref qMM, .int mv, .int md, .ref qMR, .ref qML, .ref qMP, .int mu, .ref qMY, .ref qMF, .int mo, .int mf])), (qMT, .inl (G.2.1, 16, .inl mT)), (qMW, .inl (G.2.1, 16, .inl mW)), (qMK, .inl (G.2.2.2.1, 16, .inl mK)), (qMR, .inl (G.2.2.2.1, 16, .inl mR)), (qML, .inl (G.2.1, 16, .inl mL))]) hP hD hk1 hB [0] rfl rfl rfl rfl
    generalize H1 = H at hP hS ⊢
    refine lv_if_ne (tgt := 22) hx hb dX8_lays_17 (by decide) (fun c_17 => ?_) (fun c_17 => ?_)
    · have hq := k_f c_17 hq
      refine lv_aload_n hx hb dX8_lays_22 rfl (lv_at hl 0 rfl) ?_
      obtain ⟨q4, eq4, hq⟩ := ob hq
      have hPc := hP.sub (ws' := [(qM, .inr (8, [.int q3.2, .int mw, .int mh, .int mg, .int ms, .ref qMT, .ref qMW, .ref qMK, .ref qMM, .int mv, .int md, .ref qMR, .ref qML, .ref qMP, .int mu, .ref qMY, .ref qMF, .int mo, .int mf])), (qMT, .inl (G.2.1, 16, .inl mT)), (qMW, .inl (G.2.1, 16, .inl mW)), (qMK, .inl (G.2.2.2.1, 16, .inl mK)), (qMR, .inl (G.2.2.2.1, 16, .inl mR)), (qML, .inl (G.2.1, 16, .inl mL))]) [0, 1, 2, 3, 4, 5] rfl
      have hKc := hK
      have hDc := hD.sub (ws' := [(qM, .inr (8, [.int q3.2, .int mw, .int mh, .int mg, .int ms, .ref qMT, .ref qMW, .ref qMK, .ref qMM, .int mv, .int md, .ref qMR, .ref qML, .ref qMP, .int mu, .ref qMY, .ref qMF, .int mo, .int mf])), (qMT, .inl (G.2.1, 16, .inl mT)), (qMW, .inl (G.2.1, 16, .inl mW)), (qMK, .inl (G.2.2.2.1, 16, .inl mK)), (qMR, .inl (G.2.2.2.1, 16, .inl mR)), (qML, .inl (G.2.1, 16, .inl mL))]) [0, 1, 2, 3, 4, 5] (by decide) rfl
      have hFc := va_free (wc := [(qM, .inr (8, [.int q3.2, .int mw, .int mh, .int mg, .int ms, .ref qMT, .ref qMW, .ref qMK, .ref qMM, .int mv, .int md, .ref qMR, .ref qML, .ref qMP, .int mu, .ref qMY, .ref qMF, .int mo, .int mf])), (qMT, .inl (G.2.1, 16, .inl mT)), (qMW, .inl (G.2.1, 16, .inl mW)), (qMK, .inl (G.2.2.2.1, 16, .inl mK)), (qMR, .inl (G.2.2.2.1, 16, .inl mR)), (qML, .inl (G.2.1, 16, .inl mL))]) hD hS hA [0, 1, 2, 3, 4, 5] rfl
      refine va_callv (va_runV (As := []) (rest := []) ⟨hx, hb, hml, hown, hts⟩ (tX8_strikes G l eq4) (cwV 0 hts gX8_lays_X8_strikes rfl rfl rfl (by decide +kernel) ⟨Nat.le_of_ble_eq_true rfl, Nat.le_of_ble_eq_true rfl⟩) ⟨pcW_blind, va_recv hKc hPc (ci := 8) (q0 := 0) rfl rfl, pcW_pre hPc hKK hDc⟩ rfl rfl hl.1 rfl (lv_room (Nat.le_of_ble_eq_true rfl)) dX8_lays_23 ⟨Nat.zero_le _, Nat.zero_le _⟩) hS (fun q _ h => hFc q h) hFc (fun u t H1 locs ht hvm hw hB hz1 hk1 hS => ?_)
      have hB := va_Pto ht hB
      obtain ⟨hP, hD⟩ := jn (ws' := [(qM, .inr (8, [.int q3.2, .int mw, .int mh, .int mg, .int ms, .ref qMT, .ref qMW, .ref qMK, .ref qMM, .int mv, .int md, .ref qMR, .ref qML, .ref qMP, .int mu, .ref qMY, .ref qMF, .int mo, .int mf])), (qMT, .inl (G.2.1, 16, .inl mT)), (qMW, .inl (G.2.1, 16, .inl mW)), (qMK, .inl (G.2.2.2.1, 16, .inl mK)), (qMR, .inl (G.2.2.2.1, 16, .inl q4.1)), (qML, .inl (G.2.1, 16, .inl q4.2))]) hP hD hk1 hB [0, 1, 2, 3, 4, 5] rfl rfl rfl rfl
      generalize H1 = H at hP hS ⊢
      refine lv_aload_n hx hb dX8_lays_26 rfl (lv_at hl 0 rfl) ?_
      refine va_get (D := G.1) (ci := 8) (v := .ref qML) (C := RX8) (T := TX8) (N := 19) hx hb hts hi8 hown hK hP 0 rfl rfl 12 (by decide) hw0 (fun _ h9 => h9) rfl dX8_lays_27 ?_
      refine lv_iload_n hx hb dX8_lays_30 rfl (lv_at hl 1 rfl) ?_
      obtain ⟨hg, hq⟩ := k_g hq
      refine va_iald hx hb hK hP 5 0 rfl rfl (ix_in hg) dX8_lays_31 ?_
      obtain rfl := Option.some.inj hq
      rw [hQ]
      exact W.iret hx hb hr (fun t ht hW => ⟨⟨_, (), rfl, rfl, va_Pat ht hP⟩, hS.F ht⟩) hS.2.2 dX8_lays_32
    · have hq := k_t c_17 hq
      refine lv_iconst (v := 0) hx hb dX8_lays_20 (by decide) ?_
      obtain rfl := Option.some.inj hq
      rw [hQ]
      exact W.iret hx hb hr (fun t ht hW => ⟨⟨_, (), rfl, rfl, va_Pat ht hP⟩, hS.F ht⟩) hS.2.2 dX8_lays_21
  refine lv_if_eq (tgt := 13) hx hb dX8_lays_6 (by decide) (fun c_6 => ?_) (fun c_6 => ?_)
  · have hq := k_t c_6 hq
    refine lv_iconst (v := 1) hx hb dX8_lays_13 (by decide) ?_
    exact J14 1 ls _ _ hq (lv_sub hl [0, 1] rfl) hP hD hS
  · have hq := k_f c_6 hq
    refine lv_iconst (v := 0) hx hb dX8_lays_9 (by decide) ?_
    refine lv_goto (tgt := 14) hx hb dX8_lays_10 (by decide) ?_
    exact J14 0 ls _ _ hq (lv_sub hl [0, 1] rfl) hP hD hS

abbrev rmX8_fits : Room := { frames := 1, cells := 0, slots := 0, locals := 25 }
set_option maxHeartbeats 40000000 in
set_option maxRecDepth 100000 in
theorem tX8_fits (G : GG) (l : Launch) {qM qMT qMW qMK qMM qMR qML qMP qMY qMF : Nat} {mt : Int32} {mw : Int32} {mh : Int32} {mg : Int32} {ms : Int32} {mv : Int32} {md : Int32} {mu : Int32} {mo : Int32} {mf : Int32} {mT : Nat → Int32} {mW : Nat → Int32} {mY : Nat → Int32} {x1 : Int32} {F : Nat} {r : Int32} (hq : kX8_fits F mw mh mg mT mW mY x1 = some r) : Met l yX8_fits wsX8_fits rmX8_fits (pcP G [(qM, .inr (8, [.int mt, .int mw, .int mh, .int mg, .int ms, .ref qMT, .ref qMW, .ref qMK, .ref qMM, .int mv, .int md, .ref qMR, .ref qML, .ref qMP, .int mu, .ref qMY, .ref qMF, .int mo, .int mf])), (qMT, .inl (G.2.1, 16, .inl mT)), (qMW, .inl (G.2.1, 16, .inl mW)), (qMY, .inl (G.2.1, 16, .inl mY))] [.ref qM, .int x1]) (vp_Si (fun x => r = x)) 0 0 (fun _ => False) := by
  refine Met.ofW (cc := cX8_fits) (maxL := 8) (ret := (some .boolean)) (by decide) rfl ?_
  intro p e s m args below meth c s₁ B hml hv
  obtain ⟨rfl, hP, hKK⟩ := hv
  have hK := hKK.1
  have hx := B.exec
  have hb := B.bytes
  have hr := B.returns
  have hts := atoms_spec (ws := wsX8_fits) B.pre
  have hown : s.vm.findClass RX8 = some m.cls := findClass_of_methodNamed B.named
  have hlocks := B.notSynchronized
  have hl := lv_entry ([.ref qM, .int x1] : List Value) (n := 8) (Nat.le_of_ble_eq_true rfl)
  rw [lg_entry_eq]
  generalize (lg_sl ([.ref qM, .int x1] : List Value) ++ List.replicate (8 - (lg_sl ([.ref qM, .int x1] : List Value)).length) Slot.unset).toArray = ls at hl ⊢
  have hl : lv_has ls 8 [(0, .ref qM), (1, .int x1)] := hl
  have hi8 : ∀ w ∈ u_ws RX8 TX8 19, w ∈ wsX8_fits := by decide +kernel
  have hw0 : (Cond.fieldLink RX8 16 "NetPlumberModel" "tiles" "[I").before #[Value.ref qM, Value.int x1] s = true := hts _ (by decide +kernel)
  have hw1 : (Cond.fieldLink RX8 39 "NetPlumberModel" "lay" "[I").before #[Value.ref qM, Value.int x1] s = true := hts _ (by decide +kernel)
  refine wq (fun Q hQ => ?_)
  unfold kX8_fits at hq
  refine lv_aload_n hx hb dX8_fits_0 rfl (lv_at hl 0 rfl) ?_
  refine va_get (D := G.1) (ci := 8) (v := .ref qMT) (C := RX8) (T := TX8) (N := 19) hx hb hts hi8 hown hK hP 0 rfl rfl 5 (by decide) hw0 (fun _ h9 => h9) rfl dX8_fits_1 ?_
  refine lv_iload_n hx hb dX8_fits_4 rfl (lv_at hl 1 rfl) ?_
  obtain ⟨hg, hq⟩ := k_g hq
  refine va_iald hx hb hK hP 1 0 rfl rfl (ix_in hg) dX8_fits_5 ?_
  refine lv_aload_n hx hb dX8_fits_6 rfl (lv_at hl 0 rfl) ?_
  refine va_get (D := G.1) (ci := 8) (v := .ref qMY) (C := RX8) (T := TX8) (N := 19) hx hb hts hi8 hown hK hP 0 rfl rfl 15 (by decide) hw1 (fun _ h9 => h9) rfl dX8_fits_7 ?_
  refine lv_iload_n hx hb dX8_fits_10 rfl (lv_at hl 1 rfl) ?_
  obtain ⟨hg, hq⟩ := k_g hq
  refine va_iald hx hb hK hP 3 0 rfl rfl (ix_in hg) dX8_fits_11 ?_
  obtain ⟨q1, eq1, hq⟩ := ob hq
  have hPc := hP.sub (ws' := []) [] rfl
  refine vp_callSi (va_Run.run (va_runS (As := [.int (mT x1.toNatClampNeg), .int (mY x1.toNatClampNeg)]) (rest := []) ⟨hx, hb, hml, hown, hts⟩ (tX8_turned G l eq1) (va_cwS 2 hts gX8_fits_X8_turned rfl rfl rfl (by decide +kernel) ⟨Nat.le_of_ble_eq_true rfl, Nat.le_of_ble_eq_true rfl⟩) ⟨pcP_blind, pcP_pre hPc hKK⟩ rfl rfl hl.1 rfl (lv_room (Nat.le_of_ble_eq_true rfl)) dX8_fits_12 ⟨Nat.zero_le _, Nat.zero_le _⟩)) (fun r0 hr0 => ?_)
  obtain rfl := hr0
  refine lv_istore_n (lv' := [(2, .int q1), (0, .ref qM), (1, .int x1)]) hx hb dX8_fits_15 rfl hl (by decide) rfl (fun ls hl => ?_)
  refine lv_iconst (v := 1) hx hb dX8_fits_16 (by decide) ?_
  refine lv_istore_n (lv' := [(3, .int 1), (2, .int q1), (0, .ref qM), (1, .int x1)]) hx hb dX8_fits_17 rfl hl (by decide) rfl (fun ls hl => ?_)
  refine lv_iconst (v := 0) hx hb dX8_fits_18 (by decide) ?_
  refine lv_istore (lv' := [(4, .int 0), (3, .int 1), (2, .int q1), (0, .ref qM), (1, .int x1)]) hx hb dX8_fits_19 hl (by decide) rfl (fun ls hl => ?_)
  have L21 : ∀ (n : Nat) (s22 : Int32) (s23 : Int32) (t_21 : Int32) (ls : Array Slot), kloop n (fun s_ => kX8_fits_s21 F mw mh mg mT mW mY x1 q1 s_.1 s_.2) (s22, s23) = some t_21 → lv_has ls 8 [(0, .ref qM), (1, .int x1), (2, .int q1), (3, .int s22), (4, .int s23)] → va_P G.1 vwCl [(qM, .inr (8, [.int mt, .int mw, .int mh, .int mg, .int ms, .ref qMT, .ref qMW, .ref qMK, .ref qMM, .int mv, .int md, .ref qMR, .ref qML, .ref qMP, .int mu, .ref qMY, .ref qMF, .int mo, .int mf])), (qMT, .inl (G.2.1, 16, .inl mT)), (qMW, .inl (G.2.1, 16, .inl mW)), (qMY, .inl (G.2.1, 16, .inl mY))] s.heap → (∀ (ls : Array Slot), lv_has ls 8 [(3, .int t_21)] → va_P G.1 vwCl [(qM, .inr (8, [.int mt, .int mw, .int mh, .int mg, .int ms, .ref qMT, .ref qMW, .ref qMK, .ref qMM, .int mv, .int md, .ref qMR, .ref qML, .ref qMP, .int mu, .ref qMY, .ref qMF, .int mo, .int mf])), (qMT, .inl (G.2.1, 16, .inl mT)), (qMW, .inl (G.2.1, 16, .inl mW)), (qMY, .inl (G.2.1, 16, .inl mY))] s.heap → W p l e (headSpec wsX8_fits rmX8_fits).room s m ([.ref qM, .int x1] : List Value).toArray below meth c s.heap [] 0 0 Q (F0 m 154 ls [])) → W p l e (headSpec wsX8_fits rmX8_fits).room s m ([.ref qM, .int x1] : List Value).toArray below meth c s.heap [] 0 0 Q (F0 m 21 ls []) := by
    intro n
    induction n with
    | zero => 
      intro s22 s23 t_21 ls hq hl hP kk21_154
      exact absurd hq kl_0
    | succ n ih21 =>
      intro s22 s23 t_21 ls hq hl hP kk21_154
      obtain ⟨y_21, hq, hx21⟩ := kl_s hq
      have hq : kX8_fits_s21 F mw mh mg mT mW mY x1 q1 s22 s23 = some y_21 := hq
      unfold kX8_fits_s21 at hq
      refine lv_iload hx hb dX8_fits_21 (lv_at hl 4 rfl) ?_
      refine lv_iconst (v := 4) hx hb dX8_fits_23 (by decide) ?_
      refine lv_icmp_ge (tgt := 154) hx hb dX8_fits_24 (by decide) (fun c_24 => ?_) (fun c_24 => ?_)
      · have hq := k_t c_24 hq
        have et := kl_exit hq hx21
        subst et
        exact kk21_154 ls (lv_sub hl [3] rfl) hP
      · have hq := k_f c_24 hq
        refine lv_iload_n hx hb dX8_fits_27 rfl (lv_at hl 3 rfl) ?_
        refine lv_if_eq (tgt := 154) hx hb dX8_fits_28 (by decide) (fun c_28 => ?_) (fun c_28 => ?_)
        · have hq := k_t c_28 hq
          have et := kl_exit hq hx21
          subst et
          exact kk21_154 ls (lv_sub hl [3] rfl) hP
        · have hq := k_f c_28 hq
          refine lv_aload_n hx hb dX8_fits_31 rfl (lv_at hl 0 rfl) ?_
          refine lv_iload_n hx hb dX8_fits_32 rfl (lv_at hl 1 rfl) ?_
          refine lv_iload hx hb dX8_fits_33 (lv_at hl 4 rfl) ?_
          obtain ⟨q24, eq24, hq⟩ := ob hq
          have hPc := hP.sub (ws' := [(qM, .inr (8, [.int mt, .int mw, .int mh, .int mg, .int ms, .ref qMT, .ref qMW, .ref qMK, .ref qMM, .int mv, .int md, .ref qMR, .ref qML, .ref qMP, .int mu, .ref qMY, .ref qMF, .int mo, .int mf]))]) [0] rfl
          have hKc := hK
          refine vp_callSi (va_Run.run (va_runV (As := [.int x1, .int s23]) (rest := []) ⟨hx, hb, hml, hown, hts⟩ (tX8_neighbourOf G l eq24) (cwV 2 hts gX8_fits_X8_neighbourOf rfl rfl rfl (by decide +kernel) ⟨Nat.le_of_ble_eq_true rfl, Nat.le_of_ble_eq_true rfl⟩) ⟨pcP_blind, va_recv hKc hPc (ci := 8) (q0 := 0) rfl rfl, pcP_pre hPc hKK⟩ rfl rfl hl.1 rfl (lv_room (Nat.le_of_ble_eq_true rfl)) dX8_fits_35 ⟨Nat.zero_le _, Nat.zero_le _⟩)) (fun r0 hr0 => ?_)
          obtain rfl := hr0
          refine lv_istore (lv' := [(5, .int q24), (0, .ref qM), (1, .int x1), (2, .int q1), (3, .int s22), (4, .int s23)]) hx hb dX8_fits_38 hl (by decide) rfl (fun ls hl => ?_)
          refine lv_iload hx hb dX8_fits_40 (lv_at hl 0 rfl) ?_
          refine lv_iconst (v := (-1)) hx hb dX8_fits_42 (by decide) ?_
          have J61 : ∀ (v26 : Int32) (ls : Array Slot), kX8_fits_j61 F mT mY x1 q1 s23 q24 v26 = some y_21 → lv_has ls 8 [(0, .ref qM), (1, .int x1), (2, .int q1), (4, .int s23), (5, .int q24)] → va_P G.1 vwCl [(qM, .inr (8, [.int mt, .int mw, .int mh, .int mg, .int ms, .ref qMT, .ref qMW, .ref qMK, .ref qMM, .int mv, .int md, .ref qMR, .ref qML, .ref qMP, .int mu, .ref qMY, .ref qMF, .int mo, .int mf])), (qMT, .inl (G.2.1, 16, .inl mT)), (qMW, .inl (G.2.1, 16, .inl mW)), (qMY, .inl (G.2.1, 16, .inl mY))] s.heap → W p l e (headSpec wsX8_fits rmX8_fits).room s m ([.ref qM, .int x1] : List Value).toArray below meth c s.heap [] 0 0 Q (F0 m 61 ls [.int v26]) := by
            intro v26 ls hq hl hP
            unfold kX8_fits_j61 at hq
            refine lv_istore (lv' := [(6, .int v26), (0, .ref qM), (1, .int x1), (2, .int q1), (4, .int s23), (5, .int q24)]) hx hb dX8_fits_61 hl (by decide) rfl (fun ls hl => ?_)
            refine lv_iload hx hb dX8_fits_63 (lv_at hl 0 rfl) ?_
            have J79 : ∀ (v27 : Int32) (ls : Array Slot), kX8_fits_j79 F mT mY q1 s23 q24 v26 v27 = some y_21 → lv_has ls 8 [(0, .ref qM), (1, .int x1), (2, .int q1), (4, .int s23), (5, .int q24), (6, .int v26)] → va_P G.1 vwCl [(qM, .inr (8, [.int mt, .int mw, .int mh, .int mg, .int ms, .ref qMT, .ref qMW, .ref qMK, .ref qMM, .int mv, .int md, .ref qMR, .ref qML, .ref qMP, .int mu, .ref qMY, .ref qMF, .int mo, .int mf])), (qMT, .inl (G.2.1, 16, .inl mT)), (qMW, .inl (G.2.1, 16, .inl mW)), (qMY, .inl (G.2.1, 16, .inl mY))] s.heap → W p l e (headSpec wsX8_fits rmX8_fits).room s m ([.ref qM, .int x1] : List Value).toArray below meth c s.heap [] 0 0 Q (F0 m 79 ls [.int v27]) := by
              intro v27 ls hq hl hP
              unfold kX8_fits_j79 at hq
              refine lv_istore (lv' := [(7, .int v27), (0, .ref qM), (1, .int x1), (2, .int q1), (4, .int s23), (5, .int q24), (6, .int v26)]) hx hb dX8_fits_79 hl (by decide) rfl (fun ls hl => ?_)
              refine lv_iload hx hb dX8_fits_81 (lv_at hl 6 rfl) ?_
              have J147 : ∀ (v33 : Int32) (ls : Array Slot), kX8_fits_j147 F s23 v33 = some y_21 → lv_has ls 8 [(0, .ref qM), (1, .int x1), (2, .int q1), (4, .int s23)] → va_P G.1 vwCl [(qM, .inr (8, [.int mt, .int mw, .int mh, .int mg, .int ms, .ref qMT, .ref qMW, .ref qMK, .ref qMM, .int mv, .int md, .ref qMR, .ref qML, .ref qMP, .int mu, .ref qMY, .ref qMF, .int mo, .int mf])), (qMT, .inl (G.2.1, 16, .inl mT)), (qMW, .inl (G.2.1, 16, .inl mW)), (qMY, .inl (G.2.1, 16, .inl mY))] s.heap → W p l e (headSpec wsX8_fits rmX8_fits).room s m ([.ref qM, .int x1] : List Value).toArray below meth c s.heap [] 0 0 Q (F0 m 147 ls [.int v33]) := by
                intro v33 ls hq hl hP
                unfold kX8_fits_j147 at hq
                refine lv_istore_n (lv' := [(3, .int v33), (0, .ref qM), (1, .int x1), (2, .int q1), (4, .int s23)]) hx hb dX8_fits_147 rfl hl (by decide) rfl (fun ls hl => ?_)
                refine lv_iinc (v := (s23 + 1)) (lv' := [(4, .int (s23 + 1)), (3, .int v33), (0, .ref qM), (1, .int x1), (2, .int q1)]) hx hb dX8_fits_148 hl (k := 4) rfl rfl (by decide) rfl (fun ls hl => ?_)
                refine lv_goto (tgt := 21) hx hb dX8_fits_151 (by decide) ?_
                exact ih21 v33 (s23 + 1) t_21 ls (kl_back hq hx21) (lv_sub hl [2, 3, 4, 1, 0] rfl) hP kk21_154
              refine lv_if_eq (tgt := 133) hx hb dX8_fits_83 (by decide) (fun c_83 => ?_) (fun c_83 => ?_)
              · have hq := k_t c_83 hq
                refine lv_iload_n hx hb dX8_fits_133 rfl (lv_at hl 3 rfl) ?_
                refine lv_iload hx hb dX8_fits_134 (lv_at hl 4 rfl) ?_
                obtain ⟨q34, eq34, hq⟩ := ob hq
                have hPc := hP.sub (ws' := []) [] rfl
                refine vp_callSi (va_Run.run (va_runS (As := [.int q1, .int s23]) (rest := []) ⟨hx, hb, hml, hown, hts⟩ (tX8_isOpen G l eq34) (va_cwS 2 hts gX8_fits_X8_isOpen rfl rfl rfl (by decide +kernel) ⟨Nat.le_of_ble_eq_true rfl, Nat.le_of_ble_eq_true rfl⟩) ⟨pcP_blind, pcP_pre hPc hKK⟩ rfl rfl hl.1 rfl (lv_room (Nat.le_of_ble_eq_true rfl)) dX8_fits_136 ⟨Nat.zero_le _, Nat.zero_le _⟩)) (fun r0 hr0 => ?_)
                obtain rfl := hr0
                refine lv_if_ne (tgt := 146) hx hb dX8_fits_139 (by decide) (fun c_139 => ?_) (fun c_139 => ?_)
                · have hq := k_f c_139 hq
                  refine lv_iconst (v := 0) hx hb dX8_fits_146 (by decide) ?_
                  exact J147 0 ls hq (lv_sub hl [1, 2, 3, 4] rfl) hP
                · have hq := k_t c_139 hq
                  refine lv_iconst (v := 1) hx hb dX8_fits_142 (by decide) ?_
                  refine lv_goto (tgt := 147) hx hb dX8_fits_143 (by decide) ?_
                  exact J147 1 ls hq (lv_sub hl [1, 2, 3, 4] rfl) hP
              · have hq := k_f c_83 hq
                refine lv_iload hx hb dX8_fits_86 (lv_at hl 0 rfl) ?_
                refine lv_if_eq (tgt := 125) hx hb dX8_fits_88 (by decide) (fun c_88 => ?_) (fun c_88 => ?_)
                · have hq := k_t c_88 hq
                  refine lv_iconst (v := 1) hx hb dX8_fits_125 (by decide) ?_
                  refine lv_goto (tgt := 147) hx hb dX8_fits_126 (by decide) ?_
                  exact J147 1 ls hq (lv_sub hl [1, 2, 3, 4] rfl) hP
                · have hq := k_f c_88 hq
                  refine lv_iload_n hx hb dX8_fits_91 rfl (lv_at hl 3 rfl) ?_
                  refine lv_iload hx hb dX8_fits_92 (lv_at hl 4 rfl) ?_
                  obtain ⟨q35, eq35, hq⟩ := ob hq
                  have hPc := hP.sub (ws' := []) [] rfl
                  refine vp_callSi (va_Run.run (va_runS (As := [.int q1, .int s23]) (rest := []) ⟨hx, hb, hml, hown, hts⟩ (tX8_isOpen G l eq35) (va_cwS 2 hts gX8_fits_X8_isOpen rfl rfl rfl (by decide +kernel) ⟨Nat.le_of_ble_eq_true rfl, Nat.le_of_ble_eq_true rfl⟩) ⟨pcP_blind, pcP_pre hPc hKK⟩ rfl rfl hl.1 rfl (lv_room (Nat.le_of_ble_eq_true rfl)) dX8_fits_94 ⟨Nat.zero_le _, Nat.zero_le _⟩)) (fun r0 hr0 => ?_)
                  obtain rfl := hr0
                  refine lv_aload_n hx hb dX8_fits_97 rfl (lv_at hl 1 rfl) ?_
                  refine va_get (D := G.1) (ci := 8) (v := .ref qMT) (C := RX8) (T := TX8) (N := 19) hx hb hts hi8 hown hK hP 0 rfl rfl 5 (by decide) hw0 (fun _ h9 => h9) rfl dX8_fits_98 ?_
                  refine lv_iload hx hb dX8_fits_101 (lv_at hl 5 rfl) ?_
                  obtain ⟨hg, hq⟩ := k_g hq
                  refine va_iald hx hb hK hP 1 0 rfl rfl (ix_in hg) dX8_fits_103 ?_
                  refine lv_aload_n hx hb dX8_fits_104 rfl (lv_at hl 1 rfl) ?_
                  refine va_get (D := G.1) (ci := 8) (v := .ref qMY) (C := RX8) (T := TX8) (N := 19) hx hb hts hi8 hown hK hP 0 rfl rfl 15 (by decide) hw1 (fun _ h9 => h9) rfl dX8_fits_105 ?_
                  refine lv_iload hx hb dX8_fits_108 (lv_at hl 5 rfl) ?_
                  obtain ⟨hg, hq⟩ := k_g hq
                  refine va_iald hx hb hK hP 3 0 rfl rfl (ix_in hg) dX8_fits_110 ?_
                  obtain ⟨q36, eq36, hq⟩ := ob hq
                  have hPc := hP.sub (ws' := []) [] rfl
                  refine vp_callSi (va_Run.run (va_runS (As := [.int (mT q24.toNatClampNeg), .int (mY q24.toNatClampNeg)]) (rest := [.int q35]) ⟨hx, hb, hml, hown, hts⟩ (tX8_turned G l eq36) (va_cwS 2 hts gX8_fits_X8_turned rfl rfl rfl (by decide +kernel) ⟨Nat.le_of_ble_eq_true rfl, Nat.le_of_ble_eq_true rfl⟩) ⟨pcP_blind, pcP_pre hPc hKK⟩ rfl rfl hl.1 rfl (lv_room (Nat.le_of_ble_eq_true rfl)) dX8_fits_111 ⟨Nat.zero_le _, Nat.zero_le _⟩)) (fun r0 hr0 => ?_)
                  obtain rfl := hr0
                  refine lv_iload hx hb dX8_fits_114 (lv_at hl 4 rfl) ?_
                  obtain ⟨q37, eq37, hq⟩ := ob hq
                  have hPc := hP.sub (ws' := []) [] rfl
                  refine vp_callSi (va_Run.run (va_runS (As := [.int s23]) (rest := [.int q36, .int q35]) ⟨hx, hb, hml, hown, hts⟩ (tX8_opposite G l eq37) (va_cwS 1 hts gX8_fits_X8_opposite rfl rfl rfl (by decide +kernel) ⟨Nat.le_of_ble_eq_true rfl, Nat.le_of_ble_eq_true rfl⟩) ⟨pcP_blind, pcP_pre hPc hKK⟩ rfl rfl hl.1 rfl (lv_room (Nat.le_of_ble_eq_true rfl)) dX8_fits_116 ⟨Nat.zero_le _, Nat.zero_le _⟩)) (fun r0 hr0 => ?_)
                  obtain rfl := hr0
                  obtain ⟨q38, eq38, hq⟩ := ob hq
                  have hPc := hP.sub (ws' := []) [] rfl
                  refine vp_callSi (va_Run.run (va_runS (As := [.int q36, .int q37]) (rest := [.int q35]) ⟨hx, hb, hml, hown, hts⟩ (tX8_isOpen G l eq38) (va_cwS 2 hts gX8_fits_X8_isOpen rfl rfl rfl (by decide +kernel) ⟨Nat.le_of_ble_eq_true rfl, Nat.le_of_ble_eq_true rfl⟩) ⟨pcP_blind, pcP_pre hPc hKK⟩ rfl rfl hl.1 rfl (lv_room (Nat.le_of_ble_eq_true rfl)) dX8_fits_119 ⟨Nat.zero_le _, Nat.zero_le _⟩)) (fun r0 hr0 => ?_)
                  obtain rfl := hr0
                  refine lv_icmp_ne (tgt := 129) hx hb dX8_fits_122 (by decide) (fun c_122 => ?_) (fun c_122 => ?_)
                  · have hq := k_f c_122 hq
                    refine lv_iconst (v := 0) hx hb dX8_fits_129 (by decide) ?_
                    refine lv_goto (tgt := 147) hx hb dX8_fits_130 (by decide) ?_
                    exact J147 0 ls hq (lv_sub hl [1, 2, 3, 4] rfl) hP
                  · have hq := k_t c_122 hq
                    refine lv_iconst (v := 1) hx hb dX8_fits_125 (by decide) ?_
                    refine lv_goto (tgt := 147) hx hb dX8_fits_126 (by decide) ?_
                    exact J147 1 ls hq (lv_sub hl [1, 2, 3, 4] rfl) hP
            refine lv_if_eq (tgt := 78) hx hb dX8_fits_65 (by decide) (fun c_65 => ?_) (fun c_65 => ?_)
            · have hq := k_t c_65 hq
              refine lv_iconst (v := 0) hx hb dX8_fits_78 (by decide) ?_
              exact J79 0 ls hq (lv_sub hl [1, 2, 3, 4, 5, 0] rfl) hP
            · have hq := k_f c_65 hq
              refine lv_iload hx hb dX8_fits_68 (lv_at hl 5 rfl) ?_
              refine lv_iload_n hx hb dX8_fits_70 rfl (lv_at hl 2 rfl) ?_
              refine lv_icmp_ge (tgt := 78) hx hb dX8_fits_71 (by decide) (fun c_71 => ?_) (fun c_71 => ?_)
              · have hq := k_t c_71 hq
                refine lv_iconst (v := 0) hx hb dX8_fits_78 (by decide) ?_
                exact J79 0 ls hq (lv_sub hl [1, 2, 3, 4, 5, 0] rfl) hP
              · have hq := k_f c_71 hq
                refine lv_iconst (v := 1) hx hb dX8_fits_74 (by decide) ?_
                refine lv_goto (tgt := 79) hx hb dX8_fits_75 (by decide) ?_
                exact J79 1 ls hq (lv_sub hl [1, 2, 3, 4, 5, 0] rfl) hP
          refine lv_icmp_eq (tgt := 60) hx hb dX8_fits_43 (by decide) (fun c_43 => ?_) (fun c_43 => ?_)
          · have hq := k_t c_43 hq
            refine lv_iconst (v := 0) hx hb dX8_fits_60 (by decide) ?_
            exact J61 0 ls hq (lv_sub hl [1, 2, 3, 5, 0] rfl) hP
          · have hq := k_f c_43 hq
            refine lv_aload_n hx hb dX8_fits_46 rfl (lv_at hl 1 rfl) ?_
            refine lv_iload_n hx hb dX8_fits_47 rfl (lv_at hl 2 rfl) ?_
            refine lv_iload hx hb dX8_fits_48 (lv_at hl 5 rfl) ?_
            obtain ⟨q39, eq39, hq⟩ := ob hq
            have hPc := hP.sub (ws' := [(qM, .inr (8, [.int mt, .int mw, .int mh, .int mg, .int ms, .ref qMT, .ref qMW, .ref qMK, .ref qMM, .int mv, .int md, .ref qMR, .ref qML, .ref qMP, .int mu, .ref qMY, .ref qMF, .int mo, .int mf])), (qMW, .inl (G.2.1, 16, .inl mW))]) [0, 2] rfl
            have hKc := hK
            refine vp_callSi (va_Run.run (va_runV (As := [.int x1, .int s23]) (rest := []) ⟨hx, hb, hml, hown, hts⟩ (tX8_hasWall G l eq39) (cwV 2 hts gX8_fits_X8_hasWall rfl rfl rfl (by decide +kernel) ⟨Nat.le_of_ble_eq_true rfl, Nat.le_of_ble_eq_true rfl⟩) ⟨pcP_blind, va_recv hKc hPc (ci := 8) (q0 := 0) rfl rfl, pcP_pre hPc hKK⟩ rfl rfl hl.1 rfl (lv_room (Nat.le_of_ble_eq_true rfl)) dX8_fits_50 ⟨Nat.zero_le _, Nat.zero_le _⟩)) (fun r0 hr0 => ?_)
            obtain rfl := hr0
            refine lv_if_ne (tgt := 60) hx hb dX8_fits_53 (by decide) (fun c_53 => ?_) (fun c_53 => ?_)
            · have hq := k_f c_53 hq
              refine lv_iconst (v := 0) hx hb dX8_fits_60 (by decide) ?_
              exact J61 0 ls hq (lv_sub hl [1, 2, 3, 5, 0] rfl) hP
            · have hq := k_t c_53 hq
              refine lv_iconst (v := 1) hx hb dX8_fits_56 (by decide) ?_
              refine lv_goto (tgt := 61) hx hb dX8_fits_57 (by decide) ?_
              exact J61 1 ls hq (lv_sub hl [1, 2, 3, 5, 0] rfl) hP
  obtain ⟨q40, eq40, hq⟩ := ob hq
  refine L21 F 1 0 q40 ls (eq40) (lv_sub hl [3, 4, 2, 1, 0] rfl) hP (fun ls hl hP => ?_)
  · refine lv_iload_n hx hb dX8_fits_154 rfl (lv_at hl 0 rfl) ?_
    obtain ⟨hg, hq⟩ := k_g hq
    obtain rfl := Option.some.inj hq
    rw [hQ]
    exact W.zret hx hb hr (isZ_n hg) (fun t ht hW => ⟨_, rfl, rfl, ht⟩) (fun _ h => absurd h List.not_mem_nil) dX8_fits_155

abbrev rmX8_isTree : Room := { frames := 1, cells := 0, slots := 0, locals := 25 }
set_option maxHeartbeats 40000000 in
set_option maxRecDepth 100000 in
theorem tX8_isTree (G : GG) (l : Launch) {qM qMT qMW qMK qMM qMR qML qMP qMY qMF : Nat} {mt : Int32} {mw : Int32} {mh : Int32} {mg : Int32} {ms : Int32} {mv : Int32} {md : Int32} {mu : Int32} {mo : Int32} {mf : Int32} {mT : Nat → Int32} {mR : Nat → Int32} {mY : Nat → Int32} {sz : Nat} {F : Nat} {r : Int32 × (Nat → Int32)} (hq : kX8_isTree F mw mh mg mT mR mY = some r) : Met l yX8_isTree wsX8_isTree rmX8_isTree (pcW G [(qM, .inr (8, [.int mt, .int mw, .int mh, .int mg, .int ms, .ref qMT, .ref qMW, .ref qMK, .ref qMM, .int mv, .int md, .ref qMR, .ref qML, .ref qMP, .int mu, .ref qMY, .ref qMF, .int mo, .int mf])), (qMT, .inl (G.2.1, 16, .inl mT)), (qMR, .inl (G.2.2.2.1, 16, .inl mR)), (qMY, .inl (G.2.1, 16, .inl mY))] sz [.ref qM]) (qcI G r.1 [(qM, .inr (8, [.int mt, .int mw, .int mh, .int mg, .int ms, .ref qMT, .ref qMW, .ref qMK, .ref qMM, .int mv, .int md, .ref qMR, .ref qML, .ref qMP, .int mu, .ref qMY, .ref qMF, .int mo, .int mf])), (qMT, .inl (G.2.1, 16, .inl mT)), (qMR, .inl (G.2.2.2.1, 16, .inl r.2)), (qMY, .inl (G.2.1, 16, .inl mY))] (va_A [(qM, .inr (8, [.int mt, .int mw, .int mh, .int mg, .int ms, .ref qMT, .ref qMW, .ref qMK, .ref qMM, .int mv, .int md, .ref qMR, .ref qML, .ref qMP, .int mu, .ref qMY, .ref qMF, .int mo, .int mf])), (qMT, .inl (G.2.1, 16, .inl mT)), (qMR, .inl (G.2.2.2.1, 16, .inl mR)), (qMY, .inl (G.2.1, 16, .inl mY))] sz)) 0 0 (va_A [(qM, .inr (8, [.int mt, .int mw, .int mh, .int mg, .int ms, .ref qMT, .ref qMW, .ref qMK, .ref qMM, .int mv, .int md, .ref qMR, .ref qML, .ref qMP, .int mu, .ref qMY, .ref qMF, .int mo, .int mf])), (qMT, .inl (G.2.1, 16, .inl mT)), (qMR, .inl (G.2.2.2.1, 16, .inl mR)), (qMY, .inl (G.2.1, 16, .inl mY))] sz) := by
  refine Met.ofW (cc := cX8_isTree) (maxL := 6) (ret := (some .boolean)) (by decide) rfl ?_
  intro p e s m args below meth c s₁ B hml hv
  obtain ⟨rfl, hsz, hP, hKK, hD0⟩ := hv
  have hK := hKK.1
  have hx := B.exec
  have hb := B.bytes
  have hr := B.returns
  have hts := atoms_spec (ws := wsX8_isTree) B.pre
  have hown : s.vm.findClass RX8 = some m.cls := findClass_of_methodNamed B.named
  have hlocks := B.notSynchronized
  subst hsz
  have hD := hD0.self (sz := s.heap.size)
  generalize hAe : va_A [(qM, .inr (8, [.int mt, .int mw, .int mh, .int mg, .int ms, .ref qMT, .ref qMW, .ref qMK, .ref qMM, .int mv, .int md, .ref qMR, .ref qML, .ref qMP, .int mu, .ref qMY, .ref qMF, .int mo, .int mf])), (qMT, .inl (G.2.1, 16, .inl mT)), (qMR, .inl (G.2.2.2.1, 16, .inl mR)), (qMY, .inl (G.2.1, 16, .inl mY))] s.heap.size = A at hD ⊢
  have hA : ∀ q : Nat, s.heap.size ≤ q → A q := fun q h => by rw [← hAe]; exact Or.inr h
  have hS : va_S A s.heap s.heap [] := va_S.rf
  have hl := lv_entry ([.ref qM] : List Value) (n := 6) (Nat.le_of_ble_eq_true rfl)
  rw [lg_entry_eq]
  generalize (lg_sl ([.ref qM] : List Value) ++ List.replicate (6 - (lg_sl ([.ref qM] : List Value)).length) Slot.unset).toArray = ls at hl ⊢
  have hl : lv_has ls 6 [(0, .ref qM)] := hl
  have hi8 : ∀ w ∈ u_ws RX8 TX8 19, w ∈ wsX8_isTree := by decide +kernel
  have hw0 : (Cond.fieldLink RX8 30 "NetPlumberModel" "reached" "[Z").before #[Value.ref qM] s = true := hts _ (by decide +kernel)
  have hw1 : (Cond.fieldLink RX8 16 "NetPlumberModel" "tiles" "[I").before #[Value.ref qM] s = true := hts _ (by decide +kernel)
  have hw2 : (Cond.fieldLink RX8 39 "NetPlumberModel" "lay" "[I").before #[Value.ref qM] s = true := hts _ (by decide +kernel)
  refine wq (fun Q hQ => ?_)
  unfold kX8_isTree at hq
  refine lv_iconst (v := 0) hx hb dX8_isTree_0 (by decide) ?_
  refine lv_istore_n (lv' := [(1, .int 0), (0, .ref qM)]) hx hb dX8_isTree_1 rfl hl (by decide) rfl (fun ls hl => ?_)
  have L2 : ∀ (n : Nat) (s4 : Int32) (s5 : Nat → Int32) (t_2 : Nat → Int32) (ls : Array Slot) (H : Heap) (locs : List Loc), kloop n (fun s_ => kX8_isTree_s2 F s_.1 s_.2) (s4, s5) = some t_2 → lv_has ls 6 [(0, .ref qM), (1, .int s4)] → va_P G.1 vwCl [(qM, .inr (8, [.int mt, .int mw, .int mh, .int mg, .int ms, .ref qMT, .ref qMW, .ref qMK, .ref qMM, .int mv, .int md, .ref qMR, .ref qML, .ref qMP, .int mu, .ref qMY, .ref qMF, .int mo, .int mf])), (qMT, .inl (G.2.1, 16, .inl mT)), (qMR, .inl (G.2.2.2.1, 16, .inl s5)), (qMY, .inl (G.2.1, 16, .inl mY))] H → va_D A [(qM, .inr (8, [.int mt, .int mw, .int mh, .int mg, .int ms, .ref qMT, .ref qMW, .ref qMK, .ref qMM, .int mv, .int md, .ref qMR, .ref qML, .ref qMP, .int mu, .ref qMY, .ref qMF, .int mo, .int mf])), (qMT, .inl (G.2.1, 16, .inl mT)), (qMR, .inl (G.2.2.2.1, 16, .inl s5)), (qMY, .inl (G.2.1, 16, .inl mY))] → va_S A s.heap H locs → (∀ (ls : Array Slot) (H : Heap) (locs : List Loc), lv_has ls 6 [(0, .ref qM)] → va_P G.1 vwCl [(qM, .inr (8, [.int mt, .int mw, .int mh, .int mg, .int ms, .ref qMT, .ref qMW, .ref qMK, .ref qMM, .int mv, .int md, .ref qMR, .ref qML, .ref qMP, .int mu, .ref qMY, .ref qMF, .int mo, .int mf])), (qMT, .inl (G.2.1, 16, .inl mT)), (qMR, .inl (G.2.2.2.1, 16, .inl t_2)), (qMY, .inl (G.2.1, 16, .inl mY))] H → va_D A [(qM, .inr (8, [.int mt, .int mw, .int mh, .int mg, .int ms, .ref qMT, .ref qMW, .ref qMK, .ref qMM, .int mv, .int md, .ref qMR, .ref qML, .ref qMP, .int mu, .ref qMY, .ref qMF, .int mo, .int mf])), (qMT, .inl (G.2.1, 16, .inl mT)), (qMR, .inl (G.2.2.2.1, 16, .inl t_2)), (qMY, .inl (G.2.1, 16, .inl mY))] → va_S A s.heap H locs → W p l e (headSpec wsX8_isTree rmX8_isTree).room s m ([.ref qM] : List Value).toArray below meth c H locs 0 0 Q (F0 m 29 ls [])) → W p l e (headSpec wsX8_isTree rmX8_isTree).room s m ([.ref qM] : List Value).toArray below meth c H locs 0 0 Q (F0 m 2 ls []) := by
    intro n
    induction n with
    | zero => 
      intro s4 s5 t_2 ls H locs hq hl hP hD hS kk2_29
      exact absurd hq kl_0
    | succ n ih2 =>
      intro s4 s5 t_2 ls H locs hq hl hP hD hS kk2_29
      obtain ⟨y_2, hq, hx2⟩ := kl_s hq
      have hq : kX8_isTree_s2 F s4 s5 = some y_2 := hq
      unfold kX8_isTree_s2 at hq
      refine lv_iload_n hx hb dX8_isTree_2 rfl (lv_at hl 1 rfl) ?_
      refine lv_bipush (v := 16) hx hb dX8_isTree_3 (by decide) ?_
      refine lv_icmp_ge (tgt := 29) hx hb dX8_isTree_5 (by decide) (fun c_5 => ?_) (fun c_5 => ?_)
      · have hq := k_t c_5 hq
        have et := kl_exit hq hx2
        subst et
        exact kk2_29 ls _ _ (lv_sub hl [0] rfl) hP hD hS
      · have hq := k_f c_5 hq
        refine lv_aload_n hx hb dX8_isTree_8 rfl (lv_at hl 0 rfl) ?_
        refine va_get (D := G.1) (ci := 8) (v := .ref qMR) (C := RX8) (T := TX8) (N := 19) hx hb hts hi8 hown hK hP 0 rfl rfl 11 (by decide) hw0 (fun _ h9 => h9) rfl dX8_isTree_9 ?_
        refine lv_iload_n hx hb dX8_isTree_12 rfl (lv_at hl 1 rfl) ?_
        refine lv_iload_n hx hb dX8_isTree_13 rfl (lv_at hl 1 rfl) ?_
        refine lv_if_ne (tgt := 21) hx hb dX8_isTree_14 (by decide) (fun c_14 => ?_) (fun c_14 => ?_)
        · have hq := k_f c_14 hq
          refine lv_iconst (v := 0) hx hb dX8_isTree_21 (by decide) ?_
          obtain ⟨hg, hq⟩ := k_g hq
          refine va_zast hx hb hK hP hD hS 2 2 rfl rfl (ix_in hg) dX8_isTree_22 (fun H locs hP hD hS => ?_)
          have hP : va_P G.1 vwCl [(qM, .inr (8, [.int mt, .int mw, .int mh, .int mg, .int ms, .ref qMT, .ref qMW, .ref qMK, .ref qMM, .int mv, .int md, .ref qMR, .ref qML, .ref qMP, .int mu, .ref qMY, .ref qMF, .int mo, .int mf])), (qMT, .inl (G.2.1, 16, .inl mT)), (qMR, .inl (G.2.2.2.1, 16, .inl (upd s5 s4.toNatClampNeg (vp_nar .boolean 0)))), (qMY, .inl (G.2.1, 16, .inl mY))] H := hP
          have hD : va_D A [(qM, .inr (8, [.int mt, .int mw, .int mh, .int mg, .int ms, .ref qMT, .ref qMW, .ref qMK, .ref qMM, .int mv, .int md, .ref qMR, .ref qML, .ref qMP, .int mu, .ref qMY, .ref qMF, .int mo, .int mf])), (qMT, .inl (G.2.1, 16, .inl mT)), (qMR, .inl (G.2.2.2.1, 16, .inl (upd s5 s4.toNatClampNeg (vp_nar .boolean 0)))), (qMY, .inl (G.2.1, 16, .inl mY))] := hD
          refine lv_iinc (v := (s4 + 1)) (lv' := [(1, .int (s4 + 1)), (0, .ref qM)]) hx hb dX8_isTree_23 hl (k := 1) rfl rfl (by decide) rfl (fun ls hl => ?_)
          refine lv_goto (tgt := 2) hx hb dX8_isTree_26 (by decide) ?_
          exact ih2 (s4 + 1) (upd s5 s4.toNatClampNeg (vp_nar .boolean 0)) t_2 ls _ _ (kl_back hq hx2) (lv_sub hl [1, 0] rfl) hP hD hS kk2_29
        · have hq := k_t c_14 hq
          refine lv_iconst (v := 1) hx hb dX8_isTree_17 (by decide) ?_
          refine lv_goto (tgt := 22) hx hb dX8_isTree_18 (by decide) ?_
          obtain ⟨hg, hq⟩ := k_g hq
          refine va_zast hx hb hK hP hD hS 2 2 rfl rfl (ix_in hg) dX8_isTree_22 (fun H locs hP hD hS => ?_)
          have hP : va_P G.1 vwCl [(qM, .inr (8, [.int mt, .int mw, .int mh, .int mg, .int ms, .ref qMT, .ref qMW, .ref qMK, .ref qMM, .int mv, .int md, .ref qMR, .ref qML, .ref qMP, .int mu, .ref qMY, .ref qMF, .int mo, .int mf])), (qMT, .inl (G.2.1, 16, .inl mT)), (qMR, .inl (G.2.2.2.1, 16, .inl (upd s5 s4.toNatClampNeg (vp_nar .boolean 1)))), (qMY, .inl (G.2.1, 16, .inl mY))] H := hP
          have hD : va_D A [(qM, .inr (8, [.int mt, .int mw, .int mh, .int mg, .int ms, .ref qMT, .ref qMW, .ref qMK, .ref qMM, .int mv, .int md, .ref qMR, .ref qML, .ref qMP, .int mu, .ref qMY, .ref qMF, .int mo, .int mf])), (qMT, .inl (G.2.1, 16, .inl mT)), (qMR, .inl (G.2.2.2.1, 16, .inl (upd s5 s4.toNatClampNeg (vp_nar .boolean 1)))), (qMY, .inl (G.2.1, 16, .inl mY))] := hD
          refine lv_iinc (v := (s4 + 1)) (lv' := [(1, .int (s4 + 1)), (0, .ref qM)]) hx hb dX8_isTree_23 hl (k := 1) rfl rfl (by decide) rfl (fun ls hl => ?_)
          refine lv_goto (tgt := 2) hx hb dX8_isTree_26 (by decide) ?_
          exact ih2 (s4 + 1) (upd s5 s4.toNatClampNeg (vp_nar .boolean 1)) t_2 ls _ _ (kl_back hq hx2) (lv_sub hl [1, 0] rfl) hP hD hS kk2_29
  obtain ⟨q7, eq7, hq⟩ := ob hq
  refine L2 F 0 mR q7 ls _ _ (eq7) (lv_sub hl [1, 0] rfl) hP hD hS (fun ls H locs hl hP hD hS => ?_)
  · refine lv_iconst (v := 1) hx hb dX8_isTree_29 (by decide) ?_
    refine lv_istore_n (lv' := [(1, .int 1), (0, .ref qM)]) hx hb dX8_isTree_30 rfl hl (by decide) rfl (fun ls hl => ?_)
    refine lv_iconst (v := 0) hx hb dX8_isTree_31 (by decide) ?_
    refine lv_istore_n (lv' := [(2, .int 0), (1, .int 1), (0, .ref qM)]) hx hb dX8_isTree_32 rfl hl (by decide) rfl (fun ls hl => ?_)
    have L33 : ∀ (n : Nat) (s63 : Int32) (s64 : Int32) (s65 : Nat → Int32) (t_33 : Int32 × (Nat → Int32)) (ls : Array Slot) (H : Heap) (locs : List Loc), kloop n (fun s_ => kX8_isTree_s33 F mw mh mg mT mY s_.1 s_.2.1 s_.2.2) (s63, s64, s65) = some t_33 → lv_has ls 6 [(0, .ref qM), (1, .int s63), (2, .int s64)] → va_P G.1 vwCl [(qM, .inr (8, [.int mt, .int mw, .int mh, .int mg, .int ms, .ref qMT, .ref qMW, .ref qMK, .ref qMM, .int mv, .int md, .ref qMR, .ref qML, .ref qMP, .int mu, .ref qMY, .ref qMF, .int mo, .int mf])), (qMT, .inl (G.2.1, 16, .inl mT)), (qMR, .inl (G.2.2.2.1, 16, .inl s65)), (qMY, .inl (G.2.1, 16, .inl mY))] H → va_D A [(qM, .inr (8, [.int mt, .int mw, .int mh, .int mg, .int ms, .ref qMT, .ref qMW, .ref qMK, .ref qMM, .int mv, .int md, .ref qMR, .ref qML, .ref qMP, .int mu, .ref qMY, .ref qMF, .int mo, .int mf])), (qMT, .inl (G.2.1, 16, .inl mT)), (qMR, .inl (G.2.2.2.1, 16, .inl s65)), (qMY, .inl (G.2.1, 16, .inl mY))] → va_S A s.heap H locs → (∀ (ls : Array Slot) (H : Heap) (locs : List Loc), lv_has ls 6 [(0, .ref qM), (1, .int t_33.1)] → va_P G.1 vwCl [(qM, .inr (8, [.int mt, .int mw, .int mh, .int mg, .int ms, .ref qMT, .ref qMW, .ref qMK, .ref qMM, .int mv, .int md, .ref qMR, .ref qML, .ref qMP, .int mu, .ref qMY, .ref qMF, .int mo, .int mf])), (qMT, .inl (G.2.1, 16, .inl mT)), (qMR, .inl (G.2.2.2.1, 16, .inl t_33.2)), (qMY, .inl (G.2.1, 16, .inl mY))] H → va_D A [(qM, .inr (8, [.int mt, .int mw, .int mh, .int mg, .int ms, .ref qMT, .ref qMW, .ref qMK, .ref qMM, .int mv, .int md, .ref qMR, .ref qML, .ref qMP, .int mu, .ref qMY, .ref qMF, .int mo, .int mf])), (qMT, .inl (G.2.1, 16, .inl mT)), (qMR, .inl (G.2.2.2.1, 16, .inl t_33.2)), (qMY, .inl (G.2.1, 16, .inl mY))] → va_S A s.heap H locs → W p l e (headSpec wsX8_isTree rmX8_isTree).room s m ([.ref qM] : List Value).toArray below meth c H locs 0 0 Q (F0 m 153 ls [])) → W p l e (headSpec wsX8_isTree rmX8_isTree).room s m ([.ref qM] : List Value).toArray below meth c H locs 0 0 Q (F0 m 33 ls []) := by
      intro n
      induction n with
      | zero => 
        intro s63 s64 s65 t_33 ls H locs hq hl hP hD hS kk33_153
        exact absurd hq kl_0
      | succ n ih33 =>
        intro s63 s64 s65 t_33 ls H locs hq hl hP hD hS kk33_153
        obtain ⟨y_33, hq, hx33⟩ := kl_s hq
        have hq : kX8_isTree_s33 F mw mh mg mT mY s63 s64 s65 = some y_33 := hq
        unfold kX8_isTree_s33 at hq
        refine lv_iload_n hx hb dX8_isTree_33 rfl (lv_at hl 1 rfl) ?_
        refine lv_iload_n hx hb dX8_isTree_34 rfl (lv_at hl 2 rfl) ?_
        refine lv_icmp_eq (tgt := 153) hx hb dX8_isTree_35 (by decide) (fun c_35 => ?_) (fun c_35 => ?_)
        · have hq := k_t c_35 hq
          have et := kl_exit hq hx33
          subst et
          exact kk33_153 ls _ _ (lv_sub hl [0, 1] rfl) hP hD hS
        · have hq := k_f c_35 hq
          refine lv_iload_n hx hb dX8_isTree_38 rfl (lv_at hl 1 rfl) ?_
          refine lv_istore_n (lv' := [(2, .int s63), (0, .ref qM), (1, .int s63)]) hx hb dX8_isTree_39 rfl hl (by decide) rfl (fun ls hl => ?_)
          refine lv_iconst (v := 1) hx hb dX8_isTree_40 (by decide) ?_
          refine lv_istore_n (lv' := [(3, .int 1), (2, .int s63), (0, .ref qM), (1, .int s63)]) hx hb dX8_isTree_41 rfl hl (by decide) rfl (fun ls hl => ?_)
          have L42 : ∀ (n : Nat) (s92 : Int32) (s93 : Int32) (s94 : Nat → Int32) (t_42 : Int32 × (Nat → Int32)) (ls : Array Slot) (H : Heap) (locs : List Loc), kloop n (fun s_ => kX8_isTree_s42 F mw mh mg mT mY s_.1 s_.2.1 s_.2.2) (s92, s93, s94) = some t_42 → lv_has ls 6 [(0, .ref qM), (1, .int s92), (2, .int s63), (3, .int s93)] → va_P G.1 vwCl [(qM, .inr (8, [.int mt, .int mw, .int mh, .int mg, .int ms, .ref qMT, .ref qMW, .ref qMK, .ref qMM, .int mv, .int md, .ref qMR, .ref qML, .ref qMP, .int mu, .ref qMY, .ref qMF, .int mo, .int mf])), (qMT, .inl (G.2.1, 16, .inl mT)), (qMR, .inl (G.2.2.2.1, 16, .inl s94)), (qMY, .inl (G.2.1, 16, .inl mY))] H → va_D A [(qM, .inr (8, [.int mt, .int mw, .int mh, .int mg, .int ms, .ref qMT, .ref qMW, .ref qMK, .ref qMM, .int mv, .int md, .ref qMR, .ref qML, .ref qMP, .int mu, .ref qMY, .ref qMF, .int mo, .int mf])), (qMT, .inl (G.2.1, 16, .inl mT)), (qMR, .inl (G.2.2.2.1, 16, .inl s94)), (qMY, .inl (G.2.1, 16, .inl mY))] → va_S A s.heap H locs → (∀ (ls : Array Slot) (H : Heap) (locs : List Loc), lv_has ls 6 [(0, .ref qM), (1, .int t_42.1), (2, .int s63)] → va_P G.1 vwCl [(qM, .inr (8, [.int mt, .int mw, .int mh, .int mg, .int ms, .ref qMT, .ref qMW, .ref qMK, .ref qMM, .int mv, .int md, .ref qMR, .ref qML, .ref qMP, .int mu, .ref qMY, .ref qMF, .int mo, .int mf])), (qMT, .inl (G.2.1, 16, .inl mT)), (qMR, .inl (G.2.2.2.1, 16, .inl t_42.2)), (qMY, .inl (G.2.1, 16, .inl mY))] H → va_D A [(qM, .inr (8, [.int mt, .int mw, .int mh, .int mg, .int ms, .ref qMT, .ref qMW, .ref qMK, .ref qMM, .int mv, .int md, .ref qMR, .ref qML, .ref qMP, .int mu, .ref qMY, .ref qMF, .int mo, .int mf])), (qMT, .inl (G.2.1, 16, .inl mT)), (qMR, .inl (G.2.2.2.1, 16, .inl t_42.2)), (qMY, .inl (G.2.1, 16, .inl mY))] → va_S A s.heap H locs → W p l e (headSpec wsX8_isTree rmX8_isTree).room s m ([.ref qM] : List Value).toArray below meth c H locs 0 0 Q (F0 m 150 ls [])) → W p l e (headSpec wsX8_isTree rmX8_isTree).room s m ([.ref qM] : List Value).toArray below meth c H locs 0 0 Q (F0 m 42 ls []) := by
            intro n
            induction n with
            | zero => 
              intro s92 s93 s94 t_42 ls H locs hq hl hP hD hS kk42_150
              exact absurd hq kl_0
            | succ n ih42 =>
              intro s92 s93 s94 t_42 ls H locs hq hl hP hD hS kk42_150
              obtain ⟨y_42, hq, hx42⟩ := kl_s hq
              have hq : kX8_isTree_s42 F mw mh mg mT mY s92 s93 s94 = some y_42 := hq
              unfold kX8_isTree_s42 at hq
              refine lv_iload_n hx hb dX8_isTree_42 rfl (lv_at hl 3 rfl) ?_
              refine lv_aload_n hx hb dX8_isTree_43 rfl (lv_at hl 0 rfl) ?_
              obtain ⟨q95, eq95, hq⟩ := ob hq
              have hPc := hP.sub (ws' := [(qM, .inr (8, [.int mt, .int mw, .int mh, .int mg, .int ms, .ref qMT, .ref qMW, .ref qMK, .ref qMM, .int mv, .int md, .ref qMR, .ref qML, .ref qMP, .int mu, .ref qMY, .ref qMF, .int mo, .int mf]))]) [0] rfl
              have hKc := hK
              refine vp_callSi (va_Run.run (va_runV (As := []) (rest := [.int s93]) ⟨hx, hb, hml, hown, hts⟩ (tX8_cells G l eq95) (cwV 0 hts gX8_isTree_X8_cells rfl rfl rfl (by decide +kernel) ⟨Nat.le_of_ble_eq_true rfl, Nat.le_of_ble_eq_true rfl⟩) ⟨pcP_blind, va_recv hKc hPc (ci := 8) (q0 := 0) rfl rfl, pcP_pre hPc hKK⟩ rfl rfl hl.1 rfl (lv_room (Nat.le_of_ble_eq_true rfl)) dX8_isTree_44 ⟨Nat.zero_le _, Nat.zero_le _⟩)) (fun r0 hr0 => ?_)
              obtain rfl := hr0
              refine lv_icmp_ge (tgt := 150) hx hb dX8_isTree_47 (by decide) (fun c_47 => ?_) (fun c_47 => ?_)
              · have hq := k_t c_47 hq
                have et := kl_exit hq hx42
                subst et
                exact kk42_150 ls _ _ (lv_sub hl [0, 1, 2] rfl) hP hD hS
              · have hq := k_f c_47 hq
                refine lv_aload_n hx hb dX8_isTree_50 rfl (lv_at hl 0 rfl) ?_
                refine va_get (D := G.1) (ci := 8) (v := .ref qMT) (C := RX8) (T := TX8) (N := 19) hx hb hts hi8 hown hK hP 0 rfl rfl 5 (by decide) hw1 (fun _ h9 => h9) rfl dX8_isTree_51 ?_
                refine lv_iload_n hx hb dX8_isTree_54 rfl (lv_at hl 3 rfl) ?_
                obtain ⟨hg, hq⟩ := k_g hq
                refine va_iald hx hb hK hP 1 0 rfl rfl (ix_in hg) dX8_isTree_55 ?_
                refine lv_aload_n hx hb dX8_isTree_56 rfl (lv_at hl 0 rfl) ?_
                refine va_get (D := G.1) (ci := 8) (v := .ref qMY) (C := RX8) (T := TX8) (N := 19) hx hb hts hi8 hown hK hP 0 rfl rfl 15 (by decide) hw2 (fun _ h9 => h9) rfl dX8_isTree_57 ?_
                refine lv_iload_n hx hb dX8_isTree_60 rfl (lv_at hl 3 rfl) ?_
                obtain ⟨hg, hq⟩ := k_g hq
                refine va_iald hx hb hK hP 3 0 rfl rfl (ix_in hg) dX8_isTree_61 ?_
                obtain ⟨q96, eq96, hq⟩ := ob hq
                have hPc := hP.sub (ws' := []) [] rfl
                refine vp_callSi (va_Run.run (va_runS (As := [.int (mT s93.toNatClampNeg), .int (mY s93.toNatClampNeg)]) (rest := []) ⟨hx, hb, hml, hown, hts⟩ (tX8_turned G l eq96) (va_cwS 2 hts gX8_isTree_X8_turned rfl rfl rfl (by decide +kernel) ⟨Nat.le_of_ble_eq_true rfl, Nat.le_of_ble_eq_true rfl⟩) ⟨pcP_blind, pcP_pre hPc hKK⟩ rfl rfl hl.1 rfl (lv_room (Nat.le_of_ble_eq_true rfl)) dX8_isTree_62 ⟨Nat.zero_le _, Nat.zero_le _⟩)) (fun r0 hr0 => ?_)
                obtain rfl := hr0
                refine lv_istore (lv' := [(4, .int q96), (0, .ref qM), (1, .int s92), (2, .int s63), (3, .int s93)]) hx hb dX8_isTree_65 hl (by decide) rfl (fun ls hl => ?_)
                refine lv_iconst (v := 0) hx hb dX8_isTree_67 (by decide) ?_
                refine lv_istore (lv' := [(5, .int 0), (4, .int q96), (0, .ref qM), (1, .int s92), (2, .int s63), (3, .int s93)]) hx hb dX8_isTree_68 hl (by decide) rfl (fun ls hl => ?_)
                have L70 : ∀ (n : Nat) (s108 : Int32) (s109 : Int32) (s110 : Nat → Int32) (t_70 : Int32 × (Nat → Int32)) (ls : Array Slot) (H : Heap) (locs : List Loc), kloop n (fun s_ => kX8_isTree_s70 F mw mh mg s93 q96 s_.1 s_.2.1 s_.2.2) (s108, s109, s110) = some t_70 → lv_has ls 6 [(0, .ref qM), (1, .int s108), (2, .int s63), (3, .int s93), (4, .int q96), (5, .int s109)] → va_P G.1 vwCl [(qM, .inr (8, [.int mt, .int mw, .int mh, .int mg, .int ms, .ref qMT, .ref qMW, .ref qMK, .ref qMM, .int mv, .int md, .ref qMR, .ref qML, .ref qMP, .int mu, .ref qMY, .ref qMF, .int mo, .int mf])), (qMT, .inl (G.2.1, 16, .inl mT)), (qMR, .inl (G.2.2.2.1, 16, .inl s110)), (qMY, .inl (G.2.1, 16, .inl mY))] H → va_D A [(qM, .inr (8, [.int mt, .int mw, .int mh, .int mg, .int ms, .ref qMT, .ref qMW, .ref qMK, .ref qMM, .int mv, .int md, .ref qMR, .ref qML, .ref qMP, .int mu, .ref qMY, .ref qMF, .int mo, .int mf])), (qMT, .inl (G.2.1, 16, .inl mT)), (qMR, .inl (G.2.2.2.1, 16, .inl s110)), (qMY, .inl (G.2.1, 16, .inl mY))] → va_S A s.heap H locs → (∀ (ls : Array Slot) (H : Heap) (locs : List Loc), lv_has ls 6 [(0, .ref qM), (1, .int t_70.1), (2, .int s63), (3, .int s93)] → va_P G.1 vwCl [(qM, .inr (8, [.int mt, .int mw, .int mh, .int mg, .int ms, .ref qMT, .ref qMW, .ref qMK, .ref qMM, .int mv, .int md, .ref qMR, .ref qML, .ref qMP, .int mu, .ref qMY, .ref qMF, .int mo, .int mf])), (qMT, .inl (G.2.1, 16, .inl mT)), (qMR, .inl (G.2.2.2.1, 16, .inl t_70.2)), (qMY, .inl (G.2.1, 16, .inl mY))] H → va_D A [(qM, .inr (8, [.int mt, .int mw, .int mh, .int mg, .int ms, .ref qMT, .ref qMW, .ref qMK, .ref qMM, .int mv, .int md, .ref qMR, .ref qML, .ref qMP, .int mu, .ref qMY, .ref qMF, .int mo, .int mf])), (qMT, .inl (G.2.1, 16, .inl mT)), (qMR, .inl (G.2.2.2.1, 16, .inl t_70.2)), (qMY, .inl (G.2.1, 16, .inl mY))] → va_S A s.heap H locs → W p l e (headSpec wsX8_isTree rmX8_isTree).room s m ([.ref qM] : List Value).toArray below meth c H locs 0 0 Q (F0 m 144 ls [])) → W p l e (headSpec wsX8_isTree rmX8_isTree).room s m ([.ref qM] : List Value).toArray below meth c H locs 0 0 Q (F0 m 70 ls []) := by
                  intro n
                  induction n with
                  | zero => 
                    intro s108 s109 s110 t_70 ls H locs hq hl hP hD hS kk70_144
                    exact absurd hq kl_0
                  | succ n ih70 =>
                    intro s108 s109 s110 t_70 ls H locs hq hl hP hD hS kk70_144
                    obtain ⟨y_70, hq, hx70⟩ := kl_s hq
                    have hq : kX8_isTree_s70 F mw mh mg s93 q96 s108 s109 s110 = some y_70 := hq
                    unfold kX8_isTree_s70 at hq
                    refine lv_iload hx hb dX8_isTree_70 (lv_at hl 5 rfl) ?_
                    refine lv_iconst (v := 4) hx hb dX8_isTree_72 (by decide) ?_
                    refine lv_icmp_ge (tgt := 144) hx hb dX8_isTree_73 (by decide) (fun c_73 => ?_) (fun c_73 => ?_)
                    · have hq := k_t c_73 hq
                      have et := kl_exit hq hx70
                      subst et
                      exact kk70_144 ls _ _ (lv_sub hl [0, 1, 2, 3] rfl) hP hD hS
                    · have hq := k_f c_73 hq
                      refine lv_aload_n hx hb dX8_isTree_76 rfl (lv_at hl 0 rfl) ?_
                      refine va_get (D := G.1) (ci := 8) (v := .ref qMR) (C := RX8) (T := TX8) (N := 19) hx hb hts hi8 hown hK hP 0 rfl rfl 11 (by decide) hw0 (fun _ h9 => h9) rfl dX8_isTree_77 ?_
                      refine lv_iload_n hx hb dX8_isTree_80 rfl (lv_at hl 3 rfl) ?_
                      obtain ⟨hg, hq⟩ := k_g hq
                      refine va_zald hx hb hK hP 2 2 rfl rfl (ix_in hg) dX8_isTree_81 ?_
                      refine lv_if_ne (tgt := 144) hx hb dX8_isTree_82 (by decide) (fun c_82 => ?_) (fun c_82 => ?_)
                      · have hq := k_f c_82 hq
                        have et := kl_exit hq hx70
                        subst et
                        exact kk70_144 ls _ _ (lv_sub hl [0, 1, 2, 3] rfl) hP hD hS
                      · have hq := k_t c_82 hq
                        refine lv_aload_n hx hb dX8_isTree_85 rfl (lv_at hl 0 rfl) ?_
                        refine va_get (D := G.1) (ci := 8) (v := .ref qMR) (C := RX8) (T := TX8) (N := 19) hx hb hts hi8 hown hK hP 0 rfl rfl 11 (by decide) hw0 (fun _ h9 => h9) rfl dX8_isTree_86 ?_
                        refine lv_iload_n hx hb dX8_isTree_89 rfl (lv_at hl 3 rfl) ?_
                        refine lv_iload hx hb dX8_isTree_90 (lv_at hl 4 rfl) ?_
                        refine lv_iload hx hb dX8_isTree_92 (lv_at hl 5 rfl) ?_
                        obtain ⟨q111, eq111, hq⟩ := ob hq
                        have hPc := hP.sub (ws' := []) [] rfl
                        refine vp_callSi (va_Run.run (va_runS (As := [.int q96, .int s109]) (rest := [.int s93, .ref qMR]) ⟨hx, hb, hml, hown, hts⟩ (tX8_isOpen G l eq111) (va_cwS 2 hts gX8_isTree_X8_isOpen rfl rfl rfl (by decide +kernel) ⟨Nat.le_of_ble_eq_true rfl, Nat.le_of_ble_eq_true rfl⟩) ⟨pcP_blind, pcP_pre hPc hKK⟩ rfl rfl hl.1 rfl (lv_room (Nat.le_of_ble_eq_true rfl)) dX8_isTree_94 ⟨Nat.zero_le _, Nat.zero_le _⟩)) (fun r0 hr0 => ?_)
                        obtain rfl := hr0
                        have J120 : ∀ (v113 : Int32) (ls : Array Slot) (H : Heap) (locs : List Loc), kX8_isTree_j120 F s93 s108 s109 s110 v113 = some y_70 → lv_has ls 6 [(0, .ref qM), (1, .int s108), (2, .int s63), (3, .int s93), (4, .int q96), (5, .int s109)] → va_P G.1 vwCl [(qM, .inr (8, [.int mt, .int mw, .int mh, .int mg, .int ms, .ref qMT, .ref qMW, .ref qMK, .ref qMM, .int mv, .int md, .ref qMR, .ref qML, .ref qMP, .int mu, .ref qMY, .ref qMF, .int mo, .int mf])), (qMT, .inl (G.2.1, 16, .inl mT)), (qMR, .inl (G.2.2.2.1, 16, .inl s110)), (qMY, .inl (G.2.1, 16, .inl mY))] H → va_D A [(qM, .inr (8, [.int mt, .int mw, .int mh, .int mg, .int ms, .ref qMT, .ref qMW, .ref qMK, .ref qMM, .int mv, .int md, .ref qMR, .ref qML, .ref qMP, .int mu, .ref qMY, .ref qMF, .int mo, .int mf])), (qMT, .inl (G.2.1, 16, .inl mT)), (qMR, .inl (G.2.2.2.1, 16, .inl s110)), (qMY, .inl (G.2.1, 16, .inl mY))] → va_S A s.heap H locs → W p l e (headSpec wsX8_isTree rmX8_isTree).room s m ([.ref qM] : List Value).toArray below meth c H locs 0 0 Q (F0 m 120 ls [.int v113, .int s93, .ref qMR]) := by
                          intro v113 ls H locs hq hl hP hD hS
                          unfold kX8_isTree_j120 at hq
                          obtain ⟨hg, hq⟩ := k_g hq
                          refine va_zast hx hb hK hP hD hS 2 2 rfl rfl (ix_in hg) dX8_isTree_120 (fun H locs hP hD hS => ?_)
                          have hP : va_P G.1 vwCl [(qM, .inr (8, [.int mt, .int mw, .int mh, .int mg, .int ms, .ref qMT, .ref qMW, .ref qMK, .ref qMM, .int mv, .int md, .ref qMR, .ref qML, .ref qMP, .int mu, .ref qMY, .ref qMF, .int mo, .int mf])), (qMT, .inl (G.2.1, 16, .inl mT)), (qMR, .inl (G.2.2.2.1, 16, .inl (upd s110 s93.toNatClampNeg (vp_nar .boolean v113)))), (qMY, .inl (G.2.1, 16, .inl mY))] H := hP
                          have hD : va_D A [(qM, .inr (8, [.int mt, .int mw, .int mh, .int mg, .int ms, .ref qMT, .ref qMW, .ref qMK, .ref qMM, .int mv, .int md, .ref qMR, .ref qML, .ref qMP, .int mu, .ref qMY, .ref qMF, .int mo, .int mf])), (qMT, .inl (G.2.1, 16, .inl mT)), (qMR, .inl (G.2.2.2.1, 16, .inl (upd s110 s93.toNatClampNeg (vp_nar .boolean v113)))), (qMY, .inl (G.2.1, 16, .inl mY))] := hD
                          refine lv_iload_n hx hb dX8_isTree_121 rfl (lv_at hl 1 rfl) ?_
                          refine lv_aload_n hx hb dX8_isTree_122 rfl (lv_at hl 0 rfl) ?_
                          refine va_get (D := G.1) (ci := 8) (v := .ref qMR) (C := RX8) (T := TX8) (N := 19) hx hb hts hi8 hown hK hP 0 rfl rfl 11 (by decide) hw0 (fun _ h9 => h9) rfl dX8_isTree_123 ?_
                          refine lv_iload_n hx hb dX8_isTree_126 rfl (lv_at hl 3 rfl) ?_
                          obtain ⟨hg, hq⟩ := k_g hq
                          refine va_zald hx hb hK hP 2 2 rfl rfl (ix_in hg) dX8_isTree_127 ?_
                          refine lv_if_eq (tgt := 135) hx hb dX8_isTree_128 (by decide) (fun c_128 => ?_) (fun c_128 => ?_)
                          · have hq := k_t c_128 hq
                            refine lv_iconst (v := 0) hx hb dX8_isTree_135 (by decide) ?_
                            refine lv_iadd hx hb dX8_isTree_136 ?_
                            refine lv_istore_n (lv' := [(1, .int (s108 + 0)), (0, .ref qM), (2, .int s63), (3, .int s93), (4, .int q96), (5, .int s109)]) hx hb dX8_isTree_137 rfl hl (by decide) rfl (fun ls hl => ?_)
                            refine lv_iinc (v := (s109 + 1)) (lv' := [(5, .int (s109 + 1)), (1, .int (s108 + 0)), (0, .ref qM), (2, .int s63), (3, .int s93), (4, .int q96)]) hx hb dX8_isTree_138 hl (k := 5) rfl rfl (by decide) rfl (fun ls hl => ?_)
                            refine lv_goto (tgt := 70) hx hb dX8_isTree_141 (by decide) ?_
                            exact ih70 (s108 + 0) (s109 + 1) (upd s110 s93.toNatClampNeg (vp_nar .boolean v113)) t_70 ls _ _ (kl_back hq hx70) (lv_sub hl [2, 1, 3, 4, 5, 0] rfl) hP hD hS kk70_144
                          · have hq := k_f c_128 hq
                            refine lv_iconst (v := 1) hx hb dX8_isTree_131 (by decide) ?_
                            refine lv_goto (tgt := 136) hx hb dX8_isTree_132 (by decide) ?_
                            refine lv_iadd hx hb dX8_isTree_136 ?_
                            refine lv_istore_n (lv' := [(1, .int (s108 + 1)), (0, .ref qM), (2, .int s63), (3, .int s93), (4, .int q96), (5, .int s109)]) hx hb dX8_isTree_137 rfl hl (by decide) rfl (fun ls hl => ?_)
                            refine lv_iinc (v := (s109 + 1)) (lv' := [(5, .int (s109 + 1)), (1, .int (s108 + 1)), (0, .ref qM), (2, .int s63), (3, .int s93), (4, .int q96)]) hx hb dX8_isTree_138 hl (k := 5) rfl rfl (by decide) rfl (fun ls hl => ?_)
                            refine lv_goto (tgt := 70) hx hb dX8_isTree_141 (by decide) ?_
                            exact ih70 (s108 + 1) (s109 + 1) (upd s110 s93.toNatClampNeg (vp_nar .boolean v113)) t_70 ls _ _ (kl_back hq hx70) (lv_sub hl [2, 1, 3, 4, 5, 0] rfl) hP hD hS kk70_144
                        refine lv_if_eq (tgt := 119) hx hb dX8_isTree_97 (by decide) (fun c_97 => ?_) (fun c_97 => ?_)
                        · have hq := k_t c_97 hq
                          refine lv_iconst (v := 0) hx hb dX8_isTree_119 (by decide) ?_
                          exact J120 0 ls _ _ hq (lv_sub hl [0, 1, 2, 3, 4, 5] rfl) hP hD hS
                        · have hq := k_f c_97 hq
                          refine lv_aload_n hx hb dX8_isTree_100 rfl (lv_at hl 0 rfl) ?_
                          refine va_get (D := G.1) (ci := 8) (v := .ref qMR) (C := RX8) (T := TX8) (N := 19) hx hb hts hi8 hown hK hP 0 rfl rfl 11 (by decide) hw0 (fun _ h9 => h9) rfl dX8_isTree_101 ?_
                          refine lv_aload_n hx hb dX8_isTree_104 rfl (lv_at hl 0 rfl) ?_
                          refine lv_iload_n hx hb dX8_isTree_105 rfl (lv_at hl 3 rfl) ?_
                          refine lv_iload hx hb dX8_isTree_106 (lv_at hl 5 rfl) ?_
                          obtain ⟨q115, eq115, hq⟩ := ob hq
                          have hPc := hP.sub (ws' := [(qM, .inr (8, [.int mt, .int mw, .int mh, .int mg, .int ms, .ref qMT, .ref qMW, .ref qMK, .ref qMM, .int mv, .int md, .ref qMR, .ref qML, .ref qMP, .int mu, .ref qMY, .ref qMF, .int mo, .int mf]))]) [0] rfl
                          have hKc := hK
                          refine vp_callSi (va_Run.run (va_runV (As := [.int s93, .int s109]) (rest := [.ref qMR, .int s93, .ref qMR]) ⟨hx, hb, hml, hown, hts⟩ (tX8_neighbourOf G l eq115) (cwV 2 hts gX8_isTree_X8_neighbourOf rfl rfl rfl (by decide +kernel) ⟨Nat.le_of_ble_eq_true rfl, Nat.le_of_ble_eq_true rfl⟩) ⟨pcP_blind, va_recv hKc hPc (ci := 8) (q0 := 0) rfl rfl, pcP_pre hPc hKK⟩ rfl rfl hl.1 rfl (lv_room (Nat.le_of_ble_eq_true rfl)) dX8_isTree_108 ⟨Nat.zero_le _, Nat.zero_le _⟩)) (fun r0 hr0 => ?_)
                          obtain rfl := hr0
                          obtain ⟨hg, hq⟩ := k_g hq
                          refine va_zald hx hb hK hP 2 2 rfl rfl (ix_in hg) dX8_isTree_111 ?_
                          refine lv_if_eq (tgt := 119) hx hb dX8_isTree_112 (by decide) (fun c_112 => ?_) (fun c_112 => ?_)
                          · have hq := k_t c_112 hq
                            refine lv_iconst (v := 0) hx hb dX8_isTree_119 (by decide) ?_
                            exact J120 0 ls _ _ hq (lv_sub hl [0, 1, 2, 3, 4, 5] rfl) hP hD hS
                          · have hq := k_f c_112 hq
                            refine lv_iconst (v := 1) hx hb dX8_isTree_115 (by decide) ?_
                            refine lv_goto (tgt := 120) hx hb dX8_isTree_116 (by decide) ?_
                            exact J120 1 ls _ _ hq (lv_sub hl [0, 1, 2, 3, 4, 5] rfl) hP hD hS
                obtain ⟨q116, eq116, hq⟩ := ob hq
                refine L70 F s92 0 s94 q116 ls _ _ (eq116) (lv_sub hl [2, 3, 4, 5, 1, 0] rfl) hP hD hS (fun ls H locs hl hP hD hS => ?_)
                · refine lv_iinc (v := (s93 + 1)) (lv' := [(3, .int (s93 + 1)), (0, .ref qM), (1, .int q116.1), (2, .int s63)]) hx hb dX8_isTree_144 hl (k := 3) rfl rfl (by decide) rfl (fun ls hl => ?_)
                  refine lv_goto (tgt := 42) hx hb dX8_isTree_147 (by decide) ?_
                  exact ih42 q116.1 (s93 + 1) q116.2 t_42 ls _ _ (kl_back hq hx42) (lv_sub hl [1, 2, 3, 0] rfl) hP hD hS kk42_150
          obtain ⟨q117, eq117, hq⟩ := ob hq
          refine L42 F s63 1 s65 q117 ls _ _ (eq117) (lv_sub hl [2, 3, 1, 0] rfl) hP hD hS (fun ls H locs hl hP hD hS => ?_)
          · refine lv_goto (tgt := 33) hx hb dX8_isTree_150 (by decide) ?_
            exact ih33 q117.1 s63 q117.2 t_33 ls _ _ (kl_back hq hx33) (lv_sub hl [0, 1, 2] rfl) hP hD hS kk33_153
    obtain ⟨q118, eq118, hq⟩ := ob hq
    refine L33 F 1 0 q7 q118 ls _ _ (eq118) (lv_sub hl [2, 1, 0] rfl) hP hD hS (fun ls H locs hl hP hD hS => ?_)
    · refine lv_iload_n hx hb dX8_isTree_153 rfl (lv_at hl 1 rfl) ?_
      refine lv_aload_n hx hb dX8_isTree_154 rfl (lv_at hl 0 rfl) ?_
      obtain ⟨q119, eq119, hq⟩ := ob hq
      have hPc := hP.sub (ws' := [(qM, .inr (8, [.int mt, .int mw, .int mh, .int mg, .int ms, .ref qMT, .ref qMW, .ref qMK, .ref qMM, .int mv, .int md, .ref qMR, .ref qML, .ref qMP, .int mu, .ref qMY, .ref qMF, .int mo, .int mf]))]) [0] rfl
      have hKc := hK
      refine vp_callSi (va_Run.run (va_runV (As := []) (rest := [.int q118.1]) ⟨hx, hb, hml, hown, hts⟩ (tX8_cells G l eq119) (cwV 0 hts gX8_isTree_X8_cells rfl rfl rfl (by decide +kernel) ⟨Nat.le_of_ble_eq_true rfl, Nat.le_of_ble_eq_true rfl⟩) ⟨pcP_blind, va_recv hKc hPc (ci := 8) (q0 := 0) rfl rfl, pcP_pre hPc hKK⟩ rfl rfl hl.1 rfl (lv_room (Nat.le_of_ble_eq_true rfl)) dX8_isTree_155 ⟨Nat.zero_le _, Nat.zero_le _⟩)) (fun r0 hr0 => ?_)
      obtain rfl := hr0
      refine lv_icmp_ne (tgt := 165) hx hb dX8_isTree_158 (by decide) (fun c_158 => ?_) (fun c_158 => ?_)
      · have hq := k_f c_158 hq
        refine lv_iconst (v := 0) hx hb dX8_isTree_165 (by decide) ?_
        obtain rfl := Option.some.inj hq
        rw [hQ]
        exact W.zret hx hb hr rfl (fun t ht hW => ⟨⟨_, (), rfl, rfl, va_Pat ht hP⟩, hS.F ht⟩) hS.2.2 dX8_isTree_166
      · have hq := k_t c_158 hq
        refine lv_iconst (v := 1) hx hb dX8_isTree_161 (by decide) ?_
        refine lv_goto (tgt := 166) hx hb dX8_isTree_162 (by decide) ?_
        obtain rfl := Option.some.inj hq
        rw [hQ]
        exact W.zret hx hb hr rfl (fun t ht hW => ⟨⟨_, (), rfl, rfl, va_Pat ht hP⟩, hS.F ht⟩) hS.2.2 dX8_isTree_166

abbrev rmX8_notes : Room := { frames := 1, cells := 0, slots := 0, locals := 20 }
set_option maxHeartbeats 40000000 in
set_option maxRecDepth 100000 in
theorem tX8_notes (G : GG) (l : Launch) {qM qMT qMW qMK qMM qMR qML qMP qMY qMF : Nat} {mt : Int32} {mw : Int32} {mh : Int32} {mg : Int32} {ms : Int32} {mv : Int32} {md : Int32} {mu : Int32} {mo : Int32} {mf : Int32} {mY : Nat → Int32} {mF : Nat → Int32} {sz : Nat} {F : Nat} {r : Int32 × Int32 × (Nat → Int32)} (hq : kX8_notes F mw mh mo mf mY mF = some r) : Met l yX8_notes wsX8_notes rmX8_notes (pcW G [(qM, .inr (8, [.int mt, .int mw, .int mh, .int mg, .int ms, .ref qMT, .ref qMW, .ref qMK, .ref qMM, .int mv, .int md, .ref qMR, .ref qML, .ref qMP, .int mu, .ref qMY, .ref qMF, .int mo, .int mf])), (qMY, .inl (G.2.1, 16, .inl mY)), (qMF, .inl (G.2.1, 16, .inl mF))] sz [.ref qM]) (qcV G [(qM, .inr (8, [.int mt, .int mw, .int mh, .int mg, .int ms, .ref qMT, .ref qMW, .ref qMK, .ref qMM, .int mv, .int md, .ref qMR, .ref qML, .ref qMP, .int mu, .ref qMY, .ref qMF, .int r.1, .int r.2.1])), (qMY, .inl (G.2.1, 16, .inl mY)), (qMF, .inl (G.2.1, 16, .inl r.2.2))] (va_A [(qM, .inr (8, [.int mt, .int mw, .int mh, .int mg, .int ms, .ref qMT, .ref qMW, .ref qMK, .ref qMM, .int mv, .int md, .ref qMR, .ref qML, .ref qMP, .int mu, .ref qMY, .ref qMF, .int mo, .int mf])), (qMY, .inl (G.2.1, 16, .inl mY)), (qMF, .inl (G.2.1, 16, .inl mF))] sz)) 0 0 (va_A [(qM, .inr (8, [.int mt, .int mw, .int mh, .int mg, .int ms, .ref qMT, .ref qMW, .ref qMK, .ref qMM, .int mv, .int md, .ref qMR, .ref qML, .ref qMP, .int mu, .ref qMY, .ref qMF, .int mo, .int mf])), (qMY, .inl (G.2.1, 16, .inl mY)), (qMF, .inl (G.2.1, 16, .inl mF))] sz) := by
  refine Met.ofW (cc := cX8_notes) (maxL := 3) (ret := none) (by decide) rfl ?_
  intro p e s m args below meth c s₁ B hml hv
  obtain ⟨rfl, hsz, hP, hKK, hD0⟩ := hv
  have hK := hKK.1
  have hx := B.exec
  have hb := B.bytes
  have hr := B.returns
  have hts := atoms_spec (ws := wsX8_notes) B.pre
  have hown : s.vm.findClass RX8 = some m.cls := findClass_of_methodNamed B.named
  have hlocks := B.notSynchronized
  subst hsz
  have hD := hD0.self (sz := s.heap.size)
  generalize hAe : va_A [(qM, .inr (8, [.int mt, .int mw, .int mh, .int mg, .int ms, .ref qMT, .ref qMW, .ref qMK, .ref qMM, .int mv, .int md, .ref qMR, .ref qML, .ref qMP, .int mu, .ref qMY, .ref qMF, .int mo, .int mf])), (qMY, .inl (G.2.1, 16, .inl mY)), (qMF, .inl (G.2.1, 16, .inl mF))] s.heap.size = A at hD ⊢
  have hA : ∀ q : Nat, s.heap.size ≤ q → A q := fun q h => by rw [← hAe]; exact Or.inr h
  have hS : va_S A s.heap s.heap [] := va_S.rf
  have hl := lv_entry ([.ref qM] : List Value) (n := 3) (Nat.le_of_ble_eq_true rfl)
  rw [lg_entry_eq]
  generalize (lg_sl ([.ref qM] : List Value) ++ List.replicate (3 - (lg_sl ([.ref qM] : List Value)).length) Slot.unset).toArray = ls at hl ⊢
  have hl : lv_has ls 3 [(0, .ref qM)] := hl
  have hi8 : ∀ w ∈ u_ws RX8 TX8 19, w ∈ wsX8_notes := by decide +kernel
  have hw0 : (Cond.fieldLink RX8 42 "NetPlumberModel" "first" "[I").before #[Value.ref qM] s = true := hts _ (by decide +kernel)
  have hw1 : (Cond.fieldLink RX8 149 "NetPlumberModel" "solutions" "I").before #[Value.ref qM] s = true := hts _ (by decide +kernel)
  have hw2 : (Cond.fieldLink RX8 39 "NetPlumberModel" "lay" "[I").before #[Value.ref qM] s = true := hts _ (by decide +kernel)
  have hw3 : (Cond.fieldLink RX8 152 "NetPlumberModel" "fewest" "I").before #[Value.ref qM] s = true := hts _ (by decide +kernel)
  refine wq (fun Q hQ => ?_)
  unfold kX8_notes at hq
  refine lv_iconst (v := 0) hx hb dX8_notes_0 (by decide) ?_
  refine lv_istore_n (lv' := [(1, .int 0), (0, .ref qM)]) hx hb dX8_notes_1 rfl hl (by decide) rfl (fun ls hl => ?_)
  refine lv_iconst (v := 0) hx hb dX8_notes_2 (by decide) ?_
  refine lv_istore_n (lv' := [(2, .int 0), (1, .int 0), (0, .ref qM)]) hx hb dX8_notes_3 rfl hl (by decide) rfl (fun ls hl => ?_)
  have L4 : ∀ (n : Nat) (s8 : Int32) (s9 : Int32) (s10 : Nat → Int32) (t_4 : Int32 × (Nat → Int32)) (ls : Array Slot) (H : Heap) (locs : List Loc), kloop n (fun s_ => kX8_notes_s4 F mw mh mo mY s_.1 s_.2.1 s_.2.2) (s8, s9, s10) = some t_4 → lv_has ls 3 [(0, .ref qM), (1, .int s8), (2, .int s9)] → va_P G.1 vwCl [(qM, .inr (8, [.int mt, .int mw, .int mh, .int mg, .int ms, .ref qMT, .ref qMW, .ref qMK, .ref qMM, .int mv, .int md, .ref qMR, .ref qML, .ref qMP, .int mu, .ref qMY, .ref qMF, .int mo, .int mf])), (qMY, .inl (G.2.1, 16, .inl mY)), (qMF, .inl (G.2.1, 16, .inl s10))] H → va_D A [(qM, .inr (8, [.int mt, .int mw, .int mh, .int mg, .int ms, .ref qMT, .ref qMW, .ref qMK, .ref qMM, .int mv, .int md, .ref qMR, .ref qML, .ref qMP, .int mu, .ref qMY, .ref qMF, .int mo, .int mf])), (qMY, .inl (G.2.1, 16, .inl mY)), (qMF, .inl (G.2.1, 16, .inl s10))] → va_S A s.heap H locs → (∀ (ls : Array Slot) (H : Heap) (locs : List Loc), lv_has ls 3 [(0, .ref qM), (1, .int t_4.1)] → va_P G.1 vwCl [(qM, .inr (8, [.int mt, .int mw, .int mh, .int mg, .int ms, .ref qMT, .ref qMW, .ref qMK, .ref qMM, .int mv, .int md, .ref qMR, .ref qML, .ref qMP, .int mu, .ref qMY, .ref qMF, .int mo, .int mf])), (qMY, .inl (G.2.1, 16, .inl mY)), (qMF, .inl (G.2.1, 16, .inl t_4.2))] H → va_D A [(qM, .inr (8, [.int mt, .int mw, .int mh, .int mg, .int ms, .ref qMT, .ref qMW, .ref qMK, .ref qMM, .int mv, .int md, .ref qMR, .ref qML, .ref qMP, .int mu, .ref qMY, .ref qMF, .int mo, .int mf])), (qMY, .inl (G.2.1, 16, .inl mY)), (qMF, .inl (G.2.1, 16, .inl t_4.2))] → va_S A s.heap H locs → W p l e (headSpec wsX8_notes rmX8_notes).room s m ([.ref qM] : List Value).toArray below meth c H locs 0 0 Q (F0 m 55 ls [])) → W p l e (headSpec wsX8_notes rmX8_notes).room s m ([.ref qM] : List Value).toArray below meth c H locs 0 0 Q (F0 m 4 ls []) := by
    intro n
    induction n with
    | zero => 
      intro s8 s9 s10 t_4 ls H locs hq hl hP hD hS kk4_55
      exact absurd hq kl_0
    | succ n ih4 =>
      intro s8 s9 s10 t_4 ls H locs hq hl hP hD hS kk4_55
      obtain ⟨y_4, hq, hx4⟩ := kl_s hq
      have hq : kX8_notes_s4 F mw mh mo mY s8 s9 s10 = some y_4 := hq
      unfold kX8_notes_s4 at hq
      refine lv_iload_n hx hb dX8_notes_4 rfl (lv_at hl 2 rfl) ?_
      refine lv_aload_n hx hb dX8_notes_5 rfl (lv_at hl 0 rfl) ?_
      obtain ⟨q11, eq11, hq⟩ := ob hq
      have hPc := hP.sub (ws' := [(qM, .inr (8, [.int mt, .int mw, .int mh, .int mg, .int ms, .ref qMT, .ref qMW, .ref qMK, .ref qMM, .int mv, .int md, .ref qMR, .ref qML, .ref qMP, .int mu, .ref qMY, .ref qMF, .int mo, .int mf]))]) [0] rfl
      have hKc := hK
      refine vp_callSi (va_Run.run (va_runV (As := []) (rest := [.int s9]) ⟨hx, hb, hml, hown, hts⟩ (tX8_cells G l eq11) (cwV 0 hts gX8_notes_X8_cells rfl rfl rfl (by decide +kernel) ⟨Nat.le_of_ble_eq_true rfl, Nat.le_of_ble_eq_true rfl⟩) ⟨pcP_blind, va_recv hKc hPc (ci := 8) (q0 := 0) rfl rfl, pcP_pre hPc hKK⟩ rfl rfl hl.1 rfl (lv_room (Nat.le_of_ble_eq_true rfl)) dX8_notes_6 ⟨Nat.zero_le _, Nat.zero_le _⟩)) (fun r0 hr0 => ?_)
      obtain rfl := hr0
      refine lv_icmp_ge (tgt := 55) hx hb dX8_notes_9 (by decide) (fun c_9 => ?_) (fun c_9 => ?_)
      · have hq := k_t c_9 hq
        have et := kl_exit hq hx4
        subst et
        exact kk4_55 ls _ _ (lv_sub hl [0, 1] rfl) hP hD hS
      · have hq := k_f c_9 hq
        refine lv_aload_n hx hb dX8_notes_12 rfl (lv_at hl 0 rfl) ?_
        refine va_get (D := G.1) (ci := 8) (v := .ref qMF) (C := RX8) (T := TX8) (N := 19) hx hb hts hi8 hown hK hP 0 rfl rfl 16 (by decide) hw0 (fun _ h9 => h9) rfl dX8_notes_13 ?_
        refine lv_iload_n hx hb dX8_notes_16 rfl (lv_at hl 2 rfl) ?_
        refine lv_aload_n hx hb dX8_notes_17 rfl (lv_at hl 0 rfl) ?_
        refine va_get (D := G.1) (ci := 8) (v := .int mo) (C := RX8) (T := TX8) (N := 19) hx hb hts hi8 hown hK hP 0 rfl rfl 17 (by decide) hw1 (fun _ h9 => h9) rfl dX8_notes_18 ?_
        have J39 : ∀ (v12 : Int32) (ls : Array Slot) (H : Heap) (locs : List Loc), kX8_notes_j39 F mY s8 s9 s10 v12 = some y_4 → lv_has ls 3 [(0, .ref qM), (1, .int s8), (2, .int s9)] → va_P G.1 vwCl [(qM, .inr (8, [.int mt, .int mw, .int mh, .int mg, .int ms, .ref qMT, .ref qMW, .ref qMK, .ref qMM, .int mv, .int md, .ref qMR, .ref qML, .ref qMP, .int mu, .ref qMY, .ref qMF, .int mo, .int mf])), (qMY, .inl (G.2.1, 16, .inl mY)), (qMF, .inl (G.2.1, 16, .inl s10))] H → va_D A [(qM, .inr (8, [.int mt, .int mw, .int mh, .int mg, .int ms, .ref qMT, .ref qMW, .ref qMK, .ref qMM, .int mv, .int md, .ref qMR, .ref qML, .ref qMP, .int mu, .ref qMY, .ref qMF, .int mo, .int mf])), (qMY, .inl (G.2.1, 16, .inl mY)), (qMF, .inl (G.2.1, 16, .inl s10))] → va_S A s.heap H locs → W p l e (headSpec wsX8_notes rmX8_notes).room s m ([.ref qM] : List Value).toArray below meth c H locs 0 0 Q (F0 m 39 ls [.int v12, .int s9, .ref qMF]) := by
          intro v12 ls H locs hq hl hP hD hS
          unfold kX8_notes_j39 at hq
          obtain ⟨hg, hq⟩ := k_g hq
          refine va_iast hx hb hK hP hD hS 2 0 rfl rfl (ix_in hg) dX8_notes_39 (fun H locs hP hD hS => ?_)
          have hP : va_P G.1 vwCl [(qM, .inr (8, [.int mt, .int mw, .int mh, .int mg, .int ms, .ref qMT, .ref qMW, .ref qMK, .ref qMM, .int mv, .int md, .ref qMR, .ref qML, .ref qMP, .int mu, .ref qMY, .ref qMF, .int mo, .int mf])), (qMY, .inl (G.2.1, 16, .inl mY)), (qMF, .inl (G.2.1, 16, .inl (upd s10 s9.toNatClampNeg v12)))] H := hP
          have hD : va_D A [(qM, .inr (8, [.int mt, .int mw, .int mh, .int mg, .int ms, .ref qMT, .ref qMW, .ref qMK, .ref qMM, .int mv, .int md, .ref qMR, .ref qML, .ref qMP, .int mu, .ref qMY, .ref qMF, .int mo, .int mf])), (qMY, .inl (G.2.1, 16, .inl mY)), (qMF, .inl (G.2.1, 16, .inl (upd s10 s9.toNatClampNeg v12)))] := hD
          refine lv_iload_n hx hb dX8_notes_40 rfl (lv_at hl 1 rfl) ?_
          refine lv_aload_n hx hb dX8_notes_41 rfl (lv_at hl 0 rfl) ?_
          refine va_get (D := G.1) (ci := 8) (v := .ref qMY) (C := RX8) (T := TX8) (N := 19) hx hb hts hi8 hown hK hP 0 rfl rfl 15 (by decide) hw2 (fun _ h9 => h9) rfl dX8_notes_42 ?_
          refine lv_iload_n hx hb dX8_notes_45 rfl (lv_at hl 2 rfl) ?_
          obtain ⟨hg, hq⟩ := k_g hq
          refine va_iald hx hb hK hP 1 0 rfl rfl (ix_in hg) dX8_notes_46 ?_
          refine lv_iadd hx hb dX8_notes_47 ?_
          refine lv_istore_n (lv' := [(1, .int (s8 + (mY s9.toNatClampNeg))), (0, .ref qM), (2, .int s9)]) hx hb dX8_notes_48 rfl hl (by decide) rfl (fun ls hl => ?_)
          refine lv_iinc (v := (s9 + 1)) (lv' := [(2, .int (s9 + 1)), (1, .int (s8 + (mY s9.toNatClampNeg))), (0, .ref qM)]) hx hb dX8_notes_49 hl (k := 2) rfl rfl (by decide) rfl (fun ls hl => ?_)
          refine lv_goto (tgt := 4) hx hb dX8_notes_52 (by decide) ?_
          exact ih4 (s8 + (mY s9.toNatClampNeg)) (s9 + 1) (upd s10 s9.toNatClampNeg v12) t_4 ls _ _ (kl_back hq hx4) (lv_sub hl [2, 1, 0] rfl) hP hD hS kk4_55
        refine lv_if_ne (tgt := 33) hx hb dX8_notes_21 (by decide) (fun c_21 => ?_) (fun c_21 => ?_)
        · have hq := k_f c_21 hq
          refine lv_aload_n hx hb dX8_notes_33 rfl (lv_at hl 0 rfl) ?_
          refine va_get (D := G.1) (ci := 8) (v := .ref qMF) (C := RX8) (T := TX8) (N := 19) hx hb hts hi8 hown hK hP 0 rfl rfl 16 (by decide) hw0 (fun _ h9 => h9) rfl dX8_notes_34 ?_
          refine lv_iload_n hx hb dX8_notes_37 rfl (lv_at hl 2 rfl) ?_
          obtain ⟨hg, hq⟩ := k_g hq
          refine va_iald hx hb hK hP 2 0 rfl rfl (ix_in hg) dX8_notes_38 ?_
          exact J39 (s10 s9.toNatClampNeg) ls _ _ hq (lv_sub hl [0, 1, 2] rfl) hP hD hS
        · have hq := k_t c_21 hq
          refine lv_aload_n hx hb dX8_notes_24 rfl (lv_at hl 0 rfl) ?_
          refine va_get (D := G.1) (ci := 8) (v := .ref qMY) (C := RX8) (T := TX8) (N := 19) hx hb hts hi8 hown hK hP 0 rfl rfl 15 (by decide) hw2 (fun _ h9 => h9) rfl dX8_notes_25 ?_
          refine lv_iload_n hx hb dX8_notes_28 rfl (lv_at hl 2 rfl) ?_
          obtain ⟨hg, hq⟩ := k_g hq
          refine va_iald hx hb hK hP 1 0 rfl rfl (ix_in hg) dX8_notes_29 ?_
          refine lv_goto (tgt := 39) hx hb dX8_notes_30 (by decide) ?_
          exact J39 (mY s9.toNatClampNeg) ls _ _ hq (lv_sub hl [0, 1, 2] rfl) hP hD hS
  obtain ⟨q13, eq13, hq⟩ := ob hq
  refine L4 F 0 0 mF q13 ls _ _ (eq13) (lv_sub hl [2, 1, 0] rfl) hP hD hS (fun ls H locs hl hP hD hS => ?_)
  · refine lv_aload_n hx hb dX8_notes_55 rfl (lv_at hl 0 rfl) ?_
    refine lv_aload_n hx hb dX8_notes_56 rfl (lv_at hl 0 rfl) ?_
    refine va_get (D := G.1) (ci := 8) (v := .int mo) (C := RX8) (T := TX8) (N := 19) hx hb hts hi8 hown hK hP 0 rfl rfl 17 (by decide) hw1 (fun _ h9 => h9) rfl dX8_notes_57 ?_
    have J79 : ∀ (v14 : Int32) (ls : Array Slot) (H : Heap) (locs : List Loc), kX8_notes_j79 F mo q13 v14 = some r → lv_has ls 3 [(0, .ref qM)] → va_P G.1 vwCl [(qM, .inr (8, [.int mt, .int mw, .int mh, .int mg, .int ms, .ref qMT, .ref qMW, .ref qMK, .ref qMM, .int mv, .int md, .ref qMR, .ref qML, .ref qMP, .int mu, .ref qMY, .ref qMF, .int mo, .int mf])), (qMY, .inl (G.2.1, 16, .inl mY)), (qMF, .inl (G.2.1, 16, .inl q13.2))] H → va_D A [(qM, .inr (8, [.int mt, .int mw, .int mh, .int mg, .int ms, .ref qMT, .ref qMW, .ref qMK, .ref qMM, .int mv, .int md, .ref qMR, .ref qML, .ref qMP, .int mu, .ref qMY, .ref qMF, .int mo, .int mf])), (qMY, .inl (G.2.1, 16, .inl mY)), (qMF, .inl (G.2.1, 16, .inl q13.2))] → va_S A s.heap H locs → W p l e (headSpec wsX8_notes rmX8_notes).room s m ([.ref qM] : List Value).toArray below meth c H locs 0 0 Q (F0 m 79 ls [.int v14, .ref qM]) := by
      intro v14 ls H locs hq hl hP hD hS
      unfold kX8_notes_j79 at hq
      refine va_put (D := G.1) (ci := 8) (v := .int v14) (ty := .int) (C := RX8) (T := TX8) (N := 19) hx hb hts hi8 tyX8 tyX8_ok nmX8 hown hK hP hD hS 0 rfl rfl 18 (by decide) hw3 (fun _ h9 => h9) rfl (by decide +kernel) rfl rfl (Nat.le_of_ble_eq_true rfl) dX8_notes_79 (fun H locs hP hD hS => ?_)
      have hP : va_P G.1 vwCl [(qM, .inr (8, [.int mt, .int mw, .int mh, .int mg, .int ms, .ref qMT, .ref qMW, .ref qMK, .ref qMM, .int mv, .int md, .ref qMR, .ref qML, .ref qMP, .int mu, .ref qMY, .ref qMF, .int mo, .int v14])), (qMY, .inl (G.2.1, 16, .inl mY)), (qMF, .inl (G.2.1, 16, .inl q13.2))] H := hP
      have hD : va_D A [(qM, .inr (8, [.int mt, .int mw, .int mh, .int mg, .int ms, .ref qMT, .ref qMW, .ref qMK, .ref qMM, .int mv, .int md, .ref qMR, .ref qML, .ref qMP, .int mu, .ref qMY, .ref qMF, .int mo, .int v14])), (qMY, .inl (G.2.1, 16, .inl mY)), (qMF, .inl (G.2.1, 16, .inl q13.2))] := hD
      refine lv_aload_n hx hb dX8_notes_82 rfl (lv_at hl 0 rfl) ?_
      refine lv_dup hx hb dX8_notes_83 rfl ?_
      refine va_get (D := G.1) (ci := 8) (v := .int mo) (C := RX8) (T := TX8) (N := 19) hx hb hts hi8 hown hK hP 0 rfl rfl 17 (by decide) hw1 (fun _ h9 => h9) rfl dX8_notes_84 ?_
      refine lv_iconst (v := 1) hx hb dX8_notes_87 (by decide) ?_
      refine lv_iadd hx hb dX8_notes_88 ?_
      refine va_put (D := G.1) (ci := 8) (v := .int (mo + 1)) (ty := .int) (C := RX8) (T := TX8) (N := 19) hx hb hts hi8 tyX8 tyX8_ok nmX8 hown hK hP hD hS 0 rfl rfl 17 (by decide) hw1 (fun _ h9 => h9) rfl (by decide +kernel) rfl rfl (Nat.le_of_ble_eq_true rfl) dX8_notes_89 (fun H locs hP hD hS => ?_)
      have hP : va_P G.1 vwCl [(qM, .inr (8, [.int mt, .int mw, .int mh, .int mg, .int ms, .ref qMT, .ref qMW, .ref qMK, .ref qMM, .int mv, .int md, .ref qMR, .ref qML, .ref qMP, .int mu, .ref qMY, .ref qMF, .int (mo + 1), .int v14])), (qMY, .inl (G.2.1, 16, .inl mY)), (qMF, .inl (G.2.1, 16, .inl q13.2))] H := hP
      have hD : va_D A [(qM, .inr (8, [.int mt, .int mw, .int mh, .int mg, .int ms, .ref qMT, .ref qMW, .ref qMK, .ref qMM, .int mv, .int md, .ref qMR, .ref qML, .ref qMP, .int mu, .ref qMY, .ref qMF, .int (mo + 1), .int v14])), (qMY, .inl (G.2.1, 16, .inl mY)), (qMF, .inl (G.2.1, 16, .inl q13.2))] := hD
      obtain rfl := Option.some.inj hq
      rw [hQ]
      exact W.vret hx hb hr (fun t ht hW => ⟨⟨(), rfl, trivial, va_Pat ht hP⟩, hS.F ht⟩) hS.2.2 dX8_notes_92
    refine lv_if_eq (tgt := 71) hx hb dX8_notes_60 (by decide) (fun c_60 => ?_) (fun c_60 => ?_)
    · have hq := k_t c_60 hq
      refine lv_iload_n hx hb dX8_notes_71 rfl (lv_at hl 1 rfl) ?_
      refine lv_goto (tgt := 79) hx hb dX8_notes_72 (by decide) ?_
      exact J79 q13.1 ls _ _ hq (lv_sub hl [0] rfl) hP hD hS
    · have hq := k_f c_60 hq
      refine lv_iload_n hx hb dX8_notes_63 rfl (lv_at hl 1 rfl) ?_
      refine lv_aload_n hx hb dX8_notes_64 rfl (lv_at hl 0 rfl) ?_
      refine va_get (D := G.1) (ci := 8) (v := .int mf) (C := RX8) (T := TX8) (N := 19) hx hb hts hi8 hown hK hP 0 rfl rfl 18 (by decide) hw3 (fun _ h9 => h9) rfl dX8_notes_65 ?_
      refine lv_icmp_ge (tgt := 75) hx hb dX8_notes_68 (by decide) (fun c_68 => ?_) (fun c_68 => ?_)
      · have hq := k_t c_68 hq
        refine lv_aload_n hx hb dX8_notes_75 rfl (lv_at hl 0 rfl) ?_
        refine va_get (D := G.1) (ci := 8) (v := .int mf) (C := RX8) (T := TX8) (N := 19) hx hb hts hi8 hown hK hP 0 rfl rfl 18 (by decide) hw3 (fun _ h9 => h9) rfl dX8_notes_76 ?_
        exact J79 mf ls _ _ hq (lv_sub hl [0] rfl) hP hD hS
      · have hq := k_f c_68 hq
        refine lv_iload_n hx hb dX8_notes_71 rfl (lv_at hl 1 rfl) ?_
        refine lv_goto (tgt := 79) hx hb dX8_notes_72 (by decide) ?_
        exact J79 q13.1 ls _ _ hq (lv_sub hl [0] rfl) hP hD hS

abbrev rmX8_searches : Room := { frames := 2, cells := 0, slots := 0, locals := 52 }
set_option maxHeartbeats 40000000 in
set_option maxRecDepth 100000 in
theorem tX8_searches (G : GG) (l : Launch) {qM qMT qMW qMK qMM qMR qML qMP qMY qMF : Nat} {mt : Int32} {mw : Int32} {mh : Int32} {mg : Int32} {ms : Int32} {mv : Int32} {md : Int32} {mu : Int32} {mo : Int32} {mf : Int32} {mT : Nat → Int32} {mW : Nat → Int32} {mK : Nat → Int32} {mR : Nat → Int32} {mY : Nat → Int32} {mF : Nat → Int32} {sz : Nat} {F : Nat} {r : Int32 × Int32 × (Nat → Int32) × (Nat → Int32) × (Nat → Int32)} (hq : kX8_searches F mw mh mg mo mf mT mW mK mR mY mF = some r) : Met l yX8_searches wsX8_searches rmX8_searches (pcW G [(qM, .inr (8, [.int mt, .int mw, .int mh, .int mg, .int ms, .ref qMT, .ref qMW, .ref qMK, .ref qMM, .int mv, .int md, .ref qMR, .ref qML, .ref qMP, .int mu, .ref qMY, .ref qMF, .int mo, .int mf])), (qMT, .inl (G.2.1, 16, .inl mT)), (qMW, .inl (G.2.1, 16, .inl mW)), (qMK, .inl (G.2.2.2.1, 16, .inl mK)), (qMR, .inl (G.2.2.2.1, 16, .inl mR)), (qMY, .inl (G.2.1, 16, .inl mY)), (qMF, .inl (G.2.1, 16, .inl mF))] sz [.ref qM]) (qcV G [(qM, .inr (8, [.int mt, .int mw, .int mh, .int mg, .int ms, .ref qMT, .ref qMW, .ref qMK, .ref qMM, .int mv, .int md, .ref qMR, .ref qML, .ref qMP, .int mu, .ref qMY, .ref qMF, .int r.1, .int r.2.1])), (qMT, .inl (G.2.1, 16, .inl mT)), (qMW, .inl (G.2.1, 16, .inl mW)), (qMK, .inl (G.2.2.2.1, 16, .inl mK)), (qMR, .inl (G.2.2.2.1, 16, .inl r.2.2.1)), (qMY, .inl (G.2.1, 16, .inl r.2.2.2.1)), (qMF, .inl (G.2.1, 16, .inl r.2.2.2.2))] (va_A [(qM, .inr (8, [.int mt, .int mw, .int mh, .int mg, .int ms, .ref qMT, .ref qMW, .ref qMK, .ref qMM, .int mv, .int md, .ref qMR, .ref qML, .ref qMP, .int mu, .ref qMY, .ref qMF, .int mo, .int mf])), (qMT, .inl (G.2.1, 16, .inl mT)), (qMW, .inl (G.2.1, 16, .inl mW)), (qMK, .inl (G.2.2.2.1, 16, .inl mK)), (qMR, .inl (G.2.2.2.1, 16, .inl mR)), (qMY, .inl (G.2.1, 16, .inl mY)), (qMF, .inl (G.2.1, 16, .inl mF))] sz)) 0 0 (va_A [(qM, .inr (8, [.int mt, .int mw, .int mh, .int mg, .int ms, .ref qMT, .ref qMW, .ref qMK, .ref qMM, .int mv, .int md, .ref qMR, .ref qML, .ref qMP, .int mu, .ref qMY, .ref qMF, .int mo, .int mf])), (qMT, .inl (G.2.1, 16, .inl mT)), (qMW, .inl (G.2.1, 16, .inl mW)), (qMK, .inl (G.2.2.2.1, 16, .inl mK)), (qMR, .inl (G.2.2.2.1, 16, .inl mR)), (qMY, .inl (G.2.1, 16, .inl mY)), (qMF, .inl (G.2.1, 16, .inl mF))] sz) := by
  refine Met.ofW (cc := cX8_searches) (maxL := 3) (ret := none) (by decide) rfl ?_
  intro p e s m args below meth c s₁ B hml hv
  obtain ⟨rfl, hsz, hP, hKK, hD0⟩ := hv
  have hK := hKK.1
  have hx := B.exec
  have hb := B.bytes
  have hr := B.returns
  have hts := atoms_spec (ws := wsX8_searches) B.pre
  have hown : s.vm.findClass RX8 = some m.cls := findClass_of_methodNamed B.named
  have hlocks := B.notSynchronized
  subst hsz
  have hD := hD0.self (sz := s.heap.size)
  generalize hAe : va_A [(qM, .inr (8, [.int mt, .int mw, .int mh, .int mg, .int ms, .ref qMT, .ref qMW, .ref qMK, .ref qMM, .int mv, .int md, .ref qMR, .ref qML, .ref qMP, .int mu, .ref qMY, .ref qMF, .int mo, .int mf])), (qMT, .inl (G.2.1, 16, .inl mT)), (qMW, .inl (G.2.1, 16, .inl mW)), (qMK, .inl (G.2.2.2.1, 16, .inl mK)), (qMR, .inl (G.2.2.2.1, 16, .inl mR)), (qMY, .inl (G.2.1, 16, .inl mY)), (qMF, .inl (G.2.1, 16, .inl mF))] s.heap.size = A at hD ⊢
  have hA : ∀ q : Nat, s.heap.size ≤ q → A q := fun q h => by rw [← hAe]; exact Or.inr h
  have hS : va_S A s.heap s.heap [] := va_S.rf
  have hl := lv_entry ([.ref qM] : List Value) (n := 3) (Nat.le_of_ble_eq_true rfl)
  rw [lg_entry_eq]
  generalize (lg_sl ([.ref qM] : List Value) ++ List.replicate (3 - (lg_sl ([.ref qM] : List Value)).length) Slot.unset).toArray = ls at hl ⊢
  have hl : lv_has ls 3 [(0, .ref qM)] := hl
  have hi8 : ∀ w ∈ u_ws RX8 TX8 19, w ∈ wsX8_searches := by decide +kernel
  have hw0 : (Cond.fieldLink RX8 149 "NetPlumberModel" "solutions" "I").before #[Value.ref qM] s = true := hts _ (by decide +kernel)
  have hw1 : (Cond.fieldLink RX8 39 "NetPlumberModel" "lay" "[I").before #[Value.ref qM] s = true := hts _ (by decide +kernel)
  refine wq (fun Q hQ => ?_)
  unfold kX8_searches at hq
  refine lv_aload_n hx hb dX8_searches_0 rfl (lv_at hl 0 rfl) ?_
  obtain ⟨q1, eq1, hq⟩ := ob hq
  have hPc := hP.sub (ws' := [(qM, .inr (8, [.int mt, .int mw, .int mh, .int mg, .int ms, .ref qMT, .ref qMW, .ref qMK, .ref qMM, .int mv, .int md, .ref qMR, .ref qML, .ref qMP, .int mu, .ref qMY, .ref qMF, .int mo, .int mf])), (qMT, .inl (G.2.1, 16, .inl mT))]) [0, 1] rfl
  have hKc := hK
  refine vp_callSi (va_Run.run (va_runV (As := []) (rest := []) ⟨hx, hb, hml, hown, hts⟩ (tX8_open G l eq1) (cwV 0 hts gX8_searches_X8_open rfl rfl rfl (by decide +kernel) ⟨Nat.le_of_ble_eq_true rfl, Nat.le_of_ble_eq_true rfl⟩) ⟨pcP_blind, va_recv hKc hPc (ci := 8) (q0 := 0) rfl rfl, pcP_pre hPc hKK⟩ rfl rfl hl.1 rfl (lv_room (Nat.le_of_ble_eq_true rfl)) dX8_searches_1 ⟨Nat.zero_le _, Nat.zero_le _⟩)) (fun r0 hr0 => ?_)
  obtain rfl := hr0
  refine lv_iconst (v := 2) hx hb dX8_searches_4 (by decide) ?_
  refine lv_aload_n hx hb dX8_searches_5 rfl (lv_at hl 0 rfl) ?_
  obtain ⟨q2, eq2, hq⟩ := ob hq
  have hPc := hP.sub (ws' := [(qM, .inr (8, [.int mt, .int mw, .int mh, .int mg, .int ms, .ref qMT, .ref qMW, .ref qMK, .ref qMM, .int mv, .int md, .ref qMR, .ref qML, .ref qMP, .int mu, .ref qMY, .ref qMF, .int mo, .int mf]))]) [0] rfl
  have hKc := hK
  refine vp_callSi (va_Run.run (va_runV (As := []) (rest := [.int 2, .int q1]) ⟨hx, hb, hml, hown, hts⟩ (tX8_cells G l eq2) (cwV 0 hts gX8_searches_X8_cells rfl rfl rfl (by decide +kernel) ⟨Nat.le_of_ble_eq_true rfl, Nat.le_of_ble_eq_true rfl⟩) ⟨pcP_blind, va_recv hKc hPc (ci := 8) (q0 := 0) rfl rfl, pcP_pre hPc hKK⟩ rfl rfl hl.1 rfl (lv_room (Nat.le_of_ble_eq_true rfl)) dX8_searches_6 ⟨Nat.zero_le _, Nat.zero_le _⟩)) (fun r0 hr0 => ?_)
  obtain rfl := hr0
  refine lv_iconst (v := 1) hx hb dX8_searches_9 (by decide) ?_
  refine lv_isub hx hb dX8_searches_10 ?_
  refine lv_imul hx hb dX8_searches_11 ?_
  have J20 : ∀ (v3 : Int32) (ls : Array Slot) (H : Heap) (locs : List Loc), kX8_searches_j20 F mw mh mg mf mT mW mK mR mY mF v3 = some r → lv_has ls 3 [(0, .ref qM)] → va_P G.1 vwCl [(qM, .inr (8, [.int mt, .int mw, .int mh, .int mg, .int ms, .ref qMT, .ref qMW, .ref qMK, .ref qMM, .int mv, .int md, .ref qMR, .ref qML, .ref qMP, .int mu, .ref qMY, .ref qMF, .int mo, .int mf])), (qMT, .inl (G.2.1, 16, .inl mT)), (qMW, .inl (G.2.1, 16, .inl mW)), (qMK, .inl (G.2.2.2.1, 16, .inl mK)), (qMR, .inl (G.2.2.2.1, 16, .inl mR)), (qMY, .inl (G.2.1, 16, .inl mY)), (qMF, .inl (G.2.1, 16, .inl mF))] H → va_D A [(qM, .inr (8, [.int mt, .int mw, .int mh, .int mg, .int ms, .ref qMT, .ref qMW, .ref qMK, .ref qMM, .int mv, .int md, .ref qMR, .ref qML, .ref qMP, .int mu, .ref qMY, .ref qMF, .int mo, .int mf])), (qMT, .inl (G.2.1, 16, .inl mT)), (qMW, .inl (G.2.1, 16, .inl mW)), (qMK, .inl (G.2.2.2.1, 16, .inl mK)), (qMR, .inl (G.2.2.2.1, 16, .inl mR)), (qMY, .inl (G.2.1, 16, .inl mY)), (qMF, .inl (G.2.1, 16, .inl mF))] → va_S A s.heap H locs → W p l e (headSpec wsX8_searches rmX8_searches).room s m ([.ref qM] : List Value).toArray below meth c H locs 0 0 Q (F0 m 20 ls [.int v3]) := by
    intro v3 ls H locs hq hl hP hD hS
    unfold kX8_searches_j20 at hq
    refine lv_istore_n (lv' := [(1, .int v3), (0, .ref qM)]) hx hb dX8_searches_20 rfl hl (by decide) rfl (fun ls hl => ?_)
    refine lv_aload_n hx hb dX8_searches_21 rfl (lv_at hl 1 rfl) ?_
    refine lv_iconst (v := 0) hx hb dX8_searches_22 (by decide) ?_
    refine va_put (D := G.1) (ci := 8) (v := .int 0) (ty := .int) (C := RX8) (T := TX8) (N := 19) hx hb hts hi8 tyX8 tyX8_ok nmX8 hown hK hP hD hS 0 rfl rfl 17 (by decide) hw0 (fun _ h9 => h9) rfl (by decide +kernel) rfl rfl (Nat.le_of_ble_eq_true rfl) dX8_searches_23 (fun H locs hP hD hS => ?_)
    have hP : va_P G.1 vwCl [(qM, .inr (8, [.int mt, .int mw, .int mh, .int mg, .int ms, .ref qMT, .ref qMW, .ref qMK, .ref qMM, .int mv, .int md, .ref qMR, .ref qML, .ref qMP, .int mu, .ref qMY, .ref qMF, .int 0, .int mf])), (qMT, .inl (G.2.1, 16, .inl mT)), (qMW, .inl (G.2.1, 16, .inl mW)), (qMK, .inl (G.2.2.2.1, 16, .inl mK)), (qMR, .inl (G.2.2.2.1, 16, .inl mR)), (qMY, .inl (G.2.1, 16, .inl mY)), (qMF, .inl (G.2.1, 16, .inl mF))] H := hP
    have hD : va_D A [(qM, .inr (8, [.int mt, .int mw, .int mh, .int mg, .int ms, .ref qMT, .ref qMW, .ref qMK, .ref qMM, .int mv, .int md, .ref qMR, .ref qML, .ref qMP, .int mu, .ref qMY, .ref qMF, .int 0, .int mf])), (qMT, .inl (G.2.1, 16, .inl mT)), (qMW, .inl (G.2.1, 16, .inl mW)), (qMK, .inl (G.2.2.2.1, 16, .inl mK)), (qMR, .inl (G.2.2.2.1, 16, .inl mR)), (qMY, .inl (G.2.1, 16, .inl mY)), (qMF, .inl (G.2.1, 16, .inl mF))] := hD
    refine lv_iconst (v := 0) hx hb dX8_searches_26 (by decide) ?_
    refine lv_istore_n (lv' := [(2, .int 0), (1, .int v3), (0, .ref qM)]) hx hb dX8_searches_27 rfl hl (by decide) rfl (fun ls hl => ?_)
    refine lv_aload_n hx hb dX8_searches_28 rfl (lv_at hl 2 rfl) ?_
    refine va_get (D := G.1) (ci := 8) (v := .ref qMY) (C := RX8) (T := TX8) (N := 19) hx hb hts hi8 hown hK hP 0 rfl rfl 15 (by decide) hw1 (fun _ h9 => h9) rfl dX8_searches_29 ?_
    refine lv_iconst (v := 0) hx hb dX8_searches_32 (by decide) ?_
    refine lv_iconst (v := (-1)) hx hb dX8_searches_33 (by decide) ?_
    obtain ⟨hg, hq⟩ := k_g hq
    refine va_iast hx hb hK hP hD hS 5 0 rfl rfl (ix_in hg) dX8_searches_34 (fun H locs hP hD hS => ?_)
    have hP : va_P G.1 vwCl [(qM, .inr (8, [.int mt, .int mw, .int mh, .int mg, .int ms, .ref qMT, .ref qMW, .ref qMK, .ref qMM, .int mv, .int md, .ref qMR, .ref qML, .ref qMP, .int mu, .ref qMY, .ref qMF, .int 0, .int mf])), (qMT, .inl (G.2.1, 16, .inl mT)), (qMW, .inl (G.2.1, 16, .inl mW)), (qMK, .inl (G.2.2.2.1, 16, .inl mK)), (qMR, .inl (G.2.2.2.1, 16, .inl mR)), (qMY, .inl (G.2.1, 16, .inl (upd mY (0 : Int32).toNatClampNeg (-1)))), (qMF, .inl (G.2.1, 16, .inl mF))] H := hP
    have hD : va_D A [(qM, .inr (8, [.int mt, .int mw, .int mh, .int mg, .int ms, .ref qMT, .ref qMW, .ref qMK, .ref qMM, .int mv, .int md, .ref qMR, .ref qML, .ref qMP, .int mu, .ref qMY, .ref qMF, .int 0, .int mf])), (qMT, .inl (G.2.1, 16, .inl mT)), (qMW, .inl (G.2.1, 16, .inl mW)), (qMK, .inl (G.2.2.2.1, 16, .inl mK)), (qMR, .inl (G.2.2.2.1, 16, .inl mR)), (qMY, .inl (G.2.1, 16, .inl (upd mY (0 : Int32).toNatClampNeg (-1)))), (qMF, .inl (G.2.1, 16, .inl mF))] := hD
    have L35 : ∀ (n : Nat) (s16 : Int32) (s17 : Int32) (s18 : Int32) (s19 : Nat → Int32) (s20 : Nat → Int32) (s21 : Nat → Int32) (t_35 : Int32 × Int32 × (Nat → Int32) × (Nat → Int32) × (Nat → Int32)) (ls : Array Slot) (H : Heap) (locs : List Loc), kloop n (fun s_ => kX8_searches_s35 F mw mh mg mT mW mK v3 s_.1 s_.2.1 s_.2.2.1 s_.2.2.2.1 s_.2.2.2.2.1 s_.2.2.2.2.2) (s16, s17, s18, s19, s20, s21) = some t_35 → lv_has ls 3 [(0, .ref qM), (1, .int v3), (2, .int s16)] → va_P G.1 vwCl [(qM, .inr (8, [.int mt, .int mw, .int mh, .int mg, .int ms, .ref qMT, .ref qMW, .ref qMK, .ref qMM, .int mv, .int md, .ref qMR, .ref qML, .ref qMP, .int mu, .ref qMY, .ref qMF, .int s17, .int s18])), (qMT, .inl (G.2.1, 16, .inl mT)), (qMW, .inl (G.2.1, 16, .inl mW)), (qMK, .inl (G.2.2.2.1, 16, .inl mK)), (qMR, .inl (G.2.2.2.1, 16, .inl s19)), (qMY, .inl (G.2.1, 16, .inl s20)), (qMF, .inl (G.2.1, 16, .inl s21))] H → va_D A [(qM, .inr (8, [.int mt, .int mw, .int mh, .int mg, .int ms, .ref qMT, .ref qMW, .ref qMK, .ref qMM, .int mv, .int md, .ref qMR, .ref qML, .ref qMP, .int mu, .ref qMY, .ref qMF, .int s17, .int s18])), (qMT, .inl (G.2.1, 16, .inl mT)), (qMW, .inl (G.2.1, 16, .inl mW)), (qMK, .inl (G.2.2.2.1, 16, .inl mK)), (qMR, .inl (G.2.2.2.1, 16, .inl s19)), (qMY, .inl (G.2.1, 16, .inl s20)), (qMF, .inl (G.2.1, 16, .inl s21))] → va_S A s.heap H locs → (∀ (ls : Array Slot) (H : Heap) (locs : List Loc), lv_has ls 3 [] → va_P G.1 vwCl [(qM, .inr (8, [.int mt, .int mw, .int mh, .int mg, .int ms, .ref qMT, .ref qMW, .ref qMK, .ref qMM, .int mv, .int md, .ref qMR, .ref qML, .ref qMP, .int mu, .ref qMY, .ref qMF, .int t_35.1, .int t_35.2.1])), (qMT, .inl (G.2.1, 16, .inl mT)), (qMW, .inl (G.2.1, 16, .inl mW)), (qMK, .inl (G.2.2.2.1, 16, .inl mK)), (qMR, .inl (G.2.2.2.1, 16, .inl t_35.2.2.1)), (qMY, .inl (G.2.1, 16, .inl t_35.2.2.2.1)), (qMF, .inl (G.2.1, 16, .inl t_35.2.2.2.2))] H → va_D A [(qM, .inr (8, [.int mt, .int mw, .int mh, .int mg, .int ms, .ref qMT, .ref qMW, .ref qMK, .ref qMM, .int mv, .int md, .ref qMR, .ref qML, .ref qMP, .int mu, .ref qMY, .ref qMF, .int t_35.1, .int t_35.2.1])), (qMT, .inl (G.2.1, 16, .inl mT)), (qMW, .inl (G.2.1, 16, .inl mW)), (qMK, .inl (G.2.2.2.1, 16, .inl mK)), (qMR, .inl (G.2.2.2.1, 16, .inl t_35.2.2.1)), (qMY, .inl (G.2.1, 16, .inl t_35.2.2.2.1)), (qMF, .inl (G.2.1, 16, .inl t_35.2.2.2.2))] → va_S A s.heap H locs → W p l e (headSpec wsX8_searches rmX8_searches).room s m ([.ref qM] : List Value).toArray below meth c H locs 0 0 Q (F0 m 118 ls [])) → W p l e (headSpec wsX8_searches rmX8_searches).room s m ([.ref qM] : List Value).toArray below meth c H locs 0 0 Q (F0 m 35 ls []) := by
      intro n
      induction n with
      | zero => 
        intro s16 s17 s18 s19 s20 s21 t_35 ls H locs hq hl hP hD hS kk35_118
        exact absurd hq kl_0
      | succ n ih35 =>
        intro s16 s17 s18 s19 s20 s21 t_35 ls H locs hq hl hP hD hS kk35_118
        obtain ⟨y_35, hq, hx35⟩ := kl_s hq
        have hq : kX8_searches_s35 F mw mh mg mT mW mK v3 s16 s17 s18 s19 s20 s21 = some y_35 := hq
        unfold kX8_searches_s35 at hq
        refine lv_iload_n hx hb dX8_searches_35 rfl (lv_at hl 2 rfl) ?_
        refine lv_if_lt (tgt := 118) hx hb dX8_searches_36 (by decide) (fun c_36 => ?_) (fun c_36 => ?_)
        · have hq := k_t c_36 hq
          have et := kl_exit hq hx35
          subst et
          exact kk35_118 ls _ _ (lv_sub hl [] rfl) hP hD hS
        · have hq := k_f c_36 hq
          refine lv_iload_n hx hb dX8_searches_39 rfl (lv_at hl 1 rfl) ?_
          refine lv_if_eq (tgt := 118) hx hb dX8_searches_40 (by decide) (fun c_40 => ?_) (fun c_40 => ?_)
          · have hq := k_t c_40 hq
            have et := kl_exit hq hx35
            subst et
            exact kk35_118 ls _ _ (lv_sub hl [] rfl) hP hD hS
          · have hq := k_f c_40 hq
            refine lv_aload_n hx hb dX8_searches_43 rfl (lv_at hl 0 rfl) ?_
            refine va_get (D := G.1) (ci := 8) (v := .ref qMY) (C := RX8) (T := TX8) (N := 19) hx hb hts hi8 hown hK hP 0 rfl rfl 15 (by decide) hw1 (fun _ h9 => h9) rfl dX8_searches_44 ?_
            refine lv_iload_n hx hb dX8_searches_47 rfl (lv_at hl 2 rfl) ?_
            refine lv_dup2_11 hx hb dX8_searches_48 rfl rfl ?_
            obtain ⟨hg, hq⟩ := k_g hq
            refine va_iald hx hb hK hP 5 0 rfl rfl (ix_in hg) dX8_searches_49 ?_
            refine lv_iconst (v := 1) hx hb dX8_searches_50 (by decide) ?_
            refine lv_iadd hx hb dX8_searches_51 ?_
            obtain ⟨hg, hq⟩ := k_g hq
            refine va_iast hx hb hK hP hD hS 5 0 rfl rfl (ix_in hg) dX8_searches_52 (fun H locs hP hD hS => ?_)
            have hP : va_P G.1 vwCl [(qM, .inr (8, [.int mt, .int mw, .int mh, .int mg, .int ms, .ref qMT, .ref qMW, .ref qMK, .ref qMM, .int mv, .int md, .ref qMR, .ref qML, .ref qMP, .int mu, .ref qMY, .ref qMF, .int s17, .int s18])), (qMT, .inl (G.2.1, 16, .inl mT)), (qMW, .inl (G.2.1, 16, .inl mW)), (qMK, .inl (G.2.2.2.1, 16, .inl mK)), (qMR, .inl (G.2.2.2.1, 16, .inl s19)), (qMY, .inl (G.2.1, 16, .inl (upd s20 s16.toNatClampNeg ((s20 s16.toNatClampNeg) + 1)))), (qMF, .inl (G.2.1, 16, .inl s21))] H := hP
            have hD : va_D A [(qM, .inr (8, [.int mt, .int mw, .int mh, .int mg, .int ms, .ref qMT, .ref qMW, .ref qMK, .ref qMM, .int mv, .int md, .ref qMR, .ref qML, .ref qMP, .int mu, .ref qMY, .ref qMF, .int s17, .int s18])), (qMT, .inl (G.2.1, 16, .inl mT)), (qMW, .inl (G.2.1, 16, .inl mW)), (qMK, .inl (G.2.2.2.1, 16, .inl mK)), (qMR, .inl (G.2.2.2.1, 16, .inl s19)), (qMY, .inl (G.2.1, 16, .inl (upd s20 s16.toNatClampNeg ((s20 s16.toNatClampNeg) + 1)))), (qMF, .inl (G.2.1, 16, .inl s21))] := hD
            refine lv_aload_n hx hb dX8_searches_53 rfl (lv_at hl 0 rfl) ?_
            refine va_get (D := G.1) (ci := 8) (v := .ref qMY) (C := RX8) (T := TX8) (N := 19) hx hb hts hi8 hown hK hP 0 rfl rfl 15 (by decide) hw1 (fun _ h9 => h9) rfl dX8_searches_54 ?_
            refine lv_iload_n hx hb dX8_searches_57 rfl (lv_at hl 2 rfl) ?_
            obtain ⟨hg, hq⟩ := k_g hq
            refine va_iald hx hb hK hP 5 0 rfl rfl (ix_in hg) dX8_searches_58 ?_
            refine lv_aload_n hx hb dX8_searches_59 rfl (lv_at hl 0 rfl) ?_
            refine lv_iload_n hx hb dX8_searches_60 rfl (lv_at hl 2 rfl) ?_
            obtain ⟨q22, eq22, hq⟩ := ob hq
            have hPc := hP.sub (ws' := [(qM, .inr (8, [.int mt, .int mw, .int mh, .int mg, .int ms, .ref qMT, .ref qMW, .ref qMK, .ref qMM, .int mv, .int md, .ref qMR, .ref qML, .ref qMP, .int mu, .ref qMY, .ref qMF, .int s17, .int s18])), (qMT, .inl (G.2.1, 16, .inl mT)), (qMK, .inl (G.2.2.2.1, 16, .inl mK))]) [0, 1, 3] rfl
            have hKc := hK
            refine vp_callSi (va_Run.run (va_runV (As := [.int s16]) (rest := [.int ((upd s20 s16.toNatClampNeg ((s20 s16.toNatClampNeg) + 1)) s16.toNatClampNeg)]) ⟨hx, hb, hml, hown, hts⟩ (tX8_laysOf G l eq22) (cwV 1 hts gX8_searches_X8_laysOf rfl rfl rfl (by decide +kernel) ⟨Nat.le_of_ble_eq_true rfl, Nat.le_of_ble_eq_true rfl⟩) ⟨pcP_blind, va_recv hKc hPc (ci := 8) (q0 := 0) rfl rfl, pcP_pre hPc hKK⟩ rfl rfl hl.1 rfl (lv_room (Nat.le_of_ble_eq_true rfl)) dX8_searches_61 ⟨Nat.zero_le _, Nat.zero_le _⟩)) (fun r0 hr0 => ?_)
            obtain rfl := hr0
            refine lv_icmp_lt (tgt := 73) hx hb dX8_searches_64 (by decide) (fun c_64 => ?_) (fun c_64 => ?_)
            · have hq := k_t c_64 hq
              refine lv_aload_n hx hb dX8_searches_73 rfl (lv_at hl 0 rfl) ?_
              refine lv_iload_n hx hb dX8_searches_74 rfl (lv_at hl 2 rfl) ?_
              obtain ⟨q23, eq23, hq⟩ := ob hq
              have hPc := hP.sub (ws' := [(qM, .inr (8, [.int mt, .int mw, .int mh, .int mg, .int ms, .ref qMT, .ref qMW, .ref qMK, .ref qMM, .int mv, .int md, .ref qMR, .ref qML, .ref qMP, .int mu, .ref qMY, .ref qMF, .int s17, .int s18])), (qMT, .inl (G.2.1, 16, .inl mT)), (qMW, .inl (G.2.1, 16, .inl mW)), (qMY, .inl (G.2.1, 16, .inl (upd s20 s16.toNatClampNeg ((s20 s16.toNatClampNeg) + 1))))]) [0, 1, 2, 5] rfl
              have hKc := hK
              refine vp_callSi (va_Run.run (va_runV (As := [.int s16]) (rest := []) ⟨hx, hb, hml, hown, hts⟩ (tX8_fits G l eq23) (cwV 1 hts gX8_searches_X8_fits rfl rfl rfl (by decide +kernel) ⟨Nat.le_of_ble_eq_true rfl, Nat.le_of_ble_eq_true rfl⟩) ⟨pcP_blind, va_recv hKc hPc (ci := 8) (q0 := 0) rfl rfl, pcP_pre hPc hKK⟩ rfl rfl hl.1 rfl (lv_room (Nat.le_of_ble_eq_true rfl)) dX8_searches_75 ⟨Nat.zero_le _, Nat.zero_le _⟩)) (fun r0 hr0 => ?_)
              obtain rfl := hr0
              refine lv_if_eq (tgt := 35) hx hb dX8_searches_78 (by decide) (fun c_78 => ?_) (fun c_78 => ?_)
              · have hq := k_t c_78 hq
                exact ih35 s16 s17 s18 s19 (upd s20 s16.toNatClampNeg ((s20 s16.toNatClampNeg) + 1)) s21 t_35 ls _ _ (kl_back hq hx35) (lv_sub hl [0, 1, 2] rfl) hP hD hS kk35_118
              · have hq := k_f c_78 hq
                refine lv_iload_n hx hb dX8_searches_81 rfl (lv_at hl 2 rfl) ?_
                refine lv_aload_n hx hb dX8_searches_82 rfl (lv_at hl 0 rfl) ?_
                obtain ⟨q24, eq24, hq⟩ := ob hq
                have hPc := hP.sub (ws' := [(qM, .inr (8, [.int mt, .int mw, .int mh, .int mg, .int ms, .ref qMT, .ref qMW, .ref qMK, .ref qMM, .int mv, .int md, .ref qMR, .ref qML, .ref qMP, .int mu, .ref qMY, .ref qMF, .int s17, .int s18]))]) [0] rfl
                have hKc := hK
                refine vp_callSi (va_Run.run (va_runV (As := []) (rest := [.int s16]) ⟨hx, hb, hml, hown, hts⟩ (tX8_cells G l eq24) (cwV 0 hts gX8_searches_X8_cells rfl rfl rfl (by decide +kernel) ⟨Nat.le_of_ble_eq_true rfl, Nat.le_of_ble_eq_true rfl⟩) ⟨pcP_blind, va_recv hKc hPc (ci := 8) (q0 := 0) rfl rfl, pcP_pre hPc hKK⟩ rfl rfl hl.1 rfl (lv_room (Nat.le_of_ble_eq_true rfl)) dX8_searches_83 ⟨Nat.zero_le _, Nat.zero_le _⟩)) (fun r0 hr0 => ?_)
                obtain rfl := hr0
                refine lv_iconst (v := 1) hx hb dX8_searches_86 (by decide) ?_
                refine lv_isub hx hb dX8_searches_87 ?_
                refine lv_icmp_ge (tgt := 104) hx hb dX8_searches_88 (by decide) (fun c_88 => ?_) (fun c_88 => ?_)
                · have hq := k_t c_88 hq
                  refine lv_aload_n hx hb dX8_searches_104 rfl (lv_at hl 0 rfl) ?_
                  obtain ⟨q25, eq25, hq⟩ := ob hq
                  have hPc := hP.sub (ws' := [(qM, .inr (8, [.int mt, .int mw, .int mh, .int mg, .int ms, .ref qMT, .ref qMW, .ref qMK, .ref qMM, .int mv, .int md, .ref qMR, .ref qML, .ref qMP, .int mu, .ref qMY, .ref qMF, .int s17, .int s18])), (qMT, .inl (G.2.1, 16, .inl mT)), (qMR, .inl (G.2.2.2.1, 16, .inl s19)), (qMY, .inl (G.2.1, 16, .inl (upd s20 s16.toNatClampNeg ((s20 s16.toNatClampNeg) + 1))))]) [0, 1, 4, 5] rfl
                  have hKc := hK
                  have hDc := hD.sub (ws' := [(qM, .inr (8, [.int mt, .int mw, .int mh, .int mg, .int ms, .ref qMT, .ref qMW, .ref qMK, .ref qMM, .int mv, .int md, .ref qMR, .ref qML, .ref qMP, .int mu, .ref qMY, .ref qMF, .int s17, .int s18])), (qMT, .inl (G.2.1, 16, .inl mT)), (qMR, .inl (G.2.2.2.1, 16, .inl s19)), (qMY, .inl (G.2.1, 16, .inl (upd s20 s16.toNatClampNeg ((s20 s16.toNatClampNeg) + 1))))]) [0, 1, 4, 5] (by decide) rfl
                  have hFc := va_free (wc := [(qM, .inr (8, [.int mt, .int mw, .int mh, .int mg, .int ms, .ref qMT, .ref qMW, .ref qMK, .ref qMM, .int mv, .int md, .ref qMR, .ref qML, .ref qMP, .int mu, .ref qMY, .ref qMF, .int s17, .int s18])), (qMT, .inl (G.2.1, 16, .inl mT)), (qMR, .inl (G.2.2.2.1, 16, .inl s19)), (qMY, .inl (G.2.1, 16, .inl (upd s20 s16.toNatClampNeg ((s20 s16.toNatClampNeg) + 1))))]) hD hS hA [0, 1, 4, 5] rfl
                  refine va_calli (va_runV (As := []) (rest := []) ⟨hx, hb, hml, hown, hts⟩ (tX8_isTree G l eq25) (cwV 0 hts gX8_searches_X8_isTree rfl rfl rfl (by decide +kernel) ⟨Nat.le_of_ble_eq_true rfl, Nat.le_of_ble_eq_true rfl⟩) ⟨pcW_blind, va_recv hKc hPc (ci := 8) (q0 := 0) rfl rfl, pcW_pre hPc hKK hDc⟩ rfl rfl hl.1 rfl (lv_room (Nat.le_of_ble_eq_true rfl)) dX8_searches_105 ⟨Nat.zero_le _, Nat.zero_le _⟩) hS (fun q _ h => hFc q h) hFc (fun r0 u t H1 locs ht hvm hw hB hz1 hk1 hS => ?_)
                  obtain rfl := hw
                  have hB := va_Pto ht hB
                  obtain ⟨hP, hD⟩ := jn (ws' := [(qM, .inr (8, [.int mt, .int mw, .int mh, .int mg, .int ms, .ref qMT, .ref qMW, .ref qMK, .ref qMM, .int mv, .int md, .ref qMR, .ref qML, .ref qMP, .int mu, .ref qMY, .ref qMF, .int s17, .int s18])), (qMT, .inl (G.2.1, 16, .inl mT)), (qMW, .inl (G.2.1, 16, .inl mW)), (qMK, .inl (G.2.2.2.1, 16, .inl mK)), (qMR, .inl (G.2.2.2.1, 16, .inl q25.2)), (qMY, .inl (G.2.1, 16, .inl (upd s20 s16.toNatClampNeg ((s20 s16.toNatClampNeg) + 1)))), (qMF, .inl (G.2.1, 16, .inl s21))]) hP hD hk1 hB [0, 1, 4, 5] rfl rfl rfl rfl
                  generalize H1 = H at hP hS ⊢
                  refine lv_if_eq (tgt := 35) hx hb dX8_searches_108 (by decide) (fun c_108 => ?_) (fun c_108 => ?_)
                  · have hq := k_t c_108 hq
                    exact ih35 s16 s17 s18 q25.2 (upd s20 s16.toNatClampNeg ((s20 s16.toNatClampNeg) + 1)) s21 t_35 ls _ _ (kl_back hq hx35) (lv_sub hl [0, 1, 2] rfl) hP hD hS kk35_118
                  · have hq := k_f c_108 hq
                    refine lv_aload_n hx hb dX8_searches_111 rfl (lv_at hl 0 rfl) ?_
                    obtain ⟨q26, eq26, hq⟩ := ob hq
                    have hPc := hP.sub (ws' := [(qM, .inr (8, [.int mt, .int mw, .int mh, .int mg, .int ms, .ref qMT, .ref qMW, .ref qMK, .ref qMM, .int mv, .int md, .ref qMR, .ref qML, .ref qMP, .int mu, .ref qMY, .ref qMF, .int s17, .int s18])), (qMY, .inl (G.2.1, 16, .inl (upd s20 s16.toNatClampNeg ((s20 s16.toNatClampNeg) + 1)))), (qMF, .inl (G.2.1, 16, .inl s21))]) [0, 5, 6] rfl
                    have hKc := hK
                    have hDc := hD.sub (ws' := [(qM, .inr (8, [.int mt, .int mw, .int mh, .int mg, .int ms, .ref qMT, .ref qMW, .ref qMK, .ref qMM, .int mv, .int md, .ref qMR, .ref qML, .ref qMP, .int mu, .ref qMY, .ref qMF, .int s17, .int s18])), (qMY, .inl (G.2.1, 16, .inl (upd s20 s16.toNatClampNeg ((s20 s16.toNatClampNeg) + 1)))), (qMF, .inl (G.2.1, 16, .inl s21))]) [0, 5, 6] (by decide) rfl
                    have hFc := va_free (wc := [(qM, .inr (8, [.int mt, .int mw, .int mh, .int mg, .int ms, .ref qMT, .ref qMW, .ref qMK, .ref qMM, .int mv, .int md, .ref qMR, .ref qML, .ref qMP, .int mu, .ref qMY, .ref qMF, .int s17, .int s18])), (qMY, .inl (G.2.1, 16, .inl (upd s20 s16.toNatClampNeg ((s20 s16.toNatClampNeg) + 1)))), (qMF, .inl (G.2.1, 16, .inl s21))]) hD hS hA [0, 5, 6] rfl
                    refine va_callv (va_runV (As := []) (rest := []) ⟨hx, hb, hml, hown, hts⟩ (tX8_notes G l eq26) (cwV 0 hts gX8_searches_X8_notes rfl rfl rfl (by decide +kernel) ⟨Nat.le_of_ble_eq_true rfl, Nat.le_of_ble_eq_true rfl⟩) ⟨pcW_blind, va_recv hKc hPc (ci := 8) (q0 := 0) rfl rfl, pcW_pre hPc hKK hDc⟩ rfl rfl hl.1 rfl (lv_room (Nat.le_of_ble_eq_true rfl)) dX8_searches_112 ⟨Nat.zero_le _, Nat.zero_le _⟩) hS (fun q _ h => hFc q h) hFc (fun u t H1 locs ht hvm hw hB hz1 hk1 hS => ?_)
                    have hB := va_Pto ht hB
                    obtain ⟨hP, hD⟩ := jn (ws' := [(qM, .inr (8, [.int mt, .int mw, .int mh, .int mg, .int ms, .ref qMT, .ref qMW, .ref qMK, .ref qMM, .int mv, .int md, .ref qMR, .ref qML, .ref qMP, .int mu, .ref qMY, .ref qMF, .int q26.1, .int q26.2.1])), (qMT, .inl (G.2.1, 16, .inl mT)), (qMW, .inl (G.2.1, 16, .inl mW)), (qMK, .inl (G.2.2.2.1, 16, .inl mK)), (qMR, .inl (G.2.2.2.1, 16, .inl q25.2)), (qMY, .inl (G.2.1, 16, .inl (upd s20 s16.toNatClampNeg ((s20 s16.toNatClampNeg) + 1)))), (qMF, .inl (G.2.1, 16, .inl q26.2.2))]) hP hD hk1 hB [0, 5, 6] rfl rfl rfl rfl
                    generalize H1 = H at hP hS ⊢
                    refine lv_goto (tgt := 35) hx hb dX8_searches_115 (by decide) ?_
                    exact ih35 s16 q26.1 q26.2.1 q25.2 (upd s20 s16.toNatClampNeg ((s20 s16.toNatClampNeg) + 1)) q26.2.2 t_35 ls _ _ (kl_back hq hx35) (lv_sub hl [0, 1, 2] rfl) hP hD hS kk35_118
                · have hq := k_f c_88 hq
                  refine lv_iinc (v := (s16 + 1)) (lv' := [(2, .int (s16 + 1)), (0, .ref qM), (1, .int v3)]) hx hb dX8_searches_91 hl (k := 2) rfl rfl (by decide) rfl (fun ls hl => ?_)
                  refine lv_aload_n hx hb dX8_searches_94 rfl (lv_at hl 1 rfl) ?_
                  refine va_get (D := G.1) (ci := 8) (v := .ref qMY) (C := RX8) (T := TX8) (N := 19) hx hb hts hi8 hown hK hP 0 rfl rfl 15 (by decide) hw1 (fun _ h9 => h9) rfl dX8_searches_95 ?_
                  refine lv_iload_n hx hb dX8_searches_98 rfl (lv_at hl 0 rfl) ?_
                  refine lv_iconst (v := (-1)) hx hb dX8_searches_99 (by decide) ?_
                  obtain ⟨hg, hq⟩ := k_g hq
                  refine va_iast hx hb hK hP hD hS 5 0 rfl rfl (ix_in hg) dX8_searches_100 (fun H locs hP hD hS => ?_)
                  have hP : va_P G.1 vwCl [(qM, .inr (8, [.int mt, .int mw, .int mh, .int mg, .int ms, .ref qMT, .ref qMW, .ref qMK, .ref qMM, .int mv, .int md, .ref qMR, .ref qML, .ref qMP, .int mu, .ref qMY, .ref qMF, .int s17, .int s18])), (qMT, .inl (G.2.1, 16, .inl mT)), (qMW, .inl (G.2.1, 16, .inl mW)), (qMK, .inl (G.2.2.2.1, 16, .inl mK)), (qMR, .inl (G.2.2.2.1, 16, .inl s19)), (qMY, .inl (G.2.1, 16, .inl (upd (upd s20 s16.toNatClampNeg ((s20 s16.toNatClampNeg) + 1)) (s16 + 1).toNatClampNeg (-1)))), (qMF, .inl (G.2.1, 16, .inl s21))] H := hP
                  have hD : va_D A [(qM, .inr (8, [.int mt, .int mw, .int mh, .int mg, .int ms, .ref qMT, .ref qMW, .ref qMK, .ref qMM, .int mv, .int md, .ref qMR, .ref qML, .ref qMP, .int mu, .ref qMY, .ref qMF, .int s17, .int s18])), (qMT, .inl (G.2.1, 16, .inl mT)), (qMW, .inl (G.2.1, 16, .inl mW)), (qMK, .inl (G.2.2.2.1, 16, .inl mK)), (qMR, .inl (G.2.2.2.1, 16, .inl s19)), (qMY, .inl (G.2.1, 16, .inl (upd (upd s20 s16.toNatClampNeg ((s20 s16.toNatClampNeg) + 1)) (s16 + 1).toNatClampNeg (-1)))), (qMF, .inl (G.2.1, 16, .inl s21))] := hD
                  refine lv_goto (tgt := 35) hx hb dX8_searches_101 (by decide) ?_
                  exact ih35 (s16 + 1) s17 s18 s19 (upd (upd s20 s16.toNatClampNeg ((s20 s16.toNatClampNeg) + 1)) (s16 + 1).toNatClampNeg (-1)) s21 t_35 ls _ _ (kl_back hq hx35) (lv_sub hl [1, 2, 0] rfl) hP hD hS kk35_118
            · have hq := k_f c_64 hq
              refine lv_iinc (v := (s16 + (-1))) (lv' := [(2, .int (s16 + (-1))), (0, .ref qM), (1, .int v3)]) hx hb dX8_searches_67 hl (k := 2) rfl rfl (by decide) rfl (fun ls hl => ?_)
              refine lv_goto (tgt := 35) hx hb dX8_searches_70 (by decide) ?_
              exact ih35 (s16 + (-1)) s17 s18 s19 (upd s20 s16.toNatClampNeg ((s20 s16.toNatClampNeg) + 1)) s21 t_35 ls _ _ (kl_back hq hx35) (lv_sub hl [1, 2, 0] rfl) hP hD hS kk35_118
    obtain ⟨q27, eq27, hq⟩ := ob hq
    refine L35 F 0 0 mf mR (upd mY (0 : Int32).toNatClampNeg (-1)) mF q27 ls _ _ (eq27) (lv_sub hl [2, 1, 0] rfl) hP hD hS (fun ls H locs hl hP hD hS => ?_)
    · obtain rfl := Option.some.inj hq
      rw [hQ]
      exact W.vret hx hb hr (fun t ht hW => ⟨⟨(), rfl, trivial, va_Pat ht hP⟩, hS.F ht⟩) hS.2.2 dX8_searches_118
  refine lv_icmp_ne (tgt := 19) hx hb dX8_searches_12 (by decide) (fun c_12 => ?_) (fun c_12 => ?_)
  · have hq := k_f c_12 hq
    refine lv_iconst (v := 0) hx hb dX8_searches_19 (by decide) ?_
    exact J20 0 ls _ _ hq (lv_sub hl [0] rfl) hP hD hS
  · have hq := k_t c_12 hq
    refine lv_iconst (v := 1) hx hb dX8_searches_15 (by decide) ?_
    refine lv_goto (tgt := 20) hx hb dX8_searches_16 (by decide) ?_
    exact J20 1 ls _ _ hq (lv_sub hl [0] rfl) hP hD hS

abbrev rmX8_solutions : Room := { frames := 3, cells := 0, slots := 0, locals := 74 }
set_option maxHeartbeats 40000000 in
set_option maxRecDepth 100000 in
theorem tX8_solutions (G : GG) (l : Launch) {qM qMT qMW qMK qMM qMR qML qMP qMY qMF : Nat} {mt : Int32} {mw : Int32} {mh : Int32} {mg : Int32} {ms : Int32} {mv : Int32} {md : Int32} {mu : Int32} {mo : Int32} {mf : Int32} {mT : Nat → Int32} {mW : Nat → Int32} {mK : Nat → Int32} {mR : Nat → Int32} {mY : Nat → Int32} {mF : Nat → Int32} {sz : Nat} {F : Nat} {r : Int32 × Int32 × Int32 × Int32 × (Nat → Int32) × (Nat → Int32) × (Nat → Int32)} (hq : kX8_solutions F mt mw mh mg mo mf mT mW mK mR mY mF = some r) : Met l yX8_solutions wsX8_solutions rmX8_solutions (pcW G [(qM, .inr (8, [.int mt, .int mw, .int mh, .int mg, .int ms, .ref qMT, .ref qMW, .ref qMK, .ref qMM, .int mv, .int md, .ref qMR, .ref qML, .ref qMP, .int mu, .ref qMY, .ref qMF, .int mo, .int mf])), (qMT, .inl (G.2.1, 16, .inl mT)), (qMW, .inl (G.2.1, 16, .inl mW)), (qMK, .inl (G.2.2.2.1, 16, .inl mK)), (qMR, .inl (G.2.2.2.1, 16, .inl mR)), (qMY, .inl (G.2.1, 16, .inl mY)), (qMF, .inl (G.2.1, 16, .inl mF))] sz [.ref qM]) (qcI G r.1 [(qM, .inr (8, [.int r.2.1, .int mw, .int mh, .int mg, .int ms, .ref qMT, .ref qMW, .ref qMK, .ref qMM, .int mv, .int md, .ref qMR, .ref qML, .ref qMP, .int mu, .ref qMY, .ref qMF, .int r.2.2.1, .int r.2.2.2.1])), (qMT, .inl (G.2.1, 16, .inl mT)), (qMW, .inl (G.2.1, 16, .inl mW)), (qMK, .inl (G.2.2.2.1, 16, .inl mK)), (qMR, .inl (G.2.2.2.1, 16, .inl r.2.2.2.2.1)), (qMY, .inl (G.2.1, 16, .inl r.2.2.2.2.2.1)), (qMF, .inl (G.2.1, 16, .inl r.2.2.2.2.2.2))] (va_A [(qM, .inr (8, [.int mt, .int mw, .int mh, .int mg, .int ms, .ref qMT, .ref qMW, .ref qMK, .ref qMM, .int mv, .int md, .ref qMR, .ref qML, .ref qMP, .int mu, .ref qMY, .ref qMF, .int mo, .int mf])), (qMT, .inl (G.2.1, 16, .inl mT)), (qMW, .inl (G.2.1, 16, .inl mW)), (qMK, .inl (G.2.2.2.1, 16, .inl mK)), (qMR, .inl (G.2.2.2.1, 16, .inl mR)), (qMY, .inl (G.2.1, 16, .inl mY)), (qMF, .inl (G.2.1, 16, .inl mF))] sz)) 0 0 (va_A [(qM, .inr (8, [.int mt, .int mw, .int mh, .int mg, .int ms, .ref qMT, .ref qMW, .ref qMK, .ref qMM, .int mv, .int md, .ref qMR, .ref qML, .ref qMP, .int mu, .ref qMY, .ref qMF, .int mo, .int mf])), (qMT, .inl (G.2.1, 16, .inl mT)), (qMW, .inl (G.2.1, 16, .inl mW)), (qMK, .inl (G.2.2.2.1, 16, .inl mK)), (qMR, .inl (G.2.2.2.1, 16, .inl mR)), (qMY, .inl (G.2.1, 16, .inl mY)), (qMF, .inl (G.2.1, 16, .inl mF))] sz) := by
  refine Met.ofW (cc := cX8_solutions) (maxL := 1) (ret := (some .int)) (by decide) rfl ?_
  intro p e s m args below meth c s₁ B hml hv
  obtain ⟨rfl, hsz, hP, hKK, hD0⟩ := hv
  have hK := hKK.1
  have hx := B.exec
  have hb := B.bytes
  have hr := B.returns
  have hts := atoms_spec (ws := wsX8_solutions) B.pre
  have hown : s.vm.findClass RX8 = some m.cls := findClass_of_methodNamed B.named
  have hlocks := B.notSynchronized
  subst hsz
  have hD := hD0.self (sz := s.heap.size)
  generalize hAe : va_A [(qM, .inr (8, [.int mt, .int mw, .int mh, .int mg, .int ms, .ref qMT, .ref qMW, .ref qMK, .ref qMM, .int mv, .int md, .ref qMR, .ref qML, .ref qMP, .int mu, .ref qMY, .ref qMF, .int mo, .int mf])), (qMT, .inl (G.2.1, 16, .inl mT)), (qMW, .inl (G.2.1, 16, .inl mW)), (qMK, .inl (G.2.2.2.1, 16, .inl mK)), (qMR, .inl (G.2.2.2.1, 16, .inl mR)), (qMY, .inl (G.2.1, 16, .inl mY)), (qMF, .inl (G.2.1, 16, .inl mF))] s.heap.size = A at hD ⊢
  have hA : ∀ q : Nat, s.heap.size ≤ q → A q := fun q h => by rw [← hAe]; exact Or.inr h
  have hS : va_S A s.heap s.heap [] := va_S.rf
  have hl := lv_entry ([.ref qM] : List Value) (n := 1) (Nat.le_of_ble_eq_true rfl)
  rw [lg_entry_eq]
  generalize (lg_sl ([.ref qM] : List Value) ++ List.replicate (1 - (lg_sl ([.ref qM] : List Value)).length) Slot.unset).toArray = ls at hl ⊢
  have hl : lv_has ls 1 [(0, .ref qM)] := hl
  have hi8 : ∀ w ∈ u_ws RX8 TX8 19, w ∈ wsX8_solutions := by decide +kernel
  have hw0 : (Cond.fieldLink RX8 45 "NetPlumberModel" "thrown" "I").before #[Value.ref qM] s = true := hts _ (by decide +kernel)
  have hw1 : (Cond.fieldLink RX8 149 "NetPlumberModel" "solutions" "I").before #[Value.ref qM] s = true := hts _ (by decide +kernel)
  refine wq (fun Q hQ => ?_)
  unfold kX8_solutions at hq
  refine lv_aload_n hx hb dX8_solutions_0 rfl (lv_at hl 0 rfl) ?_
  refine lv_iconst (v := 0) hx hb dX8_solutions_1 (by decide) ?_
  refine va_put (D := G.1) (ci := 8) (v := .int 0) (ty := .int) (C := RX8) (T := TX8) (N := 19) hx hb hts hi8 tyX8 tyX8_ok nmX8 hown hK hP hD hS 0 rfl rfl 0 (by decide) hw0 (fun _ h9 => h9) rfl (by decide +kernel) rfl rfl (Nat.le_of_ble_eq_true rfl) dX8_solutions_2 (fun H locs hP hD hS => ?_)
  have hP : va_P G.1 vwCl [(qM, .inr (8, [.int 0, .int mw, .int mh, .int mg, .int ms, .ref qMT, .ref qMW, .ref qMK, .ref qMM, .int mv, .int md, .ref qMR, .ref qML, .ref qMP, .int mu, .ref qMY, .ref qMF, .int mo, .int mf])), (qMT, .inl (G.2.1, 16, .inl mT)), (qMW, .inl (G.2.1, 16, .inl mW)), (qMK, .inl (G.2.2.2.1, 16, .inl mK)), (qMR, .inl (G.2.2.2.1, 16, .inl mR)), (qMY, .inl (G.2.1, 16, .inl mY)), (qMF, .inl (G.2.1, 16, .inl mF))] H := hP
  have hD : va_D A [(qM, .inr (8, [.int 0, .int mw, .int mh, .int mg, .int ms, .ref qMT, .ref qMW, .ref qMK, .ref qMM, .int mv, .int md, .ref qMR, .ref qML, .ref qMP, .int mu, .ref qMY, .ref qMF, .int mo, .int mf])), (qMT, .inl (G.2.1, 16, .inl mT)), (qMW, .inl (G.2.1, 16, .inl mW)), (qMK, .inl (G.2.2.2.1, 16, .inl mK)), (qMR, .inl (G.2.2.2.1, 16, .inl mR)), (qMY, .inl (G.2.1, 16, .inl mY)), (qMF, .inl (G.2.1, 16, .inl mF))] := hD
  refine lv_aload_n hx hb dX8_solutions_5 rfl (lv_at hl 0 rfl) ?_
  obtain ⟨q1, eq1, hq⟩ := ob hq
  have hPc := hP.sub (ws' := [(qM, .inr (8, [.int 0, .int mw, .int mh, .int mg, .int ms, .ref qMT, .ref qMW, .ref qMK, .ref qMM, .int mv, .int md, .ref qMR, .ref qML, .ref qMP, .int mu, .ref qMY, .ref qMF, .int mo, .int mf])), (qMT, .inl (G.2.1, 16, .inl mT)), (qMW, .inl (G.2.1, 16, .inl mW)), (qMK, .inl (G.2.2.2.1, 16, .inl mK)), (qMR, .inl (G.2.2.2.1, 16, .inl mR)), (qMY, .inl (G.2.1, 16, .inl mY)), (qMF, .inl (G.2.1, 16, .inl mF))]) [0, 1, 2, 3, 4, 5, 6] rfl
  have hKc := hK
  have hDc := hD.sub (ws' := [(qM, .inr (8, [.int 0, .int mw, .int mh, .int mg, .int ms, .ref qMT, .ref qMW, .ref qMK, .ref qMM, .int mv, .int md, .ref qMR, .ref qML, .ref qMP, .int mu, .ref qMY, .ref qMF, .int mo, .int mf])), (qMT, .inl (G.2.1, 16, .inl mT)), (qMW, .inl (G.2.1, 16, .inl mW)), (qMK, .inl (G.2.2.2.1, 16, .inl mK)), (qMR, .inl (G.2.2.2.1, 16, .inl mR)), (qMY, .inl (G.2.1, 16, .inl mY)), (qMF, .inl (G.2.1, 16, .inl mF))]) [0, 1, 2, 3, 4, 5, 6] (by decide) rfl
  have hFc := va_free (wc := [(qM, .inr (8, [.int 0, .int mw, .int mh, .int mg, .int ms, .ref qMT, .ref qMW, .ref qMK, .ref qMM, .int mv, .int md, .ref qMR, .ref qML, .ref qMP, .int mu, .ref qMY, .ref qMF, .int mo, .int mf])), (qMT, .inl (G.2.1, 16, .inl mT)), (qMW, .inl (G.2.1, 16, .inl mW)), (qMK, .inl (G.2.2.2.1, 16, .inl mK)), (qMR, .inl (G.2.2.2.1, 16, .inl mR)), (qMY, .inl (G.2.1, 16, .inl mY)), (qMF, .inl (G.2.1, 16, .inl mF))]) hD hS hA [0, 1, 2, 3, 4, 5, 6] rfl
  refine va_callv (va_runV (As := []) (rest := []) ⟨hx, hb, hml, hown, hts⟩ (tX8_searches G l eq1) (cwV 0 hts gX8_solutions_X8_searches rfl rfl rfl (by decide +kernel) ⟨Nat.le_of_ble_eq_true rfl, Nat.le_of_ble_eq_true rfl⟩) ⟨pcW_blind, va_recv hKc hPc (ci := 8) (q0 := 0) rfl rfl, pcW_pre hPc hKK hDc⟩ rfl rfl hl.1 rfl (lv_room (Nat.le_of_ble_eq_true rfl)) dX8_solutions_6 ⟨Nat.zero_le _, Nat.zero_le _⟩) hS (fun q _ h => hFc q h) hFc (fun u t H1 locs ht hvm hw hB hz1 hk1 hS => ?_)
  have hB := va_Pto ht hB
  obtain ⟨hP, hD⟩ := jn (ws' := [(qM, .inr (8, [.int 0, .int mw, .int mh, .int mg, .int ms, .ref qMT, .ref qMW, .ref qMK, .ref qMM, .int mv, .int md, .ref qMR, .ref qML, .ref qMP, .int mu, .ref qMY, .ref qMF, .int q1.1, .int q1.2.1])), (qMT, .inl (G.2.1, 16, .inl mT)), (qMW, .inl (G.2.1, 16, .inl mW)), (qMK, .inl (G.2.2.2.1, 16, .inl mK)), (qMR, .inl (G.2.2.2.1, 16, .inl q1.2.2.1)), (qMY, .inl (G.2.1, 16, .inl q1.2.2.2.1)), (qMF, .inl (G.2.1, 16, .inl q1.2.2.2.2))]) hP hD hk1 hB [0, 1, 2, 3, 4, 5, 6] rfl rfl rfl rfl
  generalize H1 = H at hP hS ⊢
  refine lv_aload_n hx hb dX8_solutions_9 rfl (lv_at hl 0 rfl) ?_
  refine va_get (D := G.1) (ci := 8) (v := .int q1.1) (C := RX8) (T := TX8) (N := 19) hx hb hts hi8 hown hK hP 0 rfl rfl 17 (by decide) hw1 (fun _ h9 => h9) rfl dX8_solutions_10 ?_
  obtain rfl := Option.some.inj hq
  rw [hQ]
  exact W.iret hx hb hr (fun t ht hW => ⟨⟨_, (), rfl, rfl, va_Pat ht hP⟩, hS.F ht⟩) hS.2.2 dX8_solutions_13

abbrev rmX8_solutionsBySweep : Room := { frames := 3, cells := 0, slots := 0, locals := 74 }
set_option maxHeartbeats 40000000 in
set_option maxRecDepth 100000 in
theorem tX8_solutionsBySweep (G : GG) (l : Launch) {qM qMT qMW qMK qMM qMR qML qMP qMY qMF : Nat} {mt : Int32} {mw : Int32} {mh : Int32} {mg : Int32} {ms : Int32} {mv : Int32} {md : Int32} {mu : Int32} {mo : Int32} {mf : Int32} {mT : Nat → Int32} {mW : Nat → Int32} {mK : Nat → Int32} {mR : Nat → Int32} {mY : Nat → Int32} {mF : Nat → Int32} {sz : Nat} {F : Nat} {r : Int32 × Int32 × Int32 × Int32 × (Nat → Int32) × (Nat → Int32) × (Nat → Int32)} (hq : kX8_solutionsBySweep F mt mw mh mg mo mf mT mW mK mR mY mF = some r) : Met l yX8_solutionsBySweep wsX8_solutionsBySweep rmX8_solutionsBySweep (pcW G [(qM, .inr (8, [.int mt, .int mw, .int mh, .int mg, .int ms, .ref qMT, .ref qMW, .ref qMK, .ref qMM, .int mv, .int md, .ref qMR, .ref qML, .ref qMP, .int mu, .ref qMY, .ref qMF, .int mo, .int mf])), (qMT, .inl (G.2.1, 16, .inl mT)), (qMW, .inl (G.2.1, 16, .inl mW)), (qMK, .inl (G.2.2.2.1, 16, .inl mK)), (qMR, .inl (G.2.2.2.1, 16, .inl mR)), (qMY, .inl (G.2.1, 16, .inl mY)), (qMF, .inl (G.2.1, 16, .inl mF))] sz [.ref qM]) (qcI G r.1 [(qM, .inr (8, [.int r.2.1, .int mw, .int mh, .int mg, .int ms, .ref qMT, .ref qMW, .ref qMK, .ref qMM, .int mv, .int md, .ref qMR, .ref qML, .ref qMP, .int mu, .ref qMY, .ref qMF, .int r.2.2.1, .int r.2.2.2.1])), (qMT, .inl (G.2.1, 16, .inl mT)), (qMW, .inl (G.2.1, 16, .inl mW)), (qMK, .inl (G.2.2.2.1, 16, .inl mK)), (qMR, .inl (G.2.2.2.1, 16, .inl r.2.2.2.2.1)), (qMY, .inl (G.2.1, 16, .inl r.2.2.2.2.2.1)), (qMF, .inl (G.2.1, 16, .inl r.2.2.2.2.2.2))] (va_A [(qM, .inr (8, [.int mt, .int mw, .int mh, .int mg, .int ms, .ref qMT, .ref qMW, .ref qMK, .ref qMM, .int mv, .int md, .ref qMR, .ref qML, .ref qMP, .int mu, .ref qMY, .ref qMF, .int mo, .int mf])), (qMT, .inl (G.2.1, 16, .inl mT)), (qMW, .inl (G.2.1, 16, .inl mW)), (qMK, .inl (G.2.2.2.1, 16, .inl mK)), (qMR, .inl (G.2.2.2.1, 16, .inl mR)), (qMY, .inl (G.2.1, 16, .inl mY)), (qMF, .inl (G.2.1, 16, .inl mF))] sz)) 0 0 (va_A [(qM, .inr (8, [.int mt, .int mw, .int mh, .int mg, .int ms, .ref qMT, .ref qMW, .ref qMK, .ref qMM, .int mv, .int md, .ref qMR, .ref qML, .ref qMP, .int mu, .ref qMY, .ref qMF, .int mo, .int mf])), (qMT, .inl (G.2.1, 16, .inl mT)), (qMW, .inl (G.2.1, 16, .inl mW)), (qMK, .inl (G.2.2.2.1, 16, .inl mK)), (qMR, .inl (G.2.2.2.1, 16, .inl mR)), (qMY, .inl (G.2.1, 16, .inl mY)), (qMF, .inl (G.2.1, 16, .inl mF))] sz) := by
  refine Met.ofW (cc := cX8_solutionsBySweep) (maxL := 1) (ret := (some .int)) (by decide) rfl ?_
  intro p e s m args below meth c s₁ B hml hv
  obtain ⟨rfl, hsz, hP, hKK, hD0⟩ := hv
  have hK := hKK.1
  have hx := B.exec
  have hb := B.bytes
  have hr := B.returns
  have hts := atoms_spec (ws := wsX8_solutionsBySweep) B.pre
  have hown : s.vm.findClass RX8 = some m.cls := findClass_of_methodNamed B.named
  have hlocks := B.notSynchronized
  subst hsz
  have hD := hD0.self (sz := s.heap.size)
  generalize hAe : va_A [(qM, .inr (8, [.int mt, .int mw, .int mh, .int mg, .int ms, .ref qMT, .ref qMW, .ref qMK, .ref qMM, .int mv, .int md, .ref qMR, .ref qML, .ref qMP, .int mu, .ref qMY, .ref qMF, .int mo, .int mf])), (qMT, .inl (G.2.1, 16, .inl mT)), (qMW, .inl (G.2.1, 16, .inl mW)), (qMK, .inl (G.2.2.2.1, 16, .inl mK)), (qMR, .inl (G.2.2.2.1, 16, .inl mR)), (qMY, .inl (G.2.1, 16, .inl mY)), (qMF, .inl (G.2.1, 16, .inl mF))] s.heap.size = A at hD ⊢
  have hA : ∀ q : Nat, s.heap.size ≤ q → A q := fun q h => by rw [← hAe]; exact Or.inr h
  have hS : va_S A s.heap s.heap [] := va_S.rf
  have hl := lv_entry ([.ref qM] : List Value) (n := 1) (Nat.le_of_ble_eq_true rfl)
  rw [lg_entry_eq]
  generalize (lg_sl ([.ref qM] : List Value) ++ List.replicate (1 - (lg_sl ([.ref qM] : List Value)).length) Slot.unset).toArray = ls at hl ⊢
  have hl : lv_has ls 1 [(0, .ref qM)] := hl
  have hi8 : ∀ w ∈ u_ws RX8 TX8 19, w ∈ wsX8_solutionsBySweep := by decide +kernel
  have hw0 : (Cond.fieldLink RX8 45 "NetPlumberModel" "thrown" "I").before #[Value.ref qM] s = true := hts _ (by decide +kernel)
  have hw1 : (Cond.fieldLink RX8 149 "NetPlumberModel" "solutions" "I").before #[Value.ref qM] s = true := hts _ (by decide +kernel)
  refine wq (fun Q hQ => ?_)
  unfold kX8_solutionsBySweep at hq
  refine lv_aload_n hx hb dX8_solutionsBySweep_0 rfl (lv_at hl 0 rfl) ?_
  refine lv_iconst (v := 0) hx hb dX8_solutionsBySweep_1 (by decide) ?_
  refine va_put (D := G.1) (ci := 8) (v := .int 0) (ty := .int) (C := RX8) (T := TX8) (N := 19) hx hb hts hi8 tyX8 tyX8_ok nmX8 hown hK hP hD hS 0 rfl rfl 0 (by decide) hw0 (fun _ h9 => h9) rfl (by decide +kernel) rfl rfl (Nat.le_of_ble_eq_true rfl) dX8_solutionsBySweep_2 (fun H locs hP hD hS => ?_)
  have hP : va_P G.1 vwCl [(qM, .inr (8, [.int 0, .int mw, .int mh, .int mg, .int ms, .ref qMT, .ref qMW, .ref qMK, .ref qMM, .int mv, .int md, .ref qMR, .ref qML, .ref qMP, .int mu, .ref qMY, .ref qMF, .int mo, .int mf])), (qMT, .inl (G.2.1, 16, .inl mT)), (qMW, .inl (G.2.1, 16, .inl mW)), (qMK, .inl (G.2.2.2.1, 16, .inl mK)), (qMR, .inl (G.2.2.2.1, 16, .inl mR)), (qMY, .inl (G.2.1, 16, .inl mY)), (qMF, .inl (G.2.1, 16, .inl mF))] H := hP
  have hD : va_D A [(qM, .inr (8, [.int 0, .int mw, .int mh, .int mg, .int ms, .ref qMT, .ref qMW, .ref qMK, .ref qMM, .int mv, .int md, .ref qMR, .ref qML, .ref qMP, .int mu, .ref qMY, .ref qMF, .int mo, .int mf])), (qMT, .inl (G.2.1, 16, .inl mT)), (qMW, .inl (G.2.1, 16, .inl mW)), (qMK, .inl (G.2.2.2.1, 16, .inl mK)), (qMR, .inl (G.2.2.2.1, 16, .inl mR)), (qMY, .inl (G.2.1, 16, .inl mY)), (qMF, .inl (G.2.1, 16, .inl mF))] := hD
  refine lv_aload_n hx hb dX8_solutionsBySweep_5 rfl (lv_at hl 0 rfl) ?_
  obtain ⟨q1, eq1, hq⟩ := ob hq
  have hPc := hP.sub (ws' := [(qM, .inr (8, [.int 0, .int mw, .int mh, .int mg, .int ms, .ref qMT, .ref qMW, .ref qMK, .ref qMM, .int mv, .int md, .ref qMR, .ref qML, .ref qMP, .int mu, .ref qMY, .ref qMF, .int mo, .int mf])), (qMT, .inl (G.2.1, 16, .inl mT)), (qMW, .inl (G.2.1, 16, .inl mW)), (qMK, .inl (G.2.2.2.1, 16, .inl mK)), (qMR, .inl (G.2.2.2.1, 16, .inl mR)), (qMY, .inl (G.2.1, 16, .inl mY)), (qMF, .inl (G.2.1, 16, .inl mF))]) [0, 1, 2, 3, 4, 5, 6] rfl
  have hKc := hK
  have hDc := hD.sub (ws' := [(qM, .inr (8, [.int 0, .int mw, .int mh, .int mg, .int ms, .ref qMT, .ref qMW, .ref qMK, .ref qMM, .int mv, .int md, .ref qMR, .ref qML, .ref qMP, .int mu, .ref qMY, .ref qMF, .int mo, .int mf])), (qMT, .inl (G.2.1, 16, .inl mT)), (qMW, .inl (G.2.1, 16, .inl mW)), (qMK, .inl (G.2.2.2.1, 16, .inl mK)), (qMR, .inl (G.2.2.2.1, 16, .inl mR)), (qMY, .inl (G.2.1, 16, .inl mY)), (qMF, .inl (G.2.1, 16, .inl mF))]) [0, 1, 2, 3, 4, 5, 6] (by decide) rfl
  have hFc := va_free (wc := [(qM, .inr (8, [.int 0, .int mw, .int mh, .int mg, .int ms, .ref qMT, .ref qMW, .ref qMK, .ref qMM, .int mv, .int md, .ref qMR, .ref qML, .ref qMP, .int mu, .ref qMY, .ref qMF, .int mo, .int mf])), (qMT, .inl (G.2.1, 16, .inl mT)), (qMW, .inl (G.2.1, 16, .inl mW)), (qMK, .inl (G.2.2.2.1, 16, .inl mK)), (qMR, .inl (G.2.2.2.1, 16, .inl mR)), (qMY, .inl (G.2.1, 16, .inl mY)), (qMF, .inl (G.2.1, 16, .inl mF))]) hD hS hA [0, 1, 2, 3, 4, 5, 6] rfl
  refine va_callv (va_runV (As := []) (rest := []) ⟨hx, hb, hml, hown, hts⟩ (tX8_searches G l eq1) (cwV 0 hts gX8_solutionsBySweep_X8_searches rfl rfl rfl (by decide +kernel) ⟨Nat.le_of_ble_eq_true rfl, Nat.le_of_ble_eq_true rfl⟩) ⟨pcW_blind, va_recv hKc hPc (ci := 8) (q0 := 0) rfl rfl, pcW_pre hPc hKK hDc⟩ rfl rfl hl.1 rfl (lv_room (Nat.le_of_ble_eq_true rfl)) dX8_solutionsBySweep_6 ⟨Nat.zero_le _, Nat.zero_le _⟩) hS (fun q _ h => hFc q h) hFc (fun u t H1 locs ht hvm hw hB hz1 hk1 hS => ?_)
  have hB := va_Pto ht hB
  obtain ⟨hP, hD⟩ := jn (ws' := [(qM, .inr (8, [.int 0, .int mw, .int mh, .int mg, .int ms, .ref qMT, .ref qMW, .ref qMK, .ref qMM, .int mv, .int md, .ref qMR, .ref qML, .ref qMP, .int mu, .ref qMY, .ref qMF, .int q1.1, .int q1.2.1])), (qMT, .inl (G.2.1, 16, .inl mT)), (qMW, .inl (G.2.1, 16, .inl mW)), (qMK, .inl (G.2.2.2.1, 16, .inl mK)), (qMR, .inl (G.2.2.2.1, 16, .inl q1.2.2.1)), (qMY, .inl (G.2.1, 16, .inl q1.2.2.2.1)), (qMF, .inl (G.2.1, 16, .inl q1.2.2.2.2))]) hP hD hk1 hB [0, 1, 2, 3, 4, 5, 6] rfl rfl rfl rfl
  generalize H1 = H at hP hS ⊢
  refine lv_aload_n hx hb dX8_solutionsBySweep_9 rfl (lv_at hl 0 rfl) ?_
  refine va_get (D := G.1) (ci := 8) (v := .int q1.1) (C := RX8) (T := TX8) (N := 19) hx hb hts hi8 hown hK hP 0 rfl rfl 17 (by decide) hw1 (fun _ h9 => h9) rfl dX8_solutionsBySweep_10 ?_
  obtain rfl := Option.some.inj hq
  rw [hQ]
  exact W.iret hx hb hr (fun t ht hW => ⟨⟨_, (), rfl, rfl, va_Pat ht hP⟩, hS.F ht⟩) hS.2.2 dX8_solutionsBySweep_13

abbrev rmX8_first : Room := { frames := 3, cells := 0, slots := 0, locals := 74 }
set_option maxHeartbeats 40000000 in
set_option maxRecDepth 100000 in
theorem tX8_first (G : GG) (l : Launch) {qM qMT qMW qMK qMM qMR qML qMP qMY qMF : Nat} {mt : Int32} {mw : Int32} {mh : Int32} {mg : Int32} {ms : Int32} {mv : Int32} {md : Int32} {mu : Int32} {mo : Int32} {mf : Int32} {mT : Nat → Int32} {mW : Nat → Int32} {mK : Nat → Int32} {mR : Nat → Int32} {mY : Nat → Int32} {mF : Nat → Int32} {x1 : Int32} {sz : Nat} {F : Nat} {r : Int32 × Int32 × Int32 × Int32 × (Nat → Int32) × (Nat → Int32) × (Nat → Int32)} (hq : kX8_first F mt mw mh mg mo mf mT mW mK mR mY mF x1 = some r) : Met l yX8_first wsX8_first rmX8_first (pcW G [(qM, .inr (8, [.int mt, .int mw, .int mh, .int mg, .int ms, .ref qMT, .ref qMW, .ref qMK, .ref qMM, .int mv, .int md, .ref qMR, .ref qML, .ref qMP, .int mu, .ref qMY, .ref qMF, .int mo, .int mf])), (qMT, .inl (G.2.1, 16, .inl mT)), (qMW, .inl (G.2.1, 16, .inl mW)), (qMK, .inl (G.2.2.2.1, 16, .inl mK)), (qMR, .inl (G.2.2.2.1, 16, .inl mR)), (qMY, .inl (G.2.1, 16, .inl mY)), (qMF, .inl (G.2.1, 16, .inl mF))] sz [.ref qM, .int x1]) (qcI G r.1 [(qM, .inr (8, [.int r.2.1, .int mw, .int mh, .int mg, .int ms, .ref qMT, .ref qMW, .ref qMK, .ref qMM, .int mv, .int md, .ref qMR, .ref qML, .ref qMP, .int mu, .ref qMY, .ref qMF, .int r.2.2.1, .int r.2.2.2.1])), (qMT, .inl (G.2.1, 16, .inl mT)), (qMW, .inl (G.2.1, 16, .inl mW)), (qMK, .inl (G.2.2.2.1, 16, .inl mK)), (qMR, .inl (G.2.2.2.1, 16, .inl r.2.2.2.2.1)), (qMY, .inl (G.2.1, 16, .inl r.2.2.2.2.2.1)), (qMF, .inl (G.2.1, 16, .inl r.2.2.2.2.2.2))] (va_A [(qM, .inr (8, [.int mt, .int mw, .int mh, .int mg, .int ms, .ref qMT, .ref qMW, .ref qMK, .ref qMM, .int mv, .int md, .ref qMR, .ref qML, .ref qMP, .int mu, .ref qMY, .ref qMF, .int mo, .int mf])), (qMT, .inl (G.2.1, 16, .inl mT)), (qMW, .inl (G.2.1, 16, .inl mW)), (qMK, .inl (G.2.2.2.1, 16, .inl mK)), (qMR, .inl (G.2.2.2.1, 16, .inl mR)), (qMY, .inl (G.2.1, 16, .inl mY)), (qMF, .inl (G.2.1, 16, .inl mF))] sz)) 0 0 (va_A [(qM, .inr (8, [.int mt, .int mw, .int mh, .int mg, .int ms, .ref qMT, .ref qMW, .ref qMK, .ref qMM, .int mv, .int md, .ref qMR, .ref qML, .ref qMP, .int mu, .ref qMY, .ref qMF, .int mo, .int mf])), (qMT, .inl (G.2.1, 16, .inl mT)), (qMW, .inl (G.2.1, 16, .inl mW)), (qMK, .inl (G.2.2.2.1, 16, .inl mK)), (qMR, .inl (G.2.2.2.1, 16, .inl mR)), (qMY, .inl (G.2.1, 16, .inl mY)), (qMF, .inl (G.2.1, 16, .inl mF))] sz) := by
  refine Met.ofW (cc := cX8_first) (maxL := 3) (ret := (some .int)) (by decide) rfl ?_
  intro p e s m args below meth c s₁ B hml hv
  obtain ⟨rfl, hsz, hP, hKK, hD0⟩ := hv
  have hK := hKK.1
  have hx := B.exec
  have hb := B.bytes
  have hr := B.returns
  have hts := atoms_spec (ws := wsX8_first) B.pre
  have hown : s.vm.findClass RX8 = some m.cls := findClass_of_methodNamed B.named
  have hlocks := B.notSynchronized
  subst hsz
  have hD := hD0.self (sz := s.heap.size)
  generalize hAe : va_A [(qM, .inr (8, [.int mt, .int mw, .int mh, .int mg, .int ms, .ref qMT, .ref qMW, .ref qMK, .ref qMM, .int mv, .int md, .ref qMR, .ref qML, .ref qMP, .int mu, .ref qMY, .ref qMF, .int mo, .int mf])), (qMT, .inl (G.2.1, 16, .inl mT)), (qMW, .inl (G.2.1, 16, .inl mW)), (qMK, .inl (G.2.2.2.1, 16, .inl mK)), (qMR, .inl (G.2.2.2.1, 16, .inl mR)), (qMY, .inl (G.2.1, 16, .inl mY)), (qMF, .inl (G.2.1, 16, .inl mF))] s.heap.size = A at hD ⊢
  have hA : ∀ q : Nat, s.heap.size ≤ q → A q := fun q h => by rw [← hAe]; exact Or.inr h
  have hS : va_S A s.heap s.heap [] := va_S.rf
  have hl := lv_entry ([.ref qM, .int x1] : List Value) (n := 3) (Nat.le_of_ble_eq_true rfl)
  rw [lg_entry_eq]
  generalize (lg_sl ([.ref qM, .int x1] : List Value) ++ List.replicate (3 - (lg_sl ([.ref qM, .int x1] : List Value)).length) Slot.unset).toArray = ls at hl ⊢
  have hl : lv_has ls 3 [(0, .ref qM), (1, .int x1)] := hl
  have hi8 : ∀ w ∈ u_ws RX8 TX8 19, w ∈ wsX8_first := by decide +kernel
  have hw0 : (Cond.fieldLink RX8 149 "NetPlumberModel" "solutions" "I").before #[Value.ref qM, Value.int x1] s = true := hts _ (by decide +kernel)
  have hw1 : (Cond.fieldLink RX8 42 "NetPlumberModel" "first" "[I").before #[Value.ref qM, Value.int x1] s = true := hts _ (by decide +kernel)
  refine wq (fun Q hQ => ?_)
  unfold kX8_first at hq
  refine lv_aload_n hx hb dX8_first_0 rfl (lv_at hl 0 rfl) ?_
  refine lv_iload_n hx hb dX8_first_1 rfl (lv_at hl 1 rfl) ?_
  obtain ⟨q1, eq1, hq⟩ := ob hq
  have hPc := hP.sub (ws' := [(qM, .inr (8, [.int mt, .int mw, .int mh, .int mg, .int ms, .ref qMT, .ref qMW, .ref qMK, .ref qMM, .int mv, .int md, .ref qMR, .ref qML, .ref qMP, .int mu, .ref qMY, .ref qMF, .int mo, .int mf]))]) [0] rfl
  have hKc := hK
  refine vp_callSi (va_Run.run (va_runV (As := [.int x1]) (rest := []) ⟨hx, hb, hml, hown, hts⟩ (tX8_isCell G l eq1) (cwV 1 hts gX8_first_X8_isCell rfl rfl rfl (by decide +kernel) ⟨Nat.le_of_ble_eq_true rfl, Nat.le_of_ble_eq_true rfl⟩) ⟨pcP_blind, va_recv hKc hPc (ci := 8) (q0 := 0) rfl rfl, pcP_pre hPc hKK⟩ rfl rfl hl.1 rfl (lv_room (Nat.le_of_ble_eq_true rfl)) dX8_first_2 ⟨Nat.zero_le _, Nat.zero_le _⟩)) (fun r0 hr0 => ?_)
  obtain rfl := hr0
  refine lv_istore_n (lv' := [(2, .int q1), (0, .ref qM), (1, .int x1)]) hx hb dX8_first_5 rfl hl (by decide) rfl (fun ls hl => ?_)
  refine lv_aload_n hx hb dX8_first_6 rfl (lv_at hl 1 rfl) ?_
  obtain ⟨q2, eq2, hq⟩ := ob hq
  have hPc := hP.sub (ws' := [(qM, .inr (8, [.int mt, .int mw, .int mh, .int mg, .int ms, .ref qMT, .ref qMW, .ref qMK, .ref qMM, .int mv, .int md, .ref qMR, .ref qML, .ref qMP, .int mu, .ref qMY, .ref qMF, .int mo, .int mf])), (qMT, .inl (G.2.1, 16, .inl mT)), (qMW, .inl (G.2.1, 16, .inl mW)), (qMK, .inl (G.2.2.2.1, 16, .inl mK)), (qMR, .inl (G.2.2.2.1, 16, .inl mR)), (qMY, .inl (G.2.1, 16, .inl mY)), (qMF, .inl (G.2.1, 16, .inl mF))]) [0, 1, 2, 3, 4, 5, 6] rfl
  have hKc := hK
  have hDc := hD.sub (ws' := [(qM, .inr (8, [.int mt, .int mw, .int mh, .int mg, .int ms, .ref qMT, .ref qMW, .ref qMK, .ref qMM, .int mv, .int md, .ref qMR, .ref qML, .ref qMP, .int mu, .ref qMY, .ref qMF, .int mo, .int mf])), (qMT, .inl (G.2.1, 16, .inl mT)), (qMW, .inl (G.2.1, 16, .inl mW)), (qMK, .inl (G.2.2.2.1, 16, .inl mK)), (qMR, .inl (G.2.2.2.1, 16, .inl mR)), (qMY, .inl (G.2.1, 16, .inl mY)), (qMF, .inl (G.2.1, 16, .inl mF))]) [0, 1, 2, 3, 4, 5, 6] (by decide) rfl
  have hFc := va_free (wc := [(qM, .inr (8, [.int mt, .int mw, .int mh, .int mg, .int ms, .ref qMT, .ref qMW, .ref qMK, .ref qMM, .int mv, .int md, .ref qMR, .ref qML, .ref qMP, .int mu, .ref qMY, .ref qMF, .int mo, .int mf])), (qMT, .inl (G.2.1, 16, .inl mT)), (qMW, .inl (G.2.1, 16, .inl mW)), (qMK, .inl (G.2.2.2.1, 16, .inl mK)), (qMR, .inl (G.2.2.2.1, 16, .inl mR)), (qMY, .inl (G.2.1, 16, .inl mY)), (qMF, .inl (G.2.1, 16, .inl mF))]) hD hS hA [0, 1, 2, 3, 4, 5, 6] rfl
  refine va_callv (va_runV (As := []) (rest := []) ⟨hx, hb, hml, hown, hts⟩ (tX8_searches G l eq2) (cwV 0 hts gX8_first_X8_searches rfl rfl rfl (by decide +kernel) ⟨Nat.le_of_ble_eq_true rfl, Nat.le_of_ble_eq_true rfl⟩) ⟨pcW_blind, va_recv hKc hPc (ci := 8) (q0 := 0) rfl rfl, pcW_pre hPc hKK hDc⟩ rfl rfl hl.1 rfl (lv_room (Nat.le_of_ble_eq_true rfl)) dX8_first_7 ⟨Nat.zero_le _, Nat.zero_le _⟩) hS (fun q _ h => hFc q h) hFc (fun u t H1 locs ht hvm hw hB hz1 hk1 hS => ?_)
  have hB := va_Pto ht hB
  obtain ⟨hP, hD⟩ := jn (ws' := [(qM, .inr (8, [.int mt, .int mw, .int mh, .int mg, .int ms, .ref qMT, .ref qMW, .ref qMK, .ref qMM, .int mv, .int md, .ref qMR, .ref qML, .ref qMP, .int mu, .ref qMY, .ref qMF, .int q2.1, .int q2.2.1])), (qMT, .inl (G.2.1, 16, .inl mT)), (qMW, .inl (G.2.1, 16, .inl mW)), (qMK, .inl (G.2.2.2.1, 16, .inl mK)), (qMR, .inl (G.2.2.2.1, 16, .inl q2.2.2.1)), (qMY, .inl (G.2.1, 16, .inl q2.2.2.2.1)), (qMF, .inl (G.2.1, 16, .inl q2.2.2.2.2))]) hP hD hk1 hB [0, 1, 2, 3, 4, 5, 6] rfl rfl rfl rfl
  generalize H1 = H at hP hS ⊢
  refine lv_aload_n hx hb dX8_first_10 rfl (lv_at hl 1 rfl) ?_
  refine lv_iload_n hx hb dX8_first_11 rfl (lv_at hl 0 rfl) ?_
  have J31 : ∀ (v3 : Int32) (ls : Array Slot) (H : Heap) (locs : List Loc), kX8_first_j31 F mt x1 q2 v3 = some r → lv_has ls 3 [(0, .ref qM), (1, .int x1)] → va_P G.1 vwCl [(qM, .inr (8, [.int mt, .int mw, .int mh, .int mg, .int ms, .ref qMT, .ref qMW, .ref qMK, .ref qMM, .int mv, .int md, .ref qMR, .ref qML, .ref qMP, .int mu, .ref qMY, .ref qMF, .int q2.1, .int q2.2.1])), (qMT, .inl (G.2.1, 16, .inl mT)), (qMW, .inl (G.2.1, 16, .inl mW)), (qMK, .inl (G.2.2.2.1, 16, .inl mK)), (qMR, .inl (G.2.2.2.1, 16, .inl q2.2.2.1)), (qMY, .inl (G.2.1, 16, .inl q2.2.2.2.1)), (qMF, .inl (G.2.1, 16, .inl q2.2.2.2.2))] H → va_D A [(qM, .inr (8, [.int mt, .int mw, .int mh, .int mg, .int ms, .ref qMT, .ref qMW, .ref qMK, .ref qMM, .int mv, .int md, .ref qMR, .ref qML, .ref qMP, .int mu, .ref qMY, .ref qMF, .int q2.1, .int q2.2.1])), (qMT, .inl (G.2.1, 16, .inl mT)), (qMW, .inl (G.2.1, 16, .inl mW)), (qMK, .inl (G.2.2.2.1, 16, .inl mK)), (qMR, .inl (G.2.2.2.1, 16, .inl q2.2.2.1)), (qMY, .inl (G.2.1, 16, .inl q2.2.2.2.1)), (qMF, .inl (G.2.1, 16, .inl q2.2.2.2.2))] → va_S A s.heap H locs → W p l e (headSpec wsX8_first rmX8_first).room s m ([.ref qM, .int x1] : List Value).toArray below meth c H locs 0 0 Q (F0 m 31 ls [.int v3, .ref qM]) := by
    intro v3 ls H locs hq hl hP hD hS
    unfold kX8_first_j31 at hq
    obtain ⟨q4, eq4, hq⟩ := ob hq
    have hPc := hP.sub (ws' := [(qM, .inr (8, [.int mt, .int mw, .int mh, .int mg, .int ms, .ref qMT, .ref qMW, .ref qMK, .ref qMM, .int mv, .int md, .ref qMR, .ref qML, .ref qMP, .int mu, .ref qMY, .ref qMF, .int q2.1, .int q2.2.1]))]) [0] rfl
    have hKc := hK
    have hDc := hD.sub (ws' := [(qM, .inr (8, [.int mt, .int mw, .int mh, .int mg, .int ms, .ref qMT, .ref qMW, .ref qMK, .ref qMM, .int mv, .int md, .ref qMR, .ref qML, .ref qMP, .int mu, .ref qMY, .ref qMF, .int q2.1, .int q2.2.1]))]) [0] (by decide) rfl
    have hFc := va_free (wc := [(qM, .inr (8, [.int mt, .int mw, .int mh, .int mg, .int ms, .ref qMT, .ref qMW, .ref qMK, .ref qMM, .int mv, .int md, .ref qMR, .ref qML, .ref qMP, .int mu, .ref qMY, .ref qMF, .int q2.1, .int q2.2.1]))]) hD hS hA [0] rfl
    refine va_calli (va_runV (As := [.int v3]) (rest := []) ⟨hx, hb, hml, hown, hts⟩ (tX8_holds G l eq4) (cwV 1 hts gX8_first_X8_holds rfl rfl rfl (by decide +kernel) ⟨Nat.le_of_ble_eq_true rfl, Nat.le_of_ble_eq_true rfl⟩) ⟨pcW_blind, va_recv hKc hPc (ci := 8) (q0 := 0) rfl rfl, pcW_pre hPc hKK hDc⟩ rfl rfl hl.1 rfl (lv_room (Nat.le_of_ble_eq_true rfl)) dX8_first_31 ⟨Nat.zero_le _, Nat.zero_le _⟩) hS (fun q _ h => hFc q h) hFc (fun r0 u t H1 locs ht hvm hw hB hz1 hk1 hS => ?_)
    obtain rfl := hw
    have hB := va_Pto ht hB
    obtain ⟨hP, hD⟩ := jn (ws' := [(qM, .inr (8, [.int q4.2, .int mw, .int mh, .int mg, .int ms, .ref qMT, .ref qMW, .ref qMK, .ref qMM, .int mv, .int md, .ref qMR, .ref qML, .ref qMP, .int mu, .ref qMY, .ref qMF, .int q2.1, .int q2.2.1])), (qMT, .inl (G.2.1, 16, .inl mT)), (qMW, .inl (G.2.1, 16, .inl mW)), (qMK, .inl (G.2.2.2.1, 16, .inl mK)), (qMR, .inl (G.2.2.2.1, 16, .inl q2.2.2.1)), (qMY, .inl (G.2.1, 16, .inl q2.2.2.2.1)), (qMF, .inl (G.2.1, 16, .inl q2.2.2.2.2))]) hP hD hk1 hB [0] rfl rfl rfl rfl
    generalize H1 = H at hP hS ⊢
    refine lv_if_eq (tgt := 46) hx hb dX8_first_34 (by decide) (fun c_34 => ?_) (fun c_34 => ?_)
    · have hq := k_t c_34 hq
      refine lv_iconst (v := 0) hx hb dX8_first_46 (by decide) ?_
      obtain rfl := Option.some.inj hq
      rw [hQ]
      exact W.iret hx hb hr (fun t ht hW => ⟨⟨_, (), rfl, rfl, va_Pat ht hP⟩, hS.F ht⟩) hS.2.2 dX8_first_47
    · have hq := k_f c_34 hq
      refine lv_aload_n hx hb dX8_first_37 rfl (lv_at hl 0 rfl) ?_
      refine va_get (D := G.1) (ci := 8) (v := .ref qMF) (C := RX8) (T := TX8) (N := 19) hx hb hts hi8 hown hK hP 0 rfl rfl 16 (by decide) hw1 (fun _ h9 => h9) rfl dX8_first_38 ?_
      refine lv_iload_n hx hb dX8_first_41 rfl (lv_at hl 1 rfl) ?_
      obtain ⟨hg, hq⟩ := k_g hq
      refine va_iald hx hb hK hP 6 0 rfl rfl (ix_in hg) dX8_first_42 ?_
      refine lv_goto (tgt := 47) hx hb dX8_first_43 (by decide) ?_
      obtain rfl := Option.some.inj hq
      rw [hQ]
      exact W.iret hx hb hr (fun t ht hW => ⟨⟨_, (), rfl, rfl, va_Pat ht hP⟩, hS.F ht⟩) hS.2.2 dX8_first_47
  refine lv_if_ne (tgt := 19) hx hb dX8_first_12 (by decide) (fun c_12 => ?_) (fun c_12 => ?_)
  · have hq := k_f c_12 hq
    refine lv_aload_n hx hb dX8_first_19 rfl (lv_at hl 1 rfl) ?_
    refine va_get (D := G.1) (ci := 8) (v := .int q2.1) (C := RX8) (T := TX8) (N := 19) hx hb hts hi8 hown hK hP 0 rfl rfl 17 (by decide) hw0 (fun _ h9 => h9) rfl dX8_first_20 ?_
    refine lv_if_ne (tgt := 30) hx hb dX8_first_23 (by decide) (fun c_23 => ?_) (fun c_23 => ?_)
    · have hq := k_f c_23 hq
      refine lv_iconst (v := 0) hx hb dX8_first_30 (by decide) ?_
      exact J31 0 ls _ _ hq (lv_sub hl [1, 2] rfl) hP hD hS
    · have hq := k_t c_23 hq
      refine lv_iconst (v := 2) hx hb dX8_first_26 (by decide) ?_
      refine lv_goto (tgt := 31) hx hb dX8_first_27 (by decide) ?_
      exact J31 2 ls _ _ hq (lv_sub hl [1, 2] rfl) hP hD hS
  · have hq := k_t c_12 hq
    refine lv_iconst (v := 1) hx hb dX8_first_15 (by decide) ?_
    refine lv_goto (tgt := 31) hx hb dX8_first_16 (by decide) ?_
    exact J31 1 ls _ _ hq (lv_sub hl [1, 2] rfl) hP hD hS

abbrev rmX8_fewestTurns : Room := { frames := 3, cells := 0, slots := 0, locals := 74 }
set_option maxHeartbeats 40000000 in
set_option maxRecDepth 100000 in
theorem tX8_fewestTurns (G : GG) (l : Launch) {qM qMT qMW qMK qMM qMR qML qMP qMY qMF : Nat} {mt : Int32} {mw : Int32} {mh : Int32} {mg : Int32} {ms : Int32} {mv : Int32} {md : Int32} {mu : Int32} {mo : Int32} {mf : Int32} {mT : Nat → Int32} {mW : Nat → Int32} {mK : Nat → Int32} {mR : Nat → Int32} {mY : Nat → Int32} {mF : Nat → Int32} {sz : Nat} {F : Nat} {r : Int32 × Int32 × Int32 × Int32 × (Nat → Int32) × (Nat → Int32) × (Nat → Int32)} (hq : kX8_fewestTurns F mt mw mh mg mo mf mT mW mK mR mY mF = some r) : Met l yX8_fewestTurns wsX8_fewestTurns rmX8_fewestTurns (pcW G [(qM, .inr (8, [.int mt, .int mw, .int mh, .int mg, .int ms, .ref qMT, .ref qMW, .ref qMK, .ref qMM, .int mv, .int md, .ref qMR, .ref qML, .ref qMP, .int mu, .ref qMY, .ref qMF, .int mo, .int mf])), (qMT, .inl (G.2.1, 16, .inl mT)), (qMW, .inl (G.2.1, 16, .inl mW)), (qMK, .inl (G.2.2.2.1, 16, .inl mK)), (qMR, .inl (G.2.2.2.1, 16, .inl mR)), (qMY, .inl (G.2.1, 16, .inl mY)), (qMF, .inl (G.2.1, 16, .inl mF))] sz [.ref qM]) (qcI G r.1 [(qM, .inr (8, [.int r.2.1, .int mw, .int mh, .int mg, .int ms, .ref qMT, .ref qMW, .ref qMK, .ref qMM, .int mv, .int md, .ref qMR, .ref qML, .ref qMP, .int mu, .ref qMY, .ref qMF, .int r.2.2.1, .int r.2.2.2.1])), (qMT, .inl (G.2.1, 16, .inl mT)), (qMW, .inl (G.2.1, 16, .inl mW)), (qMK, .inl (G.2.2.2.1, 16, .inl mK)), (qMR, .inl (G.2.2.2.1, 16, .inl r.2.2.2.2.1)), (qMY, .inl (G.2.1, 16, .inl r.2.2.2.2.2.1)), (qMF, .inl (G.2.1, 16, .inl r.2.2.2.2.2.2))] (va_A [(qM, .inr (8, [.int mt, .int mw, .int mh, .int mg, .int ms, .ref qMT, .ref qMW, .ref qMK, .ref qMM, .int mv, .int md, .ref qMR, .ref qML, .ref qMP, .int mu, .ref qMY, .ref qMF, .int mo, .int mf])), (qMT, .inl (G.2.1, 16, .inl mT)), (qMW, .inl (G.2.1, 16, .inl mW)), (qMK, .inl (G.2.2.2.1, 16, .inl mK)), (qMR, .inl (G.2.2.2.1, 16, .inl mR)), (qMY, .inl (G.2.1, 16, .inl mY)), (qMF, .inl (G.2.1, 16, .inl mF))] sz)) 0 0 (va_A [(qM, .inr (8, [.int mt, .int mw, .int mh, .int mg, .int ms, .ref qMT, .ref qMW, .ref qMK, .ref qMM, .int mv, .int md, .ref qMR, .ref qML, .ref qMP, .int mu, .ref qMY, .ref qMF, .int mo, .int mf])), (qMT, .inl (G.2.1, 16, .inl mT)), (qMW, .inl (G.2.1, 16, .inl mW)), (qMK, .inl (G.2.2.2.1, 16, .inl mK)), (qMR, .inl (G.2.2.2.1, 16, .inl mR)), (qMY, .inl (G.2.1, 16, .inl mY)), (qMF, .inl (G.2.1, 16, .inl mF))] sz) := by
  refine Met.ofW (cc := cX8_fewestTurns) (maxL := 1) (ret := (some .int)) (by decide) rfl ?_
  intro p e s m args below meth c s₁ B hml hv
  obtain ⟨rfl, hsz, hP, hKK, hD0⟩ := hv
  have hK := hKK.1
  have hx := B.exec
  have hb := B.bytes
  have hr := B.returns
  have hts := atoms_spec (ws := wsX8_fewestTurns) B.pre
  have hown : s.vm.findClass RX8 = some m.cls := findClass_of_methodNamed B.named
  have hlocks := B.notSynchronized
  subst hsz
  have hD := hD0.self (sz := s.heap.size)
  generalize hAe : va_A [(qM, .inr (8, [.int mt, .int mw, .int mh, .int mg, .int ms, .ref qMT, .ref qMW, .ref qMK, .ref qMM, .int mv, .int md, .ref qMR, .ref qML, .ref qMP, .int mu, .ref qMY, .ref qMF, .int mo, .int mf])), (qMT, .inl (G.2.1, 16, .inl mT)), (qMW, .inl (G.2.1, 16, .inl mW)), (qMK, .inl (G.2.2.2.1, 16, .inl mK)), (qMR, .inl (G.2.2.2.1, 16, .inl mR)), (qMY, .inl (G.2.1, 16, .inl mY)), (qMF, .inl (G.2.1, 16, .inl mF))] s.heap.size = A at hD ⊢
  have hA : ∀ q : Nat, s.heap.size ≤ q → A q := fun q h => by rw [← hAe]; exact Or.inr h
  have hS : va_S A s.heap s.heap [] := va_S.rf
  have hl := lv_entry ([.ref qM] : List Value) (n := 1) (Nat.le_of_ble_eq_true rfl)
  rw [lg_entry_eq]
  generalize (lg_sl ([.ref qM] : List Value) ++ List.replicate (1 - (lg_sl ([.ref qM] : List Value)).length) Slot.unset).toArray = ls at hl ⊢
  have hl : lv_has ls 1 [(0, .ref qM)] := hl
  have hi8 : ∀ w ∈ u_ws RX8 TX8 19, w ∈ wsX8_fewestTurns := by decide +kernel
  have hw0 : (Cond.fieldLink RX8 149 "NetPlumberModel" "solutions" "I").before #[Value.ref qM] s = true := hts _ (by decide +kernel)
  have hw1 : (Cond.fieldLink RX8 152 "NetPlumberModel" "fewest" "I").before #[Value.ref qM] s = true := hts _ (by decide +kernel)
  refine wq (fun Q hQ => ?_)
  unfold kX8_fewestTurns at hq
  refine lv_aload_n hx hb dX8_fewestTurns_0 rfl (lv_at hl 0 rfl) ?_
  obtain ⟨q1, eq1, hq⟩ := ob hq
  have hPc := hP.sub (ws' := [(qM, .inr (8, [.int mt, .int mw, .int mh, .int mg, .int ms, .ref qMT, .ref qMW, .ref qMK, .ref qMM, .int mv, .int md, .ref qMR, .ref qML, .ref qMP, .int mu, .ref qMY, .ref qMF, .int mo, .int mf])), (qMT, .inl (G.2.1, 16, .inl mT)), (qMW, .inl (G.2.1, 16, .inl mW)), (qMK, .inl (G.2.2.2.1, 16, .inl mK)), (qMR, .inl (G.2.2.2.1, 16, .inl mR)), (qMY, .inl (G.2.1, 16, .inl mY)), (qMF, .inl (G.2.1, 16, .inl mF))]) [0, 1, 2, 3, 4, 5, 6] rfl
  have hKc := hK
  have hDc := hD.sub (ws' := [(qM, .inr (8, [.int mt, .int mw, .int mh, .int mg, .int ms, .ref qMT, .ref qMW, .ref qMK, .ref qMM, .int mv, .int md, .ref qMR, .ref qML, .ref qMP, .int mu, .ref qMY, .ref qMF, .int mo, .int mf])), (qMT, .inl (G.2.1, 16, .inl mT)), (qMW, .inl (G.2.1, 16, .inl mW)), (qMK, .inl (G.2.2.2.1, 16, .inl mK)), (qMR, .inl (G.2.2.2.1, 16, .inl mR)), (qMY, .inl (G.2.1, 16, .inl mY)), (qMF, .inl (G.2.1, 16, .inl mF))]) [0, 1, 2, 3, 4, 5, 6] (by decide) rfl
  have hFc := va_free (wc := [(qM, .inr (8, [.int mt, .int mw, .int mh, .int mg, .int ms, .ref qMT, .ref qMW, .ref qMK, .ref qMM, .int mv, .int md, .ref qMR, .ref qML, .ref qMP, .int mu, .ref qMY, .ref qMF, .int mo, .int mf])), (qMT, .inl (G.2.1, 16, .inl mT)), (qMW, .inl (G.2.1, 16, .inl mW)), (qMK, .inl (G.2.2.2.1, 16, .inl mK)), (qMR, .inl (G.2.2.2.1, 16, .inl mR)), (qMY, .inl (G.2.1, 16, .inl mY)), (qMF, .inl (G.2.1, 16, .inl mF))]) hD hS hA [0, 1, 2, 3, 4, 5, 6] rfl
  refine va_callv (va_runV (As := []) (rest := []) ⟨hx, hb, hml, hown, hts⟩ (tX8_searches G l eq1) (cwV 0 hts gX8_fewestTurns_X8_searches rfl rfl rfl (by decide +kernel) ⟨Nat.le_of_ble_eq_true rfl, Nat.le_of_ble_eq_true rfl⟩) ⟨pcW_blind, va_recv hKc hPc (ci := 8) (q0 := 0) rfl rfl, pcW_pre hPc hKK hDc⟩ rfl rfl hl.1 rfl (lv_room (Nat.le_of_ble_eq_true rfl)) dX8_fewestTurns_1 ⟨Nat.zero_le _, Nat.zero_le _⟩) hS (fun q _ h => hFc q h) hFc (fun u t H1 locs ht hvm hw hB hz1 hk1 hS => ?_)
  have hB := va_Pto ht hB
  obtain ⟨hP, hD⟩ := jn (ws' := [(qM, .inr (8, [.int mt, .int mw, .int mh, .int mg, .int ms, .ref qMT, .ref qMW, .ref qMK, .ref qMM, .int mv, .int md, .ref qMR, .ref qML, .ref qMP, .int mu, .ref qMY, .ref qMF, .int q1.1, .int q1.2.1])), (qMT, .inl (G.2.1, 16, .inl mT)), (qMW, .inl (G.2.1, 16, .inl mW)), (qMK, .inl (G.2.2.2.1, 16, .inl mK)), (qMR, .inl (G.2.2.2.1, 16, .inl q1.2.2.1)), (qMY, .inl (G.2.1, 16, .inl q1.2.2.2.1)), (qMF, .inl (G.2.1, 16, .inl q1.2.2.2.2))]) hP hD hk1 hB [0, 1, 2, 3, 4, 5, 6] rfl rfl rfl rfl
  generalize H1 = H at hP hS ⊢
  refine lv_aload_n hx hb dX8_fewestTurns_4 rfl (lv_at hl 0 rfl) ?_
  refine lv_aload_n hx hb dX8_fewestTurns_5 rfl (lv_at hl 0 rfl) ?_
  refine va_get (D := G.1) (ci := 8) (v := .int q1.1) (C := RX8) (T := TX8) (N := 19) hx hb hts hi8 hown hK hP 0 rfl rfl 17 (by decide) hw0 (fun _ h9 => h9) rfl dX8_fewestTurns_6 ?_
  have J17 : ∀ (v2 : Int32) (ls : Array Slot) (H : Heap) (locs : List Loc), kX8_fewestTurns_j17 F mt q1 v2 = some r → lv_has ls 1 [(0, .ref qM)] → va_P G.1 vwCl [(qM, .inr (8, [.int mt, .int mw, .int mh, .int mg, .int ms, .ref qMT, .ref qMW, .ref qMK, .ref qMM, .int mv, .int md, .ref qMR, .ref qML, .ref qMP, .int mu, .ref qMY, .ref qMF, .int q1.1, .int q1.2.1])), (qMT, .inl (G.2.1, 16, .inl mT)), (qMW, .inl (G.2.1, 16, .inl mW)), (qMK, .inl (G.2.2.2.1, 16, .inl mK)), (qMR, .inl (G.2.2.2.1, 16, .inl q1.2.2.1)), (qMY, .inl (G.2.1, 16, .inl q1.2.2.2.1)), (qMF, .inl (G.2.1, 16, .inl q1.2.2.2.2))] H → va_D A [(qM, .inr (8, [.int mt, .int mw, .int mh, .int mg, .int ms, .ref qMT, .ref qMW, .ref qMK, .ref qMM, .int mv, .int md, .ref qMR, .ref qML, .ref qMP, .int mu, .ref qMY, .ref qMF, .int q1.1, .int q1.2.1])), (qMT, .inl (G.2.1, 16, .inl mT)), (qMW, .inl (G.2.1, 16, .inl mW)), (qMK, .inl (G.2.2.2.1, 16, .inl mK)), (qMR, .inl (G.2.2.2.1, 16, .inl q1.2.2.1)), (qMY, .inl (G.2.1, 16, .inl q1.2.2.2.1)), (qMF, .inl (G.2.1, 16, .inl q1.2.2.2.2))] → va_S A s.heap H locs → W p l e (headSpec wsX8_fewestTurns rmX8_fewestTurns).room s m ([.ref qM] : List Value).toArray below meth c H locs 0 0 Q (F0 m 17 ls [.int v2, .ref qM]) := by
    intro v2 ls H locs hq hl hP hD hS
    unfold kX8_fewestTurns_j17 at hq
    obtain ⟨q3, eq3, hq⟩ := ob hq
    have hPc := hP.sub (ws' := [(qM, .inr (8, [.int mt, .int mw, .int mh, .int mg, .int ms, .ref qMT, .ref qMW, .ref qMK, .ref qMM, .int mv, .int md, .ref qMR, .ref qML, .ref qMP, .int mu, .ref qMY, .ref qMF, .int q1.1, .int q1.2.1]))]) [0] rfl
    have hKc := hK
    have hDc := hD.sub (ws' := [(qM, .inr (8, [.int mt, .int mw, .int mh, .int mg, .int ms, .ref qMT, .ref qMW, .ref qMK, .ref qMM, .int mv, .int md, .ref qMR, .ref qML, .ref qMP, .int mu, .ref qMY, .ref qMF, .int q1.1, .int q1.2.1]))]) [0] (by decide) rfl
    have hFc := va_free (wc := [(qM, .inr (8, [.int mt, .int mw, .int mh, .int mg, .int ms, .ref qMT, .ref qMW, .ref qMK, .ref qMM, .int mv, .int md, .ref qMR, .ref qML, .ref qMP, .int mu, .ref qMY, .ref qMF, .int q1.1, .int q1.2.1]))]) hD hS hA [0] rfl
    refine va_calli (va_runV (As := [.int v2]) (rest := []) ⟨hx, hb, hml, hown, hts⟩ (tX8_holds G l eq3) (cwV 1 hts gX8_fewestTurns_X8_holds rfl rfl rfl (by decide +kernel) ⟨Nat.le_of_ble_eq_true rfl, Nat.le_of_ble_eq_true rfl⟩) ⟨pcW_blind, va_recv hKc hPc (ci := 8) (q0 := 0) rfl rfl, pcW_pre hPc hKK hDc⟩ rfl rfl hl.1 rfl (lv_room (Nat.le_of_ble_eq_true rfl)) dX8_fewestTurns_17 ⟨Nat.zero_le _, Nat.zero_le _⟩) hS (fun q _ h => hFc q h) hFc (fun r0 u t H1 locs ht hvm hw hB hz1 hk1 hS => ?_)
    obtain rfl := hw
    have hB := va_Pto ht hB
    obtain ⟨hP, hD⟩ := jn (ws' := [(qM, .inr (8, [.int q3.2, .int mw, .int mh, .int mg, .int ms, .ref qMT, .ref qMW, .ref qMK, .ref qMM, .int mv, .int md, .ref qMR, .ref qML, .ref qMP, .int mu, .ref qMY, .ref qMF, .int q1.1, .int q1.2.1])), (qMT, .inl (G.2.1, 16, .inl mT)), (qMW, .inl (G.2.1, 16, .inl mW)), (qMK, .inl (G.2.2.2.1, 16, .inl mK)), (qMR, .inl (G.2.2.2.1, 16, .inl q1.2.2.1)), (qMY, .inl (G.2.1, 16, .inl q1.2.2.2.1)), (qMF, .inl (G.2.1, 16, .inl q1.2.2.2.2))]) hP hD hk1 hB [0] rfl rfl rfl rfl
    generalize H1 = H at hP hS ⊢
    refine lv_if_eq (tgt := 30) hx hb dX8_fewestTurns_20 (by decide) (fun c_20 => ?_) (fun c_20 => ?_)
    · have hq := k_t c_20 hq
      refine lv_iconst (v := 0) hx hb dX8_fewestTurns_30 (by decide) ?_
      obtain rfl := Option.some.inj hq
      rw [hQ]
      exact W.iret hx hb hr (fun t ht hW => ⟨⟨_, (), rfl, rfl, va_Pat ht hP⟩, hS.F ht⟩) hS.2.2 dX8_fewestTurns_31
    · have hq := k_f c_20 hq
      refine lv_aload_n hx hb dX8_fewestTurns_23 rfl (lv_at hl 0 rfl) ?_
      refine va_get (D := G.1) (ci := 8) (v := .int q1.2.1) (C := RX8) (T := TX8) (N := 19) hx hb hts hi8 hown hK hP 0 rfl rfl 18 (by decide) hw1 (fun _ h9 => h9) rfl dX8_fewestTurns_24 ?_
      refine lv_goto (tgt := 31) hx hb dX8_fewestTurns_27 (by decide) ?_
      obtain rfl := Option.some.inj hq
      rw [hQ]
      exact W.iret hx hb hr (fun t ht hW => ⟨⟨_, (), rfl, rfl, va_Pat ht hP⟩, hS.F ht⟩) hS.2.2 dX8_fewestTurns_31
  refine lv_if_ne (tgt := 16) hx hb dX8_fewestTurns_9 (by decide) (fun c_9 => ?_) (fun c_9 => ?_)
  · have hq := k_f c_9 hq
    refine lv_iconst (v := 0) hx hb dX8_fewestTurns_16 (by decide) ?_
    exact J17 0 ls _ _ hq (lv_sub hl [0] rfl) hP hD hS
  · have hq := k_t c_9 hq
    refine lv_iconst (v := 1) hx hb dX8_fewestTurns_12 (by decide) ?_
    refine lv_goto (tgt := 17) hx hb dX8_fewestTurns_13 (by decide) ?_
    exact J17 1 ls _ _ hq (lv_sub hl [0] rfl) hP hD hS

abbrev rmX8_laysPairs : Room := { frames := 3, cells := 0, slots := 0, locals := 73 }
set_option maxHeartbeats 40000000 in
set_option maxRecDepth 100000 in
theorem tX8_laysPairs (G : GG) (l : Launch) {qM qMT qMW qMK qMM qMR qML qMP qMY qMF : Nat} {mt : Int32} {mw : Int32} {mh : Int32} {mg : Int32} {ms : Int32} {mv : Int32} {md : Int32} {mu : Int32} {mo : Int32} {mf : Int32} {mT : Nat → Int32} {mW : Nat → Int32} {mR : Nat → Int32} {mP : Nat → Int32} {sz : Nat} {F : Nat} {r : Int32 × (Nat → Int32) × (Nat → Int32) × (Nat → Int32)} (hq : kX8_laysPairs F mw mh mg mu mT mW mR mP = some r) : Met l yX8_laysPairs wsX8_laysPairs rmX8_laysPairs (pcW G [(qM, .inr (8, [.int mt, .int mw, .int mh, .int mg, .int ms, .ref qMT, .ref qMW, .ref qMK, .ref qMM, .int mv, .int md, .ref qMR, .ref qML, .ref qMP, .int mu, .ref qMY, .ref qMF, .int mo, .int mf])), (qMT, .inl (G.2.1, 16, .inl mT)), (qMW, .inl (G.2.1, 16, .inl mW)), (qMR, .inl (G.2.2.2.1, 16, .inl mR)), (qMP, .inl (G.2.1, 32, .inl mP))] sz [.ref qM]) (qcV G [(qM, .inr (8, [.int mt, .int mw, .int mh, .int mg, .int ms, .ref qMT, .ref qMW, .ref qMK, .ref qMM, .int mv, .int md, .ref qMR, .ref qML, .ref qMP, .int r.1, .ref qMY, .ref qMF, .int mo, .int mf])), (qMT, .inl (G.2.1, 16, .inl r.2.1)), (qMW, .inl (G.2.1, 16, .inl mW)), (qMR, .inl (G.2.2.2.1, 16, .inl r.2.2.1)), (qMP, .inl (G.2.1, 32, .inl r.2.2.2))] (va_A [(qM, .inr (8, [.int mt, .int mw, .int mh, .int mg, .int ms, .ref qMT, .ref qMW, .ref qMK, .ref qMM, .int mv, .int md, .ref qMR, .ref qML, .ref qMP, .int mu, .ref qMY, .ref qMF, .int mo, .int mf])), (qMT, .inl (G.2.1, 16, .inl mT)), (qMW, .inl (G.2.1, 16, .inl mW)), (qMR, .inl (G.2.2.2.1, 16, .inl mR)), (qMP, .inl (G.2.1, 32, .inl mP))] sz)) 0 0 (va_A [(qM, .inr (8, [.int mt, .int mw, .int mh, .int mg, .int ms, .ref qMT, .ref qMW, .ref qMK, .ref qMM, .int mv, .int md, .ref qMR, .ref qML, .ref qMP, .int mu, .ref qMY, .ref qMF, .int mo, .int mf])), (qMT, .inl (G.2.1, 16, .inl mT)), (qMW, .inl (G.2.1, 16, .inl mW)), (qMR, .inl (G.2.2.2.1, 16, .inl mR)), (qMP, .inl (G.2.1, 32, .inl mP))] sz) := by
  refine Met.ofW (cc := cX8_laysPairs) (maxL := 6) (ret := none) (by decide) rfl ?_
  intro p e s m args below meth c s₁ B hml hv
  obtain ⟨rfl, hsz, hP, hKK, hD0⟩ := hv
  have hK := hKK.1
  have hx := B.exec
  have hb := B.bytes
  have hr := B.returns
  have hts := atoms_spec (ws := wsX8_laysPairs) B.pre
  have hown : s.vm.findClass RX8 = some m.cls := findClass_of_methodNamed B.named
  have hlocks := B.notSynchronized
  subst hsz
  have hD := hD0.self (sz := s.heap.size)
  generalize hAe : va_A [(qM, .inr (8, [.int mt, .int mw, .int mh, .int mg, .int ms, .ref qMT, .ref qMW, .ref qMK, .ref qMM, .int mv, .int md, .ref qMR, .ref qML, .ref qMP, .int mu, .ref qMY, .ref qMF, .int mo, .int mf])), (qMT, .inl (G.2.1, 16, .inl mT)), (qMW, .inl (G.2.1, 16, .inl mW)), (qMR, .inl (G.2.2.2.1, 16, .inl mR)), (qMP, .inl (G.2.1, 32, .inl mP))] s.heap.size = A at hD ⊢
  have hA : ∀ q : Nat, s.heap.size ≤ q → A q := fun q h => by rw [← hAe]; exact Or.inr h
  have hS : va_S A s.heap s.heap [] := va_S.rf
  have hl := lv_entry ([.ref qM] : List Value) (n := 6) (Nat.le_of_ble_eq_true rfl)
  rw [lg_entry_eq]
  generalize (lg_sl ([.ref qM] : List Value) ++ List.replicate (6 - (lg_sl ([.ref qM] : List Value)).length) Slot.unset).toArray = ls at hl ⊢
  have hl : lv_has ls 6 [(0, .ref qM)] := hl
  have hi8 : ∀ w ∈ u_ws RX8 TX8 19, w ∈ wsX8_laysPairs := by decide +kernel
  have hw0 : (Cond.fieldLink RX8 36 "NetPlumberModel" "pairs" "[I").before #[Value.ref qM] s = true := hts _ (by decide +kernel)
  have hw1 : (Cond.fieldLink RX8 30 "NetPlumberModel" "reached" "[Z").before #[Value.ref qM] s = true := hts _ (by decide +kernel)
  have hw2 : (Cond.fieldLink RX8 16 "NetPlumberModel" "tiles" "[I").before #[Value.ref qM] s = true := hts _ (by decide +kernel)
  refine wq (fun Q hQ => ?_)
  unfold kX8_laysPairs at hq
  refine lv_iconst (v := 0) hx hb dX8_laysPairs_0 (by decide) ?_
  refine lv_istore_n (lv' := [(1, .int 0), (0, .ref qM)]) hx hb dX8_laysPairs_1 rfl hl (by decide) rfl (fun ls hl => ?_)
  refine lv_iconst (v := 0) hx hb dX8_laysPairs_2 (by decide) ?_
  refine lv_istore_n (lv' := [(2, .int 0), (1, .int 0), (0, .ref qM)]) hx hb dX8_laysPairs_3 rfl hl (by decide) rfl (fun ls hl => ?_)
  have L4 : ∀ (n : Nat) (s25 : Int32) (s26 : Int32) (s27 : Nat → Int32) (t_4 : Int32 × (Nat → Int32)) (ls : Array Slot) (H : Heap) (locs : List Loc), kloop n (fun s_ => kX8_laysPairs_s4 F mw mh mg s_.1 s_.2.1 s_.2.2) (s25, s26, s27) = some t_4 → lv_has ls 6 [(0, .ref qM), (1, .int s25), (2, .int s26)] → va_P G.1 vwCl [(qM, .inr (8, [.int mt, .int mw, .int mh, .int mg, .int ms, .ref qMT, .ref qMW, .ref qMK, .ref qMM, .int mv, .int md, .ref qMR, .ref qML, .ref qMP, .int mu, .ref qMY, .ref qMF, .int mo, .int mf])), (qMT, .inl (G.2.1, 16, .inl mT)), (qMW, .inl (G.2.1, 16, .inl mW)), (qMR, .inl (G.2.2.2.1, 16, .inl mR)), (qMP, .inl (G.2.1, 32, .inl s27))] H → va_D A [(qM, .inr (8, [.int mt, .int mw, .int mh, .int mg, .int ms, .ref qMT, .ref qMW, .ref qMK, .ref qMM, .int mv, .int md, .ref qMR, .ref qML, .ref qMP, .int mu, .ref qMY, .ref qMF, .int mo, .int mf])), (qMT, .inl (G.2.1, 16, .inl mT)), (qMW, .inl (G.2.1, 16, .inl mW)), (qMR, .inl (G.2.2.2.1, 16, .inl mR)), (qMP, .inl (G.2.1, 32, .inl s27))] → va_S A s.heap H locs → (∀ (ls : Array Slot) (H : Heap) (locs : List Loc), lv_has ls 6 [(0, .ref qM), (1, .int t_4.1)] → va_P G.1 vwCl [(qM, .inr (8, [.int mt, .int mw, .int mh, .int mg, .int ms, .ref qMT, .ref qMW, .ref qMK, .ref qMM, .int mv, .int md, .ref qMR, .ref qML, .ref qMP, .int mu, .ref qMY, .ref qMF, .int mo, .int mf])), (qMT, .inl (G.2.1, 16, .inl mT)), (qMW, .inl (G.2.1, 16, .inl mW)), (qMR, .inl (G.2.2.2.1, 16, .inl mR)), (qMP, .inl (G.2.1, 32, .inl t_4.2))] H → va_D A [(qM, .inr (8, [.int mt, .int mw, .int mh, .int mg, .int ms, .ref qMT, .ref qMW, .ref qMK, .ref qMM, .int mv, .int md, .ref qMR, .ref qML, .ref qMP, .int mu, .ref qMY, .ref qMF, .int mo, .int mf])), (qMT, .inl (G.2.1, 16, .inl mT)), (qMW, .inl (G.2.1, 16, .inl mW)), (qMR, .inl (G.2.2.2.1, 16, .inl mR)), (qMP, .inl (G.2.1, 32, .inl t_4.2))] → va_S A s.heap H locs → W p l e (headSpec wsX8_laysPairs rmX8_laysPairs).room s m ([.ref qM] : List Value).toArray below meth c H locs 0 0 Q (F0 m 55 ls [])) → W p l e (headSpec wsX8_laysPairs rmX8_laysPairs).room s m ([.ref qM] : List Value).toArray below meth c H locs 0 0 Q (F0 m 4 ls []) := by
    intro n
    induction n with
    | zero => 
      intro s25 s26 s27 t_4 ls H locs hq hl hP hD hS kk4_55
      exact absurd hq kl_0
    | succ n ih4 =>
      intro s25 s26 s27 t_4 ls H locs hq hl hP hD hS kk4_55
      obtain ⟨y_4, hq, hx4⟩ := kl_s hq
      have hq : kX8_laysPairs_s4 F mw mh mg s25 s26 s27 = some y_4 := hq
      unfold kX8_laysPairs_s4 at hq
      refine lv_iload_n hx hb dX8_laysPairs_4 rfl (lv_at hl 2 rfl) ?_
      refine lv_aload_n hx hb dX8_laysPairs_5 rfl (lv_at hl 0 rfl) ?_
      obtain ⟨q28, eq28, hq⟩ := ob hq
      have hPc := hP.sub (ws' := [(qM, .inr (8, [.int mt, .int mw, .int mh, .int mg, .int ms, .ref qMT, .ref qMW, .ref qMK, .ref qMM, .int mv, .int md, .ref qMR, .ref qML, .ref qMP, .int mu, .ref qMY, .ref qMF, .int mo, .int mf]))]) [0] rfl
      have hKc := hK
      refine vp_callSi (va_Run.run (va_runV (As := []) (rest := [.int s26]) ⟨hx, hb, hml, hown, hts⟩ (tX8_cells G l eq28) (cwV 0 hts gX8_laysPairs_X8_cells rfl rfl rfl (by decide +kernel) ⟨Nat.le_of_ble_eq_true rfl, Nat.le_of_ble_eq_true rfl⟩) ⟨pcP_blind, va_recv hKc hPc (ci := 8) (q0 := 0) rfl rfl, pcP_pre hPc hKK⟩ rfl rfl hl.1 rfl (lv_room (Nat.le_of_ble_eq_true rfl)) dX8_laysPairs_6 ⟨Nat.zero_le _, Nat.zero_le _⟩)) (fun r0 hr0 => ?_)
      obtain rfl := hr0
      refine lv_icmp_ge (tgt := 55) hx hb dX8_laysPairs_9 (by decide) (fun c_9 => ?_) (fun c_9 => ?_)
      · have hq := k_t c_9 hq
        have et := kl_exit hq hx4
        subst et
        exact kk4_55 ls _ _ (lv_sub hl [0, 1] rfl) hP hD hS
      · have hq := k_f c_9 hq
        refine lv_iconst (v := 1) hx hb dX8_laysPairs_12 (by decide) ?_
        refine lv_istore_n (lv' := [(3, .int 1), (0, .ref qM), (1, .int s25), (2, .int s26)]) hx hb dX8_laysPairs_13 rfl hl (by decide) rfl (fun ls hl => ?_)
        have L14 : ∀ (n : Nat) (s39 : Int32) (s40 : Int32) (s41 : Nat → Int32) (t_14 : Int32 × (Nat → Int32)) (ls : Array Slot) (H : Heap) (locs : List Loc), kloop n (fun s_ => kX8_laysPairs_s14 F mw mh mg s26 s_.1 s_.2.1 s_.2.2) (s39, s40, s41) = some t_14 → lv_has ls 6 [(0, .ref qM), (1, .int s39), (2, .int s26), (3, .int s40)] → va_P G.1 vwCl [(qM, .inr (8, [.int mt, .int mw, .int mh, .int mg, .int ms, .ref qMT, .ref qMW, .ref qMK, .ref qMM, .int mv, .int md, .ref qMR, .ref qML, .ref qMP, .int mu, .ref qMY, .ref qMF, .int mo, .int mf])), (qMT, .inl (G.2.1, 16, .inl mT)), (qMW, .inl (G.2.1, 16, .inl mW)), (qMR, .inl (G.2.2.2.1, 16, .inl mR)), (qMP, .inl (G.2.1, 32, .inl s41))] H → va_D A [(qM, .inr (8, [.int mt, .int mw, .int mh, .int mg, .int ms, .ref qMT, .ref qMW, .ref qMK, .ref qMM, .int mv, .int md, .ref qMR, .ref qML, .ref qMP, .int mu, .ref qMY, .ref qMF, .int mo, .int mf])), (qMT, .inl (G.2.1, 16, .inl mT)), (qMW, .inl (G.2.1, 16, .inl mW)), (qMR, .inl (G.2.2.2.1, 16, .inl mR)), (qMP, .inl (G.2.1, 32, .inl s41))] → va_S A s.heap H locs → (∀ (ls : Array Slot) (H : Heap) (locs : List Loc), lv_has ls 6 [(0, .ref qM), (1, .int t_14.1), (2, .int s26)] → va_P G.1 vwCl [(qM, .inr (8, [.int mt, .int mw, .int mh, .int mg, .int ms, .ref qMT, .ref qMW, .ref qMK, .ref qMM, .int mv, .int md, .ref qMR, .ref qML, .ref qMP, .int mu, .ref qMY, .ref qMF, .int mo, .int mf])), (qMT, .inl (G.2.1, 16, .inl mT)), (qMW, .inl (G.2.1, 16, .inl mW)), (qMR, .inl (G.2.2.2.1, 16, .inl mR)), (qMP, .inl (G.2.1, 32, .inl t_14.2))] H → va_D A [(qM, .inr (8, [.int mt, .int mw, .int mh, .int mg, .int ms, .ref qMT, .ref qMW, .ref qMK, .ref qMM, .int mv, .int md, .ref qMR, .ref qML, .ref qMP, .int mu, .ref qMY, .ref qMF, .int mo, .int mf])), (qMT, .inl (G.2.1, 16, .inl mT)), (qMW, .inl (G.2.1, 16, .inl mW)), (qMR, .inl (G.2.2.2.1, 16, .inl mR)), (qMP, .inl (G.2.1, 32, .inl t_14.2))] → va_S A s.heap H locs → W p l e (headSpec wsX8_laysPairs rmX8_laysPairs).room s m ([.ref qM] : List Value).toArray below meth c H locs 0 0 Q (F0 m 49 ls [])) → W p l e (headSpec wsX8_laysPairs rmX8_laysPairs).room s m ([.ref qM] : List Value).toArray below meth c H locs 0 0 Q (F0 m 14 ls []) := by
          intro n
          induction n with
          | zero => 
            intro s39 s40 s41 t_14 ls H locs hq hl hP hD hS kk14_49
            exact absurd hq kl_0
          | succ n ih14 =>
            intro s39 s40 s41 t_14 ls H locs hq hl hP hD hS kk14_49
            obtain ⟨y_14, hq, hx14⟩ := kl_s hq
            have hq : kX8_laysPairs_s14 F mw mh mg s26 s39 s40 s41 = some y_14 := hq
            unfold kX8_laysPairs_s14 at hq
            refine lv_iload_n hx hb dX8_laysPairs_14 rfl (lv_at hl 3 rfl) ?_
            refine lv_iconst (v := 2) hx hb dX8_laysPairs_15 (by decide) ?_
            refine lv_icmp_gt (tgt := 49) hx hb dX8_laysPairs_16 (by decide) (fun c_16 => ?_) (fun c_16 => ?_)
            · have hq := k_t c_16 hq
              have et := kl_exit hq hx14
              subst et
              exact kk14_49 ls _ _ (lv_sub hl [0, 1, 2] rfl) hP hD hS
            · have hq := k_f c_16 hq
              refine lv_aload_n hx hb dX8_laysPairs_19 rfl (lv_at hl 0 rfl) ?_
              refine lv_iload_n hx hb dX8_laysPairs_20 rfl (lv_at hl 2 rfl) ?_
              refine lv_iload_n hx hb dX8_laysPairs_21 rfl (lv_at hl 3 rfl) ?_
              obtain ⟨q42, eq42, hq⟩ := ob hq
              have hPc := hP.sub (ws' := [(qM, .inr (8, [.int mt, .int mw, .int mh, .int mg, .int ms, .ref qMT, .ref qMW, .ref qMK, .ref qMM, .int mv, .int md, .ref qMR, .ref qML, .ref qMP, .int mu, .ref qMY, .ref qMF, .int mo, .int mf]))]) [0] rfl
              have hKc := hK
              refine vp_callSi (va_Run.run (va_runV (As := [.int s26, .int s40]) (rest := []) ⟨hx, hb, hml, hown, hts⟩ (tX8_neighbourOf G l eq42) (cwV 2 hts gX8_laysPairs_X8_neighbourOf rfl rfl rfl (by decide +kernel) ⟨Nat.le_of_ble_eq_true rfl, Nat.le_of_ble_eq_true rfl⟩) ⟨pcP_blind, va_recv hKc hPc (ci := 8) (q0 := 0) rfl rfl, pcP_pre hPc hKK⟩ rfl rfl hl.1 rfl (lv_room (Nat.le_of_ble_eq_true rfl)) dX8_laysPairs_22 ⟨Nat.zero_le _, Nat.zero_le _⟩)) (fun r0 hr0 => ?_)
              obtain rfl := hr0
              refine lv_iconst (v := (-1)) hx hb dX8_laysPairs_25 (by decide) ?_
              refine lv_icmp_eq (tgt := 43) hx hb dX8_laysPairs_26 (by decide) (fun c_26 => ?_) (fun c_26 => ?_)
              · have hq := k_t c_26 hq
                refine lv_iinc (v := (s40 + 1)) (lv' := [(3, .int (s40 + 1)), (0, .ref qM), (1, .int s39), (2, .int s26)]) hx hb dX8_laysPairs_43 hl (k := 3) rfl rfl (by decide) rfl (fun ls hl => ?_)
                refine lv_goto (tgt := 14) hx hb dX8_laysPairs_46 (by decide) ?_
                exact ih14 s39 (s40 + 1) s41 t_14 ls _ _ (kl_back hq hx14) (lv_sub hl [1, 2, 3, 0] rfl) hP hD hS kk14_49
              · have hq := k_f c_26 hq
                refine lv_aload_n hx hb dX8_laysPairs_29 rfl (lv_at hl 0 rfl) ?_
                refine va_get (D := G.1) (ci := 8) (v := .ref qMP) (C := RX8) (T := TX8) (N := 19) hx hb hts hi8 hown hK hP 0 rfl rfl 13 (by decide) hw0 (fun _ h9 => h9) rfl dX8_laysPairs_30 ?_
                refine lv_iload_n hx hb dX8_laysPairs_33 rfl (lv_at hl 1 rfl) ?_
                refine lv_iconst (v := 4) hx hb dX8_laysPairs_34 (by decide) ?_
                refine lv_iload_n hx hb dX8_laysPairs_35 rfl (lv_at hl 2 rfl) ?_
                refine lv_imul hx hb dX8_laysPairs_36 ?_
                refine lv_iload_n hx hb dX8_laysPairs_37 rfl (lv_at hl 3 rfl) ?_
                refine lv_iadd hx hb dX8_laysPairs_38 ?_
                obtain ⟨hg, hq⟩ := k_g hq
                refine va_iast hx hb hK hP hD hS 4 0 rfl rfl (ix_in hg) dX8_laysPairs_39 (fun H locs hP hD hS => ?_)
                have hP : va_P G.1 vwCl [(qM, .inr (8, [.int mt, .int mw, .int mh, .int mg, .int ms, .ref qMT, .ref qMW, .ref qMK, .ref qMM, .int mv, .int md, .ref qMR, .ref qML, .ref qMP, .int mu, .ref qMY, .ref qMF, .int mo, .int mf])), (qMT, .inl (G.2.1, 16, .inl mT)), (qMW, .inl (G.2.1, 16, .inl mW)), (qMR, .inl (G.2.2.2.1, 16, .inl mR)), (qMP, .inl (G.2.1, 32, .inl (upd s41 s39.toNatClampNeg ((4 * s26) + s40))))] H := hP
                have hD : va_D A [(qM, .inr (8, [.int mt, .int mw, .int mh, .int mg, .int ms, .ref qMT, .ref qMW, .ref qMK, .ref qMM, .int mv, .int md, .ref qMR, .ref qML, .ref qMP, .int mu, .ref qMY, .ref qMF, .int mo, .int mf])), (qMT, .inl (G.2.1, 16, .inl mT)), (qMW, .inl (G.2.1, 16, .inl mW)), (qMR, .inl (G.2.2.2.1, 16, .inl mR)), (qMP, .inl (G.2.1, 32, .inl (upd s41 s39.toNatClampNeg ((4 * s26) + s40))))] := hD
                refine lv_iinc (v := (s39 + 1)) (lv' := [(1, .int (s39 + 1)), (0, .ref qM), (2, .int s26), (3, .int s40)]) hx hb dX8_laysPairs_40 hl (k := 1) rfl rfl (by decide) rfl (fun ls hl => ?_)
                refine lv_iinc (v := (s40 + 1)) (lv' := [(3, .int (s40 + 1)), (1, .int (s39 + 1)), (0, .ref qM), (2, .int s26)]) hx hb dX8_laysPairs_43 hl (k := 3) rfl rfl (by decide) rfl (fun ls hl => ?_)
                refine lv_goto (tgt := 14) hx hb dX8_laysPairs_46 (by decide) ?_
                exact ih14 (s39 + 1) (s40 + 1) (upd s41 s39.toNatClampNeg ((4 * s26) + s40)) t_14 ls _ _ (kl_back hq hx14) (lv_sub hl [2, 1, 3, 0] rfl) hP hD hS kk14_49
        obtain ⟨q45, eq45, hq⟩ := ob hq
        refine L14 F s25 1 s27 q45 ls _ _ (eq45) (lv_sub hl [1, 2, 3, 0] rfl) hP hD hS (fun ls H locs hl hP hD hS => ?_)
        · refine lv_iinc (v := (s26 + 1)) (lv' := [(2, .int (s26 + 1)), (0, .ref qM), (1, .int q45.1)]) hx hb dX8_laysPairs_49 hl (k := 2) rfl rfl (by decide) rfl (fun ls hl => ?_)
          refine lv_goto (tgt := 4) hx hb dX8_laysPairs_52 (by decide) ?_
          exact ih4 q45.1 (s26 + 1) q45.2 t_4 ls _ _ (kl_back hq hx4) (lv_sub hl [1, 2, 0] rfl) hP hD hS kk4_55
  obtain ⟨q46, eq46, hq⟩ := ob hq
  refine L4 F 0 0 mP q46 ls _ _ (eq46) (lv_sub hl [2, 1, 0] rfl) hP hD hS (fun ls H locs hl hP hD hS => ?_)
  · refine lv_iload_n hx hb dX8_laysPairs_55 rfl (lv_at hl 1 rfl) ?_
    refine lv_iconst (v := 1) hx hb dX8_laysPairs_56 (by decide) ?_
    refine lv_isub hx hb dX8_laysPairs_57 ?_
    refine lv_istore_n (lv' := [(2, .int (q46.1 - 1)), (0, .ref qM), (1, .int q46.1)]) hx hb dX8_laysPairs_58 rfl hl (by decide) rfl (fun ls hl => ?_)
    have L59 : ∀ (n : Nat) (s54 : Int32) (s55 : Int32) (s56 : Nat → Int32) (t_59 : Int32 × (Nat → Int32)) (ls : Array Slot) (H : Heap) (locs : List Loc), kloop n (fun s_ => kX8_laysPairs_s59 F s_.1 s_.2.1 s_.2.2) (s54, s55, s56) = some t_59 → lv_has ls 6 [(0, .ref qM), (1, .int q46.1), (2, .int s54)] → va_P G.1 vwCl [(qM, .inr (8, [.int mt, .int mw, .int mh, .int mg, .int ms, .ref qMT, .ref qMW, .ref qMK, .ref qMM, .int mv, .int md, .ref qMR, .ref qML, .ref qMP, .int s55, .ref qMY, .ref qMF, .int mo, .int mf])), (qMT, .inl (G.2.1, 16, .inl mT)), (qMW, .inl (G.2.1, 16, .inl mW)), (qMR, .inl (G.2.2.2.1, 16, .inl mR)), (qMP, .inl (G.2.1, 32, .inl s56))] H → va_D A [(qM, .inr (8, [.int mt, .int mw, .int mh, .int mg, .int ms, .ref qMT, .ref qMW, .ref qMK, .ref qMM, .int mv, .int md, .ref qMR, .ref qML, .ref qMP, .int s55, .ref qMY, .ref qMF, .int mo, .int mf])), (qMT, .inl (G.2.1, 16, .inl mT)), (qMW, .inl (G.2.1, 16, .inl mW)), (qMR, .inl (G.2.2.2.1, 16, .inl mR)), (qMP, .inl (G.2.1, 32, .inl s56))] → va_S A s.heap H locs → (∀ (ls : Array Slot) (H : Heap) (locs : List Loc), lv_has ls 6 [(0, .ref qM), (1, .int q46.1)] → va_P G.1 vwCl [(qM, .inr (8, [.int mt, .int mw, .int mh, .int mg, .int ms, .ref qMT, .ref qMW, .ref qMK, .ref qMM, .int mv, .int md, .ref qMR, .ref qML, .ref qMP, .int t_59.1, .ref qMY, .ref qMF, .int mo, .int mf])), (qMT, .inl (G.2.1, 16, .inl mT)), (qMW, .inl (G.2.1, 16, .inl mW)), (qMR, .inl (G.2.2.2.1, 16, .inl mR)), (qMP, .inl (G.2.1, 32, .inl t_59.2))] H → va_D A [(qM, .inr (8, [.int mt, .int mw, .int mh, .int mg, .int ms, .ref qMT, .ref qMW, .ref qMK, .ref qMM, .int mv, .int md, .ref qMR, .ref qML, .ref qMP, .int t_59.1, .ref qMY, .ref qMF, .int mo, .int mf])), (qMT, .inl (G.2.1, 16, .inl mT)), (qMW, .inl (G.2.1, 16, .inl mW)), (qMR, .inl (G.2.2.2.1, 16, .inl mR)), (qMP, .inl (G.2.1, 32, .inl t_59.2))] → va_S A s.heap H locs → W p l e (headSpec wsX8_laysPairs rmX8_laysPairs).room s m ([.ref qM] : List Value).toArray below meth c H locs 0 0 Q (F0 m 105 ls [])) → W p l e (headSpec wsX8_laysPairs rmX8_laysPairs).room s m ([.ref qM] : List Value).toArray below meth c H locs 0 0 Q (F0 m 59 ls []) := by
      intro n
      induction n with
      | zero => 
        intro s54 s55 s56 t_59 ls H locs hq hl hP hD hS kk59_105
        exact absurd hq kl_0
      | succ n ih59 =>
        intro s54 s55 s56 t_59 ls H locs hq hl hP hD hS kk59_105
        obtain ⟨y_59, hq, hx59⟩ := kl_s hq
        have hq : kX8_laysPairs_s59 F s54 s55 s56 = some y_59 := hq
        unfold kX8_laysPairs_s59 at hq
        refine lv_iload_n hx hb dX8_laysPairs_59 rfl (lv_at hl 2 rfl) ?_
        refine lv_if_le (tgt := 105) hx hb dX8_laysPairs_60 (by decide) (fun c_60 => ?_) (fun c_60 => ?_)
        · have hq := k_t c_60 hq
          have et := kl_exit hq hx59
          subst et
          exact kk59_105 ls _ _ (lv_sub hl [0, 1] rfl) hP hD hS
        · have hq := k_f c_60 hq
          refine lv_aload_n hx hb dX8_laysPairs_63 rfl (lv_at hl 0 rfl) ?_
          refine lv_iload_n hx hb dX8_laysPairs_64 rfl (lv_at hl 2 rfl) ?_
          refine lv_iconst (v := 1) hx hb dX8_laysPairs_65 (by decide) ?_
          refine lv_iadd hx hb dX8_laysPairs_66 ?_
          obtain ⟨q57, eq57, hq⟩ := ob hq
          have hPc := hP.sub (ws' := [(qM, .inr (8, [.int mt, .int mw, .int mh, .int mg, .int ms, .ref qMT, .ref qMW, .ref qMK, .ref qMM, .int mv, .int md, .ref qMR, .ref qML, .ref qMP, .int s55, .ref qMY, .ref qMF, .int mo, .int mf]))]) [0] rfl
          have hKc := hK
          have hDc := hD.sub (ws' := [(qM, .inr (8, [.int mt, .int mw, .int mh, .int mg, .int ms, .ref qMT, .ref qMW, .ref qMK, .ref qMM, .int mv, .int md, .ref qMR, .ref qML, .ref qMP, .int s55, .ref qMY, .ref qMF, .int mo, .int mf]))]) [0] (by decide) rfl
          have hFc := va_free (wc := [(qM, .inr (8, [.int mt, .int mw, .int mh, .int mg, .int ms, .ref qMT, .ref qMW, .ref qMK, .ref qMM, .int mv, .int md, .ref qMR, .ref qML, .ref qMP, .int s55, .ref qMY, .ref qMF, .int mo, .int mf]))]) hD hS hA [0] rfl
          refine va_calli (va_runV (As := [.int (s54 + 1)]) (rest := []) ⟨hx, hb, hml, hown, hts⟩ (tX8_draws G l eq57) (cwV 1 hts gX8_laysPairs_X8_draws rfl rfl rfl (by decide +kernel) ⟨Nat.le_of_ble_eq_true rfl, Nat.le_of_ble_eq_true rfl⟩) ⟨pcW_blind, va_recv hKc hPc (ci := 8) (q0 := 0) rfl rfl, pcW_pre hPc hKK hDc⟩ rfl rfl hl.1 rfl (lv_room (Nat.le_of_ble_eq_true rfl)) dX8_laysPairs_67 ⟨Nat.zero_le _, Nat.zero_le _⟩) hS (fun q _ h => hFc q h) hFc (fun r0 u t H1 locs ht hvm hw hB hz1 hk1 hS => ?_)
          obtain rfl := hw
          have hB := va_Pto ht hB
          obtain ⟨hP, hD⟩ := jn (ws' := [(qM, .inr (8, [.int mt, .int mw, .int mh, .int mg, .int ms, .ref qMT, .ref qMW, .ref qMK, .ref qMM, .int mv, .int md, .ref qMR, .ref qML, .ref qMP, .int q57.2, .ref qMY, .ref qMF, .int mo, .int mf])), (qMT, .inl (G.2.1, 16, .inl mT)), (qMW, .inl (G.2.1, 16, .inl mW)), (qMR, .inl (G.2.2.2.1, 16, .inl mR)), (qMP, .inl (G.2.1, 32, .inl s56))]) hP hD hk1 hB [0] rfl rfl rfl rfl
          generalize H1 = H at hP hS ⊢
          refine lv_istore_n (lv' := [(3, .int q57.1), (0, .ref qM), (1, .int q46.1), (2, .int s54)]) hx hb dX8_laysPairs_70 rfl hl (by decide) rfl (fun ls hl => ?_)
          refine lv_aload_n hx hb dX8_laysPairs_71 rfl (lv_at hl 1 rfl) ?_
          refine va_get (D := G.1) (ci := 8) (v := .ref qMP) (C := RX8) (T := TX8) (N := 19) hx hb hts hi8 hown hK hP 0 rfl rfl 13 (by decide) hw0 (fun _ h9 => h9) rfl dX8_laysPairs_72 ?_
          refine lv_iload_n hx hb dX8_laysPairs_75 rfl (lv_at hl 3 rfl) ?_
          obtain ⟨hg, hq⟩ := k_g hq
          refine va_iald hx hb hK hP 4 0 rfl rfl (ix_in hg) dX8_laysPairs_76 ?_
          refine lv_istore (lv' := [(4, .int (s56 s54.toNatClampNeg)), (3, .int q57.1), (0, .ref qM), (1, .int q46.1), (2, .int s54)]) hx hb dX8_laysPairs_77 hl (by decide) rfl (fun ls hl => ?_)
          refine lv_aload_n hx hb dX8_laysPairs_79 rfl (lv_at hl 2 rfl) ?_
          refine va_get (D := G.1) (ci := 8) (v := .ref qMP) (C := RX8) (T := TX8) (N := 19) hx hb hts hi8 hown hK hP 0 rfl rfl 13 (by decide) hw0 (fun _ h9 => h9) rfl dX8_laysPairs_80 ?_
          refine lv_iload_n hx hb dX8_laysPairs_83 rfl (lv_at hl 4 rfl) ?_
          refine lv_aload_n hx hb dX8_laysPairs_84 rfl (lv_at hl 2 rfl) ?_
          refine va_get (D := G.1) (ci := 8) (v := .ref qMP) (C := RX8) (T := TX8) (N := 19) hx hb hts hi8 hown hK hP 0 rfl rfl 13 (by decide) hw0 (fun _ h9 => h9) rfl dX8_laysPairs_85 ?_
          refine lv_iload_n hx hb dX8_laysPairs_88 rfl (lv_at hl 1 rfl) ?_
          obtain ⟨hg, hq⟩ := k_g hq
          refine va_iald hx hb hK hP 4 0 rfl rfl (ix_in hg) dX8_laysPairs_89 ?_
          obtain ⟨hg, hq⟩ := k_g hq
          refine va_iast hx hb hK hP hD hS 4 0 rfl rfl (ix_in hg) dX8_laysPairs_90 (fun H locs hP hD hS => ?_)
          have hP : va_P G.1 vwCl [(qM, .inr (8, [.int mt, .int mw, .int mh, .int mg, .int ms, .ref qMT, .ref qMW, .ref qMK, .ref qMM, .int mv, .int md, .ref qMR, .ref qML, .ref qMP, .int q57.2, .ref qMY, .ref qMF, .int mo, .int mf])), (qMT, .inl (G.2.1, 16, .inl mT)), (qMW, .inl (G.2.1, 16, .inl mW)), (qMR, .inl (G.2.2.2.1, 16, .inl mR)), (qMP, .inl (G.2.1, 32, .inl (upd s56 s54.toNatClampNeg (s56 q57.1.toNatClampNeg))))] H := hP
          have hD : va_D A [(qM, .inr (8, [.int mt, .int mw, .int mh, .int mg, .int ms, .ref qMT, .ref qMW, .ref qMK, .ref qMM, .int mv, .int md, .ref qMR, .ref qML, .ref qMP, .int q57.2, .ref qMY, .ref qMF, .int mo, .int mf])), (qMT, .inl (G.2.1, 16, .inl mT)), (qMW, .inl (G.2.1, 16, .inl mW)), (qMR, .inl (G.2.2.2.1, 16, .inl mR)), (qMP, .inl (G.2.1, 32, .inl (upd s56 s54.toNatClampNeg (s56 q57.1.toNatClampNeg))))] := hD
          refine lv_aload_n hx hb dX8_laysPairs_91 rfl (lv_at hl 2 rfl) ?_
          refine va_get (D := G.1) (ci := 8) (v := .ref qMP) (C := RX8) (T := TX8) (N := 19) hx hb hts hi8 hown hK hP 0 rfl rfl 13 (by decide) hw0 (fun _ h9 => h9) rfl dX8_laysPairs_92 ?_
          refine lv_iload_n hx hb dX8_laysPairs_95 rfl (lv_at hl 1 rfl) ?_
          refine lv_iload hx hb dX8_laysPairs_96 (lv_at hl 0 rfl) ?_
          obtain ⟨hg, hq⟩ := k_g hq
          refine va_iast hx hb hK hP hD hS 4 0 rfl rfl (ix_in hg) dX8_laysPairs_98 (fun H locs hP hD hS => ?_)
          have hP : va_P G.1 vwCl [(qM, .inr (8, [.int mt, .int mw, .int mh, .int mg, .int ms, .ref qMT, .ref qMW, .ref qMK, .ref qMM, .int mv, .int md, .ref qMR, .ref qML, .ref qMP, .int q57.2, .ref qMY, .ref qMF, .int mo, .int mf])), (qMT, .inl (G.2.1, 16, .inl mT)), (qMW, .inl (G.2.1, 16, .inl mW)), (qMR, .inl (G.2.2.2.1, 16, .inl mR)), (qMP, .inl (G.2.1, 32, .inl (upd (upd s56 s54.toNatClampNeg (s56 q57.1.toNatClampNeg)) q57.1.toNatClampNeg (s56 s54.toNatClampNeg))))] H := hP
          have hD : va_D A [(qM, .inr (8, [.int mt, .int mw, .int mh, .int mg, .int ms, .ref qMT, .ref qMW, .ref qMK, .ref qMM, .int mv, .int md, .ref qMR, .ref qML, .ref qMP, .int q57.2, .ref qMY, .ref qMF, .int mo, .int mf])), (qMT, .inl (G.2.1, 16, .inl mT)), (qMW, .inl (G.2.1, 16, .inl mW)), (qMR, .inl (G.2.2.2.1, 16, .inl mR)), (qMP, .inl (G.2.1, 32, .inl (upd (upd s56 s54.toNatClampNeg (s56 q57.1.toNatClampNeg)) q57.1.toNatClampNeg (s56 s54.toNatClampNeg))))] := hD
          refine lv_iinc (v := (s54 + (-1))) (lv' := [(2, .int (s54 + (-1))), (4, .int (s56 s54.toNatClampNeg)), (3, .int q57.1), (0, .ref qM), (1, .int q46.1)]) hx hb dX8_laysPairs_99 hl (k := 4) rfl rfl (by decide) rfl (fun ls hl => ?_)
          refine lv_goto (tgt := 59) hx hb dX8_laysPairs_102 (by decide) ?_
          exact ih59 (s54 + (-1)) q57.2 (upd (upd s56 s54.toNatClampNeg (s56 q57.1.toNatClampNeg)) q57.1.toNatClampNeg (s56 s54.toNatClampNeg)) t_59 ls _ _ (kl_back hq hx59) (lv_sub hl [3, 4, 0] rfl) hP hD hS kk59_105
    obtain ⟨q58, eq58, hq⟩ := ob hq
    refine L59 F (q46.1 - 1) mu q46.2 q58 ls _ _ (eq58) (lv_sub hl [1, 2, 0] rfl) hP hD hS (fun ls H locs hl hP hD hS => ?_)
    · refine lv_iconst (v := 0) hx hb dX8_laysPairs_105 (by decide) ?_
      refine lv_istore_n (lv' := [(2, .int 0), (0, .ref qM), (1, .int q46.1)]) hx hb dX8_laysPairs_106 rfl hl (by decide) rfl (fun ls hl => ?_)
      have L107 : ∀ (n : Nat) (s70 : Int32) (s71 : Nat → Int32) (s72 : Nat → Int32) (t_107 : (Nat → Int32) × (Nat → Int32)) (ls : Array Slot) (H : Heap) (locs : List Loc), kloop n (fun s_ => kX8_laysPairs_s107 F mw mh mg mW q46 q58 s_.1 s_.2.1 s_.2.2) (s70, s71, s72) = some t_107 → lv_has ls 6 [(0, .ref qM), (1, .int q46.1), (2, .int s70)] → va_P G.1 vwCl [(qM, .inr (8, [.int mt, .int mw, .int mh, .int mg, .int ms, .ref qMT, .ref qMW, .ref qMK, .ref qMM, .int mv, .int md, .ref qMR, .ref qML, .ref qMP, .int q58.1, .ref qMY, .ref qMF, .int mo, .int mf])), (qMT, .inl (G.2.1, 16, .inl s71)), (qMW, .inl (G.2.1, 16, .inl mW)), (qMR, .inl (G.2.2.2.1, 16, .inl s72)), (qMP, .inl (G.2.1, 32, .inl q58.2))] H → va_D A [(qM, .inr (8, [.int mt, .int mw, .int mh, .int mg, .int ms, .ref qMT, .ref qMW, .ref qMK, .ref qMM, .int mv, .int md, .ref qMR, .ref qML, .ref qMP, .int q58.1, .ref qMY, .ref qMF, .int mo, .int mf])), (qMT, .inl (G.2.1, 16, .inl s71)), (qMW, .inl (G.2.1, 16, .inl mW)), (qMR, .inl (G.2.2.2.1, 16, .inl s72)), (qMP, .inl (G.2.1, 32, .inl q58.2))] → va_S A s.heap H locs → (∀ (ls : Array Slot) (H : Heap) (locs : List Loc), lv_has ls 6 [] → va_P G.1 vwCl [(qM, .inr (8, [.int mt, .int mw, .int mh, .int mg, .int ms, .ref qMT, .ref qMW, .ref qMK, .ref qMM, .int mv, .int md, .ref qMR, .ref qML, .ref qMP, .int q58.1, .ref qMY, .ref qMF, .int mo, .int mf])), (qMT, .inl (G.2.1, 16, .inl t_107.1)), (qMW, .inl (G.2.1, 16, .inl mW)), (qMR, .inl (G.2.2.2.1, 16, .inl t_107.2)), (qMP, .inl (G.2.1, 32, .inl q58.2))] H → va_D A [(qM, .inr (8, [.int mt, .int mw, .int mh, .int mg, .int ms, .ref qMT, .ref qMW, .ref qMK, .ref qMM, .int mv, .int md, .ref qMR, .ref qML, .ref qMP, .int q58.1, .ref qMY, .ref qMF, .int mo, .int mf])), (qMT, .inl (G.2.1, 16, .inl t_107.1)), (qMW, .inl (G.2.1, 16, .inl mW)), (qMR, .inl (G.2.2.2.1, 16, .inl t_107.2)), (qMP, .inl (G.2.1, 32, .inl q58.2))] → va_S A s.heap H locs → W p l e (headSpec wsX8_laysPairs rmX8_laysPairs).room s m ([.ref qM] : List Value).toArray below meth c H locs 0 0 Q (F0 m 192 ls [])) → W p l e (headSpec wsX8_laysPairs rmX8_laysPairs).room s m ([.ref qM] : List Value).toArray below meth c H locs 0 0 Q (F0 m 107 ls []) := by
        intro n
        induction n with
        | zero => 
          intro s70 s71 s72 t_107 ls H locs hq hl hP hD hS kk107_192
          exact absurd hq kl_0
        | succ n ih107 =>
          intro s70 s71 s72 t_107 ls H locs hq hl hP hD hS kk107_192
          obtain ⟨y_107, hq, hx107⟩ := kl_s hq
          have hq : kX8_laysPairs_s107 F mw mh mg mW q46 q58 s70 s71 s72 = some y_107 := hq
          unfold kX8_laysPairs_s107 at hq
          refine lv_iload_n hx hb dX8_laysPairs_107 rfl (lv_at hl 2 rfl) ?_
          refine lv_iload_n hx hb dX8_laysPairs_108 rfl (lv_at hl 1 rfl) ?_
          refine lv_icmp_ge (tgt := 192) hx hb dX8_laysPairs_109 (by decide) (fun c_109 => ?_) (fun c_109 => ?_)
          · have hq := k_t c_109 hq
            have et := kl_exit hq hx107
            subst et
            exact kk107_192 ls _ _ (lv_sub hl [] rfl) hP hD hS
          · have hq := k_f c_109 hq
            refine lv_aload_n hx hb dX8_laysPairs_112 rfl (lv_at hl 0 rfl) ?_
            refine va_get (D := G.1) (ci := 8) (v := .ref qMP) (C := RX8) (T := TX8) (N := 19) hx hb hts hi8 hown hK hP 0 rfl rfl 13 (by decide) hw0 (fun _ h9 => h9) rfl dX8_laysPairs_113 ?_
            refine lv_iload_n hx hb dX8_laysPairs_116 rfl (lv_at hl 2 rfl) ?_
            obtain ⟨hg, hq⟩ := k_g hq
            refine va_iald hx hb hK hP 4 0 rfl rfl (ix_in hg) dX8_laysPairs_117 ?_
            refine lv_iconst (v := 4) hx hb dX8_laysPairs_118 (by decide) ?_
            refine lv_idiv hx hb dX8_laysPairs_119 (by decide) ?_
            refine lv_istore_n (lv' := [(3, .int ((q58.2 s70.toNatClampNeg) / 4)), (0, .ref qM), (1, .int q46.1), (2, .int s70)]) hx hb dX8_laysPairs_120 rfl hl (by decide) rfl (fun ls hl => ?_)
            refine lv_aload_n hx hb dX8_laysPairs_121 rfl (lv_at hl 1 rfl) ?_
            refine va_get (D := G.1) (ci := 8) (v := .ref qMP) (C := RX8) (T := TX8) (N := 19) hx hb hts hi8 hown hK hP 0 rfl rfl 13 (by decide) hw0 (fun _ h9 => h9) rfl dX8_laysPairs_122 ?_
            refine lv_iload_n hx hb dX8_laysPairs_125 rfl (lv_at hl 3 rfl) ?_
            obtain ⟨hg, hq⟩ := k_g hq
            refine va_iald hx hb hK hP 4 0 rfl rfl (ix_in hg) dX8_laysPairs_126 ?_
            refine lv_iconst (v := 4) hx hb dX8_laysPairs_127 (by decide) ?_
            refine lv_irem hx hb dX8_laysPairs_128 (by decide) ?_
            refine lv_istore (lv' := [(4, .int ((q58.2 s70.toNatClampNeg) - (q58.2 s70.toNatClampNeg) / 4 * 4)), (3, .int ((q58.2 s70.toNatClampNeg) / 4)), (0, .ref qM), (1, .int q46.1), (2, .int s70)]) hx hb dX8_laysPairs_129 hl (by decide) rfl (fun ls hl => ?_)
            refine lv_aload_n hx hb dX8_laysPairs_131 rfl (lv_at hl 2 rfl) ?_
            refine lv_iload_n hx hb dX8_laysPairs_132 rfl (lv_at hl 1 rfl) ?_
            refine lv_iload hx hb dX8_laysPairs_133 (lv_at hl 0 rfl) ?_
            obtain ⟨q73, eq73, hq⟩ := ob hq
            have hPc := hP.sub (ws' := [(qM, .inr (8, [.int mt, .int mw, .int mh, .int mg, .int ms, .ref qMT, .ref qMW, .ref qMK, .ref qMM, .int mv, .int md, .ref qMR, .ref qML, .ref qMP, .int q58.1, .ref qMY, .ref qMF, .int mo, .int mf]))]) [0] rfl
            have hKc := hK
            refine vp_callSi (va_Run.run (va_runV (As := [.int ((q58.2 s70.toNatClampNeg) / 4), .int ((q58.2 s70.toNatClampNeg) - (q58.2 s70.toNatClampNeg) / 4 * 4)]) (rest := []) ⟨hx, hb, hml, hown, hts⟩ (tX8_neighbourOf G l eq73) (cwV 2 hts gX8_laysPairs_X8_neighbourOf rfl rfl rfl (by decide +kernel) ⟨Nat.le_of_ble_eq_true rfl, Nat.le_of_ble_eq_true rfl⟩) ⟨pcP_blind, va_recv hKc hPc (ci := 8) (q0 := 0) rfl rfl, pcP_pre hPc hKK⟩ rfl rfl hl.1 rfl (lv_room (Nat.le_of_ble_eq_true rfl)) dX8_laysPairs_135 ⟨Nat.zero_le _, Nat.zero_le _⟩)) (fun r0 hr0 => ?_)
            obtain rfl := hr0
            refine lv_istore (lv' := [(5, .int q73), (4, .int ((q58.2 s70.toNatClampNeg) - (q58.2 s70.toNatClampNeg) / 4 * 4)), (3, .int ((q58.2 s70.toNatClampNeg) / 4)), (0, .ref qM), (1, .int q46.1), (2, .int s70)]) hx hb dX8_laysPairs_138 hl (by decide) rfl (fun ls hl => ?_)
            refine lv_aload_n hx hb dX8_laysPairs_140 rfl (lv_at hl 3 rfl) ?_
            refine lv_iload_n hx hb dX8_laysPairs_141 rfl (lv_at hl 2 rfl) ?_
            obtain ⟨q74, eq74, hq⟩ := ob hq
            have hPc := hP.sub (ws' := [(qM, .inr (8, [.int mt, .int mw, .int mh, .int mg, .int ms, .ref qMT, .ref qMW, .ref qMK, .ref qMM, .int mv, .int md, .ref qMR, .ref qML, .ref qMP, .int q58.1, .ref qMY, .ref qMF, .int mo, .int mf])), (qMT, .inl (G.2.1, 16, .inl s71)), (qMW, .inl (G.2.1, 16, .inl mW)), (qMR, .inl (G.2.2.2.1, 16, .inl s72))]) [0, 1, 2, 3] rfl
            have hKc := hK
            have hDc := hD.sub (ws' := [(qM, .inr (8, [.int mt, .int mw, .int mh, .int mg, .int ms, .ref qMT, .ref qMW, .ref qMK, .ref qMM, .int mv, .int md, .ref qMR, .ref qML, .ref qMP, .int q58.1, .ref qMY, .ref qMF, .int mo, .int mf])), (qMT, .inl (G.2.1, 16, .inl s71)), (qMW, .inl (G.2.1, 16, .inl mW)), (qMR, .inl (G.2.2.2.1, 16, .inl s72))]) [0, 1, 2, 3] (by decide) rfl
            have hFc := va_free (wc := [(qM, .inr (8, [.int mt, .int mw, .int mh, .int mg, .int ms, .ref qMT, .ref qMW, .ref qMK, .ref qMM, .int mv, .int md, .ref qMR, .ref qML, .ref qMP, .int q58.1, .ref qMY, .ref qMF, .int mo, .int mf])), (qMT, .inl (G.2.1, 16, .inl s71)), (qMW, .inl (G.2.1, 16, .inl mW)), (qMR, .inl (G.2.2.2.1, 16, .inl s72))]) hD hS hA [0, 1, 2, 3] rfl
            refine va_calli (va_runV (As := [.int ((q58.2 s70.toNatClampNeg) / 4)]) (rest := []) ⟨hx, hb, hml, hown, hts⟩ (tX8_reaches G l eq74) (cwV 1 hts gX8_laysPairs_X8_reaches rfl rfl rfl (by decide +kernel) ⟨Nat.le_of_ble_eq_true rfl, Nat.le_of_ble_eq_true rfl⟩) ⟨pcW_blind, va_recv hKc hPc (ci := 8) (q0 := 0) rfl rfl, pcW_pre hPc hKK hDc⟩ rfl rfl hl.1 rfl (lv_room (Nat.le_of_ble_eq_true rfl)) dX8_laysPairs_142 ⟨Nat.zero_le _, Nat.zero_le _⟩) hS (fun q _ h => hFc q h) hFc (fun r0 u t H1 locs ht hvm hw hB hz1 hk1 hS => ?_)
            obtain rfl := hw
            have hB := va_Pto ht hB
            obtain ⟨hP, hD⟩ := jn (ws' := [(qM, .inr (8, [.int mt, .int mw, .int mh, .int mg, .int ms, .ref qMT, .ref qMW, .ref qMK, .ref qMM, .int mv, .int md, .ref qMR, .ref qML, .ref qMP, .int q58.1, .ref qMY, .ref qMF, .int mo, .int mf])), (qMT, .inl (G.2.1, 16, .inl s71)), (qMW, .inl (G.2.1, 16, .inl mW)), (qMR, .inl (G.2.2.2.1, 16, .inl q74.2)), (qMP, .inl (G.2.1, 32, .inl q58.2))]) hP hD hk1 hB [0, 1, 2, 3] rfl rfl rfl rfl
            generalize H1 = H at hP hS ⊢
            refine lv_pop hx hb dX8_laysPairs_145 rfl ?_
            refine lv_aload_n hx hb dX8_laysPairs_146 rfl (lv_at hl 3 rfl) ?_
            refine va_get (D := G.1) (ci := 8) (v := .ref qMR) (C := RX8) (T := TX8) (N := 19) hx hb hts hi8 hown hK hP 0 rfl rfl 11 (by decide) hw1 (fun _ h9 => h9) rfl dX8_laysPairs_147 ?_
            refine lv_iload hx hb dX8_laysPairs_150 (lv_at hl 0 rfl) ?_
            obtain ⟨hg, hq⟩ := k_g hq
            refine va_zald hx hb hK hP 3 2 rfl rfl (ix_in hg) dX8_laysPairs_152 ?_
            refine lv_if_ne (tgt := 186) hx hb dX8_laysPairs_153 (by decide) (fun c_153 => ?_) (fun c_153 => ?_)
            · have hq := k_f c_153 hq
              refine lv_iinc (v := (s70 + 1)) (lv' := [(2, .int (s70 + 1)), (5, .int q73), (4, .int ((q58.2 s70.toNatClampNeg) - (q58.2 s70.toNatClampNeg) / 4 * 4)), (3, .int ((q58.2 s70.toNatClampNeg) / 4)), (0, .ref qM), (1, .int q46.1)]) hx hb dX8_laysPairs_186 hl (k := 5) rfl rfl (by decide) rfl (fun ls hl => ?_)
              refine lv_goto (tgt := 107) hx hb dX8_laysPairs_189 (by decide) ?_
              exact ih107 (s70 + 1) s71 q74.2 t_107 ls _ _ (kl_back hq hx107) (lv_sub hl [4, 5, 0] rfl) hP hD hS kk107_192
            · have hq := k_t c_153 hq
              refine lv_aload_n hx hb dX8_laysPairs_156 rfl (lv_at hl 3 rfl) ?_
              refine va_get (D := G.1) (ci := 8) (v := .ref qMT) (C := RX8) (T := TX8) (N := 19) hx hb hts hi8 hown hK hP 0 rfl rfl 5 (by decide) hw2 (fun _ h9 => h9) rfl dX8_laysPairs_157 ?_
              refine lv_iload_n hx hb dX8_laysPairs_160 rfl (lv_at hl 2 rfl) ?_
              refine lv_dup2_11 hx hb dX8_laysPairs_161 rfl rfl ?_
              obtain ⟨hg, hq⟩ := k_g hq
              refine va_iald hx hb hK hP 1 0 rfl rfl (ix_in hg) dX8_laysPairs_162 ?_
              refine lv_iconst (v := 1) hx hb dX8_laysPairs_163 (by decide) ?_
              refine lv_iload hx hb dX8_laysPairs_164 (lv_at hl 1 rfl) ?_
              refine lv_ishl hx hb dX8_laysPairs_166 ?_
              refine lv_ior hx hb dX8_laysPairs_167 ?_
              obtain ⟨hg, hq⟩ := k_g hq
              refine va_iast hx hb hK hP hD hS 1 0 rfl rfl (ix_in hg) dX8_laysPairs_168 (fun H locs hP hD hS => ?_)
              have hP : va_P G.1 vwCl [(qM, .inr (8, [.int mt, .int mw, .int mh, .int mg, .int ms, .ref qMT, .ref qMW, .ref qMK, .ref qMM, .int mv, .int md, .ref qMR, .ref qML, .ref qMP, .int q58.1, .ref qMY, .ref qMF, .int mo, .int mf])), (qMT, .inl (G.2.1, 16, .inl (upd s71 ((q58.2 s70.toNatClampNeg) / 4).toNatClampNeg ((s71 ((q58.2 s70.toNatClampNeg) / 4).toNatClampNeg) ||| ((1 : Int32) <<< (((q58.2 s70.toNatClampNeg) - (q58.2 s70.toNatClampNeg) / 4 * 4) &&& 31)))))), (qMW, .inl (G.2.1, 16, .inl mW)), (qMR, .inl (G.2.2.2.1, 16, .inl q74.2)), (qMP, .inl (G.2.1, 32, .inl q58.2))] H := hP
              have hD : va_D A [(qM, .inr (8, [.int mt, .int mw, .int mh, .int mg, .int ms, .ref qMT, .ref qMW, .ref qMK, .ref qMM, .int mv, .int md, .ref qMR, .ref qML, .ref qMP, .int q58.1, .ref qMY, .ref qMF, .int mo, .int mf])), (qMT, .inl (G.2.1, 16, .inl (upd s71 ((q58.2 s70.toNatClampNeg) / 4).toNatClampNeg ((s71 ((q58.2 s70.toNatClampNeg) / 4).toNatClampNeg) ||| ((1 : Int32) <<< (((q58.2 s70.toNatClampNeg) - (q58.2 s70.toNatClampNeg) / 4 * 4) &&& 31)))))), (qMW, .inl (G.2.1, 16, .inl mW)), (qMR, .inl (G.2.2.2.1, 16, .inl q74.2)), (qMP, .inl (G.2.1, 32, .inl q58.2))] := hD
              refine lv_aload_n hx hb dX8_laysPairs_169 rfl (lv_at hl 3 rfl) ?_
              refine va_get (D := G.1) (ci := 8) (v := .ref qMT) (C := RX8) (T := TX8) (N := 19) hx hb hts hi8 hown hK hP 0 rfl rfl 5 (by decide) hw2 (fun _ h9 => h9) rfl dX8_laysPairs_170 ?_
              refine lv_iload hx hb dX8_laysPairs_173 (lv_at hl 0 rfl) ?_
              refine lv_dup2_11 hx hb dX8_laysPairs_175 rfl rfl ?_
              obtain ⟨hg, hq⟩ := k_g hq
              refine va_iald hx hb hK hP 1 0 rfl rfl (ix_in hg) dX8_laysPairs_176 ?_
              refine lv_iconst (v := 1) hx hb dX8_laysPairs_177 (by decide) ?_
              refine lv_iload hx hb dX8_laysPairs_178 (lv_at hl 1 rfl) ?_
              obtain ⟨q77, eq77, hq⟩ := ob hq
              have hPc := hP.sub (ws' := []) [] rfl
              refine vp_callSi (va_Run.run (va_runS (As := [.int ((q58.2 s70.toNatClampNeg) - (q58.2 s70.toNatClampNeg) / 4 * 4)]) (rest := [.int 1, .int ((upd s71 ((q58.2 s70.toNatClampNeg) / 4).toNatClampNeg ((s71 ((q58.2 s70.toNatClampNeg) / 4).toNatClampNeg) ||| ((1 : Int32) <<< (((q58.2 s70.toNatClampNeg) - (q58.2 s70.toNatClampNeg) / 4 * 4) &&& 31)))) q73.toNatClampNeg), .int q73, .ref qMT]) ⟨hx, hb, hml, hown, hts⟩ (tX8_opposite G l eq77) (va_cwS 1 hts gX8_laysPairs_X8_opposite rfl rfl rfl (by decide +kernel) ⟨Nat.le_of_ble_eq_true rfl, Nat.le_of_ble_eq_true rfl⟩) ⟨pcP_blind, pcP_pre hPc hKK⟩ rfl rfl hl.1 rfl (lv_room (Nat.le_of_ble_eq_true rfl)) dX8_laysPairs_180 ⟨Nat.zero_le _, Nat.zero_le _⟩)) (fun r0 hr0 => ?_)
              obtain rfl := hr0
              refine lv_ishl hx hb dX8_laysPairs_183 ?_
              refine lv_ior hx hb dX8_laysPairs_184 ?_
              obtain ⟨hg, hq⟩ := k_g hq
              refine va_iast hx hb hK hP hD hS 1 0 rfl rfl (ix_in hg) dX8_laysPairs_185 (fun H locs hP hD hS => ?_)
              have hP : va_P G.1 vwCl [(qM, .inr (8, [.int mt, .int mw, .int mh, .int mg, .int ms, .ref qMT, .ref qMW, .ref qMK, .ref qMM, .int mv, .int md, .ref qMR, .ref qML, .ref qMP, .int q58.1, .ref qMY, .ref qMF, .int mo, .int mf])), (qMT, .inl (G.2.1, 16, .inl (upd (upd s71 ((q58.2 s70.toNatClampNeg) / 4).toNatClampNeg ((s71 ((q58.2 s70.toNatClampNeg) / 4).toNatClampNeg) ||| ((1 : Int32) <<< (((q58.2 s70.toNatClampNeg) - (q58.2 s70.toNatClampNeg) / 4 * 4) &&& 31)))) q73.toNatClampNeg (((upd s71 ((q58.2 s70.toNatClampNeg) / 4).toNatClampNeg ((s71 ((q58.2 s70.toNatClampNeg) / 4).toNatClampNeg) ||| ((1 : Int32) <<< (((q58.2 s70.toNatClampNeg) - (q58.2 s70.toNatClampNeg) / 4 * 4) &&& 31)))) q73.toNatClampNeg) ||| ((1 : Int32) <<< (q77 &&& 31)))))), (qMW, .inl (G.2.1, 16, .inl mW)), (qMR, .inl (G.2.2.2.1, 16, .inl q74.2)), (qMP, .inl (G.2.1, 32, .inl q58.2))] H := hP
              have hD : va_D A [(qM, .inr (8, [.int mt, .int mw, .int mh, .int mg, .int ms, .ref qMT, .ref qMW, .ref qMK, .ref qMM, .int mv, .int md, .ref qMR, .ref qML, .ref qMP, .int q58.1, .ref qMY, .ref qMF, .int mo, .int mf])), (qMT, .inl (G.2.1, 16, .inl (upd (upd s71 ((q58.2 s70.toNatClampNeg) / 4).toNatClampNeg ((s71 ((q58.2 s70.toNatClampNeg) / 4).toNatClampNeg) ||| ((1 : Int32) <<< (((q58.2 s70.toNatClampNeg) - (q58.2 s70.toNatClampNeg) / 4 * 4) &&& 31)))) q73.toNatClampNeg (((upd s71 ((q58.2 s70.toNatClampNeg) / 4).toNatClampNeg ((s71 ((q58.2 s70.toNatClampNeg) / 4).toNatClampNeg) ||| ((1 : Int32) <<< (((q58.2 s70.toNatClampNeg) - (q58.2 s70.toNatClampNeg) / 4 * 4) &&& 31)))) q73.toNatClampNeg) ||| ((1 : Int32) <<< (q77 &&& 31)))))), (qMW, .inl (G.2.1, 16, .inl mW)), (qMR, .inl (G.2.2.2.1, 16, .inl q74.2)), (qMP, .inl (G.2.1, 32, .inl q58.2))] := hD
              refine lv_iinc (v := (s70 + 1)) (lv' := [(2, .int (s70 + 1)), (5, .int q73), (4, .int ((q58.2 s70.toNatClampNeg) - (q58.2 s70.toNatClampNeg) / 4 * 4)), (3, .int ((q58.2 s70.toNatClampNeg) / 4)), (0, .ref qM), (1, .int q46.1)]) hx hb dX8_laysPairs_186 hl (k := 5) rfl rfl (by decide) rfl (fun ls hl => ?_)
              refine lv_goto (tgt := 107) hx hb dX8_laysPairs_189 (by decide) ?_
              exact ih107 (s70 + 1) (upd (upd s71 ((q58.2 s70.toNatClampNeg) / 4).toNatClampNeg ((s71 ((q58.2 s70.toNatClampNeg) / 4).toNatClampNeg) ||| ((1 : Int32) <<< (((q58.2 s70.toNatClampNeg) - (q58.2 s70.toNatClampNeg) / 4 * 4) &&& 31)))) q73.toNatClampNeg (((upd s71 ((q58.2 s70.toNatClampNeg) / 4).toNatClampNeg ((s71 ((q58.2 s70.toNatClampNeg) / 4).toNatClampNeg) ||| ((1 : Int32) <<< (((q58.2 s70.toNatClampNeg) - (q58.2 s70.toNatClampNeg) / 4 * 4) &&& 31)))) q73.toNatClampNeg) ||| ((1 : Int32) <<< (q77 &&& 31)))) q74.2 t_107 ls _ _ (kl_back hq hx107) (lv_sub hl [4, 5, 0] rfl) hP hD hS kk107_192
      obtain ⟨q78, eq78, hq⟩ := ob hq
      refine L107 F 0 mT mR q78 ls _ _ (eq78) (lv_sub hl [1, 2, 0] rfl) hP hD hS (fun ls H locs hl hP hD hS => ?_)
      · obtain rfl := Option.some.inj hq
        rw [hQ]
        exact W.vret hx hb hr (fun t ht hW => ⟨⟨(), rfl, trivial, va_Pat ht hP⟩, hS.F ht⟩) hS.2.2 dX8_laysPairs_192

abbrev rmX8_make : Room := { frames := 4, cells := 0, slots := 0, locals := 98 }
set_option maxHeartbeats 40000000 in
set_option maxRecDepth 100000 in
theorem tX8_make (G : GG) (l : Launch) {qM qMT qMW qMK qMM qMR qML qMP qMY qMF : Nat} {mt : Int32} {mw : Int32} {mh : Int32} {mg : Int32} {ms : Int32} {mv : Int32} {md : Int32} {mu : Int32} {mo : Int32} {mf : Int32} {mT : Nat → Int32} {mW : Nat → Int32} {mK : Nat → Int32} {mR : Nat → Int32} {mP : Nat → Int32} {x1 : Int32} {x2 : Int32} {x3 : Int32} {x4 : Int32} {sz : Nat} {F : Nat} {r : Int32 × Int32 × Int32 × Int32 × Int32 × Int32 × Int32 × Int32 × Int32 × (Nat → Int32) × (Nat → Int32) × (Nat → Int32) × (Nat → Int32) × (Nat → Int32)} (hq : kX8_make F mt mw mh mg ms mv md mu mT mW mK mR mP x1 x2 x3 x4 = some r) : Met l yX8_make wsX8_make rmX8_make (pcW G [(qM, .inr (8, [.int mt, .int mw, .int mh, .int mg, .int ms, .ref qMT, .ref qMW, .ref qMK, .ref qMM, .int mv, .int md, .ref qMR, .ref qML, .ref qMP, .int mu, .ref qMY, .ref qMF, .int mo, .int mf])), (qMT, .inl (G.2.1, 16, .inl mT)), (qMW, .inl (G.2.1, 16, .inl mW)), (qMK, .inl (G.2.2.2.1, 16, .inl mK)), (qMR, .inl (G.2.2.2.1, 16, .inl mR)), (qMP, .inl (G.2.1, 32, .inl mP))] sz [.ref qM, .int x1, .int x2, .int x3, .int x4]) (qcI G r.1 [(qM, .inr (8, [.int r.2.1, .int r.2.2.1, .int r.2.2.2.1, .int r.2.2.2.2.1, .int r.2.2.2.2.2.1, .ref qMT, .ref qMW, .ref qMK, .ref qMM, .int r.2.2.2.2.2.2.1, .int r.2.2.2.2.2.2.2.1, .ref qMR, .ref qML, .ref qMP, .int r.2.2.2.2.2.2.2.2.1, .ref qMY, .ref qMF, .int mo, .int mf])), (qMT, .inl (G.2.1, 16, .inl r.2.2.2.2.2.2.2.2.2.1)), (qMW, .inl (G.2.1, 16, .inl r.2.2.2.2.2.2.2.2.2.2.1)), (qMK, .inl (G.2.2.2.1, 16, .inl r.2.2.2.2.2.2.2.2.2.2.2.1)), (qMR, .inl (G.2.2.2.1, 16, .inl r.2.2.2.2.2.2.2.2.2.2.2.2.1)), (qMP, .inl (G.2.1, 32, .inl r.2.2.2.2.2.2.2.2.2.2.2.2.2))] (va_A [(qM, .inr (8, [.int mt, .int mw, .int mh, .int mg, .int ms, .ref qMT, .ref qMW, .ref qMK, .ref qMM, .int mv, .int md, .ref qMR, .ref qML, .ref qMP, .int mu, .ref qMY, .ref qMF, .int mo, .int mf])), (qMT, .inl (G.2.1, 16, .inl mT)), (qMW, .inl (G.2.1, 16, .inl mW)), (qMK, .inl (G.2.2.2.1, 16, .inl mK)), (qMR, .inl (G.2.2.2.1, 16, .inl mR)), (qMP, .inl (G.2.1, 32, .inl mP))] sz)) 0 0 (va_A [(qM, .inr (8, [.int mt, .int mw, .int mh, .int mg, .int ms, .ref qMT, .ref qMW, .ref qMK, .ref qMM, .int mv, .int md, .ref qMR, .ref qML, .ref qMP, .int mu, .ref qMY, .ref qMF, .int mo, .int mf])), (qMT, .inl (G.2.1, 16, .inl mT)), (qMW, .inl (G.2.1, 16, .inl mW)), (qMK, .inl (G.2.2.2.1, 16, .inl mK)), (qMR, .inl (G.2.2.2.1, 16, .inl mR)), (qMP, .inl (G.2.1, 32, .inl mP))] sz) := by
  refine Met.ofW (cc := cX8_make) (maxL := 7) (ret := (some .int)) (by decide) rfl ?_
  intro p e s m args below meth c s₁ B hml hv
  obtain ⟨rfl, hsz, hP, hKK, hD0⟩ := hv
  have hK := hKK.1
  have hx := B.exec
  have hb := B.bytes
  have hr := B.returns
  have hts := atoms_spec (ws := wsX8_make) B.pre
  have hown : s.vm.findClass RX8 = some m.cls := findClass_of_methodNamed B.named
  have hlocks := B.notSynchronized
  subst hsz
  have hD := hD0.self (sz := s.heap.size)
  generalize hAe : va_A [(qM, .inr (8, [.int mt, .int mw, .int mh, .int mg, .int ms, .ref qMT, .ref qMW, .ref qMK, .ref qMM, .int mv, .int md, .ref qMR, .ref qML, .ref qMP, .int mu, .ref qMY, .ref qMF, .int mo, .int mf])), (qMT, .inl (G.2.1, 16, .inl mT)), (qMW, .inl (G.2.1, 16, .inl mW)), (qMK, .inl (G.2.2.2.1, 16, .inl mK)), (qMR, .inl (G.2.2.2.1, 16, .inl mR)), (qMP, .inl (G.2.1, 32, .inl mP))] s.heap.size = A at hD ⊢
  have hA : ∀ q : Nat, s.heap.size ≤ q → A q := fun q h => by rw [← hAe]; exact Or.inr h
  have hS : va_S A s.heap s.heap [] := va_S.rf
  have hl := lv_entry ([.ref qM, .int x1, .int x2, .int x3, .int x4] : List Value) (n := 7) (Nat.le_of_ble_eq_true rfl)
  rw [lg_entry_eq]
  generalize (lg_sl ([.ref qM, .int x1, .int x2, .int x3, .int x4] : List Value) ++ List.replicate (7 - (lg_sl ([.ref qM, .int x1, .int x2, .int x3, .int x4] : List Value)).length) Slot.unset).toArray = ls at hl ⊢
  have hl : lv_has ls 7 [(0, .ref qM), (1, .int x1), (2, .int x2), (3, .int x3), (4, .int x4)] := hl
  have hi8 : ∀ w ∈ u_ws RX8 TX8 19, w ∈ wsX8_make := by decide +kernel
  have hw0 : (Cond.constant RX8 80 (65536)).before #[Value.ref qM, Value.int x1, Value.int x2, Value.int x3, Value.int x4] s = true := hts _ (by decide +kernel)
  have hw1 : (Cond.fieldLink RX8 77 "NetPlumberModel" "number" "I").before #[Value.ref qM, Value.int x1, Value.int x2, Value.int x3, Value.int x4] s = true := hts _ (by decide +kernel)
  have hw2 : (Cond.fieldLink RX8 16 "NetPlumberModel" "tiles" "[I").before #[Value.ref qM, Value.int x1, Value.int x2, Value.int x3, Value.int x4] s = true := hts _ (by decide +kernel)
  refine wq (fun Q hQ => ?_)
  unfold kX8_make at hq
  refine lv_aload_n hx hb dX8_make_0 rfl (lv_at hl 0 rfl) ?_
  refine lv_iload_n hx hb dX8_make_1 rfl (lv_at hl 1 rfl) ?_
  refine lv_iload_n hx hb dX8_make_2 rfl (lv_at hl 2 rfl) ?_
  refine lv_iload_n hx hb dX8_make_3 rfl (lv_at hl 3 rfl) ?_
  obtain ⟨q1, eq1, hq⟩ := ob hq
  have hPc := hP.sub (ws' := []) [] rfl
  refine vp_callSi (va_Run.run (va_runS (As := [.int x1, .int x2, .int x3]) (rest := [.ref qM]) ⟨hx, hb, hml, hown, hts⟩ (tX8_isBoard G l eq1) (va_cwS 3 hts gX8_make_X8_isBoard rfl rfl rfl (by decide +kernel) ⟨Nat.le_of_ble_eq_true rfl, Nat.le_of_ble_eq_true rfl⟩) ⟨pcP_blind, pcP_pre hPc hKK⟩ rfl rfl hl.1 rfl (lv_room (Nat.le_of_ble_eq_true rfl)) dX8_make_4 ⟨Nat.zero_le _, Nat.zero_le _⟩)) (fun r0 hr0 => ?_)
  obtain rfl := hr0
  have J27 : ∀ (v2 : Int32) (ls : Array Slot) (H : Heap) (locs : List Loc), kX8_make_j27 F mt mw mh mg ms mv md mu mT mW mK mR mP x1 x2 x3 x4 v2 = some r → lv_has ls 7 [(0, .ref qM), (1, .int x1), (2, .int x2), (3, .int x3), (4, .int x4)] → va_P G.1 vwCl [(qM, .inr (8, [.int mt, .int mw, .int mh, .int mg, .int ms, .ref qMT, .ref qMW, .ref qMK, .ref qMM, .int mv, .int md, .ref qMR, .ref qML, .ref qMP, .int mu, .ref qMY, .ref qMF, .int mo, .int mf])), (qMT, .inl (G.2.1, 16, .inl mT)), (qMW, .inl (G.2.1, 16, .inl mW)), (qMK, .inl (G.2.2.2.1, 16, .inl mK)), (qMR, .inl (G.2.2.2.1, 16, .inl mR)), (qMP, .inl (G.2.1, 32, .inl mP))] H → va_D A [(qM, .inr (8, [.int mt, .int mw, .int mh, .int mg, .int ms, .ref qMT, .ref qMW, .ref qMK, .ref qMM, .int mv, .int md, .ref qMR, .ref qML, .ref qMP, .int mu, .ref qMY, .ref qMF, .int mo, .int mf])), (qMT, .inl (G.2.1, 16, .inl mT)), (qMW, .inl (G.2.1, 16, .inl mW)), (qMK, .inl (G.2.2.2.1, 16, .inl mK)), (qMR, .inl (G.2.2.2.1, 16, .inl mR)), (qMP, .inl (G.2.1, 32, .inl mP))] → va_S A s.heap H locs → W p l e (headSpec wsX8_make rmX8_make).room s m ([.ref qM, .int x1, .int x2, .int x3, .int x4] : List Value).toArray below meth c H locs 0 0 Q (F0 m 27 ls [.int v2, .ref qM]) := by
    intro v2 ls H locs hq hl hP hD hS
    unfold kX8_make_j27 at hq
    obtain ⟨q3, eq3, hq⟩ := ob hq
    have hPc := hP.sub (ws' := [(qM, .inr (8, [.int mt, .int mw, .int mh, .int mg, .int ms, .ref qMT, .ref qMW, .ref qMK, .ref qMM, .int mv, .int md, .ref qMR, .ref qML, .ref qMP, .int mu, .ref qMY, .ref qMF, .int mo, .int mf]))]) [0] rfl
    have hKc := hK
    have hDc := hD.sub (ws' := [(qM, .inr (8, [.int mt, .int mw, .int mh, .int mg, .int ms, .ref qMT, .ref qMW, .ref qMK, .ref qMM, .int mv, .int md, .ref qMR, .ref qML, .ref qMP, .int mu, .ref qMY, .ref qMF, .int mo, .int mf]))]) [0] (by decide) rfl
    have hFc := va_free (wc := [(qM, .inr (8, [.int mt, .int mw, .int mh, .int mg, .int ms, .ref qMT, .ref qMW, .ref qMK, .ref qMM, .int mv, .int md, .ref qMR, .ref qML, .ref qMP, .int mu, .ref qMY, .ref qMF, .int mo, .int mf]))]) hD hS hA [0] rfl
    refine va_calli (va_runV (As := [.int v2]) (rest := []) ⟨hx, hb, hml, hown, hts⟩ (tX8_holds G l eq3) (cwV 1 hts gX8_make_X8_holds rfl rfl rfl (by decide +kernel) ⟨Nat.le_of_ble_eq_true rfl, Nat.le_of_ble_eq_true rfl⟩) ⟨pcW_blind, va_recv hKc hPc (ci := 8) (q0 := 0) rfl rfl, pcW_pre hPc hKK hDc⟩ rfl rfl hl.1 rfl (lv_room (Nat.le_of_ble_eq_true rfl)) dX8_make_27 ⟨Nat.zero_le _, Nat.zero_le _⟩) hS (fun q _ h => hFc q h) hFc (fun r0 u t H1 locs ht hvm hw hB hz1 hk1 hS => ?_)
    obtain rfl := hw
    have hB := va_Pto ht hB
    obtain ⟨hP, hD⟩ := jn (ws' := [(qM, .inr (8, [.int q3.2, .int mw, .int mh, .int mg, .int ms, .ref qMT, .ref qMW, .ref qMK, .ref qMM, .int mv, .int md, .ref qMR, .ref qML, .ref qMP, .int mu, .ref qMY, .ref qMF, .int mo, .int mf])), (qMT, .inl (G.2.1, 16, .inl mT)), (qMW, .inl (G.2.1, 16, .inl mW)), (qMK, .inl (G.2.2.2.1, 16, .inl mK)), (qMR, .inl (G.2.2.2.1, 16, .inl mR)), (qMP, .inl (G.2.1, 32, .inl mP))]) hP hD hk1 hB [0] rfl rfl rfl rfl
    generalize H1 = H at hP hS ⊢
    refine lv_if_ne (tgt := 35) hx hb dX8_make_30 (by decide) (fun c_30 => ?_) (fun c_30 => ?_)
    · have hq := k_f c_30 hq
      refine lv_aload_n hx hb dX8_make_35 rfl (lv_at hl 0 rfl) ?_
      refine lv_iload_n hx hb dX8_make_36 rfl (lv_at hl 1 rfl) ?_
      refine lv_iload_n hx hb dX8_make_37 rfl (lv_at hl 2 rfl) ?_
      refine lv_iload_n hx hb dX8_make_38 rfl (lv_at hl 3 rfl) ?_
      obtain ⟨q4, eq4, hq⟩ := ob hq
      have hPc := hP.sub (ws' := [(qM, .inr (8, [.int q3.2, .int mw, .int mh, .int mg, .int ms, .ref qMT, .ref qMW, .ref qMK, .ref qMM, .int mv, .int md, .ref qMR, .ref qML, .ref qMP, .int mu, .ref qMY, .ref qMF, .int mo, .int mf])), (qMT, .inl (G.2.1, 16, .inl mT)), (qMW, .inl (G.2.1, 16, .inl mW)), (qMK, .inl (G.2.2.2.1, 16, .inl mK))]) [0, 1, 2, 3] rfl
      have hKc := hK
      have hDc := hD.sub (ws' := [(qM, .inr (8, [.int q3.2, .int mw, .int mh, .int mg, .int ms, .ref qMT, .ref qMW, .ref qMK, .ref qMM, .int mv, .int md, .ref qMR, .ref qML, .ref qMP, .int mu, .ref qMY, .ref qMF, .int mo, .int mf])), (qMT, .inl (G.2.1, 16, .inl mT)), (qMW, .inl (G.2.1, 16, .inl mW)), (qMK, .inl (G.2.2.2.1, 16, .inl mK))]) [0, 1, 2, 3] (by decide) rfl
      have hFc := va_free (wc := [(qM, .inr (8, [.int q3.2, .int mw, .int mh, .int mg, .int ms, .ref qMT, .ref qMW, .ref qMK, .ref qMM, .int mv, .int md, .ref qMR, .ref qML, .ref qMP, .int mu, .ref qMY, .ref qMF, .int mo, .int mf])), (qMT, .inl (G.2.1, 16, .inl mT)), (qMW, .inl (G.2.1, 16, .inl mW)), (qMK, .inl (G.2.2.2.1, 16, .inl mK))]) hD hS hA [0, 1, 2, 3] rfl
      refine va_callv (va_runV (As := [.int x1, .int x2, .int x3]) (rest := []) ⟨hx, hb, hml, hown, hts⟩ (tX8_begins G l eq4) (cwV 3 hts gX8_make_X8_begins rfl rfl rfl (by decide +kernel) ⟨Nat.le_of_ble_eq_true rfl, Nat.le_of_ble_eq_true rfl⟩) ⟨pcW_blind, va_recv hKc hPc (ci := 8) (q0 := 0) rfl rfl, pcW_pre hPc hKK hDc⟩ rfl rfl hl.1 rfl (lv_room (Nat.le_of_ble_eq_true rfl)) dX8_make_39 ⟨Nat.zero_le _, Nat.zero_le _⟩) hS (fun q _ h => hFc q h) hFc (fun u t H1 locs ht hvm hw hB hz1 hk1 hS => ?_)
      have hB := va_Pto ht hB
      obtain ⟨hP, hD⟩ := jn (ws' := [(qM, .inr (8, [.int q3.2, .int q4.1, .int q4.2.1, .int q4.2.2.1, .int q4.2.2.2.1, .ref qMT, .ref qMW, .ref qMK, .ref qMM, .int q4.2.2.2.2.1, .int q4.2.2.2.2.2.1, .ref qMR, .ref qML, .ref qMP, .int mu, .ref qMY, .ref qMF, .int mo, .int mf])), (qMT, .inl (G.2.1, 16, .inl q4.2.2.2.2.2.2.1)), (qMW, .inl (G.2.1, 16, .inl q4.2.2.2.2.2.2.2.1)), (qMK, .inl (G.2.2.2.1, 16, .inl q4.2.2.2.2.2.2.2.2)), (qMR, .inl (G.2.2.2.1, 16, .inl mR)), (qMP, .inl (G.2.1, 32, .inl mP))]) hP hD hk1 hB [0, 1, 2, 3] rfl rfl rfl rfl
      generalize H1 = H at hP hS ⊢
      refine lv_aload_n hx hb dX8_make_42 rfl (lv_at hl 0 rfl) ?_
      refine lv_iload hx hb dX8_make_43 (lv_at hl 4 rfl) ?_
      refine va_put (D := G.1) (ci := 8) (v := .int x4) (ty := .int) (C := RX8) (T := TX8) (N := 19) hx hb hts hi8 tyX8 tyX8_ok nmX8 hown hK hP hD hS 0 rfl rfl 14 (by decide) hw1 (fun _ h9 => h9) rfl (by decide +kernel) rfl rfl (Nat.le_of_ble_eq_true rfl) dX8_make_45 (fun H locs hP hD hS => ?_)
      have hP : va_P G.1 vwCl [(qM, .inr (8, [.int q3.2, .int q4.1, .int q4.2.1, .int q4.2.2.1, .int q4.2.2.2.1, .ref qMT, .ref qMW, .ref qMK, .ref qMM, .int q4.2.2.2.2.1, .int q4.2.2.2.2.2.1, .ref qMR, .ref qML, .ref qMP, .int x4, .ref qMY, .ref qMF, .int mo, .int mf])), (qMT, .inl (G.2.1, 16, .inl q4.2.2.2.2.2.2.1)), (qMW, .inl (G.2.1, 16, .inl q4.2.2.2.2.2.2.2.1)), (qMK, .inl (G.2.2.2.1, 16, .inl q4.2.2.2.2.2.2.2.2)), (qMR, .inl (G.2.2.2.1, 16, .inl mR)), (qMP, .inl (G.2.1, 32, .inl mP))] H := hP
      have hD : va_D A [(qM, .inr (8, [.int q3.2, .int q4.1, .int q4.2.1, .int q4.2.2.1, .int q4.2.2.2.1, .ref qMT, .ref qMW, .ref qMK, .ref qMM, .int q4.2.2.2.2.1, .int q4.2.2.2.2.2.1, .ref qMR, .ref qML, .ref qMP, .int x4, .ref qMY, .ref qMF, .int mo, .int mf])), (qMT, .inl (G.2.1, 16, .inl q4.2.2.2.2.2.2.1)), (qMW, .inl (G.2.1, 16, .inl q4.2.2.2.2.2.2.2.1)), (qMK, .inl (G.2.2.2.1, 16, .inl q4.2.2.2.2.2.2.2.2)), (qMR, .inl (G.2.2.2.1, 16, .inl mR)), (qMP, .inl (G.2.1, 32, .inl mP))] := hD
      refine lv_aload_n hx hb dX8_make_48 rfl (lv_at hl 0 rfl) ?_
      obtain ⟨q5, eq5, hq⟩ := ob hq
      have hPc := hP.sub (ws' := [(qM, .inr (8, [.int q3.2, .int q4.1, .int q4.2.1, .int q4.2.2.1, .int q4.2.2.2.1, .ref qMT, .ref qMW, .ref qMK, .ref qMM, .int q4.2.2.2.2.1, .int q4.2.2.2.2.2.1, .ref qMR, .ref qML, .ref qMP, .int x4, .ref qMY, .ref qMF, .int mo, .int mf])), (qMT, .inl (G.2.1, 16, .inl q4.2.2.2.2.2.2.1)), (qMW, .inl (G.2.1, 16, .inl q4.2.2.2.2.2.2.2.1)), (qMR, .inl (G.2.2.2.1, 16, .inl mR)), (qMP, .inl (G.2.1, 32, .inl mP))]) [0, 1, 2, 4, 5] rfl
      have hKc := hK
      have hDc := hD.sub (ws' := [(qM, .inr (8, [.int q3.2, .int q4.1, .int q4.2.1, .int q4.2.2.1, .int q4.2.2.2.1, .ref qMT, .ref qMW, .ref qMK, .ref qMM, .int q4.2.2.2.2.1, .int q4.2.2.2.2.2.1, .ref qMR, .ref qML, .ref qMP, .int x4, .ref qMY, .ref qMF, .int mo, .int mf])), (qMT, .inl (G.2.1, 16, .inl q4.2.2.2.2.2.2.1)), (qMW, .inl (G.2.1, 16, .inl q4.2.2.2.2.2.2.2.1)), (qMR, .inl (G.2.2.2.1, 16, .inl mR)), (qMP, .inl (G.2.1, 32, .inl mP))]) [0, 1, 2, 4, 5] (by decide) rfl
      have hFc := va_free (wc := [(qM, .inr (8, [.int q3.2, .int q4.1, .int q4.2.1, .int q4.2.2.1, .int q4.2.2.2.1, .ref qMT, .ref qMW, .ref qMK, .ref qMM, .int q4.2.2.2.2.1, .int q4.2.2.2.2.2.1, .ref qMR, .ref qML, .ref qMP, .int x4, .ref qMY, .ref qMF, .int mo, .int mf])), (qMT, .inl (G.2.1, 16, .inl q4.2.2.2.2.2.2.1)), (qMW, .inl (G.2.1, 16, .inl q4.2.2.2.2.2.2.2.1)), (qMR, .inl (G.2.2.2.1, 16, .inl mR)), (qMP, .inl (G.2.1, 32, .inl mP))]) hD hS hA [0, 1, 2, 4, 5] rfl
      refine va_callv (va_runV (As := []) (rest := []) ⟨hx, hb, hml, hown, hts⟩ (tX8_laysPairs G l eq5) (cwV 0 hts gX8_make_X8_laysPairs rfl rfl rfl (by decide +kernel) ⟨Nat.le_of_ble_eq_true rfl, Nat.le_of_ble_eq_true rfl⟩) ⟨pcW_blind, va_recv hKc hPc (ci := 8) (q0 := 0) rfl rfl, pcW_pre hPc hKK hDc⟩ rfl rfl hl.1 rfl (lv_room (Nat.le_of_ble_eq_true rfl)) dX8_make_49 ⟨Nat.zero_le _, Nat.zero_le _⟩) hS (fun q _ h => hFc q h) hFc (fun u t H1 locs ht hvm hw hB hz1 hk1 hS => ?_)
      have hB := va_Pto ht hB
      obtain ⟨hP, hD⟩ := jn (ws' := [(qM, .inr (8, [.int q3.2, .int q4.1, .int q4.2.1, .int q4.2.2.1, .int q4.2.2.2.1, .ref qMT, .ref qMW, .ref qMK, .ref qMM, .int q4.2.2.2.2.1, .int q4.2.2.2.2.2.1, .ref qMR, .ref qML, .ref qMP, .int q5.1, .ref qMY, .ref qMF, .int mo, .int mf])), (qMT, .inl (G.2.1, 16, .inl q5.2.1)), (qMW, .inl (G.2.1, 16, .inl q4.2.2.2.2.2.2.2.1)), (qMK, .inl (G.2.2.2.1, 16, .inl q4.2.2.2.2.2.2.2.2)), (qMR, .inl (G.2.2.2.1, 16, .inl q5.2.2.1)), (qMP, .inl (G.2.1, 32, .inl q5.2.2.2))]) hP hD hk1 hB [0, 1, 2, 4, 5] rfl rfl rfl rfl
      generalize H1 = H at hP hS ⊢
      refine lv_iconst (v := 0) hx hb dX8_make_52 (by decide) ?_
      refine lv_istore (lv' := [(5, .int 0), (0, .ref qM), (1, .int x1), (2, .int x2), (3, .int x3), (4, .int x4)]) hx hb dX8_make_53 hl (by decide) rfl (fun ls hl => ?_)
      refine lv_iconst (v := 0) hx hb dX8_make_55 (by decide) ?_
      refine lv_istore (lv' := [(6, .int 0), (5, .int 0), (0, .ref qM), (1, .int x1), (2, .int x2), (3, .int x3), (4, .int x4)]) hx hb dX8_make_56 hl (by decide) rfl (fun ls hl => ?_)
      have L58 : ∀ (n : Nat) (s26 : Int32) (s27 : Int32) (s28 : Int32) (s29 : Nat → Int32) (t_58 : Int32 × Int32 × (Nat → Int32)) (ls : Array Slot) (H : Heap) (locs : List Loc), kloop n (fun s_ => kX8_make_s58 F q4 s_.1 s_.2.1 s_.2.2.1 s_.2.2.2) (s26, s27, s28, s29) = some t_58 → lv_has ls 7 [(0, .ref qM), (5, .int s26), (6, .int s27)] → va_P G.1 vwCl [(qM, .inr (8, [.int q3.2, .int q4.1, .int q4.2.1, .int q4.2.2.1, .int q4.2.2.2.1, .ref qMT, .ref qMW, .ref qMK, .ref qMM, .int q4.2.2.2.2.1, .int q4.2.2.2.2.2.1, .ref qMR, .ref qML, .ref qMP, .int s28, .ref qMY, .ref qMF, .int mo, .int mf])), (qMT, .inl (G.2.1, 16, .inl s29)), (qMW, .inl (G.2.1, 16, .inl q4.2.2.2.2.2.2.2.1)), (qMK, .inl (G.2.2.2.1, 16, .inl q4.2.2.2.2.2.2.2.2)), (qMR, .inl (G.2.2.2.1, 16, .inl q5.2.2.1)), (qMP, .inl (G.2.1, 32, .inl q5.2.2.2))] H → va_D A [(qM, .inr (8, [.int q3.2, .int q4.1, .int q4.2.1, .int q4.2.2.1, .int q4.2.2.2.1, .ref qMT, .ref qMW, .ref qMK, .ref qMM, .int q4.2.2.2.2.1, .int q4.2.2.2.2.2.1, .ref qMR, .ref qML, .ref qMP, .int s28, .ref qMY, .ref qMF, .int mo, .int mf])), (qMT, .inl (G.2.1, 16, .inl s29)), (qMW, .inl (G.2.1, 16, .inl q4.2.2.2.2.2.2.2.1)), (qMK, .inl (G.2.2.2.1, 16, .inl q4.2.2.2.2.2.2.2.2)), (qMR, .inl (G.2.2.2.1, 16, .inl q5.2.2.1)), (qMP, .inl (G.2.1, 32, .inl q5.2.2.2))] → va_S A s.heap H locs → (∀ (ls : Array Slot) (H : Heap) (locs : List Loc), lv_has ls 7 [(5, .int t_58.1)] → va_P G.1 vwCl [(qM, .inr (8, [.int q3.2, .int q4.1, .int q4.2.1, .int q4.2.2.1, .int q4.2.2.2.1, .ref qMT, .ref qMW, .ref qMK, .ref qMM, .int q4.2.2.2.2.1, .int q4.2.2.2.2.2.1, .ref qMR, .ref qML, .ref qMP, .int t_58.2.1, .ref qMY, .ref qMF, .int mo, .int mf])), (qMT, .inl (G.2.1, 16, .inl t_58.2.2)), (qMW, .inl (G.2.1, 16, .inl q4.2.2.2.2.2.2.2.1)), (qMK, .inl (G.2.2.2.1, 16, .inl q4.2.2.2.2.2.2.2.2)), (qMR, .inl (G.2.2.2.1, 16, .inl q5.2.2.1)), (qMP, .inl (G.2.1, 32, .inl q5.2.2.2))] H → va_D A [(qM, .inr (8, [.int q3.2, .int q4.1, .int q4.2.1, .int q4.2.2.1, .int q4.2.2.2.1, .ref qMT, .ref qMW, .ref qMK, .ref qMM, .int q4.2.2.2.2.1, .int q4.2.2.2.2.2.1, .ref qMR, .ref qML, .ref qMP, .int t_58.2.1, .ref qMY, .ref qMF, .int mo, .int mf])), (qMT, .inl (G.2.1, 16, .inl t_58.2.2)), (qMW, .inl (G.2.1, 16, .inl q4.2.2.2.2.2.2.2.1)), (qMK, .inl (G.2.2.2.1, 16, .inl q4.2.2.2.2.2.2.2.2)), (qMR, .inl (G.2.2.2.1, 16, .inl q5.2.2.1)), (qMP, .inl (G.2.1, 32, .inl q5.2.2.2))] → va_S A s.heap H locs → W p l e (headSpec wsX8_make rmX8_make).room s m ([.ref qM, .int x1, .int x2, .int x3, .int x4] : List Value).toArray below meth c H locs 0 0 Q (F0 m 119 ls [])) → W p l e (headSpec wsX8_make rmX8_make).room s m ([.ref qM, .int x1, .int x2, .int x3, .int x4] : List Value).toArray below meth c H locs 0 0 Q (F0 m 58 ls []) := by
        intro n
        induction n with
        | zero => 
          intro s26 s27 s28 s29 t_58 ls H locs hq hl hP hD hS kk58_119
          exact absurd hq kl_0
        | succ n ih58 =>
          intro s26 s27 s28 s29 t_58 ls H locs hq hl hP hD hS kk58_119
          obtain ⟨y_58, hq, hx58⟩ := kl_s hq
          have hq : kX8_make_s58 F q4 s26 s27 s28 s29 = some y_58 := hq
          unfold kX8_make_s58 at hq
          refine lv_iload hx hb dX8_make_58 (lv_at hl 2 rfl) ?_
          refine lv_aload_n hx hb dX8_make_60 rfl (lv_at hl 0 rfl) ?_
          obtain ⟨q30, eq30, hq⟩ := ob hq
          have hPc := hP.sub (ws' := [(qM, .inr (8, [.int q3.2, .int q4.1, .int q4.2.1, .int q4.2.2.1, .int q4.2.2.2.1, .ref qMT, .ref qMW, .ref qMK, .ref qMM, .int q4.2.2.2.2.1, .int q4.2.2.2.2.2.1, .ref qMR, .ref qML, .ref qMP, .int s28, .ref qMY, .ref qMF, .int mo, .int mf]))]) [0] rfl
          have hKc := hK
          refine vp_callSi (va_Run.run (va_runV (As := []) (rest := [.int s27]) ⟨hx, hb, hml, hown, hts⟩ (tX8_cells G l eq30) (cwV 0 hts gX8_make_X8_cells rfl rfl rfl (by decide +kernel) ⟨Nat.le_of_ble_eq_true rfl, Nat.le_of_ble_eq_true rfl⟩) ⟨pcP_blind, va_recv hKc hPc (ci := 8) (q0 := 0) rfl rfl, pcP_pre hPc hKK⟩ rfl rfl hl.1 rfl (lv_room (Nat.le_of_ble_eq_true rfl)) dX8_make_61 ⟨Nat.zero_le _, Nat.zero_le _⟩)) (fun r0 hr0 => ?_)
          obtain rfl := hr0
          refine lv_icmp_ge (tgt := 119) hx hb dX8_make_64 (by decide) (fun c_64 => ?_) (fun c_64 => ?_)
          · have hq := k_t c_64 hq
            have et := kl_exit hq hx58
            subst et
            exact kk58_119 ls _ _ (lv_sub hl [1] rfl) hP hD hS
          · have hq := k_f c_64 hq
            refine lv_aload_n hx hb dX8_make_67 rfl (lv_at hl 0 rfl) ?_
            refine va_get (D := G.1) (ci := 8) (v := .ref qMT) (C := RX8) (T := TX8) (N := 19) hx hb hts hi8 hown hK hP 0 rfl rfl 5 (by decide) hw2 (fun _ h9 => h9) rfl dX8_make_68 ?_
            refine lv_iload hx hb dX8_make_71 (lv_at hl 2 rfl) ?_
            refine lv_aload_n hx hb dX8_make_73 rfl (lv_at hl 0 rfl) ?_
            refine va_get (D := G.1) (ci := 8) (v := .ref qMT) (C := RX8) (T := TX8) (N := 19) hx hb hts hi8 hown hK hP 0 rfl rfl 5 (by decide) hw2 (fun _ h9 => h9) rfl dX8_make_74 ?_
            refine lv_iload hx hb dX8_make_77 (lv_at hl 2 rfl) ?_
            obtain ⟨hg, hq⟩ := k_g hq
            refine va_iald hx hb hK hP 1 0 rfl rfl (ix_in hg) dX8_make_79 ?_
            refine lv_aload_n hx hb dX8_make_80 rfl (lv_at hl 0 rfl) ?_
            refine lv_iconst (v := 4) hx hb dX8_make_81 (by decide) ?_
            obtain ⟨q31, eq31, hq⟩ := ob hq
            have hPc := hP.sub (ws' := [(qM, .inr (8, [.int q3.2, .int q4.1, .int q4.2.1, .int q4.2.2.1, .int q4.2.2.2.1, .ref qMT, .ref qMW, .ref qMK, .ref qMM, .int q4.2.2.2.2.1, .int q4.2.2.2.2.2.1, .ref qMR, .ref qML, .ref qMP, .int s28, .ref qMY, .ref qMF, .int mo, .int mf]))]) [0] rfl
            have hKc := hK
            have hDc := hD.sub (ws' := [(qM, .inr (8, [.int q3.2, .int q4.1, .int q4.2.1, .int q4.2.2.1, .int q4.2.2.2.1, .ref qMT, .ref qMW, .ref qMK, .ref qMM, .int q4.2.2.2.2.1, .int q4.2.2.2.2.2.1, .ref qMR, .ref qML, .ref qMP, .int s28, .ref qMY, .ref qMF, .int mo, .int mf]))]) [0] (by decide) rfl
            have hFc := va_free (wc := [(qM, .inr (8, [.int q3.2, .int q4.1, .int q4.2.1, .int q4.2.2.1, .int q4.2.2.2.1, .ref qMT, .ref qMW, .ref qMK, .ref qMM, .int q4.2.2.2.2.1, .int q4.2.2.2.2.2.1, .ref qMR, .ref qML, .ref qMP, .int s28, .ref qMY, .ref qMF, .int mo, .int mf]))]) hD hS hA [0] rfl
            refine va_calli (va_runV (As := [.int 4]) (rest := [.int (s29 s27.toNatClampNeg), .int s27, .ref qMT]) ⟨hx, hb, hml, hown, hts⟩ (tX8_draws G l eq31) (cwV 1 hts gX8_make_X8_draws rfl rfl rfl (by decide +kernel) ⟨Nat.le_of_ble_eq_true rfl, Nat.le_of_ble_eq_true rfl⟩) ⟨pcW_blind, va_recv hKc hPc (ci := 8) (q0 := 0) rfl rfl, pcW_pre hPc hKK hDc⟩ rfl rfl hl.1 rfl (lv_room (Nat.le_of_ble_eq_true rfl)) dX8_make_82 ⟨Nat.zero_le _, Nat.zero_le _⟩) hS (fun q _ h => hFc q h) hFc (fun r0 u t H1 locs ht hvm hw hB hz1 hk1 hS => ?_)
            obtain rfl := hw
            have hB := va_Pto ht hB
            obtain ⟨hP, hD⟩ := jn (ws' := [(qM, .inr (8, [.int q3.2, .int q4.1, .int q4.2.1, .int q4.2.2.1, .int q4.2.2.2.1, .ref qMT, .ref qMW, .ref qMK, .ref qMM, .int q4.2.2.2.2.1, .int q4.2.2.2.2.2.1, .ref qMR, .ref qML, .ref qMP, .int q31.2, .ref qMY, .ref qMF, .int mo, .int mf])), (qMT, .inl (G.2.1, 16, .inl s29)), (qMW, .inl (G.2.1, 16, .inl q4.2.2.2.2.2.2.2.1)), (qMK, .inl (G.2.2.2.1, 16, .inl q4.2.2.2.2.2.2.2.2)), (qMR, .inl (G.2.2.2.1, 16, .inl q5.2.2.1)), (qMP, .inl (G.2.1, 32, .inl q5.2.2.2))]) hP hD hk1 hB [0] rfl rfl rfl rfl
            generalize H1 = H at hP hS ⊢
            obtain ⟨q32, eq32, hq⟩ := ob hq
            have hPc := hP.sub (ws' := []) [] rfl
            refine vp_callSi (va_Run.run (va_runS (As := [.int (s29 s27.toNatClampNeg), .int q31.1]) (rest := [.int s27, .ref qMT]) ⟨hx, hb, hml, hown, hts⟩ (tX8_turned G l eq32) (va_cwS 2 hts gX8_make_X8_turned rfl rfl rfl (by decide +kernel) ⟨Nat.le_of_ble_eq_true rfl, Nat.le_of_ble_eq_true rfl⟩) ⟨pcP_blind, pcP_pre hPc hKK⟩ rfl rfl hl.1 rfl (lv_room (Nat.le_of_ble_eq_true rfl)) dX8_make_85 ⟨Nat.zero_le _, Nat.zero_le _⟩)) (fun r0 hr0 => ?_)
            obtain rfl := hr0
            obtain ⟨hg, hq⟩ := k_g hq
            refine va_iast hx hb hK hP hD hS 1 0 rfl rfl (ix_in hg) dX8_make_88 (fun H locs hP hD hS => ?_)
            have hP : va_P G.1 vwCl [(qM, .inr (8, [.int q3.2, .int q4.1, .int q4.2.1, .int q4.2.2.1, .int q4.2.2.2.1, .ref qMT, .ref qMW, .ref qMK, .ref qMM, .int q4.2.2.2.2.1, .int q4.2.2.2.2.2.1, .ref qMR, .ref qML, .ref qMP, .int q31.2, .ref qMY, .ref qMF, .int mo, .int mf])), (qMT, .inl (G.2.1, 16, .inl (upd s29 s27.toNatClampNeg q32))), (qMW, .inl (G.2.1, 16, .inl q4.2.2.2.2.2.2.2.1)), (qMK, .inl (G.2.2.2.1, 16, .inl q4.2.2.2.2.2.2.2.2)), (qMR, .inl (G.2.2.2.1, 16, .inl q5.2.2.1)), (qMP, .inl (G.2.1, 32, .inl q5.2.2.2))] H := hP
            have hD : va_D A [(qM, .inr (8, [.int q3.2, .int q4.1, .int q4.2.1, .int q4.2.2.1, .int q4.2.2.2.1, .ref qMT, .ref qMW, .ref qMK, .ref qMM, .int q4.2.2.2.2.1, .int q4.2.2.2.2.2.1, .ref qMR, .ref qML, .ref qMP, .int q31.2, .ref qMY, .ref qMF, .int mo, .int mf])), (qMT, .inl (G.2.1, 16, .inl (upd s29 s27.toNatClampNeg q32))), (qMW, .inl (G.2.1, 16, .inl q4.2.2.2.2.2.2.2.1)), (qMK, .inl (G.2.2.2.1, 16, .inl q4.2.2.2.2.2.2.2.2)), (qMR, .inl (G.2.2.2.1, 16, .inl q5.2.2.1)), (qMP, .inl (G.2.1, 32, .inl q5.2.2.2))] := hD
            refine lv_iload hx hb dX8_make_89 (lv_at hl 1 rfl) ?_
            refine lv_aload_n hx hb dX8_make_91 rfl (lv_at hl 0 rfl) ?_
            refine va_get (D := G.1) (ci := 8) (v := .ref qMT) (C := RX8) (T := TX8) (N := 19) hx hb hts hi8 hown hK hP 0 rfl rfl 5 (by decide) hw2 (fun _ h9 => h9) rfl dX8_make_92 ?_
            refine lv_iload hx hb dX8_make_95 (lv_at hl 2 rfl) ?_
            obtain ⟨hg, hq⟩ := k_g hq
            refine va_iald hx hb hK hP 1 0 rfl rfl (ix_in hg) dX8_make_97 ?_
            obtain ⟨q33, eq33, hq⟩ := ob hq
            have hPc := hP.sub (ws' := []) [] rfl
            refine vp_callSi (va_Run.run (va_runS (As := [.int ((upd s29 s27.toNatClampNeg q32) s27.toNatClampNeg)]) (rest := [.int s26]) ⟨hx, hb, hml, hown, hts⟩ (tX8_sides G l eq33) (va_cwS 1 hts gX8_make_X8_sides rfl rfl rfl (by decide +kernel) ⟨Nat.le_of_ble_eq_true rfl, Nat.le_of_ble_eq_true rfl⟩) ⟨pcP_blind, pcP_pre hPc hKK⟩ rfl rfl hl.1 rfl (lv_room (Nat.le_of_ble_eq_true rfl)) dX8_make_98 ⟨Nat.zero_le _, Nat.zero_le _⟩)) (fun r0 hr0 => ?_)
            obtain rfl := hr0
            refine lv_iconst (v := 1) hx hb dX8_make_101 (by decide) ?_
            refine lv_icmp_ne (tgt := 109) hx hb dX8_make_102 (by decide) (fun c_102 => ?_) (fun c_102 => ?_)
            · have hq := k_f c_102 hq
              refine lv_iconst (v := 0) hx hb dX8_make_109 (by decide) ?_
              refine lv_iadd hx hb dX8_make_110 ?_
              refine lv_istore (lv' := [(5, .int (s26 + 0)), (0, .ref qM), (6, .int s27)]) hx hb dX8_make_111 hl (by decide) rfl (fun ls hl => ?_)
              refine lv_iinc (v := (s27 + 1)) (lv' := [(6, .int (s27 + 1)), (5, .int (s26 + 0)), (0, .ref qM)]) hx hb dX8_make_113 hl (k := 2) rfl rfl (by decide) rfl (fun ls hl => ?_)
              refine lv_goto (tgt := 58) hx hb dX8_make_116 (by decide) ?_
              exact ih58 (s26 + 0) (s27 + 1) q31.2 (upd s29 s27.toNatClampNeg q32) t_58 ls _ _ (kl_back hq hx58) (lv_sub hl [2, 1, 0] rfl) hP hD hS kk58_119
            · have hq := k_t c_102 hq
              refine lv_iconst (v := 1) hx hb dX8_make_105 (by decide) ?_
              refine lv_goto (tgt := 110) hx hb dX8_make_106 (by decide) ?_
              refine lv_iadd hx hb dX8_make_110 ?_
              refine lv_istore (lv' := [(5, .int (s26 + 1)), (0, .ref qM), (6, .int s27)]) hx hb dX8_make_111 hl (by decide) rfl (fun ls hl => ?_)
              refine lv_iinc (v := (s27 + 1)) (lv' := [(6, .int (s27 + 1)), (5, .int (s26 + 1)), (0, .ref qM)]) hx hb dX8_make_113 hl (k := 2) rfl rfl (by decide) rfl (fun ls hl => ?_)
              refine lv_goto (tgt := 58) hx hb dX8_make_116 (by decide) ?_
              exact ih58 (s26 + 1) (s27 + 1) q31.2 (upd s29 s27.toNatClampNeg q32) t_58 ls _ _ (kl_back hq hx58) (lv_sub hl [2, 1, 0] rfl) hP hD hS kk58_119
      obtain ⟨q35, eq35, hq⟩ := ob hq
      refine L58 F 0 0 q5.1 q5.2.1 q35 ls _ _ (eq35) (lv_sub hl [2, 1, 0] rfl) hP hD hS (fun ls H locs hl hP hD hS => ?_)
      · refine lv_iload hx hb dX8_make_119 (lv_at hl 0 rfl) ?_
        obtain rfl := Option.some.inj hq
        rw [hQ]
        exact W.iret hx hb hr (fun t ht hW => ⟨⟨_, (), rfl, rfl, va_Pat ht hP⟩, hS.F ht⟩) hS.2.2 dX8_make_121
    · have hq := k_t c_30 hq
      refine lv_iconst (v := 0) hx hb dX8_make_33 (by decide) ?_
      obtain rfl := Option.some.inj hq
      rw [hQ]
      exact W.iret hx hb hr (fun t ht hW => ⟨⟨_, (), rfl, rfl, va_Pat ht hP⟩, hS.F ht⟩) hS.2.2 dX8_make_34
  refine lv_if_eq (tgt := 26) hx hb dX8_make_7 (by decide) (fun c_7 => ?_) (fun c_7 => ?_)
  · have hq := k_t c_7 hq
    refine lv_iconst (v := 1) hx hb dX8_make_26 (by decide) ?_
    exact J27 1 ls _ _ hq (lv_sub hl [0, 1, 2, 3, 4] rfl) hP hD hS
  · have hq := k_f c_7 hq
    refine lv_iload hx hb dX8_make_10 (lv_at hl 4 rfl) ?_
    refine lv_if_lt (tgt := 26) hx hb dX8_make_12 (by decide) (fun c_12 => ?_) (fun c_12 => ?_)
    · have hq := k_t c_12 hq
      refine lv_iconst (v := 1) hx hb dX8_make_26 (by decide) ?_
      exact J27 1 ls _ _ hq (lv_sub hl [0, 1, 2, 3, 4] rfl) hP hD hS
    · have hq := k_f c_12 hq
      refine lv_iload hx hb dX8_make_15 (lv_at hl 4 rfl) ?_
      refine lv_ldc (v := 65536) hx hb hown hw0 dX8_make_17 ?_
      refine lv_icmp_ge (tgt := 26) hx hb dX8_make_19 (by decide) (fun c_19 => ?_) (fun c_19 => ?_)
      · have hq := k_t c_19 hq
        refine lv_iconst (v := 1) hx hb dX8_make_26 (by decide) ?_
        exact J27 1 ls _ _ hq (lv_sub hl [0, 1, 2, 3, 4] rfl) hP hD hS
      · have hq := k_f c_19 hq
        refine lv_iconst (v := 0) hx hb dX8_make_22 (by decide) ?_
        refine lv_goto (tgt := 27) hx hb dX8_make_23 (by decide) ?_
        exact J27 0 ls _ _ hq (lv_sub hl [0, 1, 2, 3, 4] rfl) hP hD hS
