/-! contracts (laid by wip/whole/gen.py) -/
abbrev rmX1_clear : Room := { frames := 0, cells := 0, slots := 0, locals := 0 }
set_option maxHeartbeats 40000000 in
set_option maxRecDepth 100000 in
theorem tX1_clear (G : GG) (l : Launch) {qL qLb qLw : Nat} {lc : Int32} {sz : Nat} {F : Nat} {r : Int32} (hq : kX1_clear F lc = some r) : Met l yX1_clear wsX1_clear rmX1_clear (pcW G [(qL, .inr (1, [.ref qLb, .ref qLw, .int lc]))] sz [.ref qL]) (qcV G [(qL, .inr (1, [.ref qLb, .ref qLw, .int r]))] (va_A [(qL, .inr (1, [.ref qLb, .ref qLw, .int lc]))] sz)) 0 0 (va_A [(qL, .inr (1, [.ref qLb, .ref qLw, .int lc]))] sz) := by
  refine Met.ofW (cc := cX1_clear) (maxL := 1) (ret := none) (by decide) rfl ?_
  intro p e s m args below meth c s₁ B hml hv
  obtain ⟨rfl, hsz, hP, hKK, hD0⟩ := hv
  have hK := hKK.1
  have hx := B.exec
  have hb := B.bytes
  have hr := B.returns
  have hts := atoms_spec (ws := wsX1_clear) B.pre
  have hown : s.vm.findClass RX1 = some m.cls := findClass_of_methodNamed B.named
  have hlocks := B.notSynchronized
  subst hsz
  have hD := hD0.self (sz := s.heap.size)
  generalize hAe : va_A [(qL, .inr (1, [.ref qLb, .ref qLw, .int lc]))] s.heap.size = A at hD ⊢
  have hA : ∀ q : Nat, s.heap.size ≤ q → A q := fun q h => by rw [← hAe]; exact Or.inr h
  have hS : va_S A s.heap s.heap [] := va_S.rf
  have hl := lv_entry ([.ref qL] : List Value) (n := 1) (Nat.le_of_ble_eq_true rfl)
  rw [lg_entry_eq]
  generalize (lg_sl ([.ref qL] : List Value) ++ List.replicate (1 - (lg_sl ([.ref qL] : List Value)).length) Slot.unset).toArray = ls at hl ⊢
  have hl : lv_has ls 1 [(0, .ref qL)] := hl
  have hi1 : ∀ w ∈ u_ws RX1 TX1 3, w ∈ wsX1_clear := by decide +kernel
  have hw0 : (Cond.fieldLink RX1 17 "NetPlumber$BorderList" "count" "I").before #[Value.ref qL] s = true := hts _ (by decide +kernel)
  refine wq (fun Q hQ => ?_)
  unfold kX1_clear at hq
  refine lv_aload_n hx hb dX1_clear_0 rfl (lv_at hl 0 rfl) ?_
  refine lv_iconst (v := 0) hx hb dX1_clear_1 (by decide) ?_
  refine va_put (D := G.1) (ci := 1) (v := .int 0) (ty := .int) (C := RX1) (T := TX1) (N := 3) hx hb hts hi1 tyX1 tyX1_ok nmX1 hown hK hP hD hS 0 rfl rfl 2 (by decide) hw0 (fun _ h9 => h9) rfl (by decide +kernel) rfl rfl (Nat.le_of_ble_eq_true rfl) dX1_clear_2 (fun H locs hP hD hS => ?_)
  have hP : va_P G.1 vwCl [(qL, .inr (1, [.ref qLb, .ref qLw, .int 0]))] H := hP
  have hD : va_D A [(qL, .inr (1, [.ref qLb, .ref qLw, .int 0]))] := hD
  obtain rfl := Option.some.inj hq
  rw [hQ]
  exact W.vret hx hb hr (fun t ht hW => ⟨⟨(), rfl, trivial, va_Pat ht hP⟩, hS.F ht⟩) hS.2.2 dX1_clear_5

abbrev rmX1_count : Room := { frames := 0, cells := 0, slots := 0, locals := 0 }
set_option maxHeartbeats 40000000 in
set_option maxRecDepth 100000 in
theorem tX1_count (G : GG) (l : Launch) {qL qLb qLw : Nat} {lc : Int32} {F : Nat} {r : Int32} (hq : kX1_count F lc = some r) : Met l yX1_count wsX1_count rmX1_count (pcP G [(qL, .inr (1, [.ref qLb, .ref qLw, .int lc]))] [.ref qL]) (vp_Si (fun x => r = x)) 0 0 (fun _ => False) := by
  refine Met.ofW (cc := cX1_count) (maxL := 1) (ret := (some .int)) (by decide) rfl ?_
  intro p e s m args below meth c s₁ B hml hv
  obtain ⟨rfl, hP, hKK⟩ := hv
  have hK := hKK.1
  have hx := B.exec
  have hb := B.bytes
  have hr := B.returns
  have hts := atoms_spec (ws := wsX1_count) B.pre
  have hown : s.vm.findClass RX1 = some m.cls := findClass_of_methodNamed B.named
  have hlocks := B.notSynchronized
  have hl := lv_entry ([.ref qL] : List Value) (n := 1) (Nat.le_of_ble_eq_true rfl)
  rw [lg_entry_eq]
  generalize (lg_sl ([.ref qL] : List Value) ++ List.replicate (1 - (lg_sl ([.ref qL] : List Value)).length) Slot.unset).toArray = ls at hl ⊢
  have hl : lv_has ls 1 [(0, .ref qL)] := hl
  have hi1 : ∀ w ∈ u_ws RX1 TX1 3, w ∈ wsX1_count := by decide +kernel
  have hw0 : (Cond.fieldLink RX1 17 "NetPlumber$BorderList" "count" "I").before #[Value.ref qL] s = true := hts _ (by decide +kernel)
  refine wq (fun Q hQ => ?_)
  unfold kX1_count at hq
  refine lv_aload_n hx hb dX1_count_0 rfl (lv_at hl 0 rfl) ?_
  refine va_get (D := G.1) (ci := 1) (v := .int lc) (C := RX1) (T := TX1) (N := 3) hx hb hts hi1 hown hK hP 0 rfl rfl 2 (by decide) hw0 (fun _ h9 => h9) rfl dX1_count_1 ?_
  obtain rfl := Option.some.inj hq
  rw [hQ]
  exact W.iret hx hb hr (fun t ht hW => ⟨_, rfl, rfl, ht⟩) (fun _ h => absurd h List.not_mem_nil) dX1_count_4

abbrev rmX1_borderAt : Room := { frames := 0, cells := 0, slots := 0, locals := 0 }
set_option maxHeartbeats 40000000 in
set_option maxRecDepth 100000 in
theorem tX1_borderAt (G : GG) (l : Launch) {qL qLb qLw : Nat} {nb : Nat} {lc : Int32} {lb : Nat → Int64} {x1 : Int32} {F : Nat} {r : Int64} (hq : kX1_borderAt F lc nb lb x1 = some r) : Met l yX1_borderAt wsX1_borderAt rmX1_borderAt (pcP G [(qL, .inr (1, [.ref qLb, .ref qLw, .int lc])), (qLb, .inl (G.2.2.1, nb, .inr (.inl lb)))] [.ref qL, .int x1]) (vp_Sl (fun x => r = x)) 0 0 (fun _ => False) := by
  refine Met.ofW (cc := cX1_borderAt) (maxL := 2) (ret := (some .long)) (by decide) rfl ?_
  intro p e s m args below meth c s₁ B hml hv
  obtain ⟨rfl, hP, hKK⟩ := hv
  have hK := hKK.1
  have hx := B.exec
  have hb := B.bytes
  have hr := B.returns
  have hts := atoms_spec (ws := wsX1_borderAt) B.pre
  have hown : s.vm.findClass RX1 = some m.cls := findClass_of_methodNamed B.named
  have hlocks := B.notSynchronized
  have hl := lv_entry ([.ref qL, .int x1] : List Value) (n := 2) (Nat.le_of_ble_eq_true rfl)
  rw [lg_entry_eq]
  generalize (lg_sl ([.ref qL, .int x1] : List Value) ++ List.replicate (2 - (lg_sl ([.ref qL, .int x1] : List Value)).length) Slot.unset).toArray = ls at hl ⊢
  have hl : lv_has ls 2 [(0, .ref qL), (1, .int x1)] := hl
  have hi1 : ∀ w ∈ u_ws RX1 TX1 3, w ∈ wsX1_borderAt := by decide +kernel
  have hw0 : (Cond.fieldLink RX1 17 "NetPlumber$BorderList" "count" "I").before #[Value.ref qL, Value.int x1] s = true := hts _ (by decide +kernel)
  have hw1 : (Cond.fieldLink RX1 7 "NetPlumber$BorderList" "borders" "[J").before #[Value.ref qL, Value.int x1] s = true := hts _ (by decide +kernel)
  refine wq (fun Q hQ => ?_)
  unfold kX1_borderAt at hq
  refine lv_iload_n hx hb dX1_borderAt_0 rfl (lv_at hl 1 rfl) ?_
  refine lv_if_lt (tgt := 30) hx hb dX1_borderAt_1 (by decide) (fun c_1 => ?_) (fun c_1 => ?_)
  · have hq := k_t c_1 hq
    refine lv_lconst (v := 0) hx hb dX1_borderAt_30 (by decide) ?_
    obtain rfl := Option.some.inj hq
    rw [hQ]
    exact W.lret hx hb hr (fun t ht hW => ⟨_, rfl, rfl, ht⟩) (fun _ h => absurd h List.not_mem_nil) dX1_borderAt_31
  · have hq := k_f c_1 hq
    refine lv_iload_n hx hb dX1_borderAt_4 rfl (lv_at hl 1 rfl) ?_
    refine lv_aload_n hx hb dX1_borderAt_5 rfl (lv_at hl 0 rfl) ?_
    refine va_get (D := G.1) (ci := 1) (v := .int lc) (C := RX1) (T := TX1) (N := 3) hx hb hts hi1 hown hK hP 0 rfl rfl 2 (by decide) hw0 (fun _ h9 => h9) rfl dX1_borderAt_6 ?_
    refine lv_icmp_ge (tgt := 30) hx hb dX1_borderAt_9 (by decide) (fun c_9 => ?_) (fun c_9 => ?_)
    · have hq := k_t c_9 hq
      refine lv_lconst (v := 0) hx hb dX1_borderAt_30 (by decide) ?_
      obtain rfl := Option.some.inj hq
      rw [hQ]
      exact W.lret hx hb hr (fun t ht hW => ⟨_, rfl, rfl, ht⟩) (fun _ h => absurd h List.not_mem_nil) dX1_borderAt_31
    · have hq := k_f c_9 hq
      refine lv_iload_n hx hb dX1_borderAt_12 rfl (lv_at hl 1 rfl) ?_
      refine lv_aload_n hx hb dX1_borderAt_13 rfl (lv_at hl 0 rfl) ?_
      refine va_get (D := G.1) (ci := 1) (v := .ref qLb) (C := RX1) (T := TX1) (N := 3) hx hb hts hi1 hown hK hP 0 rfl rfl 0 (by decide) hw1 (fun _ h9 => h9) rfl dX1_borderAt_14 ?_
      refine va_alen hx hb hK hP 1 1 rfl rfl (v := (Int32.ofNat nb)) rfl dX1_borderAt_17 ?_
      refine lv_icmp_ge (tgt := 30) hx hb dX1_borderAt_18 (by decide) (fun c_18 => ?_) (fun c_18 => ?_)
      · have hq := k_t c_18 hq
        refine lv_lconst (v := 0) hx hb dX1_borderAt_30 (by decide) ?_
        obtain rfl := Option.some.inj hq
        rw [hQ]
        exact W.lret hx hb hr (fun t ht hW => ⟨_, rfl, rfl, ht⟩) (fun _ h => absurd h List.not_mem_nil) dX1_borderAt_31
      · have hq := k_f c_18 hq
        refine lv_aload_n hx hb dX1_borderAt_21 rfl (lv_at hl 0 rfl) ?_
        refine va_get (D := G.1) (ci := 1) (v := .ref qLb) (C := RX1) (T := TX1) (N := 3) hx hb hts hi1 hown hK hP 0 rfl rfl 0 (by decide) hw1 (fun _ h9 => h9) rfl dX1_borderAt_22 ?_
        refine lv_iload_n hx hb dX1_borderAt_25 rfl (lv_at hl 1 rfl) ?_
        obtain ⟨hg, hq⟩ := k_g hq
        refine va_lald hx hb hK hP 1 1 rfl rfl (ix_in hg) dX1_borderAt_26 ?_
        refine lv_goto (tgt := 31) hx hb dX1_borderAt_27 (by decide) ?_
        obtain rfl := Option.some.inj hq
        rw [hQ]
        exact W.lret hx hb hr (fun t ht hW => ⟨_, rfl, rfl, ht⟩) (fun _ h => absurd h List.not_mem_nil) dX1_borderAt_31

abbrev rmX1_waysAt : Room := { frames := 0, cells := 0, slots := 0, locals := 0 }
set_option maxHeartbeats 40000000 in
set_option maxRecDepth 100000 in
theorem tX1_waysAt (G : GG) (l : Launch) {qL qLb qLw : Nat} {nw : Nat} {lc : Int32} {lw : Nat → Int32} {x1 : Int32} {F : Nat} {r : Int32} (hq : kX1_waysAt F lc nw lw x1 = some r) : Met l yX1_waysAt wsX1_waysAt rmX1_waysAt (pcP G [(qL, .inr (1, [.ref qLb, .ref qLw, .int lc])), (qLw, .inl (G.2.1, nw, .inl lw))] [.ref qL, .int x1]) (vp_Si (fun x => r = x)) 0 0 (fun _ => False) := by
  refine Met.ofW (cc := cX1_waysAt) (maxL := 2) (ret := (some .int)) (by decide) rfl ?_
  intro p e s m args below meth c s₁ B hml hv
  obtain ⟨rfl, hP, hKK⟩ := hv
  have hK := hKK.1
  have hx := B.exec
  have hb := B.bytes
  have hr := B.returns
  have hts := atoms_spec (ws := wsX1_waysAt) B.pre
  have hown : s.vm.findClass RX1 = some m.cls := findClass_of_methodNamed B.named
  have hlocks := B.notSynchronized
  have hl := lv_entry ([.ref qL, .int x1] : List Value) (n := 2) (Nat.le_of_ble_eq_true rfl)
  rw [lg_entry_eq]
  generalize (lg_sl ([.ref qL, .int x1] : List Value) ++ List.replicate (2 - (lg_sl ([.ref qL, .int x1] : List Value)).length) Slot.unset).toArray = ls at hl ⊢
  have hl : lv_has ls 2 [(0, .ref qL), (1, .int x1)] := hl
  have hi1 : ∀ w ∈ u_ws RX1 TX1 3, w ∈ wsX1_waysAt := by decide +kernel
  have hw0 : (Cond.fieldLink RX1 17 "NetPlumber$BorderList" "count" "I").before #[Value.ref qL, Value.int x1] s = true := hts _ (by decide +kernel)
  have hw1 : (Cond.fieldLink RX1 13 "NetPlumber$BorderList" "ways" "[I").before #[Value.ref qL, Value.int x1] s = true := hts _ (by decide +kernel)
  refine wq (fun Q hQ => ?_)
  unfold kX1_waysAt at hq
  refine lv_iload_n hx hb dX1_waysAt_0 rfl (lv_at hl 1 rfl) ?_
  refine lv_if_lt (tgt := 30) hx hb dX1_waysAt_1 (by decide) (fun c_1 => ?_) (fun c_1 => ?_)
  · have hq := k_t c_1 hq
    refine lv_iconst (v := 0) hx hb dX1_waysAt_30 (by decide) ?_
    obtain rfl := Option.some.inj hq
    rw [hQ]
    exact W.iret hx hb hr (fun t ht hW => ⟨_, rfl, rfl, ht⟩) (fun _ h => absurd h List.not_mem_nil) dX1_waysAt_31
  · have hq := k_f c_1 hq
    refine lv_iload_n hx hb dX1_waysAt_4 rfl (lv_at hl 1 rfl) ?_
    refine lv_aload_n hx hb dX1_waysAt_5 rfl (lv_at hl 0 rfl) ?_
    refine va_get (D := G.1) (ci := 1) (v := .int lc) (C := RX1) (T := TX1) (N := 3) hx hb hts hi1 hown hK hP 0 rfl rfl 2 (by decide) hw0 (fun _ h9 => h9) rfl dX1_waysAt_6 ?_
    refine lv_icmp_ge (tgt := 30) hx hb dX1_waysAt_9 (by decide) (fun c_9 => ?_) (fun c_9 => ?_)
    · have hq := k_t c_9 hq
      refine lv_iconst (v := 0) hx hb dX1_waysAt_30 (by decide) ?_
      obtain rfl := Option.some.inj hq
      rw [hQ]
      exact W.iret hx hb hr (fun t ht hW => ⟨_, rfl, rfl, ht⟩) (fun _ h => absurd h List.not_mem_nil) dX1_waysAt_31
    · have hq := k_f c_9 hq
      refine lv_iload_n hx hb dX1_waysAt_12 rfl (lv_at hl 1 rfl) ?_
      refine lv_aload_n hx hb dX1_waysAt_13 rfl (lv_at hl 0 rfl) ?_
      refine va_get (D := G.1) (ci := 1) (v := .ref qLw) (C := RX1) (T := TX1) (N := 3) hx hb hts hi1 hown hK hP 0 rfl rfl 1 (by decide) hw1 (fun _ h9 => h9) rfl dX1_waysAt_14 ?_
      refine va_alen hx hb hK hP 1 0 rfl rfl (v := (Int32.ofNat nw)) rfl dX1_waysAt_17 ?_
      refine lv_icmp_ge (tgt := 30) hx hb dX1_waysAt_18 (by decide) (fun c_18 => ?_) (fun c_18 => ?_)
      · have hq := k_t c_18 hq
        refine lv_iconst (v := 0) hx hb dX1_waysAt_30 (by decide) ?_
        obtain rfl := Option.some.inj hq
        rw [hQ]
        exact W.iret hx hb hr (fun t ht hW => ⟨_, rfl, rfl, ht⟩) (fun _ h => absurd h List.not_mem_nil) dX1_waysAt_31
      · have hq := k_f c_18 hq
        refine lv_aload_n hx hb dX1_waysAt_21 rfl (lv_at hl 0 rfl) ?_
        refine va_get (D := G.1) (ci := 1) (v := .ref qLw) (C := RX1) (T := TX1) (N := 3) hx hb hts hi1 hown hK hP 0 rfl rfl 1 (by decide) hw1 (fun _ h9 => h9) rfl dX1_waysAt_22 ?_
        refine lv_iload_n hx hb dX1_waysAt_25 rfl (lv_at hl 1 rfl) ?_
        obtain ⟨hg, hq⟩ := k_g hq
        refine va_iald hx hb hK hP 1 0 rfl rfl (ix_in hg) dX1_waysAt_26 ?_
        refine lv_goto (tgt := 31) hx hb dX1_waysAt_27 (by decide) ?_
        obtain rfl := Option.some.inj hq
        rw [hQ]
        exact W.iret hx hb hr (fun t ht hW => ⟨_, rfl, rfl, ht⟩) (fun _ h => absurd h List.not_mem_nil) dX1_waysAt_31

abbrev rmX2_forget : Room := { frames := 0, cells := 0, slots := 0, locals := 0 }
set_option maxHeartbeats 40000000 in
set_option maxRecDepth 100000 in
theorem tX2_forget (G : GG) (l : Launch) {qH qHM : Nat} {hd : Int32} {hk : Int32} {sz : Nat} {F : Nat} {r : Int32 × Int32} (hq : kX2_forget F hd hk = some r) : Met l yX2_forget wsX2_forget rmX2_forget (pcW G [(qH, .inr (2, [.ref qHM, .int hd, .int hk]))] sz [.ref qH]) (qcV G [(qH, .inr (2, [.ref qHM, .int r.1, .int r.2]))] (va_A [(qH, .inr (2, [.ref qHM, .int hd, .int hk]))] sz)) 0 0 (va_A [(qH, .inr (2, [.ref qHM, .int hd, .int hk]))] sz) := by
  refine Met.ofW (cc := cX2_forget) (maxL := 1) (ret := none) (by decide) rfl ?_
  intro p e s m args below meth c s₁ B hml hv
  obtain ⟨rfl, hsz, hP, hKK, hD0⟩ := hv
  have hK := hKK.1
  have hx := B.exec
  have hb := B.bytes
  have hr := B.returns
  have hts := atoms_spec (ws := wsX2_forget) B.pre
  have hown : s.vm.findClass RX2 = some m.cls := findClass_of_methodNamed B.named
  have hlocks := B.notSynchronized
  subst hsz
  have hD := hD0.self (sz := s.heap.size)
  generalize hAe : va_A [(qH, .inr (2, [.ref qHM, .int hd, .int hk]))] s.heap.size = A at hD ⊢
  have hA : ∀ q : Nat, s.heap.size ≤ q → A q := fun q h => by rw [← hAe]; exact Or.inr h
  have hS : va_S A s.heap s.heap [] := va_S.rf
  have hl := lv_entry ([.ref qH] : List Value) (n := 1) (Nat.le_of_ble_eq_true rfl)
  rw [lg_entry_eq]
  generalize (lg_sl ([.ref qH] : List Value) ++ List.replicate (1 - (lg_sl ([.ref qH] : List Value)).length) Slot.unset).toArray = ls at hl ⊢
  have hl : lv_has ls 1 [(0, .ref qH)] := hl
  have hi2 : ∀ w ∈ u_ws RX2 TX2 3, w ∈ wsX2_forget := by decide +kernel
  have hw0 : (Cond.fieldLink RX2 15 "NetPlumber$History" "done" "I").before #[Value.ref qH] s = true := hts _ (by decide +kernel)
  have hw1 : (Cond.fieldLink RX2 19 "NetPlumber$History" "kept" "I").before #[Value.ref qH] s = true := hts _ (by decide +kernel)
  refine wq (fun Q hQ => ?_)
  unfold kX2_forget at hq
  refine lv_aload_n hx hb dX2_forget_0 rfl (lv_at hl 0 rfl) ?_
  refine lv_iconst (v := 0) hx hb dX2_forget_1 (by decide) ?_
  refine va_put (D := G.1) (ci := 2) (v := .int 0) (ty := .int) (C := RX2) (T := TX2) (N := 3) hx hb hts hi2 tyX2 tyX2_ok nmX2 hown hK hP hD hS 0 rfl rfl 1 (by decide) hw0 (fun _ h9 => h9) rfl (by decide +kernel) rfl rfl (Nat.le_of_ble_eq_true rfl) dX2_forget_2 (fun H locs hP hD hS => ?_)
  have hP : va_P G.1 vwCl [(qH, .inr (2, [.ref qHM, .int 0, .int hk]))] H := hP
  have hD : va_D A [(qH, .inr (2, [.ref qHM, .int 0, .int hk]))] := hD
  refine lv_aload_n hx hb dX2_forget_5 rfl (lv_at hl 0 rfl) ?_
  refine lv_iconst (v := 0) hx hb dX2_forget_6 (by decide) ?_
  refine va_put (D := G.1) (ci := 2) (v := .int 0) (ty := .int) (C := RX2) (T := TX2) (N := 3) hx hb hts hi2 tyX2 tyX2_ok nmX2 hown hK hP hD hS 0 rfl rfl 2 (by decide) hw1 (fun _ h9 => h9) rfl (by decide +kernel) rfl rfl (Nat.le_of_ble_eq_true rfl) dX2_forget_7 (fun H locs hP hD hS => ?_)
  have hP : va_P G.1 vwCl [(qH, .inr (2, [.ref qHM, .int 0, .int 0]))] H := hP
  have hD : va_D A [(qH, .inr (2, [.ref qHM, .int 0, .int 0]))] := hD
  obtain rfl := Option.some.inj hq
  rw [hQ]
  exact W.vret hx hb hr (fun t ht hW => ⟨⟨(), rfl, trivial, va_Pat ht hP⟩, hS.F ht⟩) hS.2.2 dX2_forget_10

abbrev rmX2_done : Room := { frames := 0, cells := 0, slots := 0, locals := 0 }
set_option maxHeartbeats 40000000 in
set_option maxRecDepth 100000 in
theorem tX2_done (G : GG) (l : Launch) {qH qHM : Nat} {hd : Int32} {hk : Int32} {F : Nat} {r : Int32} (hq : kX2_done F hd = some r) : Met l yX2_done wsX2_done rmX2_done (pcP G [(qH, .inr (2, [.ref qHM, .int hd, .int hk]))] [.ref qH]) (vp_Si (fun x => r = x)) 0 0 (fun _ => False) := by
  refine Met.ofW (cc := cX2_done) (maxL := 1) (ret := (some .int)) (by decide) rfl ?_
  intro p e s m args below meth c s₁ B hml hv
  obtain ⟨rfl, hP, hKK⟩ := hv
  have hK := hKK.1
  have hx := B.exec
  have hb := B.bytes
  have hr := B.returns
  have hts := atoms_spec (ws := wsX2_done) B.pre
  have hown : s.vm.findClass RX2 = some m.cls := findClass_of_methodNamed B.named
  have hlocks := B.notSynchronized
  have hl := lv_entry ([.ref qH] : List Value) (n := 1) (Nat.le_of_ble_eq_true rfl)
  rw [lg_entry_eq]
  generalize (lg_sl ([.ref qH] : List Value) ++ List.replicate (1 - (lg_sl ([.ref qH] : List Value)).length) Slot.unset).toArray = ls at hl ⊢
  have hl : lv_has ls 1 [(0, .ref qH)] := hl
  have hi2 : ∀ w ∈ u_ws RX2 TX2 3, w ∈ wsX2_done := by decide +kernel
  have hw0 : (Cond.fieldLink RX2 15 "NetPlumber$History" "done" "I").before #[Value.ref qH] s = true := hts _ (by decide +kernel)
  refine wq (fun Q hQ => ?_)
  unfold kX2_done at hq
  refine lv_aload_n hx hb dX2_done_0 rfl (lv_at hl 0 rfl) ?_
  refine va_get (D := G.1) (ci := 2) (v := .int hd) (C := RX2) (T := TX2) (N := 3) hx hb hts hi2 hown hK hP 0 rfl rfl 1 (by decide) hw0 (fun _ h9 => h9) rfl dX2_done_1 ?_
  obtain rfl := Option.some.inj hq
  rw [hQ]
  exact W.iret hx hb hr (fun t ht hW => ⟨_, rfl, rfl, ht⟩) (fun _ h => absurd h List.not_mem_nil) dX2_done_4

abbrev rmX2_isFull : Room := { frames := 0, cells := 0, slots := 0, locals := 0 }
set_option maxHeartbeats 40000000 in
set_option maxRecDepth 100000 in
theorem tX2_isFull (G : GG) (l : Launch) {qH qHM : Nat} {hd : Int32} {hk : Int32} {F : Nat} {r : Int32} (hq : kX2_isFull F hd = some r) : Met l yX2_isFull wsX2_isFull rmX2_isFull (pcP G [(qH, .inr (2, [.ref qHM, .int hd, .int hk]))] [.ref qH]) (vp_Si (fun x => r = x)) 0 0 (fun _ => False) := by
  refine Met.ofW (cc := cX2_isFull) (maxL := 1) (ret := (some .boolean)) (by decide) rfl ?_
  intro p e s m args below meth c s₁ B hml hv
  obtain ⟨rfl, hP, hKK⟩ := hv
  have hK := hKK.1
  have hx := B.exec
  have hb := B.bytes
  have hr := B.returns
  have hts := atoms_spec (ws := wsX2_isFull) B.pre
  have hown : s.vm.findClass RX2 = some m.cls := findClass_of_methodNamed B.named
  have hlocks := B.notSynchronized
  have hl := lv_entry ([.ref qH] : List Value) (n := 1) (Nat.le_of_ble_eq_true rfl)
  rw [lg_entry_eq]
  generalize (lg_sl ([.ref qH] : List Value) ++ List.replicate (1 - (lg_sl ([.ref qH] : List Value)).length) Slot.unset).toArray = ls at hl ⊢
  have hl : lv_has ls 1 [(0, .ref qH)] := hl
  have hi2 : ∀ w ∈ u_ws RX2 TX2 3, w ∈ wsX2_isFull := by decide +kernel
  have hw0 : (Cond.fieldLink RX2 15 "NetPlumber$History" "done" "I").before #[Value.ref qH] s = true := hts _ (by decide +kernel)
  refine wq (fun Q hQ => ?_)
  unfold kX2_isFull at hq
  refine lv_aload_n hx hb dX2_isFull_0 rfl (lv_at hl 0 rfl) ?_
  refine va_get (D := G.1) (ci := 2) (v := .int hd) (C := RX2) (T := TX2) (N := 3) hx hb hts hi2 hown hK hP 0 rfl rfl 1 (by decide) hw0 (fun _ h9 => h9) rfl dX2_isFull_1 ?_
  refine lv_sipush (v := 512) hx hb dX2_isFull_4 (by decide) ?_
  refine lv_icmp_lt (tgt := 14) hx hb dX2_isFull_7 (by decide) (fun c_7 => ?_) (fun c_7 => ?_)
  · have hq := k_t c_7 hq
    refine lv_iconst (v := 0) hx hb dX2_isFull_14 (by decide) ?_
    obtain rfl := Option.some.inj hq
    rw [hQ]
    exact W.zret hx hb hr rfl (fun t ht hW => ⟨_, rfl, rfl, ht⟩) (fun _ h => absurd h List.not_mem_nil) dX2_isFull_15
  · have hq := k_f c_7 hq
    refine lv_iconst (v := 1) hx hb dX2_isFull_10 (by decide) ?_
    refine lv_goto (tgt := 15) hx hb dX2_isFull_11 (by decide) ?_
    obtain rfl := Option.some.inj hq
    rw [hQ]
    exact W.zret hx hb hr rfl (fun t ht hW => ⟨_, rfl, rfl, ht⟩) (fun _ h => absurd h List.not_mem_nil) dX2_isFull_15

abbrev rmX2_note : Room := { frames := 0, cells := 0, slots := 0, locals := 0 }
set_option maxHeartbeats 40000000 in
set_option maxRecDepth 100000 in
theorem tX2_note (G : GG) (l : Launch) {qH qHM : Nat} {hd : Int32} {hk : Int32} {hM : Nat → Int32} {x1 : Int32} {sz : Nat} {F : Nat} {r : Int32 × Int32 × (Nat → Int32)} (hq : kX2_note F hd hk hM x1 = some r) : Met l yX2_note wsX2_note rmX2_note (pcW G [(qH, .inr (2, [.ref qHM, .int hd, .int hk])), (qHM, .inl (G.2.1, 512, .inl hM))] sz [.ref qH, .int x1]) (qcV G [(qH, .inr (2, [.ref qHM, .int r.1, .int r.2.1])), (qHM, .inl (G.2.1, 512, .inl r.2.2))] (va_A [(qH, .inr (2, [.ref qHM, .int hd, .int hk])), (qHM, .inl (G.2.1, 512, .inl hM))] sz)) 0 0 (va_A [(qH, .inr (2, [.ref qHM, .int hd, .int hk])), (qHM, .inl (G.2.1, 512, .inl hM))] sz) := by
  refine Met.ofW (cc := cX2_note) (maxL := 2) (ret := none) (by decide) rfl ?_
  intro p e s m args below meth c s₁ B hml hv
  obtain ⟨rfl, hsz, hP, hKK, hD0⟩ := hv
  have hK := hKK.1
  have hx := B.exec
  have hb := B.bytes
  have hr := B.returns
  have hts := atoms_spec (ws := wsX2_note) B.pre
  have hown : s.vm.findClass RX2 = some m.cls := findClass_of_methodNamed B.named
  have hlocks := B.notSynchronized
  subst hsz
  have hD := hD0.self (sz := s.heap.size)
  generalize hAe : va_A [(qH, .inr (2, [.ref qHM, .int hd, .int hk])), (qHM, .inl (G.2.1, 512, .inl hM))] s.heap.size = A at hD ⊢
  have hA : ∀ q : Nat, s.heap.size ≤ q → A q := fun q h => by rw [← hAe]; exact Or.inr h
  have hS : va_S A s.heap s.heap [] := va_S.rf
  have hl := lv_entry ([.ref qH, .int x1] : List Value) (n := 2) (Nat.le_of_ble_eq_true rfl)
  rw [lg_entry_eq]
  generalize (lg_sl ([.ref qH, .int x1] : List Value) ++ List.replicate (2 - (lg_sl ([.ref qH, .int x1] : List Value)).length) Slot.unset).toArray = ls at hl ⊢
  have hl : lv_has ls 2 [(0, .ref qH), (1, .int x1)] := hl
  have hi2 : ∀ w ∈ u_ws RX2 TX2 3, w ∈ wsX2_note := by decide +kernel
  have hw0 : (Cond.fieldLink RX2 15 "NetPlumber$History" "done" "I").before #[Value.ref qH, Value.int x1] s = true := hts _ (by decide +kernel)
  have hw1 : (Cond.fieldLink RX2 11 "NetPlumber$History" "cells" "[I").before #[Value.ref qH, Value.int x1] s = true := hts _ (by decide +kernel)
  have hw2 : (Cond.fieldLink RX2 19 "NetPlumber$History" "kept" "I").before #[Value.ref qH, Value.int x1] s = true := hts _ (by decide +kernel)
  refine wq (fun Q hQ => ?_)
  unfold kX2_note at hq
  refine lv_aload_n hx hb dX2_note_0 rfl (lv_at hl 0 rfl) ?_
  refine va_get (D := G.1) (ci := 2) (v := .int hd) (C := RX2) (T := TX2) (N := 3) hx hb hts hi2 hown hK hP 0 rfl rfl 1 (by decide) hw0 (fun _ h9 => h9) rfl dX2_note_1 ?_
  refine lv_if_lt (tgt := 45) hx hb dX2_note_4 (by decide) (fun c_4 => ?_) (fun c_4 => ?_)
  · have hq := k_t c_4 hq
    obtain rfl := Option.some.inj hq
    rw [hQ]
    exact W.vret hx hb hr (fun t ht hW => ⟨⟨(), rfl, trivial, va_Pat ht hP⟩, hS.F ht⟩) hS.2.2 dX2_note_45
  · have hq := k_f c_4 hq
    refine lv_aload_n hx hb dX2_note_7 rfl (lv_at hl 0 rfl) ?_
    refine va_get (D := G.1) (ci := 2) (v := .int hd) (C := RX2) (T := TX2) (N := 3) hx hb hts hi2 hown hK hP 0 rfl rfl 1 (by decide) hw0 (fun _ h9 => h9) rfl dX2_note_8 ?_
    refine lv_sipush (v := 512) hx hb dX2_note_11 (by decide) ?_
    refine lv_icmp_ge (tgt := 45) hx hb dX2_note_14 (by decide) (fun c_14 => ?_) (fun c_14 => ?_)
    · have hq := k_t c_14 hq
      obtain rfl := Option.some.inj hq
      rw [hQ]
      exact W.vret hx hb hr (fun t ht hW => ⟨⟨(), rfl, trivial, va_Pat ht hP⟩, hS.F ht⟩) hS.2.2 dX2_note_45
    · have hq := k_f c_14 hq
      refine lv_aload_n hx hb dX2_note_17 rfl (lv_at hl 0 rfl) ?_
      refine va_get (D := G.1) (ci := 2) (v := .ref qHM) (C := RX2) (T := TX2) (N := 3) hx hb hts hi2 hown hK hP 0 rfl rfl 0 (by decide) hw1 (fun _ h9 => h9) rfl dX2_note_18 ?_
      refine lv_aload_n hx hb dX2_note_21 rfl (lv_at hl 0 rfl) ?_
      refine va_get (D := G.1) (ci := 2) (v := .int hd) (C := RX2) (T := TX2) (N := 3) hx hb hts hi2 hown hK hP 0 rfl rfl 1 (by decide) hw0 (fun _ h9 => h9) rfl dX2_note_22 ?_
      refine lv_iload_n hx hb dX2_note_25 rfl (lv_at hl 1 rfl) ?_
      obtain ⟨hg, hq⟩ := k_g hq
      refine va_iast hx hb hK hP hD hS 1 0 rfl rfl (ix_in hg) dX2_note_26 (fun H locs hP hD hS => ?_)
      have hP : va_P G.1 vwCl [(qH, .inr (2, [.ref qHM, .int hd, .int hk])), (qHM, .inl (G.2.1, 512, .inl (upd hM hd.toNatClampNeg x1)))] H := hP
      have hD : va_D A [(qH, .inr (2, [.ref qHM, .int hd, .int hk])), (qHM, .inl (G.2.1, 512, .inl (upd hM hd.toNatClampNeg x1)))] := hD
      refine lv_aload_n hx hb dX2_note_27 rfl (lv_at hl 0 rfl) ?_
      refine lv_dup hx hb dX2_note_28 rfl ?_
      refine va_get (D := G.1) (ci := 2) (v := .int hd) (C := RX2) (T := TX2) (N := 3) hx hb hts hi2 hown hK hP 0 rfl rfl 1 (by decide) hw0 (fun _ h9 => h9) rfl dX2_note_29 ?_
      refine lv_iconst (v := 1) hx hb dX2_note_32 (by decide) ?_
      refine lv_iadd hx hb dX2_note_33 ?_
      refine va_put (D := G.1) (ci := 2) (v := .int (hd + 1)) (ty := .int) (C := RX2) (T := TX2) (N := 3) hx hb hts hi2 tyX2 tyX2_ok nmX2 hown hK hP hD hS 0 rfl rfl 1 (by decide) hw0 (fun _ h9 => h9) rfl (by decide +kernel) rfl rfl (Nat.le_of_ble_eq_true rfl) dX2_note_34 (fun H locs hP hD hS => ?_)
      have hP : va_P G.1 vwCl [(qH, .inr (2, [.ref qHM, .int (hd + 1), .int hk])), (qHM, .inl (G.2.1, 512, .inl (upd hM hd.toNatClampNeg x1)))] H := hP
      have hD : va_D A [(qH, .inr (2, [.ref qHM, .int (hd + 1), .int hk])), (qHM, .inl (G.2.1, 512, .inl (upd hM hd.toNatClampNeg x1)))] := hD
      refine lv_aload_n hx hb dX2_note_37 rfl (lv_at hl 0 rfl) ?_
      refine lv_aload_n hx hb dX2_note_38 rfl (lv_at hl 0 rfl) ?_
      refine va_get (D := G.1) (ci := 2) (v := .int (hd + 1)) (C := RX2) (T := TX2) (N := 3) hx hb hts hi2 hown hK hP 0 rfl rfl 1 (by decide) hw0 (fun _ h9 => h9) rfl dX2_note_39 ?_
      refine va_put (D := G.1) (ci := 2) (v := .int (hd + 1)) (ty := .int) (C := RX2) (T := TX2) (N := 3) hx hb hts hi2 tyX2 tyX2_ok nmX2 hown hK hP hD hS 0 rfl rfl 2 (by decide) hw2 (fun _ h9 => h9) rfl (by decide +kernel) rfl rfl (Nat.le_of_ble_eq_true rfl) dX2_note_42 (fun H locs hP hD hS => ?_)
      have hP : va_P G.1 vwCl [(qH, .inr (2, [.ref qHM, .int (hd + 1), .int (hd + 1)])), (qHM, .inl (G.2.1, 512, .inl (upd hM hd.toNatClampNeg x1)))] H := hP
      have hD : va_D A [(qH, .inr (2, [.ref qHM, .int (hd + 1), .int (hd + 1)])), (qHM, .inl (G.2.1, 512, .inl (upd hM hd.toNatClampNeg x1)))] := hD
      obtain rfl := Option.some.inj hq
      rw [hQ]
      exact W.vret hx hb hr (fun t ht hW => ⟨⟨(), rfl, trivial, va_Pat ht hP⟩, hS.F ht⟩) hS.2.2 dX2_note_45

abbrev rmX2_stepBack : Room := { frames := 0, cells := 0, slots := 0, locals := 0 }
set_option maxHeartbeats 40000000 in
set_option maxRecDepth 100000 in
theorem tX2_stepBack (G : GG) (l : Launch) {qH qHM : Nat} {hd : Int32} {hk : Int32} {hM : Nat → Int32} {sz : Nat} {F : Nat} {r : Int32 × Int32} (hq : kX2_stepBack F hd hM = some r) : Met l yX2_stepBack wsX2_stepBack rmX2_stepBack (pcW G [(qH, .inr (2, [.ref qHM, .int hd, .int hk])), (qHM, .inl (G.2.1, 512, .inl hM))] sz [.ref qH]) (qcI G r.1 [(qH, .inr (2, [.ref qHM, .int r.2, .int hk])), (qHM, .inl (G.2.1, 512, .inl hM))] (va_A [(qH, .inr (2, [.ref qHM, .int hd, .int hk])), (qHM, .inl (G.2.1, 512, .inl hM))] sz)) 0 0 (va_A [(qH, .inr (2, [.ref qHM, .int hd, .int hk])), (qHM, .inl (G.2.1, 512, .inl hM))] sz) := by
  refine Met.ofW (cc := cX2_stepBack) (maxL := 1) (ret := (some .int)) (by decide) rfl ?_
  intro p e s m args below meth c s₁ B hml hv
  obtain ⟨rfl, hsz, hP, hKK, hD0⟩ := hv
  have hK := hKK.1
  have hx := B.exec
  have hb := B.bytes
  have hr := B.returns
  have hts := atoms_spec (ws := wsX2_stepBack) B.pre
  have hown : s.vm.findClass RX2 = some m.cls := findClass_of_methodNamed B.named
  have hlocks := B.notSynchronized
  subst hsz
  have hD := hD0.self (sz := s.heap.size)
  generalize hAe : va_A [(qH, .inr (2, [.ref qHM, .int hd, .int hk])), (qHM, .inl (G.2.1, 512, .inl hM))] s.heap.size = A at hD ⊢
  have hA : ∀ q : Nat, s.heap.size ≤ q → A q := fun q h => by rw [← hAe]; exact Or.inr h
  have hS : va_S A s.heap s.heap [] := va_S.rf
  have hl := lv_entry ([.ref qH] : List Value) (n := 1) (Nat.le_of_ble_eq_true rfl)
  rw [lg_entry_eq]
  generalize (lg_sl ([.ref qH] : List Value) ++ List.replicate (1 - (lg_sl ([.ref qH] : List Value)).length) Slot.unset).toArray = ls at hl ⊢
  have hl : lv_has ls 1 [(0, .ref qH)] := hl
  have hi2 : ∀ w ∈ u_ws RX2 TX2 3, w ∈ wsX2_stepBack := by decide +kernel
  have hw0 : (Cond.fieldLink RX2 15 "NetPlumber$History" "done" "I").before #[Value.ref qH] s = true := hts _ (by decide +kernel)
  have hw1 : (Cond.fieldLink RX2 11 "NetPlumber$History" "cells" "[I").before #[Value.ref qH] s = true := hts _ (by decide +kernel)
  refine wq (fun Q hQ => ?_)
  unfold kX2_stepBack at hq
  refine lv_aload_n hx hb dX2_stepBack_0 rfl (lv_at hl 0 rfl) ?_
  refine va_get (D := G.1) (ci := 2) (v := .int hd) (C := RX2) (T := TX2) (N := 3) hx hb hts hi2 hown hK hP 0 rfl rfl 1 (by decide) hw0 (fun _ h9 => h9) rfl dX2_stepBack_1 ?_
  refine lv_if_le (tgt := 17) hx hb dX2_stepBack_4 (by decide) (fun c_4 => ?_) (fun c_4 => ?_)
  · have hq := k_t c_4 hq
    refine lv_iconst (v := (-1)) hx hb dX2_stepBack_17 (by decide) ?_
    obtain rfl := Option.some.inj hq
    rw [hQ]
    exact W.iret hx hb hr (fun t ht hW => ⟨⟨_, (), rfl, rfl, va_Pat ht hP⟩, hS.F ht⟩) hS.2.2 dX2_stepBack_18
  · have hq := k_f c_4 hq
    refine lv_aload_n hx hb dX2_stepBack_7 rfl (lv_at hl 0 rfl) ?_
    refine va_get (D := G.1) (ci := 2) (v := .int hd) (C := RX2) (T := TX2) (N := 3) hx hb hts hi2 hown hK hP 0 rfl rfl 1 (by decide) hw0 (fun _ h9 => h9) rfl dX2_stepBack_8 ?_
    refine lv_sipush (v := 512) hx hb dX2_stepBack_11 (by decide) ?_
    refine lv_icmp_le (tgt := 19) hx hb dX2_stepBack_14 (by decide) (fun c_14 => ?_) (fun c_14 => ?_)
    · have hq := k_t c_14 hq
      refine lv_aload_n hx hb dX2_stepBack_19 rfl (lv_at hl 0 rfl) ?_
      refine lv_dup hx hb dX2_stepBack_20 rfl ?_
      refine va_get (D := G.1) (ci := 2) (v := .int hd) (C := RX2) (T := TX2) (N := 3) hx hb hts hi2 hown hK hP 0 rfl rfl 1 (by decide) hw0 (fun _ h9 => h9) rfl dX2_stepBack_21 ?_
      refine lv_iconst (v := 1) hx hb dX2_stepBack_24 (by decide) ?_
      refine lv_isub hx hb dX2_stepBack_25 ?_
      refine va_put (D := G.1) (ci := 2) (v := .int (hd - 1)) (ty := .int) (C := RX2) (T := TX2) (N := 3) hx hb hts hi2 tyX2 tyX2_ok nmX2 hown hK hP hD hS 0 rfl rfl 1 (by decide) hw0 (fun _ h9 => h9) rfl (by decide +kernel) rfl rfl (Nat.le_of_ble_eq_true rfl) dX2_stepBack_26 (fun H locs hP hD hS => ?_)
      have hP : va_P G.1 vwCl [(qH, .inr (2, [.ref qHM, .int (hd - 1), .int hk])), (qHM, .inl (G.2.1, 512, .inl hM))] H := hP
      have hD : va_D A [(qH, .inr (2, [.ref qHM, .int (hd - 1), .int hk])), (qHM, .inl (G.2.1, 512, .inl hM))] := hD
      refine lv_aload_n hx hb dX2_stepBack_29 rfl (lv_at hl 0 rfl) ?_
      refine va_get (D := G.1) (ci := 2) (v := .ref qHM) (C := RX2) (T := TX2) (N := 3) hx hb hts hi2 hown hK hP 0 rfl rfl 0 (by decide) hw1 (fun _ h9 => h9) rfl dX2_stepBack_30 ?_
      refine lv_aload_n hx hb dX2_stepBack_33 rfl (lv_at hl 0 rfl) ?_
      refine va_get (D := G.1) (ci := 2) (v := .int (hd - 1)) (C := RX2) (T := TX2) (N := 3) hx hb hts hi2 hown hK hP 0 rfl rfl 1 (by decide) hw0 (fun _ h9 => h9) rfl dX2_stepBack_34 ?_
      obtain ⟨hg, hq⟩ := k_g hq
      refine va_iald hx hb hK hP 1 0 rfl rfl (ix_in hg) dX2_stepBack_37 ?_
      obtain rfl := Option.some.inj hq
      rw [hQ]
      exact W.iret hx hb hr (fun t ht hW => ⟨⟨_, (), rfl, rfl, va_Pat ht hP⟩, hS.F ht⟩) hS.2.2 dX2_stepBack_38
    · have hq := k_f c_14 hq
      refine lv_iconst (v := (-1)) hx hb dX2_stepBack_17 (by decide) ?_
      obtain rfl := Option.some.inj hq
      rw [hQ]
      exact W.iret hx hb hr (fun t ht hW => ⟨⟨_, (), rfl, rfl, va_Pat ht hP⟩, hS.F ht⟩) hS.2.2 dX2_stepBack_18

abbrev rmX2_stepOn : Room := { frames := 0, cells := 0, slots := 0, locals := 0 }
set_option maxHeartbeats 40000000 in
set_option maxRecDepth 100000 in
theorem tX2_stepOn (G : GG) (l : Launch) {qH qHM : Nat} {hd : Int32} {hk : Int32} {hM : Nat → Int32} {sz : Nat} {F : Nat} {r : Int32 × Int32} (hq : kX2_stepOn F hd hk hM = some r) : Met l yX2_stepOn wsX2_stepOn rmX2_stepOn (pcW G [(qH, .inr (2, [.ref qHM, .int hd, .int hk])), (qHM, .inl (G.2.1, 512, .inl hM))] sz [.ref qH]) (qcI G r.1 [(qH, .inr (2, [.ref qHM, .int r.2, .int hk])), (qHM, .inl (G.2.1, 512, .inl hM))] (va_A [(qH, .inr (2, [.ref qHM, .int hd, .int hk])), (qHM, .inl (G.2.1, 512, .inl hM))] sz)) 0 0 (va_A [(qH, .inr (2, [.ref qHM, .int hd, .int hk])), (qHM, .inl (G.2.1, 512, .inl hM))] sz) := by
  refine Met.ofW (cc := cX2_stepOn) (maxL := 1) (ret := (some .int)) (by decide) rfl ?_
  intro p e s m args below meth c s₁ B hml hv
  obtain ⟨rfl, hsz, hP, hKK, hD0⟩ := hv
  have hK := hKK.1
  have hx := B.exec
  have hb := B.bytes
  have hr := B.returns
  have hts := atoms_spec (ws := wsX2_stepOn) B.pre
  have hown : s.vm.findClass RX2 = some m.cls := findClass_of_methodNamed B.named
  have hlocks := B.notSynchronized
  subst hsz
  have hD := hD0.self (sz := s.heap.size)
  generalize hAe : va_A [(qH, .inr (2, [.ref qHM, .int hd, .int hk])), (qHM, .inl (G.2.1, 512, .inl hM))] s.heap.size = A at hD ⊢
  have hA : ∀ q : Nat, s.heap.size ≤ q → A q := fun q h => by rw [← hAe]; exact Or.inr h
  have hS : va_S A s.heap s.heap [] := va_S.rf
  have hl := lv_entry ([.ref qH] : List Value) (n := 1) (Nat.le_of_ble_eq_true rfl)
  rw [lg_entry_eq]
  generalize (lg_sl ([.ref qH] : List Value) ++ List.replicate (1 - (lg_sl ([.ref qH] : List Value)).length) Slot.unset).toArray = ls at hl ⊢
  have hl : lv_has ls 1 [(0, .ref qH)] := hl
  have hi2 : ∀ w ∈ u_ws RX2 TX2 3, w ∈ wsX2_stepOn := by decide +kernel
  have hw0 : (Cond.fieldLink RX2 15 "NetPlumber$History" "done" "I").before #[Value.ref qH] s = true := hts _ (by decide +kernel)
  have hw1 : (Cond.fieldLink RX2 19 "NetPlumber$History" "kept" "I").before #[Value.ref qH] s = true := hts _ (by decide +kernel)
  have hw2 : (Cond.fieldLink RX2 11 "NetPlumber$History" "cells" "[I").before #[Value.ref qH] s = true := hts _ (by decide +kernel)
  refine wq (fun Q hQ => ?_)
  unfold kX2_stepOn at hq
  refine lv_aload_n hx hb dX2_stepOn_0 rfl (lv_at hl 0 rfl) ?_
  refine va_get (D := G.1) (ci := 2) (v := .int hd) (C := RX2) (T := TX2) (N := 3) hx hb hts hi2 hown hK hP 0 rfl rfl 1 (by decide) hw0 (fun _ h9 => h9) rfl dX2_stepOn_1 ?_
  refine lv_if_lt (tgt := 28) hx hb dX2_stepOn_4 (by decide) (fun c_4 => ?_) (fun c_4 => ?_)
  · have hq := k_t c_4 hq
    refine lv_iconst (v := (-1)) hx hb dX2_stepOn_28 (by decide) ?_
    obtain rfl := Option.some.inj hq
    rw [hQ]
    exact W.iret hx hb hr (fun t ht hW => ⟨⟨_, (), rfl, rfl, va_Pat ht hP⟩, hS.F ht⟩) hS.2.2 dX2_stepOn_29
  · have hq := k_f c_4 hq
    refine lv_aload_n hx hb dX2_stepOn_7 rfl (lv_at hl 0 rfl) ?_
    refine va_get (D := G.1) (ci := 2) (v := .int hd) (C := RX2) (T := TX2) (N := 3) hx hb hts hi2 hown hK hP 0 rfl rfl 1 (by decide) hw0 (fun _ h9 => h9) rfl dX2_stepOn_8 ?_
    refine lv_aload_n hx hb dX2_stepOn_11 rfl (lv_at hl 0 rfl) ?_
    refine va_get (D := G.1) (ci := 2) (v := .int hk) (C := RX2) (T := TX2) (N := 3) hx hb hts hi2 hown hK hP 0 rfl rfl 2 (by decide) hw1 (fun _ h9 => h9) rfl dX2_stepOn_12 ?_
    refine lv_icmp_ge (tgt := 28) hx hb dX2_stepOn_15 (by decide) (fun c_15 => ?_) (fun c_15 => ?_)
    · have hq := k_t c_15 hq
      refine lv_iconst (v := (-1)) hx hb dX2_stepOn_28 (by decide) ?_
      obtain rfl := Option.some.inj hq
      rw [hQ]
      exact W.iret hx hb hr (fun t ht hW => ⟨⟨_, (), rfl, rfl, va_Pat ht hP⟩, hS.F ht⟩) hS.2.2 dX2_stepOn_29
    · have hq := k_f c_15 hq
      refine lv_aload_n hx hb dX2_stepOn_18 rfl (lv_at hl 0 rfl) ?_
      refine va_get (D := G.1) (ci := 2) (v := .int hd) (C := RX2) (T := TX2) (N := 3) hx hb hts hi2 hown hK hP 0 rfl rfl 1 (by decide) hw0 (fun _ h9 => h9) rfl dX2_stepOn_19 ?_
      refine lv_sipush (v := 512) hx hb dX2_stepOn_22 (by decide) ?_
      refine lv_icmp_lt (tgt := 30) hx hb dX2_stepOn_25 (by decide) (fun c_25 => ?_) (fun c_25 => ?_)
      · have hq := k_t c_25 hq
        refine lv_aload_n hx hb dX2_stepOn_30 rfl (lv_at hl 0 rfl) ?_
        refine lv_dup hx hb dX2_stepOn_31 rfl ?_
        refine va_get (D := G.1) (ci := 2) (v := .int hd) (C := RX2) (T := TX2) (N := 3) hx hb hts hi2 hown hK hP 0 rfl rfl 1 (by decide) hw0 (fun _ h9 => h9) rfl dX2_stepOn_32 ?_
        refine lv_iconst (v := 1) hx hb dX2_stepOn_35 (by decide) ?_
        refine lv_iadd hx hb dX2_stepOn_36 ?_
        refine va_put (D := G.1) (ci := 2) (v := .int (hd + 1)) (ty := .int) (C := RX2) (T := TX2) (N := 3) hx hb hts hi2 tyX2 tyX2_ok nmX2 hown hK hP hD hS 0 rfl rfl 1 (by decide) hw0 (fun _ h9 => h9) rfl (by decide +kernel) rfl rfl (Nat.le_of_ble_eq_true rfl) dX2_stepOn_37 (fun H locs hP hD hS => ?_)
        have hP : va_P G.1 vwCl [(qH, .inr (2, [.ref qHM, .int (hd + 1), .int hk])), (qHM, .inl (G.2.1, 512, .inl hM))] H := hP
        have hD : va_D A [(qH, .inr (2, [.ref qHM, .int (hd + 1), .int hk])), (qHM, .inl (G.2.1, 512, .inl hM))] := hD
        refine lv_aload_n hx hb dX2_stepOn_40 rfl (lv_at hl 0 rfl) ?_
        refine va_get (D := G.1) (ci := 2) (v := .ref qHM) (C := RX2) (T := TX2) (N := 3) hx hb hts hi2 hown hK hP 0 rfl rfl 0 (by decide) hw2 (fun _ h9 => h9) rfl dX2_stepOn_41 ?_
        refine lv_aload_n hx hb dX2_stepOn_44 rfl (lv_at hl 0 rfl) ?_
        refine va_get (D := G.1) (ci := 2) (v := .int (hd + 1)) (C := RX2) (T := TX2) (N := 3) hx hb hts hi2 hown hK hP 0 rfl rfl 1 (by decide) hw0 (fun _ h9 => h9) rfl dX2_stepOn_45 ?_
        refine lv_iconst (v := 1) hx hb dX2_stepOn_48 (by decide) ?_
        refine lv_isub hx hb dX2_stepOn_49 ?_
        obtain ⟨hg, hq⟩ := k_g hq
        refine va_iald hx hb hK hP 1 0 rfl rfl (ix_in hg) dX2_stepOn_50 ?_
        obtain rfl := Option.some.inj hq
        rw [hQ]
        exact W.iret hx hb hr (fun t ht hW => ⟨⟨_, (), rfl, rfl, va_Pat ht hP⟩, hS.F ht⟩) hS.2.2 dX2_stepOn_51
      · have hq := k_f c_25 hq
        refine lv_iconst (v := (-1)) hx hb dX2_stepOn_28 (by decide) ?_
        obtain rfl := Option.some.inj hq
        rw [hQ]
        exact W.iret hx hb hr (fun t ht hW => ⟨⟨_, (), rfl, rfl, va_Pat ht hP⟩, hS.F ht⟩) hS.2.2 dX2_stepOn_29

abbrev rmX3_draw : Room := { frames := 0, cells := 0, slots := 0, locals := 0 }
set_option maxHeartbeats 40000000 in
set_option maxRecDepth 100000 in
theorem tX3_draw (G : GG) (l : Launch) {qK qB qKC qKS : Nat} {kp : Int32} {ku : Int32} {sz : Nat} {F : Nat} {r : Int32 × Int32} (hq : kX3_draw F ku = some r) : Met l yX3_draw wsX3_draw rmX3_draw (pcW G [(qK, .inr (3, [.ref qB, .ref qKC, .ref qKS, .int kp, .int ku]))] sz [.ref qK]) (qcI G r.1 [(qK, .inr (3, [.ref qB, .ref qKC, .ref qKS, .int kp, .int r.2]))] (va_A [(qK, .inr (3, [.ref qB, .ref qKC, .ref qKS, .int kp, .int ku]))] sz)) 0 0 (va_A [(qK, .inr (3, [.ref qB, .ref qKC, .ref qKS, .int kp, .int ku]))] sz) := by
  refine Met.ofW (cc := cX3_draw) (maxL := 1) (ret := (some .int)) (by decide) rfl ?_
  intro p e s m args below meth c s₁ B hml hv
  obtain ⟨rfl, hsz, hP, hKK, hD0⟩ := hv
  have hK := hKK.1
  have hx := B.exec
  have hb := B.bytes
  have hr := B.returns
  have hts := atoms_spec (ws := wsX3_draw) B.pre
  have hown : s.vm.findClass RX3 = some m.cls := findClass_of_methodNamed B.named
  have hlocks := B.notSynchronized
  subst hsz
  have hD := hD0.self (sz := s.heap.size)
  generalize hAe : va_A [(qK, .inr (3, [.ref qB, .ref qKC, .ref qKS, .int kp, .int ku]))] s.heap.size = A at hD ⊢
  have hA : ∀ q : Nat, s.heap.size ≤ q → A q := fun q h => by rw [← hAe]; exact Or.inr h
  have hS : va_S A s.heap s.heap [] := va_S.rf
  have hl := lv_entry ([.ref qK] : List Value) (n := 1) (Nat.le_of_ble_eq_true rfl)
  rw [lg_entry_eq]
  generalize (lg_sl ([.ref qK] : List Value) ++ List.replicate (1 - (lg_sl ([.ref qK] : List Value)).length) Slot.unset).toArray = ls at hl ⊢
  have hl : lv_has ls 1 [(0, .ref qK)] := hl
  have hi3 : ∀ w ∈ u_ws RX3 TX3 5, w ∈ wsX3_draw := by decide +kernel
  have hw0 : (Cond.fieldLink RX3 22 "NetPlumber$Maker" "number" "I").before #[Value.ref qK] s = true := hts _ (by decide +kernel)
  have hw1 : (Cond.constant RX3 55 (65536)).before #[Value.ref qK] s = true := hts _ (by decide +kernel)
  refine wq (fun Q hQ => ?_)
  unfold kX3_draw at hq
  refine lv_aload_n hx hb dX3_draw_0 rfl (lv_at hl 0 rfl) ?_
  refine lv_sipush (v := 24693) hx hb dX3_draw_1 (by decide) ?_
  refine lv_aload_n hx hb dX3_draw_4 rfl (lv_at hl 0 rfl) ?_
  refine va_get (D := G.1) (ci := 3) (v := .int ku) (C := RX3) (T := TX3) (N := 5) hx hb hts hi3 hown hK hP 0 rfl rfl 4 (by decide) hw0 (fun _ h9 => h9) rfl dX3_draw_5 ?_
  refine lv_imul hx hb dX3_draw_8 ?_
  refine lv_sipush (v := 3517) hx hb dX3_draw_9 (by decide) ?_
  refine lv_iadd hx hb dX3_draw_12 ?_
  refine lv_ldc (v := 65536) hx hb hown hw1 dX3_draw_13 ?_
  refine lv_irem hx hb dX3_draw_15 (by decide) ?_
  refine va_put (D := G.1) (ci := 3) (v := .int (((24693 * ku) + 3517) - ((24693 * ku) + 3517) / 65536 * 65536)) (ty := .int) (C := RX3) (T := TX3) (N := 5) hx hb hts hi3 tyX3 tyX3_ok nmX3 hown hK hP hD hS 0 rfl rfl 4 (by decide) hw0 (fun _ h9 => h9) rfl (by decide +kernel) rfl rfl (Nat.le_of_ble_eq_true rfl) dX3_draw_16 (fun H locs hP hD hS => ?_)
  have hP : va_P G.1 vwCl [(qK, .inr (3, [.ref qB, .ref qKC, .ref qKS, .int kp, .int (((24693 * ku) + 3517) - ((24693 * ku) + 3517) / 65536 * 65536)]))] H := hP
  have hD : va_D A [(qK, .inr (3, [.ref qB, .ref qKC, .ref qKS, .int kp, .int (((24693 * ku) + 3517) - ((24693 * ku) + 3517) / 65536 * 65536)]))] := hD
  refine lv_aload_n hx hb dX3_draw_19 rfl (lv_at hl 0 rfl) ?_
  refine va_get (D := G.1) (ci := 3) (v := .int (((24693 * ku) + 3517) - ((24693 * ku) + 3517) / 65536 * 65536)) (C := RX3) (T := TX3) (N := 5) hx hb hts hi3 hown hK hP 0 rfl rfl 4 (by decide) hw0 (fun _ h9 => h9) rfl dX3_draw_20 ?_
  obtain rfl := Option.some.inj hq
  rw [hQ]
  exact W.iret hx hb hr (fun t ht hW => ⟨⟨_, (), rfl, rfl, va_Pat ht hP⟩, hS.F ht⟩) hS.2.2 dX3_draw_23

abbrev rmX3_listPairs : Room := { frames := 1, cells := 0, slots := 0, locals := 23 }
set_option maxHeartbeats 40000000 in
set_option maxRecDepth 100000 in
theorem tX3_listPairs (G : GG) (l : Launch) {qB qBT qBC qBN qBW qBL qK qKC qKS : Nat} {bn : Int32} {bk : Int32} {bs : Int32} {bN : Nat → Int32} {kp : Int32} {ku : Int32} {kC : Nat → Int32} {kS : Nat → Int32} {sz : Nat} {F : Nat} {r : Int32 × (Nat → Int32) × (Nat → Int32)} (hq : kX3_listPairs F bn bN kp kC kS = some r) : Met l yX3_listPairs wsX3_listPairs rmX3_listPairs (pcW G [(qB, .inr (0, [.ref qBT, .ref qBC, .ref qBN, .ref qBW, .ref qBL, .int bn, .int bk, .int bs])), (qBN, .inl (G.2.1, 64, .inl bN)), (qK, .inr (3, [.ref qB, .ref qKC, .ref qKS, .int kp, .int ku])), (qKC, .inl (G.2.1, 32, .inl kC)), (qKS, .inl (G.2.1, 32, .inl kS))] sz [.ref qK]) (qcV G [(qB, .inr (0, [.ref qBT, .ref qBC, .ref qBN, .ref qBW, .ref qBL, .int bn, .int bk, .int bs])), (qBN, .inl (G.2.1, 64, .inl bN)), (qK, .inr (3, [.ref qB, .ref qKC, .ref qKS, .int r.1, .int ku])), (qKC, .inl (G.2.1, 32, .inl r.2.1)), (qKS, .inl (G.2.1, 32, .inl r.2.2))] (va_A [(qB, .inr (0, [.ref qBT, .ref qBC, .ref qBN, .ref qBW, .ref qBL, .int bn, .int bk, .int bs])), (qBN, .inl (G.2.1, 64, .inl bN)), (qK, .inr (3, [.ref qB, .ref qKC, .ref qKS, .int kp, .int ku])), (qKC, .inl (G.2.1, 32, .inl kC)), (qKS, .inl (G.2.1, 32, .inl kS))] sz)) 0 0 (va_A [(qB, .inr (0, [.ref qBT, .ref qBC, .ref qBN, .ref qBW, .ref qBL, .int bn, .int bk, .int bs])), (qBN, .inl (G.2.1, 64, .inl bN)), (qK, .inr (3, [.ref qB, .ref qKC, .ref qKS, .int kp, .int ku])), (qKC, .inl (G.2.1, 32, .inl kC)), (qKS, .inl (G.2.1, 32, .inl kS))] sz) := by
  refine Met.ofW (cc := cX3_listPairs) (maxL := 3) (ret := none) (by decide) rfl ?_
  intro p e s m args below meth c s₁ B hml hv
  obtain ⟨rfl, hsz, hP, hKK, hD0⟩ := hv
  have hK := hKK.1
  have hx := B.exec
  have hb := B.bytes
  have hr := B.returns
  have hts := atoms_spec (ws := wsX3_listPairs) B.pre
  have hown : s.vm.findClass RX3 = some m.cls := findClass_of_methodNamed B.named
  have hlocks := B.notSynchronized
  subst hsz
  have hD := hD0.self (sz := s.heap.size)
  generalize hAe : va_A [(qB, .inr (0, [.ref qBT, .ref qBC, .ref qBN, .ref qBW, .ref qBL, .int bn, .int bk, .int bs])), (qBN, .inl (G.2.1, 64, .inl bN)), (qK, .inr (3, [.ref qB, .ref qKC, .ref qKS, .int kp, .int ku])), (qKC, .inl (G.2.1, 32, .inl kC)), (qKS, .inl (G.2.1, 32, .inl kS))] s.heap.size = A at hD ⊢
  have hA : ∀ q : Nat, s.heap.size ≤ q → A q := fun q h => by rw [← hAe]; exact Or.inr h
  have hS : va_S A s.heap s.heap [] := va_S.rf
  have hl := lv_entry ([.ref qK] : List Value) (n := 3) (Nat.le_of_ble_eq_true rfl)
  rw [lg_entry_eq]
  generalize (lg_sl ([.ref qK] : List Value) ++ List.replicate (3 - (lg_sl ([.ref qK] : List Value)).length) Slot.unset).toArray = ls at hl ⊢
  have hl : lv_has ls 3 [(0, .ref qK)] := hl
  have hi3 : ∀ w ∈ u_ws RX3 TX3 5, w ∈ wsX3_listPairs := by decide +kernel
  have hw0 : (Cond.fieldLink RX3 32 "NetPlumber$Maker" "pairs" "I").before #[Value.ref qK] s = true := hts _ (by decide +kernel)
  have hw1 : (Cond.fieldLink RX3 18 "NetPlumber$Maker" "board" "LNetPlumber$Board;").before #[Value.ref qK] s = true := hts _ (by decide +kernel)
  have hw2 : (Cond.fieldLink RX3 11 "NetPlumber$Maker" "pairCells" "[I").before #[Value.ref qK] s = true := hts _ (by decide +kernel)
  have hw3 : (Cond.fieldLink RX3 15 "NetPlumber$Maker" "pairSides" "[I").before #[Value.ref qK] s = true := hts _ (by decide +kernel)
  refine wq (fun Q hQ => ?_)
  unfold kX3_listPairs at hq
  refine lv_aload_n hx hb dX3_listPairs_0 rfl (lv_at hl 0 rfl) ?_
  refine lv_iconst (v := 0) hx hb dX3_listPairs_1 (by decide) ?_
  refine va_put (D := G.1) (ci := 3) (v := .int 0) (ty := .int) (C := RX3) (T := TX3) (N := 5) hx hb hts hi3 tyX3 tyX3_ok nmX3 hown hK hP hD hS 2 rfl rfl 3 (by decide) hw0 (fun _ h9 => h9) rfl (by decide +kernel) rfl rfl (Nat.le_of_ble_eq_true rfl) dX3_listPairs_2 (fun H locs hP hD hS => ?_)
  have hP : va_P G.1 vwCl [(qB, .inr (0, [.ref qBT, .ref qBC, .ref qBN, .ref qBW, .ref qBL, .int bn, .int bk, .int bs])), (qBN, .inl (G.2.1, 64, .inl bN)), (qK, .inr (3, [.ref qB, .ref qKC, .ref qKS, .int 0, .int ku])), (qKC, .inl (G.2.1, 32, .inl kC)), (qKS, .inl (G.2.1, 32, .inl kS))] H := hP
  have hD : va_D A [(qB, .inr (0, [.ref qBT, .ref qBC, .ref qBN, .ref qBW, .ref qBL, .int bn, .int bk, .int bs])), (qBN, .inl (G.2.1, 64, .inl bN)), (qK, .inr (3, [.ref qB, .ref qKC, .ref qKS, .int 0, .int ku])), (qKC, .inl (G.2.1, 32, .inl kC)), (qKS, .inl (G.2.1, 32, .inl kS))] := hD
  refine lv_iconst (v := 0) hx hb dX3_listPairs_5 (by decide) ?_
  refine lv_istore_n (lv' := [(1, .int 0), (0, .ref qK)]) hx hb dX3_listPairs_6 rfl hl (by decide) rfl (fun ls hl => ?_)
  have L7 : ∀ (n : Nat) (s36 : Int32) (s37 : Int32) (s38 : Nat → Int32) (s39 : Nat → Int32) (t_7 : Int32 × (Nat → Int32) × (Nat → Int32)) (ls : Array Slot) (H : Heap) (locs : List Loc), kloop n (fun s_ => kX3_listPairs_s7 F bn bN s_.1 s_.2.1 s_.2.2.1 s_.2.2.2) (s36, s37, s38, s39) = some t_7 → lv_has ls 3 [(0, .ref qK), (1, .int s36)] → va_P G.1 vwCl [(qB, .inr (0, [.ref qBT, .ref qBC, .ref qBN, .ref qBW, .ref qBL, .int bn, .int bk, .int bs])), (qBN, .inl (G.2.1, 64, .inl bN)), (qK, .inr (3, [.ref qB, .ref qKC, .ref qKS, .int s37, .int ku])), (qKC, .inl (G.2.1, 32, .inl s38)), (qKS, .inl (G.2.1, 32, .inl s39))] H → va_D A [(qB, .inr (0, [.ref qBT, .ref qBC, .ref qBN, .ref qBW, .ref qBL, .int bn, .int bk, .int bs])), (qBN, .inl (G.2.1, 64, .inl bN)), (qK, .inr (3, [.ref qB, .ref qKC, .ref qKS, .int s37, .int ku])), (qKC, .inl (G.2.1, 32, .inl s38)), (qKS, .inl (G.2.1, 32, .inl s39))] → va_S A s.heap H locs → (∀ (ls : Array Slot) (H : Heap) (locs : List Loc), lv_has ls 3 [] → va_P G.1 vwCl [(qB, .inr (0, [.ref qBT, .ref qBC, .ref qBN, .ref qBW, .ref qBL, .int bn, .int bk, .int bs])), (qBN, .inl (G.2.1, 64, .inl bN)), (qK, .inr (3, [.ref qB, .ref qKC, .ref qKS, .int t_7.1, .int ku])), (qKC, .inl (G.2.1, 32, .inl t_7.2.1)), (qKS, .inl (G.2.1, 32, .inl t_7.2.2))] H → va_D A [(qB, .inr (0, [.ref qBT, .ref qBC, .ref qBN, .ref qBW, .ref qBL, .int bn, .int bk, .int bs])), (qBN, .inl (G.2.1, 64, .inl bN)), (qK, .inr (3, [.ref qB, .ref qKC, .ref qKS, .int t_7.1, .int ku])), (qKC, .inl (G.2.1, 32, .inl t_7.2.1)), (qKS, .inl (G.2.1, 32, .inl t_7.2.2))] → va_S A s.heap H locs → W p l e (headSpec wsX3_listPairs rmX3_listPairs).room s m ([.ref qK] : List Value).toArray below meth c H locs 0 0 Q (F0 m 96 ls [])) → W p l e (headSpec wsX3_listPairs rmX3_listPairs).room s m ([.ref qK] : List Value).toArray below meth c H locs 0 0 Q (F0 m 7 ls []) := by
    intro n
    induction n with
    | zero => 
      intro s36 s37 s38 s39 t_7 ls H locs hq hl hP hD hS kk7_96
      exact absurd hq kl_0
    | succ n ih7 =>
      intro s36 s37 s38 s39 t_7 ls H locs hq hl hP hD hS kk7_96
      obtain ⟨y_7, hq, hx7⟩ := kl_s hq
      have hq : kX3_listPairs_s7 F bn bN s36 s37 s38 s39 = some y_7 := hq
      unfold kX3_listPairs_s7 at hq
      refine lv_iload_n hx hb dX3_listPairs_7 rfl (lv_at hl 1 rfl) ?_
      refine lv_aload_n hx hb dX3_listPairs_8 rfl (lv_at hl 0 rfl) ?_
      refine va_get (D := G.1) (ci := 3) (v := .ref qB) (C := RX3) (T := TX3) (N := 5) hx hb hts hi3 hown hK hP 2 rfl rfl 0 (by decide) hw1 (fun _ h9 => h9) rfl dX3_listPairs_9 ?_
      obtain ⟨q40, eq40, hq⟩ := ob hq
      have hPc := hP.sub (ws' := [(qB, .inr (0, [.ref qBT, .ref qBC, .ref qBN, .ref qBW, .ref qBL, .int bn, .int bk, .int bs]))]) [0] rfl
      have hKc := hK
      refine vp_callSi (va_Run.run (va_runV (As := []) (rest := [.int s36]) ⟨hx, hb, hml, hown, hts⟩ (tX0_count G l eq40) (cwV 0 hts gX3_listPairs_X0_count rfl rfl rfl (by decide +kernel) ⟨Nat.le_of_ble_eq_true rfl, Nat.le_of_ble_eq_true rfl⟩) ⟨pcP_blind, va_recv hKc hPc (ci := 0) (q0 := 0) rfl rfl, pcP_pre hPc hKK⟩ rfl rfl hl.1 rfl (lv_room (Nat.le_of_ble_eq_true rfl)) dX3_listPairs_12 ⟨Nat.zero_le _, Nat.zero_le _⟩)) (fun r0 hr0 => ?_)
      obtain rfl := hr0
      refine lv_icmp_ge (tgt := 96) hx hb dX3_listPairs_15 (by decide) (fun c_15 => ?_) (fun c_15 => ?_)
      · have hq := k_t c_15 hq
        have et := kl_exit hq hx7
        subst et
        exact kk7_96 ls _ _ (lv_sub hl [] rfl) hP hD hS
      · have hq := k_f c_15 hq
        refine lv_iconst (v := 1) hx hb dX3_listPairs_18 (by decide) ?_
        refine lv_istore_n (lv' := [(2, .int 1), (0, .ref qK), (1, .int s36)]) hx hb dX3_listPairs_19 rfl hl (by decide) rfl (fun ls hl => ?_)
        have L20 : ∀ (n : Nat) (s56 : Int32) (s57 : Int32) (s58 : Nat → Int32) (s59 : Nat → Int32) (t_20 : Int32 × (Nat → Int32) × (Nat → Int32)) (ls : Array Slot) (H : Heap) (locs : List Loc), kloop n (fun s_ => kX3_listPairs_s20 F bN s36 s_.1 s_.2.1 s_.2.2.1 s_.2.2.2) (s56, s57, s58, s59) = some t_20 → lv_has ls 3 [(0, .ref qK), (1, .int s36), (2, .int s56)] → va_P G.1 vwCl [(qB, .inr (0, [.ref qBT, .ref qBC, .ref qBN, .ref qBW, .ref qBL, .int bn, .int bk, .int bs])), (qBN, .inl (G.2.1, 64, .inl bN)), (qK, .inr (3, [.ref qB, .ref qKC, .ref qKS, .int s57, .int ku])), (qKC, .inl (G.2.1, 32, .inl s58)), (qKS, .inl (G.2.1, 32, .inl s59))] H → va_D A [(qB, .inr (0, [.ref qBT, .ref qBC, .ref qBN, .ref qBW, .ref qBL, .int bn, .int bk, .int bs])), (qBN, .inl (G.2.1, 64, .inl bN)), (qK, .inr (3, [.ref qB, .ref qKC, .ref qKS, .int s57, .int ku])), (qKC, .inl (G.2.1, 32, .inl s58)), (qKS, .inl (G.2.1, 32, .inl s59))] → va_S A s.heap H locs → (∀ (ls : Array Slot) (H : Heap) (locs : List Loc), lv_has ls 3 [(0, .ref qK), (1, .int s36)] → va_P G.1 vwCl [(qB, .inr (0, [.ref qBT, .ref qBC, .ref qBN, .ref qBW, .ref qBL, .int bn, .int bk, .int bs])), (qBN, .inl (G.2.1, 64, .inl bN)), (qK, .inr (3, [.ref qB, .ref qKC, .ref qKS, .int t_20.1, .int ku])), (qKC, .inl (G.2.1, 32, .inl t_20.2.1)), (qKS, .inl (G.2.1, 32, .inl t_20.2.2))] H → va_D A [(qB, .inr (0, [.ref qBT, .ref qBC, .ref qBN, .ref qBW, .ref qBL, .int bn, .int bk, .int bs])), (qBN, .inl (G.2.1, 64, .inl bN)), (qK, .inr (3, [.ref qB, .ref qKC, .ref qKS, .int t_20.1, .int ku])), (qKC, .inl (G.2.1, 32, .inl t_20.2.1)), (qKS, .inl (G.2.1, 32, .inl t_20.2.2))] → va_S A s.heap H locs → W p l e (headSpec wsX3_listPairs rmX3_listPairs).room s m ([.ref qK] : List Value).toArray below meth c H locs 0 0 Q (F0 m 90 ls [])) → W p l e (headSpec wsX3_listPairs rmX3_listPairs).room s m ([.ref qK] : List Value).toArray below meth c H locs 0 0 Q (F0 m 20 ls []) := by
          intro n
          induction n with
          | zero => 
            intro s56 s57 s58 s59 t_20 ls H locs hq hl hP hD hS kk20_90
            exact absurd hq kl_0
          | succ n ih20 =>
            intro s56 s57 s58 s59 t_20 ls H locs hq hl hP hD hS kk20_90
            obtain ⟨y_20, hq, hx20⟩ := kl_s hq
            have hq : kX3_listPairs_s20 F bN s36 s56 s57 s58 s59 = some y_20 := hq
            unfold kX3_listPairs_s20 at hq
            refine lv_iload_n hx hb dX3_listPairs_20 rfl (lv_at hl 2 rfl) ?_
            refine lv_iconst (v := 2) hx hb dX3_listPairs_21 (by decide) ?_
            refine lv_icmp_gt (tgt := 90) hx hb dX3_listPairs_22 (by decide) (fun c_22 => ?_) (fun c_22 => ?_)
            · have hq := k_t c_22 hq
              have et := kl_exit hq hx20
              subst et
              exact kk20_90 ls _ _ (lv_sub hl [0, 1] rfl) hP hD hS
            · have hq := k_f c_22 hq
              refine lv_aload_n hx hb dX3_listPairs_25 rfl (lv_at hl 0 rfl) ?_
              refine va_get (D := G.1) (ci := 3) (v := .ref qB) (C := RX3) (T := TX3) (N := 5) hx hb hts hi3 hown hK hP 2 rfl rfl 0 (by decide) hw1 (fun _ h9 => h9) rfl dX3_listPairs_26 ?_
              refine lv_iload_n hx hb dX3_listPairs_29 rfl (lv_at hl 1 rfl) ?_
              refine lv_iload_n hx hb dX3_listPairs_30 rfl (lv_at hl 2 rfl) ?_
              obtain ⟨q60, eq60, hq⟩ := ob hq
              have hPc := hP.sub (ws' := [(qB, .inr (0, [.ref qBT, .ref qBC, .ref qBN, .ref qBW, .ref qBL, .int bn, .int bk, .int bs])), (qBN, .inl (G.2.1, 64, .inl bN))]) [0, 1] rfl
              have hKc := hK
              refine vp_callSi (va_Run.run (va_runV (As := [.int s36, .int s56]) (rest := []) ⟨hx, hb, hml, hown, hts⟩ (tX0_beside G l eq60) (cwV 2 hts gX3_listPairs_X0_beside rfl rfl rfl (by decide +kernel) ⟨Nat.le_of_ble_eq_true rfl, Nat.le_of_ble_eq_true rfl⟩) ⟨pcP_blind, va_recv hKc hPc (ci := 0) (q0 := 0) rfl rfl, pcP_pre hPc hKK⟩ rfl rfl hl.1 rfl (lv_room (Nat.le_of_ble_eq_true rfl)) dX3_listPairs_31 ⟨Nat.zero_le _, Nat.zero_le _⟩)) (fun r0 hr0 => ?_)
              obtain rfl := hr0
              refine lv_iconst (v := (-1)) hx hb dX3_listPairs_34 (by decide) ?_
              refine lv_icmp_eq (tgt := 84) hx hb dX3_listPairs_35 (by decide) (fun c_35 => ?_) (fun c_35 => ?_)
              · have hq := k_t c_35 hq
                refine lv_iinc (v := (s56 + 1)) (lv' := [(2, .int (s56 + 1)), (0, .ref qK), (1, .int s36)]) hx hb dX3_listPairs_84 hl (k := 2) rfl rfl (by decide) rfl (fun ls hl => ?_)
                refine lv_goto (tgt := 20) hx hb dX3_listPairs_87 (by decide) ?_
                exact ih20 (s56 + 1) s57 s58 s59 t_20 ls _ _ (kl_back hq hx20) (lv_sub hl [1, 2, 0] rfl) hP hD hS kk20_90
              · have hq := k_f c_35 hq
                refine lv_aload_n hx hb dX3_listPairs_38 rfl (lv_at hl 0 rfl) ?_
                refine va_get (D := G.1) (ci := 3) (v := .int s57) (C := RX3) (T := TX3) (N := 5) hx hb hts hi3 hown hK hP 2 rfl rfl 3 (by decide) hw0 (fun _ h9 => h9) rfl dX3_listPairs_39 ?_
                refine lv_if_lt (tgt := 84) hx hb dX3_listPairs_42 (by decide) (fun c_42 => ?_) (fun c_42 => ?_)
                · have hq := k_t c_42 hq
                  refine lv_iinc (v := (s56 + 1)) (lv' := [(2, .int (s56 + 1)), (0, .ref qK), (1, .int s36)]) hx hb dX3_listPairs_84 hl (k := 2) rfl rfl (by decide) rfl (fun ls hl => ?_)
                  refine lv_goto (tgt := 20) hx hb dX3_listPairs_87 (by decide) ?_
                  exact ih20 (s56 + 1) s57 s58 s59 t_20 ls _ _ (kl_back hq hx20) (lv_sub hl [1, 2, 0] rfl) hP hD hS kk20_90
                · have hq := k_f c_42 hq
                  refine lv_aload_n hx hb dX3_listPairs_45 rfl (lv_at hl 0 rfl) ?_
                  refine va_get (D := G.1) (ci := 3) (v := .int s57) (C := RX3) (T := TX3) (N := 5) hx hb hts hi3 hown hK hP 2 rfl rfl 3 (by decide) hw0 (fun _ h9 => h9) rfl dX3_listPairs_46 ?_
                  refine lv_bipush (v := 32) hx hb dX3_listPairs_49 (by decide) ?_
                  refine lv_icmp_ge (tgt := 84) hx hb dX3_listPairs_51 (by decide) (fun c_51 => ?_) (fun c_51 => ?_)
                  · have hq := k_t c_51 hq
                    refine lv_iinc (v := (s56 + 1)) (lv' := [(2, .int (s56 + 1)), (0, .ref qK), (1, .int s36)]) hx hb dX3_listPairs_84 hl (k := 2) rfl rfl (by decide) rfl (fun ls hl => ?_)
                    refine lv_goto (tgt := 20) hx hb dX3_listPairs_87 (by decide) ?_
                    exact ih20 (s56 + 1) s57 s58 s59 t_20 ls _ _ (kl_back hq hx20) (lv_sub hl [1, 2, 0] rfl) hP hD hS kk20_90
                  · have hq := k_f c_51 hq
                    refine lv_aload_n hx hb dX3_listPairs_54 rfl (lv_at hl 0 rfl) ?_
                    refine va_get (D := G.1) (ci := 3) (v := .ref qKC) (C := RX3) (T := TX3) (N := 5) hx hb hts hi3 hown hK hP 2 rfl rfl 1 (by decide) hw2 (fun _ h9 => h9) rfl dX3_listPairs_55 ?_
                    refine lv_aload_n hx hb dX3_listPairs_58 rfl (lv_at hl 0 rfl) ?_
                    refine va_get (D := G.1) (ci := 3) (v := .int s57) (C := RX3) (T := TX3) (N := 5) hx hb hts hi3 hown hK hP 2 rfl rfl 3 (by decide) hw0 (fun _ h9 => h9) rfl dX3_listPairs_59 ?_
                    refine lv_iload_n hx hb dX3_listPairs_62 rfl (lv_at hl 1 rfl) ?_
                    obtain ⟨hg, hq⟩ := k_g hq
                    refine va_iast hx hb hK hP hD hS 3 0 rfl rfl (ix_in hg) dX3_listPairs_63 (fun H locs hP hD hS => ?_)
                    have hP : va_P G.1 vwCl [(qB, .inr (0, [.ref qBT, .ref qBC, .ref qBN, .ref qBW, .ref qBL, .int bn, .int bk, .int bs])), (qBN, .inl (G.2.1, 64, .inl bN)), (qK, .inr (3, [.ref qB, .ref qKC, .ref qKS, .int s57, .int ku])), (qKC, .inl (G.2.1, 32, .inl (upd s58 s57.toNatClampNeg s36))), (qKS, .inl (G.2.1, 32, .inl s59))] H := hP
                    have hD : va_D A [(qB, .inr (0, [.ref qBT, .ref qBC, .ref qBN, .ref qBW, .ref qBL, .int bn, .int bk, .int bs])), (qBN, .inl (G.2.1, 64, .inl bN)), (qK, .inr (3, [.ref qB, .ref qKC, .ref qKS, .int s57, .int ku])), (qKC, .inl (G.2.1, 32, .inl (upd s58 s57.toNatClampNeg s36))), (qKS, .inl (G.2.1, 32, .inl s59))] := hD
                    refine lv_aload_n hx hb dX3_listPairs_64 rfl (lv_at hl 0 rfl) ?_
                    refine va_get (D := G.1) (ci := 3) (v := .ref qKS) (C := RX3) (T := TX3) (N := 5) hx hb hts hi3 hown hK hP 2 rfl rfl 2 (by decide) hw3 (fun _ h9 => h9) rfl dX3_listPairs_65 ?_
                    refine lv_aload_n hx hb dX3_listPairs_68 rfl (lv_at hl 0 rfl) ?_
                    refine va_get (D := G.1) (ci := 3) (v := .int s57) (C := RX3) (T := TX3) (N := 5) hx hb hts hi3 hown hK hP 2 rfl rfl 3 (by decide) hw0 (fun _ h9 => h9) rfl dX3_listPairs_69 ?_
                    refine lv_iload_n hx hb dX3_listPairs_72 rfl (lv_at hl 2 rfl) ?_
                    obtain ⟨hg, hq⟩ := k_g hq
                    refine va_iast hx hb hK hP hD hS 4 0 rfl rfl (ix_in hg) dX3_listPairs_73 (fun H locs hP hD hS => ?_)
                    have hP : va_P G.1 vwCl [(qB, .inr (0, [.ref qBT, .ref qBC, .ref qBN, .ref qBW, .ref qBL, .int bn, .int bk, .int bs])), (qBN, .inl (G.2.1, 64, .inl bN)), (qK, .inr (3, [.ref qB, .ref qKC, .ref qKS, .int s57, .int ku])), (qKC, .inl (G.2.1, 32, .inl (upd s58 s57.toNatClampNeg s36))), (qKS, .inl (G.2.1, 32, .inl (upd s59 s57.toNatClampNeg s56)))] H := hP
                    have hD : va_D A [(qB, .inr (0, [.ref qBT, .ref qBC, .ref qBN, .ref qBW, .ref qBL, .int bn, .int bk, .int bs])), (qBN, .inl (G.2.1, 64, .inl bN)), (qK, .inr (3, [.ref qB, .ref qKC, .ref qKS, .int s57, .int ku])), (qKC, .inl (G.2.1, 32, .inl (upd s58 s57.toNatClampNeg s36))), (qKS, .inl (G.2.1, 32, .inl (upd s59 s57.toNatClampNeg s56)))] := hD
                    refine lv_aload_n hx hb dX3_listPairs_74 rfl (lv_at hl 0 rfl) ?_
                    refine lv_dup hx hb dX3_listPairs_75 rfl ?_
                    refine va_get (D := G.1) (ci := 3) (v := .int s57) (C := RX3) (T := TX3) (N := 5) hx hb hts hi3 hown hK hP 2 rfl rfl 3 (by decide) hw0 (fun _ h9 => h9) rfl dX3_listPairs_76 ?_
                    refine lv_iconst (v := 1) hx hb dX3_listPairs_79 (by decide) ?_
                    refine lv_iadd hx hb dX3_listPairs_80 ?_
                    refine va_put (D := G.1) (ci := 3) (v := .int (s57 + 1)) (ty := .int) (C := RX3) (T := TX3) (N := 5) hx hb hts hi3 tyX3 tyX3_ok nmX3 hown hK hP hD hS 2 rfl rfl 3 (by decide) hw0 (fun _ h9 => h9) rfl (by decide +kernel) rfl rfl (Nat.le_of_ble_eq_true rfl) dX3_listPairs_81 (fun H locs hP hD hS => ?_)
                    have hP : va_P G.1 vwCl [(qB, .inr (0, [.ref qBT, .ref qBC, .ref qBN, .ref qBW, .ref qBL, .int bn, .int bk, .int bs])), (qBN, .inl (G.2.1, 64, .inl bN)), (qK, .inr (3, [.ref qB, .ref qKC, .ref qKS, .int (s57 + 1), .int ku])), (qKC, .inl (G.2.1, 32, .inl (upd s58 s57.toNatClampNeg s36))), (qKS, .inl (G.2.1, 32, .inl (upd s59 s57.toNatClampNeg s56)))] H := hP
                    have hD : va_D A [(qB, .inr (0, [.ref qBT, .ref qBC, .ref qBN, .ref qBW, .ref qBL, .int bn, .int bk, .int bs])), (qBN, .inl (G.2.1, 64, .inl bN)), (qK, .inr (3, [.ref qB, .ref qKC, .ref qKS, .int (s57 + 1), .int ku])), (qKC, .inl (G.2.1, 32, .inl (upd s58 s57.toNatClampNeg s36))), (qKS, .inl (G.2.1, 32, .inl (upd s59 s57.toNatClampNeg s56)))] := hD
                    refine lv_iinc (v := (s56 + 1)) (lv' := [(2, .int (s56 + 1)), (0, .ref qK), (1, .int s36)]) hx hb dX3_listPairs_84 hl (k := 2) rfl rfl (by decide) rfl (fun ls hl => ?_)
                    refine lv_goto (tgt := 20) hx hb dX3_listPairs_87 (by decide) ?_
                    exact ih20 (s56 + 1) (s57 + 1) (upd s58 s57.toNatClampNeg s36) (upd s59 s57.toNatClampNeg s56) t_20 ls _ _ (kl_back hq hx20) (lv_sub hl [1, 2, 0] rfl) hP hD hS kk20_90
        obtain ⟨q70, eq70, hq⟩ := ob hq
        refine L20 F 1 s37 s38 s39 q70 ls _ _ (eq70) (lv_sub hl [1, 2, 0] rfl) hP hD hS (fun ls H locs hl hP hD hS => ?_)
        · refine lv_iinc (v := (s36 + 1)) (lv' := [(1, .int (s36 + 1)), (0, .ref qK)]) hx hb dX3_listPairs_90 hl (k := 1) rfl rfl (by decide) rfl (fun ls hl => ?_)
          refine lv_goto (tgt := 7) hx hb dX3_listPairs_93 (by decide) ?_
          exact ih7 (s36 + 1) q70.1 q70.2.1 q70.2.2 t_7 ls _ _ (kl_back hq hx7) (lv_sub hl [1, 0] rfl) hP hD hS kk7_96
  obtain ⟨q71, eq71, hq⟩ := ob hq
  refine L7 F 0 0 kC kS q71 ls _ _ (eq71) (lv_sub hl [1, 0] rfl) hP hD hS (fun ls H locs hl hP hD hS => ?_)
  · obtain rfl := Option.some.inj hq
    rw [hQ]
    exact W.vret hx hb hr (fun t ht hW => ⟨⟨(), rfl, trivial, va_Pat ht hP⟩, hS.F ht⟩) hS.2.2 dX3_listPairs_96

abbrev rmX3_exchange : Room := { frames := 0, cells := 0, slots := 0, locals := 0 }
set_option maxHeartbeats 40000000 in
set_option maxRecDepth 100000 in
theorem tX3_exchange (G : GG) (l : Launch) {qP0 : Nat} {n0 : Nat} {p0 : Nat → Int32} {x1 : Int32} {x2 : Int32} {sz : Nat} {F : Nat} {r : Nat → Int32} (hq : kX3_exchange F n0 p0 x1 x2 = some r) : Met l yX3_exchange wsX3_exchange rmX3_exchange (pcW G [(qP0, .inl (G.2.1, n0, .inl p0))] sz [.ref qP0, .int x1, .int x2]) (qcV G [(qP0, .inl (G.2.1, n0, .inl r))] (va_A [(qP0, .inl (G.2.1, n0, .inl p0))] sz)) 0 0 (va_A [(qP0, .inl (G.2.1, n0, .inl p0))] sz) := by
  refine Met.ofW (cc := cX3_exchange) (maxL := 4) (ret := none) (by decide) rfl ?_
  intro p e s m args below meth c s₁ B hml hv
  obtain ⟨rfl, hsz, hP, hKK, hD0⟩ := hv
  have hK := hKK.1
  have hx := B.exec
  have hb := B.bytes
  have hr := B.returns
  have hts := atoms_spec (ws := wsX3_exchange) B.pre
  have hown : s.vm.findClass RX3 = some m.cls := findClass_of_methodNamed B.named
  have hlocks := B.notSynchronized
  subst hsz
  have hD := hD0.self (sz := s.heap.size)
  generalize hAe : va_A [(qP0, .inl (G.2.1, n0, .inl p0))] s.heap.size = A at hD ⊢
  have hA : ∀ q : Nat, s.heap.size ≤ q → A q := fun q h => by rw [← hAe]; exact Or.inr h
  have hS : va_S A s.heap s.heap [] := va_S.rf
  have hl := lv_entry ([.ref qP0, .int x1, .int x2] : List Value) (n := 4) (Nat.le_of_ble_eq_true rfl)
  rw [lg_entry_eq]
  generalize (lg_sl ([.ref qP0, .int x1, .int x2] : List Value) ++ List.replicate (4 - (lg_sl ([.ref qP0, .int x1, .int x2] : List Value)).length) Slot.unset).toArray = ls at hl ⊢
  have hl : lv_has ls 4 [(0, .ref qP0), (1, .int x1), (2, .int x2)] := hl
  refine wq (fun Q hQ => ?_)
  unfold kX3_exchange at hq
  refine lv_iload_n hx hb dX3_exchange_0 rfl (lv_at hl 1 rfl) ?_
  refine lv_if_lt (tgt := 34) hx hb dX3_exchange_1 (by decide) (fun c_1 => ?_) (fun c_1 => ?_)
  · have hq := k_t c_1 hq
    obtain rfl := Option.some.inj hq
    rw [hQ]
    exact W.vret hx hb hr (fun t ht hW => ⟨⟨(), rfl, trivial, va_Pat ht hP⟩, hS.F ht⟩) hS.2.2 dX3_exchange_34
  · have hq := k_f c_1 hq
    refine lv_iload_n hx hb dX3_exchange_4 rfl (lv_at hl 1 rfl) ?_
    refine lv_aload_n hx hb dX3_exchange_5 rfl (lv_at hl 0 rfl) ?_
    refine va_alen hx hb hK hP 0 0 rfl rfl (v := (Int32.ofNat n0)) rfl dX3_exchange_6 ?_
    refine lv_icmp_ge (tgt := 34) hx hb dX3_exchange_7 (by decide) (fun c_7 => ?_) (fun c_7 => ?_)
    · have hq := k_t c_7 hq
      obtain rfl := Option.some.inj hq
      rw [hQ]
      exact W.vret hx hb hr (fun t ht hW => ⟨⟨(), rfl, trivial, va_Pat ht hP⟩, hS.F ht⟩) hS.2.2 dX3_exchange_34
    · have hq := k_f c_7 hq
      refine lv_iload_n hx hb dX3_exchange_10 rfl (lv_at hl 2 rfl) ?_
      refine lv_if_lt (tgt := 34) hx hb dX3_exchange_11 (by decide) (fun c_11 => ?_) (fun c_11 => ?_)
      · have hq := k_t c_11 hq
        obtain rfl := Option.some.inj hq
        rw [hQ]
        exact W.vret hx hb hr (fun t ht hW => ⟨⟨(), rfl, trivial, va_Pat ht hP⟩, hS.F ht⟩) hS.2.2 dX3_exchange_34
      · have hq := k_f c_11 hq
        refine lv_iload_n hx hb dX3_exchange_14 rfl (lv_at hl 2 rfl) ?_
        refine lv_aload_n hx hb dX3_exchange_15 rfl (lv_at hl 0 rfl) ?_
        refine va_alen hx hb hK hP 0 0 rfl rfl (v := (Int32.ofNat n0)) rfl dX3_exchange_16 ?_
        refine lv_icmp_ge (tgt := 34) hx hb dX3_exchange_17 (by decide) (fun c_17 => ?_) (fun c_17 => ?_)
        · have hq := k_t c_17 hq
          obtain rfl := Option.some.inj hq
          rw [hQ]
          exact W.vret hx hb hr (fun t ht hW => ⟨⟨(), rfl, trivial, va_Pat ht hP⟩, hS.F ht⟩) hS.2.2 dX3_exchange_34
        · have hq := k_f c_17 hq
          refine lv_aload_n hx hb dX3_exchange_20 rfl (lv_at hl 0 rfl) ?_
          refine lv_iload_n hx hb dX3_exchange_21 rfl (lv_at hl 1 rfl) ?_
          obtain ⟨hg, hq⟩ := k_g hq
          refine va_iald hx hb hK hP 0 0 rfl rfl (ix_in hg) dX3_exchange_22 ?_
          refine lv_istore_n (lv' := [(3, .int (p0 x1.toNatClampNeg)), (0, .ref qP0), (1, .int x1), (2, .int x2)]) hx hb dX3_exchange_23 rfl hl (by decide) rfl (fun ls hl => ?_)
          refine lv_aload_n hx hb dX3_exchange_24 rfl (lv_at hl 1 rfl) ?_
          refine lv_iload_n hx hb dX3_exchange_25 rfl (lv_at hl 2 rfl) ?_
          refine lv_aload_n hx hb dX3_exchange_26 rfl (lv_at hl 1 rfl) ?_
          refine lv_iload_n hx hb dX3_exchange_27 rfl (lv_at hl 3 rfl) ?_
          obtain ⟨hg, hq⟩ := k_g hq
          refine va_iald hx hb hK hP 0 0 rfl rfl (ix_in hg) dX3_exchange_28 ?_
          obtain ⟨hg, hq⟩ := k_g hq
          refine va_iast hx hb hK hP hD hS 0 0 rfl rfl (ix_in hg) dX3_exchange_29 (fun H locs hP hD hS => ?_)
          have hP : va_P G.1 vwCl [(qP0, .inl (G.2.1, n0, .inl (upd p0 x1.toNatClampNeg (p0 x2.toNatClampNeg))))] H := hP
          have hD : va_D A [(qP0, .inl (G.2.1, n0, .inl (upd p0 x1.toNatClampNeg (p0 x2.toNatClampNeg))))] := hD
          refine lv_aload_n hx hb dX3_exchange_30 rfl (lv_at hl 1 rfl) ?_
          refine lv_iload_n hx hb dX3_exchange_31 rfl (lv_at hl 3 rfl) ?_
          refine lv_iload_n hx hb dX3_exchange_32 rfl (lv_at hl 0 rfl) ?_
          obtain ⟨hg, hq⟩ := k_g hq
          refine va_iast hx hb hK hP hD hS 0 0 rfl rfl (ix_in hg) dX3_exchange_33 (fun H locs hP hD hS => ?_)
          have hP : va_P G.1 vwCl [(qP0, .inl (G.2.1, n0, .inl (upd (upd p0 x1.toNatClampNeg (p0 x2.toNatClampNeg)) x2.toNatClampNeg (p0 x1.toNatClampNeg))))] H := hP
          have hD : va_D A [(qP0, .inl (G.2.1, n0, .inl (upd (upd p0 x1.toNatClampNeg (p0 x2.toNatClampNeg)) x2.toNatClampNeg (p0 x1.toNatClampNeg))))] := hD
          obtain rfl := Option.some.inj hq
          rw [hQ]
          exact W.vret hx hb hr (fun t ht hW => ⟨⟨(), rfl, trivial, va_Pat ht hP⟩, hS.F ht⟩) hS.2.2 dX3_exchange_34

abbrev rmX3_mixPairs : Room := { frames := 1, cells := 0, slots := 0, locals := 23 }
set_option maxHeartbeats 40000000 in
set_option maxRecDepth 100000 in
theorem tX3_mixPairs (G : GG) (l : Launch) {qK qB qKC qKS : Nat} {kp : Int32} {ku : Int32} {kC : Nat → Int32} {kS : Nat → Int32} {sz : Nat} {F : Nat} {r : Int32 × (Nat → Int32) × (Nat → Int32)} (hq : kX3_mixPairs F kp ku kC kS = some r) : Met l yX3_mixPairs wsX3_mixPairs rmX3_mixPairs (pcW G [(qK, .inr (3, [.ref qB, .ref qKC, .ref qKS, .int kp, .int ku])), (qKC, .inl (G.2.1, 32, .inl kC)), (qKS, .inl (G.2.1, 32, .inl kS))] sz [.ref qK]) (qcV G [(qK, .inr (3, [.ref qB, .ref qKC, .ref qKS, .int kp, .int r.1])), (qKC, .inl (G.2.1, 32, .inl r.2.1)), (qKS, .inl (G.2.1, 32, .inl r.2.2))] (va_A [(qK, .inr (3, [.ref qB, .ref qKC, .ref qKS, .int kp, .int ku])), (qKC, .inl (G.2.1, 32, .inl kC)), (qKS, .inl (G.2.1, 32, .inl kS))] sz)) 0 0 (va_A [(qK, .inr (3, [.ref qB, .ref qKC, .ref qKS, .int kp, .int ku])), (qKC, .inl (G.2.1, 32, .inl kC)), (qKS, .inl (G.2.1, 32, .inl kS))] sz) := by
  refine Met.ofW (cc := cX3_mixPairs) (maxL := 3) (ret := none) (by decide) rfl ?_
  intro p e s m args below meth c s₁ B hml hv
  obtain ⟨rfl, hsz, hP, hKK, hD0⟩ := hv
  have hK := hKK.1
  have hx := B.exec
  have hb := B.bytes
  have hr := B.returns
  have hts := atoms_spec (ws := wsX3_mixPairs) B.pre
  have hown : s.vm.findClass RX3 = some m.cls := findClass_of_methodNamed B.named
  have hlocks := B.notSynchronized
  subst hsz
  have hD := hD0.self (sz := s.heap.size)
  generalize hAe : va_A [(qK, .inr (3, [.ref qB, .ref qKC, .ref qKS, .int kp, .int ku])), (qKC, .inl (G.2.1, 32, .inl kC)), (qKS, .inl (G.2.1, 32, .inl kS))] s.heap.size = A at hD ⊢
  have hA : ∀ q : Nat, s.heap.size ≤ q → A q := fun q h => by rw [← hAe]; exact Or.inr h
  have hS : va_S A s.heap s.heap [] := va_S.rf
  have hl := lv_entry ([.ref qK] : List Value) (n := 3) (Nat.le_of_ble_eq_true rfl)
  rw [lg_entry_eq]
  generalize (lg_sl ([.ref qK] : List Value) ++ List.replicate (3 - (lg_sl ([.ref qK] : List Value)).length) Slot.unset).toArray = ls at hl ⊢
  have hl : lv_has ls 3 [(0, .ref qK)] := hl
  have hi3 : ∀ w ∈ u_ws RX3 TX3 5, w ∈ wsX3_mixPairs := by decide +kernel
  have hw0 : (Cond.fieldLink RX3 32 "NetPlumber$Maker" "pairs" "I").before #[Value.ref qK] s = true := hts _ (by decide +kernel)
  have hw1 : (Cond.fieldLink RX3 11 "NetPlumber$Maker" "pairCells" "[I").before #[Value.ref qK] s = true := hts _ (by decide +kernel)
  have hw2 : (Cond.fieldLink RX3 15 "NetPlumber$Maker" "pairSides" "[I").before #[Value.ref qK] s = true := hts _ (by decide +kernel)
  refine wq (fun Q hQ => ?_)
  unfold kX3_mixPairs at hq
  refine lv_aload_n hx hb dX3_mixPairs_0 rfl (lv_at hl 0 rfl) ?_
  refine va_get (D := G.1) (ci := 3) (v := .int kp) (C := RX3) (T := TX3) (N := 5) hx hb hts hi3 hown hK hP 0 rfl rfl 3 (by decide) hw0 (fun _ h9 => h9) rfl dX3_mixPairs_1 ?_
  refine lv_iconst (v := 1) hx hb dX3_mixPairs_4 (by decide) ?_
  refine lv_isub hx hb dX3_mixPairs_5 ?_
  refine lv_istore_n (lv' := [(1, .int (kp - 1)), (0, .ref qK)]) hx hb dX3_mixPairs_6 rfl hl (by decide) rfl (fun ls hl => ?_)
  have L7 : ∀ (n : Nat) (s8 : Int32) (s9 : Int32) (s10 : Nat → Int32) (s11 : Nat → Int32) (t_7 : Int32 × (Nat → Int32) × (Nat → Int32)) (ls : Array Slot) (H : Heap) (locs : List Loc), kloop n (fun s_ => kX3_mixPairs_s7 F s_.1 s_.2.1 s_.2.2.1 s_.2.2.2) (s8, s9, s10, s11) = some t_7 → lv_has ls 3 [(0, .ref qK), (1, .int s8)] → va_P G.1 vwCl [(qK, .inr (3, [.ref qB, .ref qKC, .ref qKS, .int kp, .int s9])), (qKC, .inl (G.2.1, 32, .inl s10)), (qKS, .inl (G.2.1, 32, .inl s11))] H → va_D A [(qK, .inr (3, [.ref qB, .ref qKC, .ref qKS, .int kp, .int s9])), (qKC, .inl (G.2.1, 32, .inl s10)), (qKS, .inl (G.2.1, 32, .inl s11))] → va_S A s.heap H locs → (∀ (ls : Array Slot) (H : Heap) (locs : List Loc), lv_has ls 3 [] → va_P G.1 vwCl [(qK, .inr (3, [.ref qB, .ref qKC, .ref qKS, .int kp, .int t_7.1])), (qKC, .inl (G.2.1, 32, .inl t_7.2.1)), (qKS, .inl (G.2.1, 32, .inl t_7.2.2))] H → va_D A [(qK, .inr (3, [.ref qB, .ref qKC, .ref qKS, .int kp, .int t_7.1])), (qKC, .inl (G.2.1, 32, .inl t_7.2.1)), (qKS, .inl (G.2.1, 32, .inl t_7.2.2))] → va_S A s.heap H locs → W p l e (headSpec wsX3_mixPairs rmX3_mixPairs).room s m ([.ref qK] : List Value).toArray below meth c H locs 0 0 Q (F0 m 44 ls [])) → W p l e (headSpec wsX3_mixPairs rmX3_mixPairs).room s m ([.ref qK] : List Value).toArray below meth c H locs 0 0 Q (F0 m 7 ls []) := by
    intro n
    induction n with
    | zero => 
      intro s8 s9 s10 s11 t_7 ls H locs hq hl hP hD hS kk7_44
      exact absurd hq kl_0
    | succ n ih7 =>
      intro s8 s9 s10 s11 t_7 ls H locs hq hl hP hD hS kk7_44
      obtain ⟨y_7, hq, hx7⟩ := kl_s hq
      have hq : kX3_mixPairs_s7 F s8 s9 s10 s11 = some y_7 := hq
      unfold kX3_mixPairs_s7 at hq
      refine lv_iload_n hx hb dX3_mixPairs_7 rfl (lv_at hl 1 rfl) ?_
      refine lv_if_le (tgt := 44) hx hb dX3_mixPairs_8 (by decide) (fun c_8 => ?_) (fun c_8 => ?_)
      · have hq := k_t c_8 hq
        have et := kl_exit hq hx7
        subst et
        exact kk7_44 ls _ _ (lv_sub hl [] rfl) hP hD hS
      · have hq := k_f c_8 hq
        refine lv_aload_n hx hb dX3_mixPairs_11 rfl (lv_at hl 0 rfl) ?_
        obtain ⟨q12, eq12, hq⟩ := ob hq
        have hPc := hP.sub (ws' := [(qK, .inr (3, [.ref qB, .ref qKC, .ref qKS, .int kp, .int s9]))]) [0] rfl
        have hKc := hK
        have hDc := hD.sub (ws' := [(qK, .inr (3, [.ref qB, .ref qKC, .ref qKS, .int kp, .int s9]))]) [0] (by decide) rfl
        have hFc := va_free (wc := [(qK, .inr (3, [.ref qB, .ref qKC, .ref qKS, .int kp, .int s9]))]) hD hS hA [0] rfl
        refine va_calli (va_runV (As := []) (rest := []) ⟨hx, hb, hml, hown, hts⟩ (tX3_draw G l eq12) (cwV 0 hts gX3_mixPairs_X3_draw rfl rfl rfl (by decide +kernel) ⟨Nat.le_of_ble_eq_true rfl, Nat.le_of_ble_eq_true rfl⟩) ⟨pcW_blind, va_recv hKc hPc (ci := 3) (q0 := 0) rfl rfl, pcW_pre hPc hKK hDc⟩ rfl rfl hl.1 rfl (lv_room (Nat.le_of_ble_eq_true rfl)) dX3_mixPairs_12 ⟨Nat.zero_le _, Nat.zero_le _⟩) hS (fun q _ h => hFc q h) hFc (fun r0 u t H1 locs ht hvm hw hB hz1 hk1 hS => ?_)
        obtain rfl := hw
        have hB := va_Pto ht hB
        obtain ⟨hP, hD⟩ := jn (ws' := [(qK, .inr (3, [.ref qB, .ref qKC, .ref qKS, .int kp, .int q12.2])), (qKC, .inl (G.2.1, 32, .inl s10)), (qKS, .inl (G.2.1, 32, .inl s11))]) hP hD hk1 hB [0] rfl rfl rfl rfl
        generalize H1 = H at hP hS ⊢
        refine lv_iload_n hx hb dX3_mixPairs_15 rfl (lv_at hl 1 rfl) ?_
        refine lv_iconst (v := 1) hx hb dX3_mixPairs_16 (by decide) ?_
        refine lv_iadd hx hb dX3_mixPairs_17 ?_
        obtain ⟨hg, hq⟩ := k_g hq
        refine lv_irem hx hb dX3_mixPairs_18 (nz_n hg) ?_
        refine lv_istore_n (lv' := [(2, .int (q12.1 - q12.1 / (s8 + 1) * (s8 + 1))), (0, .ref qK), (1, .int s8)]) hx hb dX3_mixPairs_19 rfl hl (by decide) rfl (fun ls hl => ?_)
        refine lv_aload_n hx hb dX3_mixPairs_20 rfl (lv_at hl 1 rfl) ?_
        refine va_get (D := G.1) (ci := 3) (v := .ref qKC) (C := RX3) (T := TX3) (N := 5) hx hb hts hi3 hown hK hP 0 rfl rfl 1 (by decide) hw1 (fun _ h9 => h9) rfl dX3_mixPairs_21 ?_
        refine lv_iload_n hx hb dX3_mixPairs_24 rfl (lv_at hl 2 rfl) ?_
        refine lv_iload_n hx hb dX3_mixPairs_25 rfl (lv_at hl 0 rfl) ?_
        obtain ⟨q13, eq13, hq⟩ := ob hq
        have hPc := hP.sub (ws' := [(qKC, .inl (G.2.1, 32, .inl s10))]) [1] rfl
        have hDc := hD.sub (ws' := [(qKC, .inl (G.2.1, 32, .inl s10))]) [1] (by decide) rfl
        have hFc := va_free (wc := [(qKC, .inl (G.2.1, 32, .inl s10))]) hD hS hA [1] rfl
        refine va_callv (va_runS (As := [.ref qKC, .int s8, .int (q12.1 - q12.1 / (s8 + 1) * (s8 + 1))]) (rest := []) ⟨hx, hb, hml, hown, hts⟩ (tX3_exchange G l eq13) (va_cwS 3 hts gX3_mixPairs_X3_exchange rfl rfl rfl (by decide +kernel) ⟨Nat.le_of_ble_eq_true rfl, Nat.le_of_ble_eq_true rfl⟩) ⟨pcW_blind, pcW_pre hPc hKK hDc⟩ rfl rfl hl.1 rfl (lv_room (Nat.le_of_ble_eq_true rfl)) dX3_mixPairs_26 ⟨Nat.zero_le _, Nat.zero_le _⟩) hS (fun q _ h => hFc q h) hFc (fun u t H1 locs ht hvm hw hB hz1 hk1 hS => ?_)
        have hB := va_Pto ht hB
        obtain ⟨hP, hD⟩ := jn (ws' := [(qK, .inr (3, [.ref qB, .ref qKC, .ref qKS, .int kp, .int q12.2])), (qKC, .inl (G.2.1, 32, .inl q13)), (qKS, .inl (G.2.1, 32, .inl s11))]) hP hD hk1 hB [1] rfl rfl rfl rfl
        generalize H1 = H at hP hS ⊢
        refine lv_aload_n hx hb dX3_mixPairs_29 rfl (lv_at hl 1 rfl) ?_
        refine va_get (D := G.1) (ci := 3) (v := .ref qKS) (C := RX3) (T := TX3) (N := 5) hx hb hts hi3 hown hK hP 0 rfl rfl 2 (by decide) hw2 (fun _ h9 => h9) rfl dX3_mixPairs_30 ?_
        refine lv_iload_n hx hb dX3_mixPairs_33 rfl (lv_at hl 2 rfl) ?_
        refine lv_iload_n hx hb dX3_mixPairs_34 rfl (lv_at hl 0 rfl) ?_
        obtain ⟨q14, eq14, hq⟩ := ob hq
        have hPc := hP.sub (ws' := [(qKS, .inl (G.2.1, 32, .inl s11))]) [2] rfl
        have hDc := hD.sub (ws' := [(qKS, .inl (G.2.1, 32, .inl s11))]) [2] (by decide) rfl
        have hFc := va_free (wc := [(qKS, .inl (G.2.1, 32, .inl s11))]) hD hS hA [2] rfl
        refine va_callv (va_runS (As := [.ref qKS, .int s8, .int (q12.1 - q12.1 / (s8 + 1) * (s8 + 1))]) (rest := []) ⟨hx, hb, hml, hown, hts⟩ (tX3_exchange G l eq14) (va_cwS 3 hts gX3_mixPairs_X3_exchange rfl rfl rfl (by decide +kernel) ⟨Nat.le_of_ble_eq_true rfl, Nat.le_of_ble_eq_true rfl⟩) ⟨pcW_blind, pcW_pre hPc hKK hDc⟩ rfl rfl hl.1 rfl (lv_room (Nat.le_of_ble_eq_true rfl)) dX3_mixPairs_35 ⟨Nat.zero_le _, Nat.zero_le _⟩) hS (fun q _ h => hFc q h) hFc (fun u t H1 locs ht hvm hw hB hz1 hk1 hS => ?_)
        have hB := va_Pto ht hB
        obtain ⟨hP, hD⟩ := jn (ws' := [(qK, .inr (3, [.ref qB, .ref qKC, .ref qKS, .int kp, .int q12.2])), (qKC, .inl (G.2.1, 32, .inl q13)), (qKS, .inl (G.2.1, 32, .inl q14))]) hP hD hk1 hB [2] rfl rfl rfl rfl
        generalize H1 = H at hP hS ⊢
        refine lv_iinc (v := (s8 + (-1))) (lv' := [(1, .int (s8 + (-1))), (2, .int (q12.1 - q12.1 / (s8 + 1) * (s8 + 1))), (0, .ref qK)]) hx hb dX3_mixPairs_38 hl (k := 2) rfl rfl (by decide) rfl (fun ls hl => ?_)
        refine lv_goto (tgt := 7) hx hb dX3_mixPairs_41 (by decide) ?_
        exact ih7 (s8 + (-1)) q12.2 q13 q14 t_7 ls _ _ (kl_back hq hx7) (lv_sub hl [2, 0] rfl) hP hD hS kk7_44
  obtain ⟨q15, eq15, hq⟩ := ob hq
  refine L7 F (kp - 1) ku kC kS q15 ls _ _ (eq15) (lv_sub hl [1, 0] rfl) hP hD hS (fun ls H locs hl hP hD hS => ?_)
  · obtain rfl := Option.some.inj hq
    rw [hQ]
    exact W.vret hx hb hr (fun t ht hW => ⟨⟨(), rfl, trivial, va_Pat ht hP⟩, hS.F ht⟩) hS.2.2 dX3_mixPairs_44

abbrev rmX3_joinPair : Room := { frames := 4, cells := 0, slots := 0, locals := 91 }
set_option maxHeartbeats 40000000 in
set_option maxRecDepth 100000 in
theorem tX3_joinPair (G : GG) (l : Launch) {qB qBT qBC qBN qBW qBL qK qKC qKS : Nat} {bn : Int32} {bk : Int32} {bs : Int32} {bT : Nat → Int32} {bN : Nat → Int32} {bW : Nat → Int32} {bL : Nat → Int32} {kp : Int32} {ku : Int32} {x1 : Int32} {x2 : Int32} {sz : Nat} {F : Nat} {r : (Nat → Int32) × (Nat → Int32)} (hq : kX3_joinPair F bn bT bN bW bL x1 x2 = some r) : Met l yX3_joinPair wsX3_joinPair rmX3_joinPair (pcW G [(qB, .inr (0, [.ref qBT, .ref qBC, .ref qBN, .ref qBW, .ref qBL, .int bn, .int bk, .int bs])), (qBT, .inl (G.2.1, 16, .inl bT)), (qBN, .inl (G.2.1, 64, .inl bN)), (qBW, .inl (G.2.1, 64, .inl bW)), (qBL, .inl (G.2.1, 16, .inl bL)), (qK, .inr (3, [.ref qB, .ref qKC, .ref qKS, .int kp, .int ku]))] sz [.ref qK, .int x1, .int x2]) (qcV G [(qB, .inr (0, [.ref qBT, .ref qBC, .ref qBN, .ref qBW, .ref qBL, .int bn, .int bk, .int bs])), (qBT, .inl (G.2.1, 16, .inl r.1)), (qBN, .inl (G.2.1, 64, .inl bN)), (qBW, .inl (G.2.1, 64, .inl bW)), (qBL, .inl (G.2.1, 16, .inl r.2)), (qK, .inr (3, [.ref qB, .ref qKC, .ref qKS, .int kp, .int ku]))] (va_A [(qB, .inr (0, [.ref qBT, .ref qBC, .ref qBN, .ref qBW, .ref qBL, .int bn, .int bk, .int bs])), (qBT, .inl (G.2.1, 16, .inl bT)), (qBN, .inl (G.2.1, 64, .inl bN)), (qBW, .inl (G.2.1, 64, .inl bW)), (qBL, .inl (G.2.1, 16, .inl bL)), (qK, .inr (3, [.ref qB, .ref qKC, .ref qKS, .int kp, .int ku]))] sz)) 0 0 (va_A [(qB, .inr (0, [.ref qBT, .ref qBC, .ref qBN, .ref qBW, .ref qBL, .int bn, .int bk, .int bs])), (qBT, .inl (G.2.1, 16, .inl bT)), (qBN, .inl (G.2.1, 64, .inl bN)), (qBW, .inl (G.2.1, 64, .inl bW)), (qBL, .inl (G.2.1, 16, .inl bL)), (qK, .inr (3, [.ref qB, .ref qKC, .ref qKS, .int kp, .int ku]))] sz) := by
  refine Met.ofW (cc := cX3_joinPair) (maxL := 4) (ret := none) (by decide) rfl ?_
  intro p e s m args below meth c s₁ B hml hv
  obtain ⟨rfl, hsz, hP, hKK, hD0⟩ := hv
  have hK := hKK.1
  have hx := B.exec
  have hb := B.bytes
  have hr := B.returns
  have hts := atoms_spec (ws := wsX3_joinPair) B.pre
  have hown : s.vm.findClass RX3 = some m.cls := findClass_of_methodNamed B.named
  have hlocks := B.notSynchronized
  subst hsz
  have hD := hD0.self (sz := s.heap.size)
  generalize hAe : va_A [(qB, .inr (0, [.ref qBT, .ref qBC, .ref qBN, .ref qBW, .ref qBL, .int bn, .int bk, .int bs])), (qBT, .inl (G.2.1, 16, .inl bT)), (qBN, .inl (G.2.1, 64, .inl bN)), (qBW, .inl (G.2.1, 64, .inl bW)), (qBL, .inl (G.2.1, 16, .inl bL)), (qK, .inr (3, [.ref qB, .ref qKC, .ref qKS, .int kp, .int ku]))] s.heap.size = A at hD ⊢
  have hA : ∀ q : Nat, s.heap.size ≤ q → A q := fun q h => by rw [← hAe]; exact Or.inr h
  have hS : va_S A s.heap s.heap [] := va_S.rf
  have hl := lv_entry ([.ref qK, .int x1, .int x2] : List Value) (n := 4) (Nat.le_of_ble_eq_true rfl)
  rw [lg_entry_eq]
  generalize (lg_sl ([.ref qK, .int x1, .int x2] : List Value) ++ List.replicate (4 - (lg_sl ([.ref qK, .int x1, .int x2] : List Value)).length) Slot.unset).toArray = ls at hl ⊢
  have hl : lv_has ls 4 [(0, .ref qK), (1, .int x1), (2, .int x2)] := hl
  have hi3 : ∀ w ∈ u_ws RX3 TX3 5, w ∈ wsX3_joinPair := by decide +kernel
  have hw0 : (Cond.fieldLink RX3 18 "NetPlumber$Maker" "board" "LNetPlumber$Board;").before #[Value.ref qK, Value.int x1, Value.int x2] s = true := hts _ (by decide +kernel)
  have hw1 : (Cond.initialized RX7).before #[Value.ref qK, Value.int x1, Value.int x2] s = true := hts _ (by decide +kernel)
  have hw2 : (Cond.static yX7_holds).before #[Value.ref qK, Value.int x1, Value.int x2] s = true := hts _ (by decide +kernel)
  have hw3 : (Cond.static yX7_opposite).before #[Value.ref qK, Value.int x1, Value.int x2] s = true := hts _ (by decide +kernel)
  refine wq (fun Q hQ => ?_)
  unfold kX3_joinPair at hq
  refine lv_aload_n hx hb dX3_joinPair_0 rfl (lv_at hl 0 rfl) ?_
  refine va_get (D := G.1) (ci := 3) (v := .ref qB) (C := RX3) (T := TX3) (N := 5) hx hb hts hi3 hown hK hP 5 rfl rfl 0 (by decide) hw0 (fun _ h9 => h9) rfl dX3_joinPair_1 ?_
  refine lv_iload_n hx hb dX3_joinPair_4 rfl (lv_at hl 1 rfl) ?_
  refine lv_iload_n hx hb dX3_joinPair_5 rfl (lv_at hl 2 rfl) ?_
  obtain ⟨q1, eq1, hq⟩ := ob hq
  have hPc := hP.sub (ws' := [(qB, .inr (0, [.ref qBT, .ref qBC, .ref qBN, .ref qBW, .ref qBL, .int bn, .int bk, .int bs])), (qBN, .inl (G.2.1, 64, .inl bN))]) [0, 2] rfl
  have hKc := hK
  refine vp_callSi (va_Run.run (va_runV (As := [.int x1, .int x2]) (rest := []) ⟨hx, hb, hml, hown, hts⟩ (tX0_beside G l eq1) (cwV 2 hts gX3_joinPair_X0_beside rfl rfl rfl (by decide +kernel) ⟨Nat.le_of_ble_eq_true rfl, Nat.le_of_ble_eq_true rfl⟩) ⟨pcP_blind, va_recv hKc hPc (ci := 0) (q0 := 0) rfl rfl, pcP_pre hPc hKK⟩ rfl rfl hl.1 rfl (lv_room (Nat.le_of_ble_eq_true rfl)) dX3_joinPair_6 ⟨Nat.zero_le _, Nat.zero_le _⟩)) (fun r0 hr0 => ?_)
  obtain rfl := hr0
  refine lv_istore_n (lv' := [(3, .int q1), (0, .ref qK), (1, .int x1), (2, .int x2)]) hx hb dX3_joinPair_9 rfl hl (by decide) rfl (fun ls hl => ?_)
  refine lv_iload_n hx hb dX3_joinPair_10 rfl (lv_at hl 0 rfl) ?_
  refine lv_iconst (v := (-1)) hx hb dX3_joinPair_11 (by decide) ?_
  refine lv_icmp_eq (tgt := 73) hx hb dX3_joinPair_12 (by decide) (fun c_12 => ?_) (fun c_12 => ?_)
  · have hq := k_t c_12 hq
    obtain rfl := Option.some.inj hq
    rw [hQ]
    exact W.vret hx hb hr (fun t ht hW => ⟨⟨(), rfl, trivial, va_Pat ht hP⟩, hS.F ht⟩) hS.2.2 dX3_joinPair_73
  · have hq := k_f c_12 hq
    refine lv_aload_n hx hb dX3_joinPair_15 rfl (lv_at hl 1 rfl) ?_
    refine va_get (D := G.1) (ci := 3) (v := .ref qB) (C := RX3) (T := TX3) (N := 5) hx hb hts hi3 hown hK hP 5 rfl rfl 0 (by decide) hw0 (fun _ h9 => h9) rfl dX3_joinPair_16 ?_
    refine lv_iload_n hx hb dX3_joinPair_19 rfl (lv_at hl 2 rfl) ?_
    obtain ⟨q11, eq11, hq⟩ := ob hq
    have hPc := hP.sub (ws' := [(qB, .inr (0, [.ref qBT, .ref qBC, .ref qBN, .ref qBW, .ref qBL, .int bn, .int bk, .int bs])), (qBT, .inl (G.2.1, 16, .inl bT)), (qBW, .inl (G.2.1, 64, .inl bW)), (qBL, .inl (G.2.1, 16, .inl bL))]) [0, 1, 3, 4] rfl
    have hKc := hK
    have hDc := hD.sub (ws' := [(qB, .inr (0, [.ref qBT, .ref qBC, .ref qBN, .ref qBW, .ref qBL, .int bn, .int bk, .int bs])), (qBT, .inl (G.2.1, 16, .inl bT)), (qBW, .inl (G.2.1, 64, .inl bW)), (qBL, .inl (G.2.1, 16, .inl bL))]) [0, 1, 3, 4] (by decide) rfl
    have hFc := va_free (wc := [(qB, .inr (0, [.ref qBT, .ref qBC, .ref qBN, .ref qBW, .ref qBL, .int bn, .int bk, .int bs])), (qBT, .inl (G.2.1, 16, .inl bT)), (qBW, .inl (G.2.1, 64, .inl bW)), (qBL, .inl (G.2.1, 16, .inl bL))]) hD hS hA [0, 1, 3, 4] rfl
    refine va_calli (va_runV (As := [.int x1]) (rest := []) ⟨hx, hb, hml, hown, hts⟩ (tX0_reachedFrom G l eq11) (cwV 1 hts gX3_joinPair_X0_reachedFrom rfl rfl rfl (by decide +kernel) ⟨Nat.le_of_ble_eq_true rfl, Nat.le_of_ble_eq_true rfl⟩) ⟨pcW_blind, va_recv hKc hPc (ci := 0) (q0 := 0) rfl rfl, pcW_pre hPc hKK hDc⟩ rfl rfl hl.1 rfl (lv_room (Nat.le_of_ble_eq_true rfl)) dX3_joinPair_20 ⟨Nat.zero_le _, Nat.zero_le _⟩) hS (fun q _ h => hFc q h) hFc (fun r0 u t H1 locs ht hvm hw hB hz1 hk1 hS => ?_)
    obtain rfl := hw
    have hB := va_Pto ht hB
    obtain ⟨hP, hD⟩ := jn (ws' := [(qB, .inr (0, [.ref qBT, .ref qBC, .ref qBN, .ref qBW, .ref qBL, .int bn, .int bk, .int bs])), (qBT, .inl (G.2.1, 16, .inl bT)), (qBN, .inl (G.2.1, 64, .inl bN)), (qBW, .inl (G.2.1, 64, .inl bW)), (qBL, .inl (G.2.1, 16, .inl q11.2)), (qK, .inr (3, [.ref qB, .ref qKC, .ref qKS, .int kp, .int ku]))]) hP hD hk1 hB [0, 1, 3, 4] rfl rfl rfl rfl
    generalize H1 = H at hP hS ⊢
    refine lv_iload_n hx hb dX3_joinPair_23 rfl (lv_at hl 0 rfl) ?_
    obtain ⟨q12, eq12, hq⟩ := ob hq
    have hPc := hP.sub (ws' := []) [] rfl
    refine vp_callSi (va_Run.run (va_runSN (As := [.int q11.1, .int q1]) (rest := []) ⟨hx, hb, hml, hown, hts⟩ (tX7_holds G l eq12) ⟨va_cnB 2 hts gX3_joinPair_X7_holds_n68 rfl rfl rfl (hKK.2 _ (List.mem_of_getElem? (i := 21) rfl)) hw1 (by decide +kernel) ⟨Nat.le_of_ble_eq_true rfl, Nat.le_of_ble_eq_true rfl⟩, hw2, trivial⟩ ⟨pcP_blind, pcP_pre hPc hKK⟩ rfl rfl hl.1 rfl (lv_room (Nat.le_of_ble_eq_true rfl)) dX3_joinPair_24 ⟨Nat.zero_le _, Nat.zero_le _⟩)) (fun r0 hr0 => ?_)
    obtain rfl := hr0
    refine lv_if_ne (tgt := 73) hx hb dX3_joinPair_27 (by decide) (fun c_27 => ?_) (fun c_27 => ?_)
    · have hq := k_f c_27 hq
      obtain rfl := Option.some.inj hq
      rw [hQ]
      exact W.vret hx hb hr (fun t ht hW => ⟨⟨(), rfl, trivial, va_Pat ht hP⟩, hS.F ht⟩) hS.2.2 dX3_joinPair_73
    · have hq := k_t c_27 hq
      refine lv_aload_n hx hb dX3_joinPair_30 rfl (lv_at hl 1 rfl) ?_
      refine va_get (D := G.1) (ci := 3) (v := .ref qB) (C := RX3) (T := TX3) (N := 5) hx hb hts hi3 hown hK hP 5 rfl rfl 0 (by decide) hw0 (fun _ h9 => h9) rfl dX3_joinPair_31 ?_
      refine lv_iload_n hx hb dX3_joinPair_34 rfl (lv_at hl 2 rfl) ?_
      refine lv_aload_n hx hb dX3_joinPair_35 rfl (lv_at hl 1 rfl) ?_
      refine va_get (D := G.1) (ci := 3) (v := .ref qB) (C := RX3) (T := TX3) (N := 5) hx hb hts hi3 hown hK hP 5 rfl rfl 0 (by decide) hw0 (fun _ h9 => h9) rfl dX3_joinPair_36 ?_
      refine lv_iload_n hx hb dX3_joinPair_39 rfl (lv_at hl 2 rfl) ?_
      obtain ⟨q19, eq19, hq⟩ := ob hq
      have hPc := hP.sub (ws' := [(qB, .inr (0, [.ref qBT, .ref qBC, .ref qBN, .ref qBW, .ref qBL, .int bn, .int bk, .int bs])), (qBT, .inl (G.2.1, 16, .inl bT))]) [0, 1] rfl
      have hKc := hK
      refine vp_callSi (va_Run.run (va_runV (As := [.int x1]) (rest := [.int x1, .ref qB]) ⟨hx, hb, hml, hown, hts⟩ (tX0_sidesOf G l eq19) (cwV 1 hts gX3_joinPair_X0_sidesOf rfl rfl rfl (by decide +kernel) ⟨Nat.le_of_ble_eq_true rfl, Nat.le_of_ble_eq_true rfl⟩) ⟨pcP_blind, va_recv hKc hPc (ci := 0) (q0 := 0) rfl rfl, pcP_pre hPc hKK⟩ rfl rfl hl.1 rfl (lv_room (Nat.le_of_ble_eq_true rfl)) dX3_joinPair_40 ⟨Nat.zero_le _, Nat.zero_le _⟩)) (fun r0 hr0 => ?_)
      obtain rfl := hr0
      refine lv_iconst (v := 1) hx hb dX3_joinPair_43 (by decide) ?_
      refine lv_iload_n hx hb dX3_joinPair_44 rfl (lv_at hl 3 rfl) ?_
      refine lv_ishl hx hb dX3_joinPair_45 ?_
      refine lv_ior hx hb dX3_joinPair_46 ?_
      obtain ⟨q20, eq20, hq⟩ := ob hq
      have hPc := hP.sub (ws' := [(qB, .inr (0, [.ref qBT, .ref qBC, .ref qBN, .ref qBW, .ref qBL, .int bn, .int bk, .int bs])), (qBT, .inl (G.2.1, 16, .inl bT))]) [0, 1] rfl
      have hKc := hK
      have hDc := hD.sub (ws' := [(qB, .inr (0, [.ref qBT, .ref qBC, .ref qBN, .ref qBW, .ref qBL, .int bn, .int bk, .int bs])), (qBT, .inl (G.2.1, 16, .inl bT))]) [0, 1] (by decide) rfl
      have hFc := va_free (wc := [(qB, .inr (0, [.ref qBT, .ref qBC, .ref qBN, .ref qBW, .ref qBL, .int bn, .int bk, .int bs])), (qBT, .inl (G.2.1, 16, .inl bT))]) hD hS hA [0, 1] rfl
      refine va_callv (va_runV (As := [.int x1, .int (q19 ||| ((1 : Int32) <<< (x2 &&& 31)))]) (rest := []) ⟨hx, hb, hml, hown, hts⟩ (tX0_lay G l eq20) (cwV 2 hts gX3_joinPair_X0_lay rfl rfl rfl (by decide +kernel) ⟨Nat.le_of_ble_eq_true rfl, Nat.le_of_ble_eq_true rfl⟩) ⟨pcW_blind, va_recv hKc hPc (ci := 0) (q0 := 0) rfl rfl, pcW_pre hPc hKK hDc⟩ rfl rfl hl.1 rfl (lv_room (Nat.le_of_ble_eq_true rfl)) dX3_joinPair_47 ⟨Nat.zero_le _, Nat.zero_le _⟩) hS (fun q _ h => hFc q h) hFc (fun u t H1 locs ht hvm hw hB hz1 hk1 hS => ?_)
      have hB := va_Pto ht hB
      obtain ⟨hP, hD⟩ := jn (ws' := [(qB, .inr (0, [.ref qBT, .ref qBC, .ref qBN, .ref qBW, .ref qBL, .int bn, .int bk, .int bs])), (qBT, .inl (G.2.1, 16, .inl q20)), (qBN, .inl (G.2.1, 64, .inl bN)), (qBW, .inl (G.2.1, 64, .inl bW)), (qBL, .inl (G.2.1, 16, .inl q11.2)), (qK, .inr (3, [.ref qB, .ref qKC, .ref qKS, .int kp, .int ku]))]) hP hD hk1 hB [0, 1] rfl rfl rfl rfl
      generalize H1 = H at hP hS ⊢
      refine lv_aload_n hx hb dX3_joinPair_50 rfl (lv_at hl 1 rfl) ?_
      refine va_get (D := G.1) (ci := 3) (v := .ref qB) (C := RX3) (T := TX3) (N := 5) hx hb hts hi3 hown hK hP 5 rfl rfl 0 (by decide) hw0 (fun _ h9 => h9) rfl dX3_joinPair_51 ?_
      refine lv_iload_n hx hb dX3_joinPair_54 rfl (lv_at hl 0 rfl) ?_
      refine lv_aload_n hx hb dX3_joinPair_55 rfl (lv_at hl 1 rfl) ?_
      refine va_get (D := G.1) (ci := 3) (v := .ref qB) (C := RX3) (T := TX3) (N := 5) hx hb hts hi3 hown hK hP 5 rfl rfl 0 (by decide) hw0 (fun _ h9 => h9) rfl dX3_joinPair_56 ?_
      refine lv_iload_n hx hb dX3_joinPair_59 rfl (lv_at hl 0 rfl) ?_
      obtain ⟨q21, eq21, hq⟩ := ob hq
      have hPc := hP.sub (ws' := [(qB, .inr (0, [.ref qBT, .ref qBC, .ref qBN, .ref qBW, .ref qBL, .int bn, .int bk, .int bs])), (qBT, .inl (G.2.1, 16, .inl q20))]) [0, 1] rfl
      have hKc := hK
      refine vp_callSi (va_Run.run (va_runV (As := [.int q1]) (rest := [.int q1, .ref qB]) ⟨hx, hb, hml, hown, hts⟩ (tX0_sidesOf G l eq21) (cwV 1 hts gX3_joinPair_X0_sidesOf rfl rfl rfl (by decide +kernel) ⟨Nat.le_of_ble_eq_true rfl, Nat.le_of_ble_eq_true rfl⟩) ⟨pcP_blind, va_recv hKc hPc (ci := 0) (q0 := 0) rfl rfl, pcP_pre hPc hKK⟩ rfl rfl hl.1 rfl (lv_room (Nat.le_of_ble_eq_true rfl)) dX3_joinPair_60 ⟨Nat.zero_le _, Nat.zero_le _⟩)) (fun r0 hr0 => ?_)
      obtain rfl := hr0
      refine lv_iconst (v := 1) hx hb dX3_joinPair_63 (by decide) ?_
      refine lv_iload_n hx hb dX3_joinPair_64 rfl (lv_at hl 3 rfl) ?_
      obtain ⟨q22, eq22, hq⟩ := ob hq
      have hPc := hP.sub (ws' := []) [] rfl
      refine vp_callSi (va_Run.run (va_runSN (As := [.int x2]) (rest := [.int 1, .int q21, .int q1, .ref qB]) ⟨hx, hb, hml, hown, hts⟩ (tX7_opposite G l eq22) ⟨va_cnB 1 hts gX3_joinPair_X7_opposite_n78 rfl rfl rfl (hKK.2 _ (List.mem_of_getElem? (i := 22) rfl)) hw1 (by decide +kernel) ⟨Nat.le_of_ble_eq_true rfl, Nat.le_of_ble_eq_true rfl⟩, hw3, trivial⟩ ⟨pcP_blind, pcP_pre hPc hKK⟩ rfl rfl hl.1 rfl (lv_room (Nat.le_of_ble_eq_true rfl)) dX3_joinPair_65 ⟨Nat.zero_le _, Nat.zero_le _⟩)) (fun r0 hr0 => ?_)
      obtain rfl := hr0
      refine lv_ishl hx hb dX3_joinPair_68 ?_
      refine lv_ior hx hb dX3_joinPair_69 ?_
      obtain ⟨q23, eq23, hq⟩ := ob hq
      have hPc := hP.sub (ws' := [(qB, .inr (0, [.ref qBT, .ref qBC, .ref qBN, .ref qBW, .ref qBL, .int bn, .int bk, .int bs])), (qBT, .inl (G.2.1, 16, .inl q20))]) [0, 1] rfl
      have hKc := hK
      have hDc := hD.sub (ws' := [(qB, .inr (0, [.ref qBT, .ref qBC, .ref qBN, .ref qBW, .ref qBL, .int bn, .int bk, .int bs])), (qBT, .inl (G.2.1, 16, .inl q20))]) [0, 1] (by decide) rfl
      have hFc := va_free (wc := [(qB, .inr (0, [.ref qBT, .ref qBC, .ref qBN, .ref qBW, .ref qBL, .int bn, .int bk, .int bs])), (qBT, .inl (G.2.1, 16, .inl q20))]) hD hS hA [0, 1] rfl
      refine va_callv (va_runV (As := [.int q1, .int (q21 ||| ((1 : Int32) <<< (q22 &&& 31)))]) (rest := []) ⟨hx, hb, hml, hown, hts⟩ (tX0_lay G l eq23) (cwV 2 hts gX3_joinPair_X0_lay rfl rfl rfl (by decide +kernel) ⟨Nat.le_of_ble_eq_true rfl, Nat.le_of_ble_eq_true rfl⟩) ⟨pcW_blind, va_recv hKc hPc (ci := 0) (q0 := 0) rfl rfl, pcW_pre hPc hKK hDc⟩ rfl rfl hl.1 rfl (lv_room (Nat.le_of_ble_eq_true rfl)) dX3_joinPair_70 ⟨Nat.zero_le _, Nat.zero_le _⟩) hS (fun q _ h => hFc q h) hFc (fun u t H1 locs ht hvm hw hB hz1 hk1 hS => ?_)
      have hB := va_Pto ht hB
      obtain ⟨hP, hD⟩ := jn (ws' := [(qB, .inr (0, [.ref qBT, .ref qBC, .ref qBN, .ref qBW, .ref qBL, .int bn, .int bk, .int bs])), (qBT, .inl (G.2.1, 16, .inl q23)), (qBN, .inl (G.2.1, 64, .inl bN)), (qBW, .inl (G.2.1, 64, .inl bW)), (qBL, .inl (G.2.1, 16, .inl q11.2)), (qK, .inr (3, [.ref qB, .ref qKC, .ref qKS, .int kp, .int ku]))]) hP hD hk1 hB [0, 1] rfl rfl rfl rfl
      generalize H1 = H at hP hS ⊢
      obtain rfl := Option.some.inj hq
      rw [hQ]
      exact W.vret hx hb hr (fun t ht hW => ⟨⟨(), rfl, trivial, va_Pat ht hP⟩, hS.F ht⟩) hS.2.2 dX3_joinPair_73

abbrev rmX3_fillBoard : Room := { frames := 5, cells := 0, slots := 0, locals := 114 }
set_option maxHeartbeats 40000000 in
set_option maxRecDepth 100000 in
theorem tX3_fillBoard (G : GG) (l : Launch) {qB qBT qBC qBN qBW qBL qK qKC qKS : Nat} {bn : Int32} {bk : Int32} {bs : Int32} {bT : Nat → Int32} {bN : Nat → Int32} {bW : Nat → Int32} {bL : Nat → Int32} {kp : Int32} {ku : Int32} {kC : Nat → Int32} {kS : Nat → Int32} {x1 : Int32} {sz : Nat} {F : Nat} {r : (Nat → Int32) × (Nat → Int32) × Int32 × Int32 × (Nat → Int32) × (Nat → Int32)} (hq : kX3_fillBoard F bn bT bN bW bL kp ku kC kS x1 = some r) : Met l yX3_fillBoard wsX3_fillBoard rmX3_fillBoard (pcW G [(qB, .inr (0, [.ref qBT, .ref qBC, .ref qBN, .ref qBW, .ref qBL, .int bn, .int bk, .int bs])), (qBT, .inl (G.2.1, 16, .inl bT)), (qBN, .inl (G.2.1, 64, .inl bN)), (qBW, .inl (G.2.1, 64, .inl bW)), (qBL, .inl (G.2.1, 16, .inl bL)), (qK, .inr (3, [.ref qB, .ref qKC, .ref qKS, .int kp, .int ku])), (qKC, .inl (G.2.1, 32, .inl kC)), (qKS, .inl (G.2.1, 32, .inl kS))] sz [.ref qK, .int x1]) (qcV G [(qB, .inr (0, [.ref qBT, .ref qBC, .ref qBN, .ref qBW, .ref qBL, .int bn, .int bk, .int bs])), (qBT, .inl (G.2.1, 16, .inl r.1)), (qBN, .inl (G.2.1, 64, .inl bN)), (qBW, .inl (G.2.1, 64, .inl bW)), (qBL, .inl (G.2.1, 16, .inl r.2.1)), (qK, .inr (3, [.ref qB, .ref qKC, .ref qKS, .int r.2.2.1, .int r.2.2.2.1])), (qKC, .inl (G.2.1, 32, .inl r.2.2.2.2.1)), (qKS, .inl (G.2.1, 32, .inl r.2.2.2.2.2))] (va_A [(qB, .inr (0, [.ref qBT, .ref qBC, .ref qBN, .ref qBW, .ref qBL, .int bn, .int bk, .int bs])), (qBT, .inl (G.2.1, 16, .inl bT)), (qBN, .inl (G.2.1, 64, .inl bN)), (qBW, .inl (G.2.1, 64, .inl bW)), (qBL, .inl (G.2.1, 16, .inl bL)), (qK, .inr (3, [.ref qB, .ref qKC, .ref qKS, .int kp, .int ku])), (qKC, .inl (G.2.1, 32, .inl kC)), (qKS, .inl (G.2.1, 32, .inl kS))] sz)) 0 0 (va_A [(qB, .inr (0, [.ref qBT, .ref qBC, .ref qBN, .ref qBW, .ref qBL, .int bn, .int bk, .int bs])), (qBT, .inl (G.2.1, 16, .inl bT)), (qBN, .inl (G.2.1, 64, .inl bN)), (qBW, .inl (G.2.1, 64, .inl bW)), (qBL, .inl (G.2.1, 16, .inl bL)), (qK, .inr (3, [.ref qB, .ref qKC, .ref qKS, .int kp, .int ku])), (qKC, .inl (G.2.1, 32, .inl kC)), (qKS, .inl (G.2.1, 32, .inl kS))] sz) := by
  refine Met.ofW (cc := cX3_fillBoard) (maxL := 3) (ret := none) (by decide) rfl ?_
  intro p e s m args below meth c s₁ B hml hv
  obtain ⟨rfl, hsz, hP, hKK, hD0⟩ := hv
  have hK := hKK.1
  have hx := B.exec
  have hb := B.bytes
  have hr := B.returns
  have hts := atoms_spec (ws := wsX3_fillBoard) B.pre
  have hown : s.vm.findClass RX3 = some m.cls := findClass_of_methodNamed B.named
  have hlocks := B.notSynchronized
  subst hsz
  have hD := hD0.self (sz := s.heap.size)
  generalize hAe : va_A [(qB, .inr (0, [.ref qBT, .ref qBC, .ref qBN, .ref qBW, .ref qBL, .int bn, .int bk, .int bs])), (qBT, .inl (G.2.1, 16, .inl bT)), (qBN, .inl (G.2.1, 64, .inl bN)), (qBW, .inl (G.2.1, 64, .inl bW)), (qBL, .inl (G.2.1, 16, .inl bL)), (qK, .inr (3, [.ref qB, .ref qKC, .ref qKS, .int kp, .int ku])), (qKC, .inl (G.2.1, 32, .inl kC)), (qKS, .inl (G.2.1, 32, .inl kS))] s.heap.size = A at hD ⊢
  have hA : ∀ q : Nat, s.heap.size ≤ q → A q := fun q h => by rw [← hAe]; exact Or.inr h
  have hS : va_S A s.heap s.heap [] := va_S.rf
  have hl := lv_entry ([.ref qK, .int x1] : List Value) (n := 3) (Nat.le_of_ble_eq_true rfl)
  rw [lg_entry_eq]
  generalize (lg_sl ([.ref qK, .int x1] : List Value) ++ List.replicate (3 - (lg_sl ([.ref qK, .int x1] : List Value)).length) Slot.unset).toArray = ls at hl ⊢
  have hl : lv_has ls 3 [(0, .ref qK), (1, .int x1)] := hl
  have hi3 : ∀ w ∈ u_ws RX3 TX3 5, w ∈ wsX3_fillBoard := by decide +kernel
  have hw0 : (Cond.fieldLink RX3 22 "NetPlumber$Maker" "number" "I").before #[Value.ref qK, Value.int x1] s = true := hts _ (by decide +kernel)
  have hw1 : (Cond.fieldLink RX3 32 "NetPlumber$Maker" "pairs" "I").before #[Value.ref qK, Value.int x1] s = true := hts _ (by decide +kernel)
  have hw2 : (Cond.fieldLink RX3 11 "NetPlumber$Maker" "pairCells" "[I").before #[Value.ref qK, Value.int x1] s = true := hts _ (by decide +kernel)
  have hw3 : (Cond.initialized RX7).before #[Value.ref qK, Value.int x1] s = true := hts _ (by decide +kernel)
  have hw4 : (Cond.static yX7_at).before #[Value.ref qK, Value.int x1] s = true := hts _ (by decide +kernel)
  have hw5 : (Cond.fieldLink RX3 15 "NetPlumber$Maker" "pairSides" "[I").before #[Value.ref qK, Value.int x1] s = true := hts _ (by decide +kernel)
  have hw6 : (Cond.fieldLink RX3 18 "NetPlumber$Maker" "board" "LNetPlumber$Board;").before #[Value.ref qK, Value.int x1] s = true := hts _ (by decide +kernel)
  refine wq (fun Q hQ => ?_)
  unfold kX3_fillBoard at hq
  refine lv_aload_n hx hb dX3_fillBoard_0 rfl (lv_at hl 0 rfl) ?_
  refine lv_iload_n hx hb dX3_fillBoard_1 rfl (lv_at hl 1 rfl) ?_
  refine va_put (D := G.1) (ci := 3) (v := .int x1) (ty := .int) (C := RX3) (T := TX3) (N := 5) hx hb hts hi3 tyX3 tyX3_ok nmX3 hown hK hP hD hS 5 rfl rfl 4 (by decide) hw0 (fun _ h9 => h9) rfl (by decide +kernel) rfl rfl (Nat.le_of_ble_eq_true rfl) dX3_fillBoard_2 (fun H locs hP hD hS => ?_)
  have hP : va_P G.1 vwCl [(qB, .inr (0, [.ref qBT, .ref qBC, .ref qBN, .ref qBW, .ref qBL, .int bn, .int bk, .int bs])), (qBT, .inl (G.2.1, 16, .inl bT)), (qBN, .inl (G.2.1, 64, .inl bN)), (qBW, .inl (G.2.1, 64, .inl bW)), (qBL, .inl (G.2.1, 16, .inl bL)), (qK, .inr (3, [.ref qB, .ref qKC, .ref qKS, .int kp, .int x1])), (qKC, .inl (G.2.1, 32, .inl kC)), (qKS, .inl (G.2.1, 32, .inl kS))] H := hP
  have hD : va_D A [(qB, .inr (0, [.ref qBT, .ref qBC, .ref qBN, .ref qBW, .ref qBL, .int bn, .int bk, .int bs])), (qBT, .inl (G.2.1, 16, .inl bT)), (qBN, .inl (G.2.1, 64, .inl bN)), (qBW, .inl (G.2.1, 64, .inl bW)), (qBL, .inl (G.2.1, 16, .inl bL)), (qK, .inr (3, [.ref qB, .ref qKC, .ref qKS, .int kp, .int x1])), (qKC, .inl (G.2.1, 32, .inl kC)), (qKS, .inl (G.2.1, 32, .inl kS))] := hD
  refine lv_aload_n hx hb dX3_fillBoard_5 rfl (lv_at hl 0 rfl) ?_
  obtain ⟨q1, eq1, hq⟩ := ob hq
  have hPc := hP.sub (ws' := [(qB, .inr (0, [.ref qBT, .ref qBC, .ref qBN, .ref qBW, .ref qBL, .int bn, .int bk, .int bs])), (qBN, .inl (G.2.1, 64, .inl bN)), (qK, .inr (3, [.ref qB, .ref qKC, .ref qKS, .int kp, .int x1])), (qKC, .inl (G.2.1, 32, .inl kC)), (qKS, .inl (G.2.1, 32, .inl kS))]) [0, 2, 5, 6, 7] rfl
  have hKc := hK
  have hDc := hD.sub (ws' := [(qB, .inr (0, [.ref qBT, .ref qBC, .ref qBN, .ref qBW, .ref qBL, .int bn, .int bk, .int bs])), (qBN, .inl (G.2.1, 64, .inl bN)), (qK, .inr (3, [.ref qB, .ref qKC, .ref qKS, .int kp, .int x1])), (qKC, .inl (G.2.1, 32, .inl kC)), (qKS, .inl (G.2.1, 32, .inl kS))]) [0, 2, 5, 6, 7] (by decide) rfl
  have hFc := va_free (wc := [(qB, .inr (0, [.ref qBT, .ref qBC, .ref qBN, .ref qBW, .ref qBL, .int bn, .int bk, .int bs])), (qBN, .inl (G.2.1, 64, .inl bN)), (qK, .inr (3, [.ref qB, .ref qKC, .ref qKS, .int kp, .int x1])), (qKC, .inl (G.2.1, 32, .inl kC)), (qKS, .inl (G.2.1, 32, .inl kS))]) hD hS hA [0, 2, 5, 6, 7] rfl
  refine va_callv (va_runV (As := []) (rest := []) ⟨hx, hb, hml, hown, hts⟩ (tX3_listPairs G l eq1) (cwV 0 hts gX3_fillBoard_X3_listPairs rfl rfl rfl (by decide +kernel) ⟨Nat.le_of_ble_eq_true rfl, Nat.le_of_ble_eq_true rfl⟩) ⟨pcW_blind, va_recv hKc hPc (ci := 3) (q0 := 2) rfl rfl, pcW_pre hPc hKK hDc⟩ rfl rfl hl.1 rfl (lv_room (Nat.le_of_ble_eq_true rfl)) dX3_fillBoard_6 ⟨Nat.zero_le _, Nat.zero_le _⟩) hS (fun q _ h => hFc q h) hFc (fun u t H1 locs ht hvm hw hB hz1 hk1 hS => ?_)
  have hB := va_Pto ht hB
  obtain ⟨hP, hD⟩ := jn (ws' := [(qB, .inr (0, [.ref qBT, .ref qBC, .ref qBN, .ref qBW, .ref qBL, .int bn, .int bk, .int bs])), (qBT, .inl (G.2.1, 16, .inl bT)), (qBN, .inl (G.2.1, 64, .inl bN)), (qBW, .inl (G.2.1, 64, .inl bW)), (qBL, .inl (G.2.1, 16, .inl bL)), (qK, .inr (3, [.ref qB, .ref qKC, .ref qKS, .int q1.1, .int x1])), (qKC, .inl (G.2.1, 32, .inl q1.2.1)), (qKS, .inl (G.2.1, 32, .inl q1.2.2))]) hP hD hk1 hB [0, 2, 5, 6, 7] rfl rfl rfl rfl
  generalize H1 = H at hP hS ⊢
  refine lv_aload_n hx hb dX3_fillBoard_9 rfl (lv_at hl 0 rfl) ?_
  obtain ⟨q2, eq2, hq⟩ := ob hq
  have hPc := hP.sub (ws' := [(qK, .inr (3, [.ref qB, .ref qKC, .ref qKS, .int q1.1, .int x1])), (qKC, .inl (G.2.1, 32, .inl q1.2.1)), (qKS, .inl (G.2.1, 32, .inl q1.2.2))]) [5, 6, 7] rfl
  have hKc := hK
  have hDc := hD.sub (ws' := [(qK, .inr (3, [.ref qB, .ref qKC, .ref qKS, .int q1.1, .int x1])), (qKC, .inl (G.2.1, 32, .inl q1.2.1)), (qKS, .inl (G.2.1, 32, .inl q1.2.2))]) [5, 6, 7] (by decide) rfl
  have hFc := va_free (wc := [(qK, .inr (3, [.ref qB, .ref qKC, .ref qKS, .int q1.1, .int x1])), (qKC, .inl (G.2.1, 32, .inl q1.2.1)), (qKS, .inl (G.2.1, 32, .inl q1.2.2))]) hD hS hA [5, 6, 7] rfl
  refine va_callv (va_runV (As := []) (rest := []) ⟨hx, hb, hml, hown, hts⟩ (tX3_mixPairs G l eq2) (cwV 0 hts gX3_fillBoard_X3_mixPairs rfl rfl rfl (by decide +kernel) ⟨Nat.le_of_ble_eq_true rfl, Nat.le_of_ble_eq_true rfl⟩) ⟨pcW_blind, va_recv hKc hPc (ci := 3) (q0 := 0) rfl rfl, pcW_pre hPc hKK hDc⟩ rfl rfl hl.1 rfl (lv_room (Nat.le_of_ble_eq_true rfl)) dX3_fillBoard_10 ⟨Nat.zero_le _, Nat.zero_le _⟩) hS (fun q _ h => hFc q h) hFc (fun u t H1 locs ht hvm hw hB hz1 hk1 hS => ?_)
  have hB := va_Pto ht hB
  obtain ⟨hP, hD⟩ := jn (ws' := [(qB, .inr (0, [.ref qBT, .ref qBC, .ref qBN, .ref qBW, .ref qBL, .int bn, .int bk, .int bs])), (qBT, .inl (G.2.1, 16, .inl bT)), (qBN, .inl (G.2.1, 64, .inl bN)), (qBW, .inl (G.2.1, 64, .inl bW)), (qBL, .inl (G.2.1, 16, .inl bL)), (qK, .inr (3, [.ref qB, .ref qKC, .ref qKS, .int q1.1, .int q2.1])), (qKC, .inl (G.2.1, 32, .inl q2.2.1)), (qKS, .inl (G.2.1, 32, .inl q2.2.2))]) hP hD hk1 hB [5, 6, 7] rfl rfl rfl rfl
  generalize H1 = H at hP hS ⊢
  refine lv_iconst (v := 0) hx hb dX3_fillBoard_13 (by decide) ?_
  refine lv_istore_n (lv' := [(2, .int 0), (0, .ref qK), (1, .int x1)]) hx hb dX3_fillBoard_14 rfl hl (by decide) rfl (fun ls hl => ?_)
  have L15 : ∀ (n : Nat) (s13 : Int32) (s14 : Nat → Int32) (s15 : Nat → Int32) (t_15 : (Nat → Int32) × (Nat → Int32)) (ls : Array Slot) (H : Heap) (locs : List Loc), kloop n (fun s_ => kX3_fillBoard_s15 F bn bN bW q1 q2 s_.1 s_.2.1 s_.2.2) (s13, s14, s15) = some t_15 → lv_has ls 3 [(0, .ref qK), (2, .int s13)] → va_P G.1 vwCl [(qB, .inr (0, [.ref qBT, .ref qBC, .ref qBN, .ref qBW, .ref qBL, .int bn, .int bk, .int bs])), (qBT, .inl (G.2.1, 16, .inl s14)), (qBN, .inl (G.2.1, 64, .inl bN)), (qBW, .inl (G.2.1, 64, .inl bW)), (qBL, .inl (G.2.1, 16, .inl s15)), (qK, .inr (3, [.ref qB, .ref qKC, .ref qKS, .int q1.1, .int q2.1])), (qKC, .inl (G.2.1, 32, .inl q2.2.1)), (qKS, .inl (G.2.1, 32, .inl q2.2.2))] H → va_D A [(qB, .inr (0, [.ref qBT, .ref qBC, .ref qBN, .ref qBW, .ref qBL, .int bn, .int bk, .int bs])), (qBT, .inl (G.2.1, 16, .inl s14)), (qBN, .inl (G.2.1, 64, .inl bN)), (qBW, .inl (G.2.1, 64, .inl bW)), (qBL, .inl (G.2.1, 16, .inl s15)), (qK, .inr (3, [.ref qB, .ref qKC, .ref qKS, .int q1.1, .int q2.1])), (qKC, .inl (G.2.1, 32, .inl q2.2.1)), (qKS, .inl (G.2.1, 32, .inl q2.2.2))] → va_S A s.heap H locs → (∀ (ls : Array Slot) (H : Heap) (locs : List Loc), lv_has ls 3 [(0, .ref qK)] → va_P G.1 vwCl [(qB, .inr (0, [.ref qBT, .ref qBC, .ref qBN, .ref qBW, .ref qBL, .int bn, .int bk, .int bs])), (qBT, .inl (G.2.1, 16, .inl t_15.1)), (qBN, .inl (G.2.1, 64, .inl bN)), (qBW, .inl (G.2.1, 64, .inl bW)), (qBL, .inl (G.2.1, 16, .inl t_15.2)), (qK, .inr (3, [.ref qB, .ref qKC, .ref qKS, .int q1.1, .int q2.1])), (qKC, .inl (G.2.1, 32, .inl q2.2.1)), (qKS, .inl (G.2.1, 32, .inl q2.2.2))] H → va_D A [(qB, .inr (0, [.ref qBT, .ref qBC, .ref qBN, .ref qBW, .ref qBL, .int bn, .int bk, .int bs])), (qBT, .inl (G.2.1, 16, .inl t_15.1)), (qBN, .inl (G.2.1, 64, .inl bN)), (qBW, .inl (G.2.1, 64, .inl bW)), (qBL, .inl (G.2.1, 16, .inl t_15.2)), (qK, .inr (3, [.ref qB, .ref qKC, .ref qKS, .int q1.1, .int q2.1])), (qKC, .inl (G.2.1, 32, .inl q2.2.1)), (qKS, .inl (G.2.1, 32, .inl q2.2.2))] → va_S A s.heap H locs → W p l e (headSpec wsX3_fillBoard rmX3_fillBoard).room s m ([.ref qK, .int x1] : List Value).toArray below meth c H locs 0 0 Q (F0 m 49 ls [])) → W p l e (headSpec wsX3_fillBoard rmX3_fillBoard).room s m ([.ref qK, .int x1] : List Value).toArray below meth c H locs 0 0 Q (F0 m 15 ls []) := by
    intro n
    induction n with
    | zero => 
      intro s13 s14 s15 t_15 ls H locs hq hl hP hD hS kk15_49
      exact absurd hq kl_0
    | succ n ih15 =>
      intro s13 s14 s15 t_15 ls H locs hq hl hP hD hS kk15_49
      obtain ⟨y_15, hq, hx15⟩ := kl_s hq
      have hq : kX3_fillBoard_s15 F bn bN bW q1 q2 s13 s14 s15 = some y_15 := hq
      unfold kX3_fillBoard_s15 at hq
      refine lv_iload_n hx hb dX3_fillBoard_15 rfl (lv_at hl 1 rfl) ?_
      refine lv_aload_n hx hb dX3_fillBoard_16 rfl (lv_at hl 0 rfl) ?_
      refine va_get (D := G.1) (ci := 3) (v := .int q1.1) (C := RX3) (T := TX3) (N := 5) hx hb hts hi3 hown hK hP 5 rfl rfl 3 (by decide) hw1 (fun _ h9 => h9) rfl dX3_fillBoard_17 ?_
      refine lv_icmp_ge (tgt := 49) hx hb dX3_fillBoard_20 (by decide) (fun c_20 => ?_) (fun c_20 => ?_)
      · have hq := k_t c_20 hq
        have et := kl_exit hq hx15
        subst et
        exact kk15_49 ls _ _ (lv_sub hl [0] rfl) hP hD hS
      · have hq := k_f c_20 hq
        refine lv_aload_n hx hb dX3_fillBoard_23 rfl (lv_at hl 0 rfl) ?_
        refine lv_aload_n hx hb dX3_fillBoard_24 rfl (lv_at hl 0 rfl) ?_
        refine va_get (D := G.1) (ci := 3) (v := .ref qKC) (C := RX3) (T := TX3) (N := 5) hx hb hts hi3 hown hK hP 5 rfl rfl 1 (by decide) hw2 (fun _ h9 => h9) rfl dX3_fillBoard_25 ?_
        refine lv_iload_n hx hb dX3_fillBoard_28 rfl (lv_at hl 1 rfl) ?_
        obtain ⟨q16, eq16, hq⟩ := ob hq
        have hPc := hP.sub (ws' := [(qKC, .inl (G.2.1, 32, .inl q2.2.1))]) [6] rfl
        refine vp_callSi (va_Run.run (va_runSN (As := [.ref qKC, .int s13]) (rest := [.ref qK]) ⟨hx, hb, hml, hown, hts⟩ (tX7_at G l eq16) ⟨va_cnB 2 hts gX3_fillBoard_X7_at_n35 rfl rfl rfl (hKK.2 _ (List.mem_of_getElem? (i := 20) rfl)) hw3 (by decide +kernel) ⟨Nat.le_of_ble_eq_true rfl, Nat.le_of_ble_eq_true rfl⟩, hw4, trivial⟩ ⟨pcP_blind, pcP_pre hPc hKK⟩ rfl rfl hl.1 rfl (lv_room (Nat.le_of_ble_eq_true rfl)) dX3_fillBoard_29 ⟨Nat.zero_le _, Nat.zero_le _⟩)) (fun r0 hr0 => ?_)
        obtain rfl := hr0
        refine lv_aload_n hx hb dX3_fillBoard_32 rfl (lv_at hl 0 rfl) ?_
        refine va_get (D := G.1) (ci := 3) (v := .ref qKS) (C := RX3) (T := TX3) (N := 5) hx hb hts hi3 hown hK hP 5 rfl rfl 2 (by decide) hw5 (fun _ h9 => h9) rfl dX3_fillBoard_33 ?_
        refine lv_iload_n hx hb dX3_fillBoard_36 rfl (lv_at hl 1 rfl) ?_
        obtain ⟨q17, eq17, hq⟩ := ob hq
        have hPc := hP.sub (ws' := [(qKS, .inl (G.2.1, 32, .inl q2.2.2))]) [7] rfl
        refine vp_callSi (va_Run.run (va_runSN (As := [.ref qKS, .int s13]) (rest := [.int q16, .ref qK]) ⟨hx, hb, hml, hown, hts⟩ (tX7_at G l eq17) ⟨va_cnB 2 hts gX3_fillBoard_X7_at_n35 rfl rfl rfl (hKK.2 _ (List.mem_of_getElem? (i := 20) rfl)) hw3 (by decide +kernel) ⟨Nat.le_of_ble_eq_true rfl, Nat.le_of_ble_eq_true rfl⟩, hw4, trivial⟩ ⟨pcP_blind, pcP_pre hPc hKK⟩ rfl rfl hl.1 rfl (lv_room (Nat.le_of_ble_eq_true rfl)) dX3_fillBoard_37 ⟨Nat.zero_le _, Nat.zero_le _⟩)) (fun r0 hr0 => ?_)
        obtain rfl := hr0
        obtain ⟨q18, eq18, hq⟩ := ob hq
        have hPc := hP.sub (ws' := [(qB, .inr (0, [.ref qBT, .ref qBC, .ref qBN, .ref qBW, .ref qBL, .int bn, .int bk, .int bs])), (qBT, .inl (G.2.1, 16, .inl s14)), (qBN, .inl (G.2.1, 64, .inl bN)), (qBW, .inl (G.2.1, 64, .inl bW)), (qBL, .inl (G.2.1, 16, .inl s15)), (qK, .inr (3, [.ref qB, .ref qKC, .ref qKS, .int q1.1, .int q2.1]))]) [0, 1, 2, 3, 4, 5] rfl
        have hKc := hK
        have hDc := hD.sub (ws' := [(qB, .inr (0, [.ref qBT, .ref qBC, .ref qBN, .ref qBW, .ref qBL, .int bn, .int bk, .int bs])), (qBT, .inl (G.2.1, 16, .inl s14)), (qBN, .inl (G.2.1, 64, .inl bN)), (qBW, .inl (G.2.1, 64, .inl bW)), (qBL, .inl (G.2.1, 16, .inl s15)), (qK, .inr (3, [.ref qB, .ref qKC, .ref qKS, .int q1.1, .int q2.1]))]) [0, 1, 2, 3, 4, 5] (by decide) rfl
        have hFc := va_free (wc := [(qB, .inr (0, [.ref qBT, .ref qBC, .ref qBN, .ref qBW, .ref qBL, .int bn, .int bk, .int bs])), (qBT, .inl (G.2.1, 16, .inl s14)), (qBN, .inl (G.2.1, 64, .inl bN)), (qBW, .inl (G.2.1, 64, .inl bW)), (qBL, .inl (G.2.1, 16, .inl s15)), (qK, .inr (3, [.ref qB, .ref qKC, .ref qKS, .int q1.1, .int q2.1]))]) hD hS hA [0, 1, 2, 3, 4, 5] rfl
        refine va_callv (va_runV (As := [.int q16, .int q17]) (rest := []) ⟨hx, hb, hml, hown, hts⟩ (tX3_joinPair G l eq18) (cwV 2 hts gX3_fillBoard_X3_joinPair rfl rfl rfl (by decide +kernel) ⟨Nat.le_of_ble_eq_true rfl, Nat.le_of_ble_eq_true rfl⟩) ⟨pcW_blind, va_recv hKc hPc (ci := 3) (q0 := 5) rfl rfl, pcW_pre hPc hKK hDc⟩ rfl rfl hl.1 rfl (lv_room (Nat.le_of_ble_eq_true rfl)) dX3_fillBoard_40 ⟨Nat.zero_le _, Nat.zero_le _⟩) hS (fun q _ h => hFc q h) hFc (fun u t H1 locs ht hvm hw hB hz1 hk1 hS => ?_)
        have hB := va_Pto ht hB
        obtain ⟨hP, hD⟩ := jn (ws' := [(qB, .inr (0, [.ref qBT, .ref qBC, .ref qBN, .ref qBW, .ref qBL, .int bn, .int bk, .int bs])), (qBT, .inl (G.2.1, 16, .inl q18.1)), (qBN, .inl (G.2.1, 64, .inl bN)), (qBW, .inl (G.2.1, 64, .inl bW)), (qBL, .inl (G.2.1, 16, .inl q18.2)), (qK, .inr (3, [.ref qB, .ref qKC, .ref qKS, .int q1.1, .int q2.1])), (qKC, .inl (G.2.1, 32, .inl q2.2.1)), (qKS, .inl (G.2.1, 32, .inl q2.2.2))]) hP hD hk1 hB [0, 1, 2, 3, 4, 5] rfl rfl rfl rfl
        generalize H1 = H at hP hS ⊢
        refine lv_iinc (v := (s13 + 1)) (lv' := [(2, .int (s13 + 1)), (0, .ref qK)]) hx hb dX3_fillBoard_43 hl (k := 1) rfl rfl (by decide) rfl (fun ls hl => ?_)
        refine lv_goto (tgt := 15) hx hb dX3_fillBoard_46 (by decide) ?_
        exact ih15 (s13 + 1) q18.1 q18.2 t_15 ls _ _ (kl_back hq hx15) (lv_sub hl [1, 0] rfl) hP hD hS kk15_49
  obtain ⟨q19, eq19, hq⟩ := ob hq
  refine L15 F 0 bT bL q19 ls _ _ (eq19) (lv_sub hl [1, 0] rfl) hP hD hS (fun ls H locs hl hP hD hS => ?_)
  · refine lv_iconst (v := 0) hx hb dX3_fillBoard_49 (by decide) ?_
    refine lv_istore_n (lv' := [(2, .int 0), (0, .ref qK)]) hx hb dX3_fillBoard_50 rfl hl (by decide) rfl (fun ls hl => ?_)
    have L51 : ∀ (n : Nat) (s30 : Int32) (s31 : Nat → Int32) (s32 : Int32) (t_51 : (Nat → Int32) × Int32) (ls : Array Slot) (H : Heap) (locs : List Loc), kloop n (fun s_ => kX3_fillBoard_s51 F bn s_.1 s_.2.1 s_.2.2) (s30, s31, s32) = some t_51 → lv_has ls 3 [(0, .ref qK), (2, .int s30)] → va_P G.1 vwCl [(qB, .inr (0, [.ref qBT, .ref qBC, .ref qBN, .ref qBW, .ref qBL, .int bn, .int bk, .int bs])), (qBT, .inl (G.2.1, 16, .inl s31)), (qBN, .inl (G.2.1, 64, .inl bN)), (qBW, .inl (G.2.1, 64, .inl bW)), (qBL, .inl (G.2.1, 16, .inl q19.2)), (qK, .inr (3, [.ref qB, .ref qKC, .ref qKS, .int q1.1, .int s32])), (qKC, .inl (G.2.1, 32, .inl q2.2.1)), (qKS, .inl (G.2.1, 32, .inl q2.2.2))] H → va_D A [(qB, .inr (0, [.ref qBT, .ref qBC, .ref qBN, .ref qBW, .ref qBL, .int bn, .int bk, .int bs])), (qBT, .inl (G.2.1, 16, .inl s31)), (qBN, .inl (G.2.1, 64, .inl bN)), (qBW, .inl (G.2.1, 64, .inl bW)), (qBL, .inl (G.2.1, 16, .inl q19.2)), (qK, .inr (3, [.ref qB, .ref qKC, .ref qKS, .int q1.1, .int s32])), (qKC, .inl (G.2.1, 32, .inl q2.2.1)), (qKS, .inl (G.2.1, 32, .inl q2.2.2))] → va_S A s.heap H locs → (∀ (ls : Array Slot) (H : Heap) (locs : List Loc), lv_has ls 3 [] → va_P G.1 vwCl [(qB, .inr (0, [.ref qBT, .ref qBC, .ref qBN, .ref qBW, .ref qBL, .int bn, .int bk, .int bs])), (qBT, .inl (G.2.1, 16, .inl t_51.1)), (qBN, .inl (G.2.1, 64, .inl bN)), (qBW, .inl (G.2.1, 64, .inl bW)), (qBL, .inl (G.2.1, 16, .inl q19.2)), (qK, .inr (3, [.ref qB, .ref qKC, .ref qKS, .int q1.1, .int t_51.2])), (qKC, .inl (G.2.1, 32, .inl q2.2.1)), (qKS, .inl (G.2.1, 32, .inl q2.2.2))] H → va_D A [(qB, .inr (0, [.ref qBT, .ref qBC, .ref qBN, .ref qBW, .ref qBL, .int bn, .int bk, .int bs])), (qBT, .inl (G.2.1, 16, .inl t_51.1)), (qBN, .inl (G.2.1, 64, .inl bN)), (qBW, .inl (G.2.1, 64, .inl bW)), (qBL, .inl (G.2.1, 16, .inl q19.2)), (qK, .inr (3, [.ref qB, .ref qKC, .ref qKS, .int q1.1, .int t_51.2])), (qKC, .inl (G.2.1, 32, .inl q2.2.1)), (qKS, .inl (G.2.1, 32, .inl q2.2.2))] → va_S A s.heap H locs → W p l e (headSpec wsX3_fillBoard rmX3_fillBoard).room s m ([.ref qK, .int x1] : List Value).toArray below meth c H locs 0 0 Q (F0 m 82 ls [])) → W p l e (headSpec wsX3_fillBoard rmX3_fillBoard).room s m ([.ref qK, .int x1] : List Value).toArray below meth c H locs 0 0 Q (F0 m 51 ls []) := by
      intro n
      induction n with
      | zero => 
        intro s30 s31 s32 t_51 ls H locs hq hl hP hD hS kk51_82
        exact absurd hq kl_0
      | succ n ih51 =>
        intro s30 s31 s32 t_51 ls H locs hq hl hP hD hS kk51_82
        obtain ⟨y_51, hq, hx51⟩ := kl_s hq
        have hq : kX3_fillBoard_s51 F bn s30 s31 s32 = some y_51 := hq
        unfold kX3_fillBoard_s51 at hq
        refine lv_iload_n hx hb dX3_fillBoard_51 rfl (lv_at hl 1 rfl) ?_
        refine lv_aload_n hx hb dX3_fillBoard_52 rfl (lv_at hl 0 rfl) ?_
        refine va_get (D := G.1) (ci := 3) (v := .ref qB) (C := RX3) (T := TX3) (N := 5) hx hb hts hi3 hown hK hP 5 rfl rfl 0 (by decide) hw6 (fun _ h9 => h9) rfl dX3_fillBoard_53 ?_
        obtain ⟨q33, eq33, hq⟩ := ob hq
        have hPc := hP.sub (ws' := [(qB, .inr (0, [.ref qBT, .ref qBC, .ref qBN, .ref qBW, .ref qBL, .int bn, .int bk, .int bs]))]) [0] rfl
        have hKc := hK
        refine vp_callSi (va_Run.run (va_runV (As := []) (rest := [.int s30]) ⟨hx, hb, hml, hown, hts⟩ (tX0_count G l eq33) (cwV 0 hts gX3_fillBoard_X0_count rfl rfl rfl (by decide +kernel) ⟨Nat.le_of_ble_eq_true rfl, Nat.le_of_ble_eq_true rfl⟩) ⟨pcP_blind, va_recv hKc hPc (ci := 0) (q0 := 0) rfl rfl, pcP_pre hPc hKK⟩ rfl rfl hl.1 rfl (lv_room (Nat.le_of_ble_eq_true rfl)) dX3_fillBoard_56 ⟨Nat.zero_le _, Nat.zero_le _⟩)) (fun r0 hr0 => ?_)
        obtain rfl := hr0
        refine lv_icmp_ge (tgt := 82) hx hb dX3_fillBoard_59 (by decide) (fun c_59 => ?_) (fun c_59 => ?_)
        · have hq := k_t c_59 hq
          have et := kl_exit hq hx51
          subst et
          exact kk51_82 ls _ _ (lv_sub hl [] rfl) hP hD hS
        · have hq := k_f c_59 hq
          refine lv_aload_n hx hb dX3_fillBoard_62 rfl (lv_at hl 0 rfl) ?_
          refine va_get (D := G.1) (ci := 3) (v := .ref qB) (C := RX3) (T := TX3) (N := 5) hx hb hts hi3 hown hK hP 5 rfl rfl 0 (by decide) hw6 (fun _ h9 => h9) rfl dX3_fillBoard_63 ?_
          refine lv_iload_n hx hb dX3_fillBoard_66 rfl (lv_at hl 1 rfl) ?_
          refine lv_aload_n hx hb dX3_fillBoard_67 rfl (lv_at hl 0 rfl) ?_
          obtain ⟨q34, eq34, hq⟩ := ob hq
          have hPc := hP.sub (ws' := [(qK, .inr (3, [.ref qB, .ref qKC, .ref qKS, .int q1.1, .int s32]))]) [5] rfl
          have hKc := hK
          have hDc := hD.sub (ws' := [(qK, .inr (3, [.ref qB, .ref qKC, .ref qKS, .int q1.1, .int s32]))]) [5] (by decide) rfl
          have hFc := va_free (wc := [(qK, .inr (3, [.ref qB, .ref qKC, .ref qKS, .int q1.1, .int s32]))]) hD hS hA [5] rfl
          refine va_calli (va_runV (As := []) (rest := [.int s30, .ref qB]) ⟨hx, hb, hml, hown, hts⟩ (tX3_draw G l eq34) (cwV 0 hts gX3_fillBoard_X3_draw rfl rfl rfl (by decide +kernel) ⟨Nat.le_of_ble_eq_true rfl, Nat.le_of_ble_eq_true rfl⟩) ⟨pcW_blind, va_recv hKc hPc (ci := 3) (q0 := 0) rfl rfl, pcW_pre hPc hKK hDc⟩ rfl rfl hl.1 rfl (lv_room (Nat.le_of_ble_eq_true rfl)) dX3_fillBoard_68 ⟨Nat.zero_le _, Nat.zero_le _⟩) hS (fun q _ h => hFc q h) hFc (fun r0 u t H1 locs ht hvm hw hB hz1 hk1 hS => ?_)
          obtain rfl := hw
          have hB := va_Pto ht hB
          obtain ⟨hP, hD⟩ := jn (ws' := [(qB, .inr (0, [.ref qBT, .ref qBC, .ref qBN, .ref qBW, .ref qBL, .int bn, .int bk, .int bs])), (qBT, .inl (G.2.1, 16, .inl s31)), (qBN, .inl (G.2.1, 64, .inl bN)), (qBW, .inl (G.2.1, 64, .inl bW)), (qBL, .inl (G.2.1, 16, .inl q19.2)), (qK, .inr (3, [.ref qB, .ref qKC, .ref qKS, .int q1.1, .int q34.2])), (qKC, .inl (G.2.1, 32, .inl q2.2.1)), (qKS, .inl (G.2.1, 32, .inl q2.2.2))]) hP hD hk1 hB [5] rfl rfl rfl rfl
          generalize H1 = H at hP hS ⊢
          refine lv_iconst (v := 4) hx hb dX3_fillBoard_71 (by decide) ?_
          refine lv_irem hx hb dX3_fillBoard_72 (by decide) ?_
          obtain ⟨q35, eq35, hq⟩ := ob hq
          have hPc := hP.sub (ws' := [(qB, .inr (0, [.ref qBT, .ref qBC, .ref qBN, .ref qBW, .ref qBL, .int bn, .int bk, .int bs])), (qBT, .inl (G.2.1, 16, .inl s31))]) [0, 1] rfl
          have hKc := hK
          have hDc := hD.sub (ws' := [(qB, .inr (0, [.ref qBT, .ref qBC, .ref qBN, .ref qBW, .ref qBL, .int bn, .int bk, .int bs])), (qBT, .inl (G.2.1, 16, .inl s31))]) [0, 1] (by decide) rfl
          have hFc := va_free (wc := [(qB, .inr (0, [.ref qBT, .ref qBC, .ref qBN, .ref qBW, .ref qBL, .int bn, .int bk, .int bs])), (qBT, .inl (G.2.1, 16, .inl s31))]) hD hS hA [0, 1] rfl
          refine va_callv (va_runV (As := [.int s30, .int (q34.1 - q34.1 / 4 * 4)]) (rest := []) ⟨hx, hb, hml, hown, hts⟩ (tX0_spin G l eq35) (cwV 2 hts gX3_fillBoard_X0_spin rfl rfl rfl (by decide +kernel) ⟨Nat.le_of_ble_eq_true rfl, Nat.le_of_ble_eq_true rfl⟩) ⟨pcW_blind, va_recv hKc hPc (ci := 0) (q0 := 0) rfl rfl, pcW_pre hPc hKK hDc⟩ rfl rfl hl.1 rfl (lv_room (Nat.le_of_ble_eq_true rfl)) dX3_fillBoard_73 ⟨Nat.zero_le _, Nat.zero_le _⟩) hS (fun q _ h => hFc q h) hFc (fun u t H1 locs ht hvm hw hB hz1 hk1 hS => ?_)
          have hB := va_Pto ht hB
          obtain ⟨hP, hD⟩ := jn (ws' := [(qB, .inr (0, [.ref qBT, .ref qBC, .ref qBN, .ref qBW, .ref qBL, .int bn, .int bk, .int bs])), (qBT, .inl (G.2.1, 16, .inl q35)), (qBN, .inl (G.2.1, 64, .inl bN)), (qBW, .inl (G.2.1, 64, .inl bW)), (qBL, .inl (G.2.1, 16, .inl q19.2)), (qK, .inr (3, [.ref qB, .ref qKC, .ref qKS, .int q1.1, .int q34.2])), (qKC, .inl (G.2.1, 32, .inl q2.2.1)), (qKS, .inl (G.2.1, 32, .inl q2.2.2))]) hP hD hk1 hB [0, 1] rfl rfl rfl rfl
          generalize H1 = H at hP hS ⊢
          refine lv_iinc (v := (s30 + 1)) (lv' := [(2, .int (s30 + 1)), (0, .ref qK)]) hx hb dX3_fillBoard_76 hl (k := 1) rfl rfl (by decide) rfl (fun ls hl => ?_)
          refine lv_goto (tgt := 51) hx hb dX3_fillBoard_79 (by decide) ?_
          exact ih51 (s30 + 1) q35 q34.2 t_51 ls _ _ (kl_back hq hx51) (lv_sub hl [1, 0] rfl) hP hD hS kk51_82
    obtain ⟨q36, eq36, hq⟩ := ob hq
    refine L51 F 0 q19.1 q2.1 q36 ls _ _ (eq36) (lv_sub hl [1, 0] rfl) hP hD hS (fun ls H locs hl hP hD hS => ?_)
    · obtain rfl := Option.some.inj hq
      rw [hQ]
      exact W.vret hx hb hr (fun t ht hW => ⟨⟨(), rfl, trivial, va_Pat ht hP⟩, hS.F ht⟩) hS.2.2 dX3_fillBoard_82
