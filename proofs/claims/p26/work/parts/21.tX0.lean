/-! contracts (laid by wip/whole/gen.py) -/
abbrev rmX0_allows : Room := { frames := 0, cells := 0, slots := 0, locals := 0 }
set_option maxHeartbeats 40000000 in
set_option maxRecDepth 100000 in
theorem tX0_allows (G : GG) (l : Launch) {x0 : Int32} {x1 : Int32} {x2 : Int32} {F : Nat} {r : Int32} (hq : kX0_allows F x0 x1 x2 = some r) : Met l yX0_allows wsX0_allows rmX0_allows (pcP G [] [.int x0, .int x1, .int x2]) (vp_Si (fun x => r = x)) 0 0 (fun _ => False) := by
  refine Met.ofW (cc := cX0_allows) (maxL := 3) (ret := (some .boolean)) (by decide) rfl ?_
  intro p e s m args below meth c s₁ B hml hv
  obtain ⟨rfl, hP, hKK⟩ := hv
  have hK := hKK.1
  have hx := B.exec
  have hb := B.bytes
  have hr := B.returns
  have hts := atoms_spec (ws := wsX0_allows) B.pre
  have hown : s.vm.findClass RX0 = some m.cls := findClass_of_methodNamed B.named
  have hlocks := B.notSynchronized
  have hl := lv_entry ([.int x0, .int x1, .int x2] : List Value) (n := 3) (Nat.le_of_ble_eq_true rfl)
  rw [lg_entry_eq]
  generalize (lg_sl ([.int x0, .int x1, .int x2] : List Value) ++ List.replicate (3 - (lg_sl ([.int x0, .int x1, .int x2] : List Value)).length) Slot.unset).toArray = ls at hl ⊢
  have hl : lv_has ls 3 [(0, .int x0), (1, .int x1), (2, .int x2)] := hl
  refine wq (fun Q hQ => ?_)
  unfold kX0_allows at hq
  refine lv_iload_n hx hb dX0_allows_0 rfl (lv_at hl 0 rfl) ?_
  refine lv_iconst (v := 2) hx hb dX0_allows_1 (by decide) ?_
  refine lv_icmp_lt (tgt := 20) hx hb dX0_allows_2 (by decide) (fun c_2 => ?_) (fun c_2 => ?_)
  · have hq := k_t c_2 hq
    refine lv_iconst (v := 0) hx hb dX0_allows_20 (by decide) ?_
    obtain rfl := Option.some.inj hq
    rw [hQ]
    exact W.zret hx hb hr rfl (fun t ht hW => ⟨_, rfl, rfl, ht⟩) (fun _ h => absurd h List.not_mem_nil) dX0_allows_21
  · have hq := k_f c_2 hq
    refine lv_iload_n hx hb dX0_allows_5 rfl (lv_at hl 0 rfl) ?_
    refine lv_iconst (v := 5) hx hb dX0_allows_6 (by decide) ?_
    refine lv_icmp_gt (tgt := 20) hx hb dX0_allows_7 (by decide) (fun c_7 => ?_) (fun c_7 => ?_)
    · have hq := k_t c_7 hq
      refine lv_iconst (v := 0) hx hb dX0_allows_20 (by decide) ?_
      obtain rfl := Option.some.inj hq
      rw [hQ]
      exact W.zret hx hb hr rfl (fun t ht hW => ⟨_, rfl, rfl, ht⟩) (fun _ h => absurd h List.not_mem_nil) dX0_allows_21
    · have hq := k_f c_7 hq
      refine lv_iload_n hx hb dX0_allows_10 rfl (lv_at hl 1 rfl) ?_
      refine lv_iconst (v := 2) hx hb dX0_allows_11 (by decide) ?_
      refine lv_icmp_lt (tgt := 20) hx hb dX0_allows_12 (by decide) (fun c_12 => ?_) (fun c_12 => ?_)
      · have hq := k_t c_12 hq
        refine lv_iconst (v := 0) hx hb dX0_allows_20 (by decide) ?_
        obtain rfl := Option.some.inj hq
        rw [hQ]
        exact W.zret hx hb hr rfl (fun t ht hW => ⟨_, rfl, rfl, ht⟩) (fun _ h => absurd h List.not_mem_nil) dX0_allows_21
      · have hq := k_f c_12 hq
        refine lv_iload_n hx hb dX0_allows_15 rfl (lv_at hl 1 rfl) ?_
        refine lv_iconst (v := 5) hx hb dX0_allows_16 (by decide) ?_
        refine lv_icmp_le (tgt := 22) hx hb dX0_allows_17 (by decide) (fun c_17 => ?_) (fun c_17 => ?_)
        · have hq := k_t c_17 hq
          refine lv_iload_n hx hb dX0_allows_22 rfl (lv_at hl 2 rfl) ?_
          refine lv_if_eq (tgt := 50) hx hb dX0_allows_23 (by decide) (fun c_23 => ?_) (fun c_23 => ?_)
          · have hq := k_t c_23 hq
            refine lv_iload_n hx hb dX0_allows_50 rfl (lv_at hl 0 rfl) ?_
            refine lv_iload_n hx hb dX0_allows_51 rfl (lv_at hl 1 rfl) ?_
            refine lv_imul hx hb dX0_allows_52 ?_
            refine lv_bipush (v := 16) hx hb dX0_allows_53 (by decide) ?_
            refine lv_icmp_gt (tgt := 62) hx hb dX0_allows_55 (by decide) (fun c_55 => ?_) (fun c_55 => ?_)
            · have hq := k_t c_55 hq
              refine lv_iconst (v := 0) hx hb dX0_allows_62 (by decide) ?_
              obtain rfl := Option.some.inj hq
              rw [hQ]
              exact W.zret hx hb hr rfl (fun t ht hW => ⟨_, rfl, rfl, ht⟩) (fun _ h => absurd h List.not_mem_nil) dX0_allows_63
            · have hq := k_f c_55 hq
              refine lv_iconst (v := 1) hx hb dX0_allows_58 (by decide) ?_
              refine lv_goto (tgt := 63) hx hb dX0_allows_59 (by decide) ?_
              obtain rfl := Option.some.inj hq
              rw [hQ]
              exact W.zret hx hb hr rfl (fun t ht hW => ⟨_, rfl, rfl, ht⟩) (fun _ h => absurd h List.not_mem_nil) dX0_allows_63
          · have hq := k_f c_23 hq
            refine lv_iload_n hx hb dX0_allows_26 rfl (lv_at hl 0 rfl) ?_
            refine lv_iconst (v := 2) hx hb dX0_allows_27 (by decide) ?_
            refine lv_icmp_le (tgt := 48) hx hb dX0_allows_28 (by decide) (fun c_28 => ?_) (fun c_28 => ?_)
            · have hq := k_t c_28 hq
              refine lv_iconst (v := 0) hx hb dX0_allows_48 (by decide) ?_
              obtain rfl := Option.some.inj hq
              rw [hQ]
              exact W.zret hx hb hr rfl (fun t ht hW => ⟨_, rfl, rfl, ht⟩) (fun _ h => absurd h List.not_mem_nil) dX0_allows_49
            · have hq := k_f c_28 hq
              refine lv_iload_n hx hb dX0_allows_31 rfl (lv_at hl 1 rfl) ?_
              refine lv_iconst (v := 2) hx hb dX0_allows_32 (by decide) ?_
              refine lv_icmp_le (tgt := 48) hx hb dX0_allows_33 (by decide) (fun c_33 => ?_) (fun c_33 => ?_)
              · have hq := k_t c_33 hq
                refine lv_iconst (v := 0) hx hb dX0_allows_48 (by decide) ?_
                obtain rfl := Option.some.inj hq
                rw [hQ]
                exact W.zret hx hb hr rfl (fun t ht hW => ⟨_, rfl, rfl, ht⟩) (fun _ h => absurd h List.not_mem_nil) dX0_allows_49
              · have hq := k_f c_33 hq
                refine lv_iload_n hx hb dX0_allows_36 rfl (lv_at hl 0 rfl) ?_
                refine lv_iload_n hx hb dX0_allows_37 rfl (lv_at hl 1 rfl) ?_
                refine lv_imul hx hb dX0_allows_38 ?_
                refine lv_bipush (v := 12) hx hb dX0_allows_39 (by decide) ?_
                refine lv_icmp_gt (tgt := 48) hx hb dX0_allows_41 (by decide) (fun c_41 => ?_) (fun c_41 => ?_)
                · have hq := k_t c_41 hq
                  refine lv_iconst (v := 0) hx hb dX0_allows_48 (by decide) ?_
                  obtain rfl := Option.some.inj hq
                  rw [hQ]
                  exact W.zret hx hb hr rfl (fun t ht hW => ⟨_, rfl, rfl, ht⟩) (fun _ h => absurd h List.not_mem_nil) dX0_allows_49
                · have hq := k_f c_41 hq
                  refine lv_iconst (v := 1) hx hb dX0_allows_44 (by decide) ?_
                  refine lv_goto (tgt := 49) hx hb dX0_allows_45 (by decide) ?_
                  obtain rfl := Option.some.inj hq
                  rw [hQ]
                  exact W.zret hx hb hr rfl (fun t ht hW => ⟨_, rfl, rfl, ht⟩) (fun _ h => absurd h List.not_mem_nil) dX0_allows_49
        · have hq := k_f c_17 hq
          refine lv_iconst (v := 0) hx hb dX0_allows_20 (by decide) ?_
          obtain rfl := Option.some.inj hq
          rw [hQ]
          exact W.zret hx hb hr rfl (fun t ht hW => ⟨_, rfl, rfl, ht⟩) (fun _ h => absurd h List.not_mem_nil) dX0_allows_21

abbrev rmX0_has : Room := { frames := 0, cells := 0, slots := 0, locals := 0 }
set_option maxHeartbeats 40000000 in
set_option maxRecDepth 100000 in
theorem tX0_has (G : GG) (l : Launch) {qB qBT qBC qBN qBW qBL : Nat} {bn : Int32} {bk : Int32} {bs : Int32} {x1 : Int32} {F : Nat} {r : Int32} (hq : kX0_has F bn x1 = some r) : Met l yX0_has wsX0_has rmX0_has (pcP G [(qB, .inr (0, [.ref qBT, .ref qBC, .ref qBN, .ref qBW, .ref qBL, .int bn, .int bk, .int bs]))] [.ref qB, .int x1]) (vp_Si (fun x => r = x)) 0 0 (fun _ => False) := by
  refine Met.ofW (cc := cX0_has) (maxL := 2) (ret := (some .boolean)) (by decide) rfl ?_
  intro p e s m args below meth c s₁ B hml hv
  obtain ⟨rfl, hP, hKK⟩ := hv
  have hK := hKK.1
  have hx := B.exec
  have hb := B.bytes
  have hr := B.returns
  have hts := atoms_spec (ws := wsX0_has) B.pre
  have hown : s.vm.findClass RX0 = some m.cls := findClass_of_methodNamed B.named
  have hlocks := B.notSynchronized
  have hl := lv_entry ([.ref qB, .int x1] : List Value) (n := 2) (Nat.le_of_ble_eq_true rfl)
  rw [lg_entry_eq]
  generalize (lg_sl ([.ref qB, .int x1] : List Value) ++ List.replicate (2 - (lg_sl ([.ref qB, .int x1] : List Value)).length) Slot.unset).toArray = ls at hl ⊢
  have hl : lv_has ls 2 [(0, .ref qB), (1, .int x1)] := hl
  have hi0 : ∀ w ∈ u_ws RX0 TX0 8, w ∈ wsX0_has := by decide +kernel
  have hw0 : (Cond.fieldLink RX0 33 "NetPlumber$Board" "cells" "I").before #[Value.ref qB, Value.int x1] s = true := hts _ (by decide +kernel)
  refine wq (fun Q hQ => ?_)
  unfold kX0_has at hq
  refine lv_iload_n hx hb dX0_has_0 rfl (lv_at hl 1 rfl) ?_
  refine lv_if_lt (tgt := 22) hx hb dX0_has_1 (by decide) (fun c_1 => ?_) (fun c_1 => ?_)
  · have hq := k_t c_1 hq
    refine lv_iconst (v := 0) hx hb dX0_has_22 (by decide) ?_
    obtain rfl := Option.some.inj hq
    rw [hQ]
    exact W.zret hx hb hr rfl (fun t ht hW => ⟨_, rfl, rfl, ht⟩) (fun _ h => absurd h List.not_mem_nil) dX0_has_23
  · have hq := k_f c_1 hq
    refine lv_iload_n hx hb dX0_has_4 rfl (lv_at hl 1 rfl) ?_
    refine lv_aload_n hx hb dX0_has_5 rfl (lv_at hl 0 rfl) ?_
    refine va_get (D := G.1) (ci := 0) (v := .int bn) (C := RX0) (T := TX0) (N := 8) hx hb hts hi0 hown hK hP 0 rfl rfl 5 (by decide) hw0 (fun _ h9 => h9) rfl dX0_has_6 ?_
    refine lv_icmp_ge (tgt := 22) hx hb dX0_has_9 (by decide) (fun c_9 => ?_) (fun c_9 => ?_)
    · have hq := k_t c_9 hq
      refine lv_iconst (v := 0) hx hb dX0_has_22 (by decide) ?_
      obtain rfl := Option.some.inj hq
      rw [hQ]
      exact W.zret hx hb hr rfl (fun t ht hW => ⟨_, rfl, rfl, ht⟩) (fun _ h => absurd h List.not_mem_nil) dX0_has_23
    · have hq := k_f c_9 hq
      refine lv_iload_n hx hb dX0_has_12 rfl (lv_at hl 1 rfl) ?_
      refine lv_bipush (v := 16) hx hb dX0_has_13 (by decide) ?_
      refine lv_icmp_ge (tgt := 22) hx hb dX0_has_15 (by decide) (fun c_15 => ?_) (fun c_15 => ?_)
      · have hq := k_t c_15 hq
        refine lv_iconst (v := 0) hx hb dX0_has_22 (by decide) ?_
        obtain rfl := Option.some.inj hq
        rw [hQ]
        exact W.zret hx hb hr rfl (fun t ht hW => ⟨_, rfl, rfl, ht⟩) (fun _ h => absurd h List.not_mem_nil) dX0_has_23
      · have hq := k_f c_15 hq
        refine lv_iconst (v := 1) hx hb dX0_has_18 (by decide) ?_
        refine lv_goto (tgt := 23) hx hb dX0_has_19 (by decide) ?_
        obtain rfl := Option.some.inj hq
        rw [hQ]
        exact W.zret hx hb hr rfl (fun t ht hW => ⟨_, rfl, rfl, ht⟩) (fun _ h => absurd h List.not_mem_nil) dX0_has_23

abbrev rmX0_count : Room := { frames := 0, cells := 0, slots := 0, locals := 0 }
set_option maxHeartbeats 40000000 in
set_option maxRecDepth 100000 in
theorem tX0_count (G : GG) (l : Launch) {qB qBT qBC qBN qBW qBL : Nat} {bn : Int32} {bk : Int32} {bs : Int32} {F : Nat} {r : Int32} (hq : kX0_count F bn = some r) : Met l yX0_count wsX0_count rmX0_count (pcP G [(qB, .inr (0, [.ref qBT, .ref qBC, .ref qBN, .ref qBW, .ref qBL, .int bn, .int bk, .int bs]))] [.ref qB]) (vp_Si (fun x => r = x)) 0 0 (fun _ => False) := by
  refine Met.ofW (cc := cX0_count) (maxL := 1) (ret := (some .int)) (by decide) rfl ?_
  intro p e s m args below meth c s₁ B hml hv
  obtain ⟨rfl, hP, hKK⟩ := hv
  have hK := hKK.1
  have hx := B.exec
  have hb := B.bytes
  have hr := B.returns
  have hts := atoms_spec (ws := wsX0_count) B.pre
  have hown : s.vm.findClass RX0 = some m.cls := findClass_of_methodNamed B.named
  have hlocks := B.notSynchronized
  have hl := lv_entry ([.ref qB] : List Value) (n := 1) (Nat.le_of_ble_eq_true rfl)
  rw [lg_entry_eq]
  generalize (lg_sl ([.ref qB] : List Value) ++ List.replicate (1 - (lg_sl ([.ref qB] : List Value)).length) Slot.unset).toArray = ls at hl ⊢
  have hl : lv_has ls 1 [(0, .ref qB)] := hl
  have hi0 : ∀ w ∈ u_ws RX0 TX0 8, w ∈ wsX0_count := by decide +kernel
  have hw0 : (Cond.fieldLink RX0 33 "NetPlumber$Board" "cells" "I").before #[Value.ref qB] s = true := hts _ (by decide +kernel)
  refine wq (fun Q hQ => ?_)
  unfold kX0_count at hq
  refine lv_aload_n hx hb dX0_count_0 rfl (lv_at hl 0 rfl) ?_
  refine va_get (D := G.1) (ci := 0) (v := .int bn) (C := RX0) (T := TX0) (N := 8) hx hb hts hi0 hown hK hP 0 rfl rfl 5 (by decide) hw0 (fun _ h9 => h9) rfl dX0_count_1 ?_
  obtain rfl := Option.some.inj hq
  rw [hQ]
  exact W.iret hx hb hr (fun t ht hW => ⟨_, rfl, rfl, ht⟩) (fun _ h => absurd h List.not_mem_nil) dX0_count_4

abbrev rmX0_allCells : Room := { frames := 0, cells := 0, slots := 0, locals := 0 }
set_option maxHeartbeats 40000000 in
set_option maxRecDepth 100000 in
theorem tX0_allCells (G : GG) (l : Launch) {qB qBT qBC qBN qBW qBL : Nat} {bn : Int32} {bk : Int32} {bs : Int32} {F : Nat} {r : Int32} (hq : kX0_allCells F bn = some r) : Met l yX0_allCells wsX0_allCells rmX0_allCells (pcP G [(qB, .inr (0, [.ref qBT, .ref qBC, .ref qBN, .ref qBW, .ref qBL, .int bn, .int bk, .int bs]))] [.ref qB]) (vp_Si (fun x => r = x)) 0 0 (fun _ => False) := by
  refine Met.ofW (cc := cX0_allCells) (maxL := 1) (ret := (some .int)) (by decide) rfl ?_
  intro p e s m args below meth c s₁ B hml hv
  obtain ⟨rfl, hP, hKK⟩ := hv
  have hK := hKK.1
  have hx := B.exec
  have hb := B.bytes
  have hr := B.returns
  have hts := atoms_spec (ws := wsX0_allCells) B.pre
  have hown : s.vm.findClass RX0 = some m.cls := findClass_of_methodNamed B.named
  have hlocks := B.notSynchronized
  have hl := lv_entry ([.ref qB] : List Value) (n := 1) (Nat.le_of_ble_eq_true rfl)
  rw [lg_entry_eq]
  generalize (lg_sl ([.ref qB] : List Value) ++ List.replicate (1 - (lg_sl ([.ref qB] : List Value)).length) Slot.unset).toArray = ls at hl ⊢
  have hl : lv_has ls 1 [(0, .ref qB)] := hl
  have hi0 : ∀ w ∈ u_ws RX0 TX0 8, w ∈ wsX0_allCells := by decide +kernel
  have hw0 : (Cond.fieldLink RX0 33 "NetPlumber$Board" "cells" "I").before #[Value.ref qB] s = true := hts _ (by decide +kernel)
  refine wq (fun Q hQ => ?_)
  unfold kX0_allCells at hq
  refine lv_iconst (v := 1) hx hb dX0_allCells_0 (by decide) ?_
  refine lv_aload_n hx hb dX0_allCells_1 rfl (lv_at hl 0 rfl) ?_
  refine va_get (D := G.1) (ci := 0) (v := .int bn) (C := RX0) (T := TX0) (N := 8) hx hb hts hi0 hown hK hP 0 rfl rfl 5 (by decide) hw0 (fun _ h9 => h9) rfl dX0_allCells_2 ?_
  refine lv_ishl hx hb dX0_allCells_5 ?_
  refine lv_iconst (v := 1) hx hb dX0_allCells_6 (by decide) ?_
  refine lv_isub hx hb dX0_allCells_7 ?_
  obtain rfl := Option.some.inj hq
  rw [hQ]
  exact W.iret hx hb hr (fun t ht hW => ⟨_, rfl, rfl, ht⟩) (fun _ h => absurd h List.not_mem_nil) dX0_allCells_8

abbrev rmX0_source : Room := { frames := 0, cells := 0, slots := 0, locals := 0 }
set_option maxHeartbeats 40000000 in
set_option maxRecDepth 100000 in
theorem tX0_source (G : GG) (l : Launch) {qB qBT qBC qBN qBW qBL : Nat} {bn : Int32} {bk : Int32} {bs : Int32} {F : Nat} {r : Int32} (hq : kX0_source F bs = some r) : Met l yX0_source wsX0_source rmX0_source (pcP G [(qB, .inr (0, [.ref qBT, .ref qBC, .ref qBN, .ref qBW, .ref qBL, .int bn, .int bk, .int bs]))] [.ref qB]) (vp_Si (fun x => r = x)) 0 0 (fun _ => False) := by
  refine Met.ofW (cc := cX0_source) (maxL := 1) (ret := (some .int)) (by decide) rfl ?_
  intro p e s m args below meth c s₁ B hml hv
  obtain ⟨rfl, hP, hKK⟩ := hv
  have hK := hKK.1
  have hx := B.exec
  have hb := B.bytes
  have hr := B.returns
  have hts := atoms_spec (ws := wsX0_source) B.pre
  have hown : s.vm.findClass RX0 = some m.cls := findClass_of_methodNamed B.named
  have hlocks := B.notSynchronized
  have hl := lv_entry ([.ref qB] : List Value) (n := 1) (Nat.le_of_ble_eq_true rfl)
  rw [lg_entry_eq]
  generalize (lg_sl ([.ref qB] : List Value) ++ List.replicate (1 - (lg_sl ([.ref qB] : List Value)).length) Slot.unset).toArray = ls at hl ⊢
  have hl : lv_has ls 1 [(0, .ref qB)] := hl
  have hi0 : ∀ w ∈ u_ws RX0 TX0 8, w ∈ wsX0_source := by decide +kernel
  have hw0 : (Cond.fieldLink RX0 40 "NetPlumber$Board" "source" "I").before #[Value.ref qB] s = true := hts _ (by decide +kernel)
  refine wq (fun Q hQ => ?_)
  unfold kX0_source at hq
  refine lv_aload_n hx hb dX0_source_0 rfl (lv_at hl 0 rfl) ?_
  refine va_get (D := G.1) (ci := 0) (v := .int bs) (C := RX0) (T := TX0) (N := 8) hx hb hts hi0 hown hK hP 0 rfl rfl 7 (by decide) hw0 (fun _ h9 => h9) rfl dX0_source_1 ?_
  obtain rfl := Option.some.inj hq
  rw [hQ]
  exact W.iret hx hb hr (fun t ht hW => ⟨_, rfl, rfl, ht⟩) (fun _ h => absurd h List.not_mem_nil) dX0_source_4

abbrev rmX0_putSource : Room := { frames := 0, cells := 0, slots := 0, locals := 0 }
set_option maxHeartbeats 40000000 in
set_option maxRecDepth 100000 in
theorem tX0_putSource (G : GG) (l : Launch) {qB qBT qBC qBN qBW qBL : Nat} {bn : Int32} {bk : Int32} {bs : Int32} {x1 : Int32} {sz : Nat} {F : Nat} {r : Int32} (hq : kX0_putSource F bs x1 = some r) : Met l yX0_putSource wsX0_putSource rmX0_putSource (pcW G [(qB, .inr (0, [.ref qBT, .ref qBC, .ref qBN, .ref qBW, .ref qBL, .int bn, .int bk, .int bs]))] sz [.ref qB, .int x1]) (qcV G [(qB, .inr (0, [.ref qBT, .ref qBC, .ref qBN, .ref qBW, .ref qBL, .int bn, .int bk, .int r]))] (va_A [(qB, .inr (0, [.ref qBT, .ref qBC, .ref qBN, .ref qBW, .ref qBL, .int bn, .int bk, .int bs]))] sz)) 0 0 (va_A [(qB, .inr (0, [.ref qBT, .ref qBC, .ref qBN, .ref qBW, .ref qBL, .int bn, .int bk, .int bs]))] sz) := by
  refine Met.ofW (cc := cX0_putSource) (maxL := 2) (ret := none) (by decide) rfl ?_
  intro p e s m args below meth c s₁ B hml hv
  obtain ⟨rfl, hsz, hP, hKK, hD0⟩ := hv
  have hK := hKK.1
  have hx := B.exec
  have hb := B.bytes
  have hr := B.returns
  have hts := atoms_spec (ws := wsX0_putSource) B.pre
  have hown : s.vm.findClass RX0 = some m.cls := findClass_of_methodNamed B.named
  have hlocks := B.notSynchronized
  subst hsz
  have hD := hD0.self (sz := s.heap.size)
  generalize hAe : va_A [(qB, .inr (0, [.ref qBT, .ref qBC, .ref qBN, .ref qBW, .ref qBL, .int bn, .int bk, .int bs]))] s.heap.size = A at hD ⊢
  have hA : ∀ q : Nat, s.heap.size ≤ q → A q := fun q h => by rw [← hAe]; exact Or.inr h
  have hS : va_S A s.heap s.heap [] := va_S.rf
  have hl := lv_entry ([.ref qB, .int x1] : List Value) (n := 2) (Nat.le_of_ble_eq_true rfl)
  rw [lg_entry_eq]
  generalize (lg_sl ([.ref qB, .int x1] : List Value) ++ List.replicate (2 - (lg_sl ([.ref qB, .int x1] : List Value)).length) Slot.unset).toArray = ls at hl ⊢
  have hl : lv_has ls 2 [(0, .ref qB), (1, .int x1)] := hl
  have hi0 : ∀ w ∈ u_ws RX0 TX0 8, w ∈ wsX0_putSource := by decide +kernel
  have hw0 : (Cond.fieldLink RX0 40 "NetPlumber$Board" "source" "I").before #[Value.ref qB, Value.int x1] s = true := hts _ (by decide +kernel)
  refine wq (fun Q hQ => ?_)
  unfold kX0_putSource at hq
  refine lv_aload_n hx hb dX0_putSource_0 rfl (lv_at hl 0 rfl) ?_
  refine lv_iload_n hx hb dX0_putSource_1 rfl (lv_at hl 1 rfl) ?_
  refine va_put (D := G.1) (ci := 0) (v := .int x1) (ty := .int) (C := RX0) (T := TX0) (N := 8) hx hb hts hi0 tyX0 tyX0_ok nmX0 hown hK hP hD hS 0 rfl rfl 7 (by decide) hw0 (fun _ h9 => h9) rfl (by decide +kernel) rfl rfl (Nat.le_of_ble_eq_true rfl) dX0_putSource_2 (fun H locs hP hD hS => ?_)
  have hP : va_P G.1 vwCl [(qB, .inr (0, [.ref qBT, .ref qBC, .ref qBN, .ref qBW, .ref qBL, .int bn, .int bk, .int x1]))] H := hP
  have hD : va_D A [(qB, .inr (0, [.ref qBT, .ref qBC, .ref qBN, .ref qBW, .ref qBL, .int bn, .int bk, .int x1]))] := hD
  obtain rfl := Option.some.inj hq
  rw [hQ]
  exact W.vret hx hb hr (fun t ht hW => ⟨⟨(), rfl, trivial, va_Pat ht hP⟩, hS.F ht⟩) hS.2.2 dX0_putSource_5

abbrev rmX0_lay : Room := { frames := 1, cells := 0, slots := 0, locals := 21 }
set_option maxHeartbeats 40000000 in
set_option maxRecDepth 100000 in
theorem tX0_lay (G : GG) (l : Launch) {qB qBT qBC qBN qBW qBL : Nat} {bn : Int32} {bk : Int32} {bs : Int32} {bT : Nat → Int32} {x1 : Int32} {x2 : Int32} {sz : Nat} {F : Nat} {r : Nat → Int32} (hq : kX0_lay F bn bT x1 x2 = some r) : Met l yX0_lay wsX0_lay rmX0_lay (pcW G [(qB, .inr (0, [.ref qBT, .ref qBC, .ref qBN, .ref qBW, .ref qBL, .int bn, .int bk, .int bs])), (qBT, .inl (G.2.1, 16, .inl bT))] sz [.ref qB, .int x1, .int x2]) (qcV G [(qB, .inr (0, [.ref qBT, .ref qBC, .ref qBN, .ref qBW, .ref qBL, .int bn, .int bk, .int bs])), (qBT, .inl (G.2.1, 16, .inl r))] (va_A [(qB, .inr (0, [.ref qBT, .ref qBC, .ref qBN, .ref qBW, .ref qBL, .int bn, .int bk, .int bs])), (qBT, .inl (G.2.1, 16, .inl bT))] sz)) 0 0 (va_A [(qB, .inr (0, [.ref qBT, .ref qBC, .ref qBN, .ref qBW, .ref qBL, .int bn, .int bk, .int bs])), (qBT, .inl (G.2.1, 16, .inl bT))] sz) := by
  refine Met.ofW (cc := cX0_lay) (maxL := 3) (ret := none) (by decide) rfl ?_
  intro p e s m args below meth c s₁ B hml hv
  obtain ⟨rfl, hsz, hP, hKK, hD0⟩ := hv
  have hK := hKK.1
  have hx := B.exec
  have hb := B.bytes
  have hr := B.returns
  have hts := atoms_spec (ws := wsX0_lay) B.pre
  have hown : s.vm.findClass RX0 = some m.cls := findClass_of_methodNamed B.named
  have hlocks := B.notSynchronized
  subst hsz
  have hD := hD0.self (sz := s.heap.size)
  generalize hAe : va_A [(qB, .inr (0, [.ref qBT, .ref qBC, .ref qBN, .ref qBW, .ref qBL, .int bn, .int bk, .int bs])), (qBT, .inl (G.2.1, 16, .inl bT))] s.heap.size = A at hD ⊢
  have hA : ∀ q : Nat, s.heap.size ≤ q → A q := fun q h => by rw [← hAe]; exact Or.inr h
  have hS : va_S A s.heap s.heap [] := va_S.rf
  have hl := lv_entry ([.ref qB, .int x1, .int x2] : List Value) (n := 3) (Nat.le_of_ble_eq_true rfl)
  rw [lg_entry_eq]
  generalize (lg_sl ([.ref qB, .int x1, .int x2] : List Value) ++ List.replicate (3 - (lg_sl ([.ref qB, .int x1, .int x2] : List Value)).length) Slot.unset).toArray = ls at hl ⊢
  have hl : lv_has ls 3 [(0, .ref qB), (1, .int x1), (2, .int x2)] := hl
  have hi0 : ∀ w ∈ u_ws RX0 TX0 8, w ∈ wsX0_lay := by decide +kernel
  have hw0 : (Cond.fieldLink RX0 9 "NetPlumber$Board" "tiles" "[I").before #[Value.ref qB, Value.int x1, Value.int x2] s = true := hts _ (by decide +kernel)
  refine wq (fun Q hQ => ?_)
  unfold kX0_lay at hq
  refine lv_aload_n hx hb dX0_lay_0 rfl (lv_at hl 0 rfl) ?_
  refine lv_iload_n hx hb dX0_lay_1 rfl (lv_at hl 1 rfl) ?_
  obtain ⟨q1, eq1, hq⟩ := ob hq
  have hPc := hP.sub (ws' := [(qB, .inr (0, [.ref qBT, .ref qBC, .ref qBN, .ref qBW, .ref qBL, .int bn, .int bk, .int bs]))]) [0] rfl
  have hKc := hK
  refine vp_callSi (va_Run.run (va_runV (As := [.int x1]) (rest := []) ⟨hx, hb, hml, hown, hts⟩ (tX0_has G l eq1) (cwV 1 hts gX0_lay_X0_has rfl rfl rfl (by decide +kernel) ⟨Nat.le_of_ble_eq_true rfl, Nat.le_of_ble_eq_true rfl⟩) ⟨pcP_blind, va_recv hKc hPc (ci := 0) (q0 := 0) rfl rfl, pcP_pre hPc hKK⟩ rfl rfl hl.1 rfl (lv_room (Nat.le_of_ble_eq_true rfl)) dX0_lay_2 ⟨Nat.zero_le _, Nat.zero_le _⟩)) (fun r0 hr0 => ?_)
  obtain rfl := hr0
  refine lv_if_eq (tgt := 15) hx hb dX0_lay_5 (by decide) (fun c_5 => ?_) (fun c_5 => ?_)
  · have hq := k_t c_5 hq
    obtain rfl := Option.some.inj hq
    rw [hQ]
    exact W.vret hx hb hr (fun t ht hW => ⟨⟨(), rfl, trivial, va_Pat ht hP⟩, hS.F ht⟩) hS.2.2 dX0_lay_15
  · have hq := k_f c_5 hq
    refine lv_aload_n hx hb dX0_lay_8 rfl (lv_at hl 0 rfl) ?_
    refine va_get (D := G.1) (ci := 0) (v := .ref qBT) (C := RX0) (T := TX0) (N := 8) hx hb hts hi0 hown hK hP 0 rfl rfl 0 (by decide) hw0 (fun _ h9 => h9) rfl dX0_lay_9 ?_
    refine lv_iload_n hx hb dX0_lay_12 rfl (lv_at hl 1 rfl) ?_
    refine lv_iload_n hx hb dX0_lay_13 rfl (lv_at hl 2 rfl) ?_
    obtain ⟨hg, hq⟩ := k_g hq
    refine va_iast hx hb hK hP hD hS 1 0 rfl rfl (ix_in hg) dX0_lay_14 (fun H locs hP hD hS => ?_)
    have hP : va_P G.1 vwCl [(qB, .inr (0, [.ref qBT, .ref qBC, .ref qBN, .ref qBW, .ref qBL, .int bn, .int bk, .int bs])), (qBT, .inl (G.2.1, 16, .inl (upd bT x1.toNatClampNeg x2)))] H := hP
    have hD : va_D A [(qB, .inr (0, [.ref qBT, .ref qBC, .ref qBN, .ref qBW, .ref qBL, .int bn, .int bk, .int bs])), (qBT, .inl (G.2.1, 16, .inl (upd bT x1.toNatClampNeg x2)))] := hD
    obtain rfl := Option.some.inj hq
    rw [hQ]
    exact W.vret hx hb hr (fun t ht hW => ⟨⟨(), rfl, trivial, va_Pat ht hP⟩, hS.F ht⟩) hS.2.2 dX0_lay_15

abbrev rmX0_putLock : Room := { frames := 0, cells := 0, slots := 0, locals := 0 }
set_option maxHeartbeats 40000000 in
set_option maxRecDepth 100000 in
theorem tX0_putLock (G : GG) (l : Launch) {qB qBT qBC qBN qBW qBL : Nat} {bn : Int32} {bk : Int32} {bs : Int32} {x1 : Int32} {x2 : Int32} {sz : Nat} {F : Nat} {r : Int32} (hq : kX0_putLock F bk x1 x2 = some r) : Met l yX0_putLock wsX0_putLock rmX0_putLock (pcW G [(qB, .inr (0, [.ref qBT, .ref qBC, .ref qBN, .ref qBW, .ref qBL, .int bn, .int bk, .int bs]))] sz [.ref qB, .int x1, .int x2]) (qcV G [(qB, .inr (0, [.ref qBT, .ref qBC, .ref qBN, .ref qBW, .ref qBL, .int bn, .int r, .int bs]))] (va_A [(qB, .inr (0, [.ref qBT, .ref qBC, .ref qBN, .ref qBW, .ref qBL, .int bn, .int bk, .int bs]))] sz)) 0 0 (va_A [(qB, .inr (0, [.ref qBT, .ref qBC, .ref qBN, .ref qBW, .ref qBL, .int bn, .int bk, .int bs]))] sz) := by
  refine Met.ofW (cc := cX0_putLock) (maxL := 3) (ret := none) (by decide) rfl ?_
  intro p e s m args below meth c s₁ B hml hv
  obtain ⟨rfl, hsz, hP, hKK, hD0⟩ := hv
  have hK := hKK.1
  have hx := B.exec
  have hb := B.bytes
  have hr := B.returns
  have hts := atoms_spec (ws := wsX0_putLock) B.pre
  have hown : s.vm.findClass RX0 = some m.cls := findClass_of_methodNamed B.named
  have hlocks := B.notSynchronized
  subst hsz
  have hD := hD0.self (sz := s.heap.size)
  generalize hAe : va_A [(qB, .inr (0, [.ref qBT, .ref qBC, .ref qBN, .ref qBW, .ref qBL, .int bn, .int bk, .int bs]))] s.heap.size = A at hD ⊢
  have hA : ∀ q : Nat, s.heap.size ≤ q → A q := fun q h => by rw [← hAe]; exact Or.inr h
  have hS : va_S A s.heap s.heap [] := va_S.rf
  have hl := lv_entry ([.ref qB, .int x1, .int x2] : List Value) (n := 3) (Nat.le_of_ble_eq_true rfl)
  rw [lg_entry_eq]
  generalize (lg_sl ([.ref qB, .int x1, .int x2] : List Value) ++ List.replicate (3 - (lg_sl ([.ref qB, .int x1, .int x2] : List Value)).length) Slot.unset).toArray = ls at hl ⊢
  have hl : lv_has ls 3 [(0, .ref qB), (1, .int x1), (2, .int x2)] := hl
  have hi0 : ∀ w ∈ u_ws RX0 TX0 8, w ∈ wsX0_putLock := by decide +kernel
  have hw0 : (Cond.fieldLink RX0 37 "NetPlumber$Board" "locks" "I").before #[Value.ref qB, Value.int x1, Value.int x2] s = true := hts _ (by decide +kernel)
  refine wq (fun Q hQ => ?_)
  unfold kX0_putLock at hq
  refine lv_aload_n hx hb dX0_putLock_0 rfl (lv_at hl 0 rfl) ?_
  refine lv_iload_n hx hb dX0_putLock_1 rfl (lv_at hl 2 rfl) ?_
  refine lv_if_eq (tgt := 16) hx hb dX0_putLock_2 (by decide) (fun c_2 => ?_) (fun c_2 => ?_)
  · have hq := k_t c_2 hq
    refine lv_aload_n hx hb dX0_putLock_16 rfl (lv_at hl 0 rfl) ?_
    refine va_get (D := G.1) (ci := 0) (v := .int bk) (C := RX0) (T := TX0) (N := 8) hx hb hts hi0 hown hK hP 0 rfl rfl 6 (by decide) hw0 (fun _ h9 => h9) rfl dX0_putLock_17 ?_
    refine lv_iconst (v := 1) hx hb dX0_putLock_20 (by decide) ?_
    refine lv_iload_n hx hb dX0_putLock_21 rfl (lv_at hl 1 rfl) ?_
    refine lv_ishl hx hb dX0_putLock_22 ?_
    refine lv_iconst (v := (-1)) hx hb dX0_putLock_23 (by decide) ?_
    refine lv_ixor hx hb dX0_putLock_24 ?_
    refine lv_iand hx hb dX0_putLock_25 ?_
    refine va_put (D := G.1) (ci := 0) (v := .int (bk &&& (((1 : Int32) <<< (x1 &&& 31)) ^^^ (-1)))) (ty := .int) (C := RX0) (T := TX0) (N := 8) hx hb hts hi0 tyX0 tyX0_ok nmX0 hown hK hP hD hS 0 rfl rfl 6 (by decide) hw0 (fun _ h9 => h9) rfl (by decide +kernel) rfl rfl (Nat.le_of_ble_eq_true rfl) dX0_putLock_26 (fun H locs hP hD hS => ?_)
    have hP : va_P G.1 vwCl [(qB, .inr (0, [.ref qBT, .ref qBC, .ref qBN, .ref qBW, .ref qBL, .int bn, .int (bk &&& (((1 : Int32) <<< (x1 &&& 31)) ^^^ (-1))), .int bs]))] H := hP
    have hD : va_D A [(qB, .inr (0, [.ref qBT, .ref qBC, .ref qBN, .ref qBW, .ref qBL, .int bn, .int (bk &&& (((1 : Int32) <<< (x1 &&& 31)) ^^^ (-1))), .int bs]))] := hD
    obtain rfl := Option.some.inj hq
    rw [hQ]
    exact W.vret hx hb hr (fun t ht hW => ⟨⟨(), rfl, trivial, va_Pat ht hP⟩, hS.F ht⟩) hS.2.2 dX0_putLock_29
  · have hq := k_f c_2 hq
    refine lv_aload_n hx hb dX0_putLock_5 rfl (lv_at hl 0 rfl) ?_
    refine va_get (D := G.1) (ci := 0) (v := .int bk) (C := RX0) (T := TX0) (N := 8) hx hb hts hi0 hown hK hP 0 rfl rfl 6 (by decide) hw0 (fun _ h9 => h9) rfl dX0_putLock_6 ?_
    refine lv_iconst (v := 1) hx hb dX0_putLock_9 (by decide) ?_
    refine lv_iload_n hx hb dX0_putLock_10 rfl (lv_at hl 1 rfl) ?_
    refine lv_ishl hx hb dX0_putLock_11 ?_
    refine lv_ior hx hb dX0_putLock_12 ?_
    refine lv_goto (tgt := 26) hx hb dX0_putLock_13 (by decide) ?_
    refine va_put (D := G.1) (ci := 0) (v := .int (bk ||| ((1 : Int32) <<< (x1 &&& 31)))) (ty := .int) (C := RX0) (T := TX0) (N := 8) hx hb hts hi0 tyX0 tyX0_ok nmX0 hown hK hP hD hS 0 rfl rfl 6 (by decide) hw0 (fun _ h9 => h9) rfl (by decide +kernel) rfl rfl (Nat.le_of_ble_eq_true rfl) dX0_putLock_26 (fun H locs hP hD hS => ?_)
    have hP : va_P G.1 vwCl [(qB, .inr (0, [.ref qBT, .ref qBC, .ref qBN, .ref qBW, .ref qBL, .int bn, .int (bk ||| ((1 : Int32) <<< (x1 &&& 31))), .int bs]))] H := hP
    have hD : va_D A [(qB, .inr (0, [.ref qBT, .ref qBC, .ref qBN, .ref qBW, .ref qBL, .int bn, .int (bk ||| ((1 : Int32) <<< (x1 &&& 31))), .int bs]))] := hD
    obtain rfl := Option.some.inj hq
    rw [hQ]
    exact W.vret hx hb hr (fun t ht hW => ⟨⟨(), rfl, trivial, va_Pat ht hP⟩, hS.F ht⟩) hS.2.2 dX0_putLock_29

abbrev rmX0_beside : Room := { frames := 0, cells := 0, slots := 0, locals := 0 }
set_option maxHeartbeats 40000000 in
set_option maxRecDepth 100000 in
theorem tX0_beside (G : GG) (l : Launch) {qB qBT qBC qBN qBW qBL : Nat} {bn : Int32} {bk : Int32} {bs : Int32} {bN : Nat → Int32} {x1 : Int32} {x2 : Int32} {F : Nat} {r : Int32} (hq : kX0_beside F bN x1 x2 = some r) : Met l yX0_beside wsX0_beside rmX0_beside (pcP G [(qB, .inr (0, [.ref qBT, .ref qBC, .ref qBN, .ref qBW, .ref qBL, .int bn, .int bk, .int bs])), (qBN, .inl (G.2.1, 64, .inl bN))] [.ref qB, .int x1, .int x2]) (vp_Si (fun x => r = x)) 0 0 (fun _ => False) := by
  refine Met.ofW (cc := cX0_beside) (maxL := 4) (ret := (some .int)) (by decide) rfl ?_
  intro p e s m args below meth c s₁ B hml hv
  obtain ⟨rfl, hP, hKK⟩ := hv
  have hK := hKK.1
  have hx := B.exec
  have hb := B.bytes
  have hr := B.returns
  have hts := atoms_spec (ws := wsX0_beside) B.pre
  have hown : s.vm.findClass RX0 = some m.cls := findClass_of_methodNamed B.named
  have hlocks := B.notSynchronized
  have hl := lv_entry ([.ref qB, .int x1, .int x2] : List Value) (n := 4) (Nat.le_of_ble_eq_true rfl)
  rw [lg_entry_eq]
  generalize (lg_sl ([.ref qB, .int x1, .int x2] : List Value) ++ List.replicate (4 - (lg_sl ([.ref qB, .int x1, .int x2] : List Value)).length) Slot.unset).toArray = ls at hl ⊢
  have hl : lv_has ls 4 [(0, .ref qB), (1, .int x1), (2, .int x2)] := hl
  have hi0 : ∀ w ∈ u_ws RX0 TX0 8, w ∈ wsX0_beside := by decide +kernel
  have hw0 : (Cond.fieldLink RX0 18 "NetPlumber$Board" "nexts" "[I").before #[Value.ref qB, Value.int x1, Value.int x2] s = true := hts _ (by decide +kernel)
  refine wq (fun Q hQ => ?_)
  unfold kX0_beside at hq
  refine lv_iload_n hx hb dX0_beside_0 rfl (lv_at hl 1 rfl) ?_
  refine lv_iconst (v := 4) hx hb dX0_beside_1 (by decide) ?_
  refine lv_imul hx hb dX0_beside_2 ?_
  refine lv_iload_n hx hb dX0_beside_3 rfl (lv_at hl 2 rfl) ?_
  refine lv_iadd hx hb dX0_beside_4 ?_
  refine lv_istore_n (lv' := [(3, .int ((x1 * 4) + x2)), (0, .ref qB), (1, .int x1), (2, .int x2)]) hx hb dX0_beside_5 rfl hl (by decide) rfl (fun ls hl => ?_)
  refine lv_iload_n hx hb dX0_beside_6 rfl (lv_at hl 0 rfl) ?_
  refine lv_if_lt (tgt := 28) hx hb dX0_beside_7 (by decide) (fun c_7 => ?_) (fun c_7 => ?_)
  · have hq := k_t c_7 hq
    refine lv_iconst (v := (-1)) hx hb dX0_beside_28 (by decide) ?_
    obtain rfl := Option.some.inj hq
    rw [hQ]
    exact W.iret hx hb hr (fun t ht hW => ⟨_, rfl, rfl, ht⟩) (fun _ h => absurd h List.not_mem_nil) dX0_beside_29
  · have hq := k_f c_7 hq
    refine lv_iload_n hx hb dX0_beside_10 rfl (lv_at hl 0 rfl) ?_
    refine lv_aload_n hx hb dX0_beside_11 rfl (lv_at hl 1 rfl) ?_
    refine va_get (D := G.1) (ci := 0) (v := .ref qBN) (C := RX0) (T := TX0) (N := 8) hx hb hts hi0 hown hK hP 0 rfl rfl 2 (by decide) hw0 (fun _ h9 => h9) rfl dX0_beside_12 ?_
    refine va_alen hx hb hK hP 1 0 rfl rfl (v := 64) rfl dX0_beside_15 ?_
    refine lv_icmp_ge (tgt := 28) hx hb dX0_beside_16 (by decide) (fun c_16 => ?_) (fun c_16 => ?_)
    · have hq := k_t c_16 hq
      refine lv_iconst (v := (-1)) hx hb dX0_beside_28 (by decide) ?_
      obtain rfl := Option.some.inj hq
      rw [hQ]
      exact W.iret hx hb hr (fun t ht hW => ⟨_, rfl, rfl, ht⟩) (fun _ h => absurd h List.not_mem_nil) dX0_beside_29
    · have hq := k_f c_16 hq
      refine lv_aload_n hx hb dX0_beside_19 rfl (lv_at hl 1 rfl) ?_
      refine va_get (D := G.1) (ci := 0) (v := .ref qBN) (C := RX0) (T := TX0) (N := 8) hx hb hts hi0 hown hK hP 0 rfl rfl 2 (by decide) hw0 (fun _ h9 => h9) rfl dX0_beside_20 ?_
      refine lv_iload_n hx hb dX0_beside_23 rfl (lv_at hl 0 rfl) ?_
      obtain ⟨hg, hq⟩ := k_g hq
      refine va_iald hx hb hK hP 1 0 rfl rfl (ix_in hg) dX0_beside_24 ?_
      refine lv_goto (tgt := 29) hx hb dX0_beside_25 (by decide) ?_
      obtain rfl := Option.some.inj hq
      rw [hQ]
      exact W.iret hx hb hr (fun t ht hW => ⟨_, rfl, rfl, ht⟩) (fun _ h => absurd h List.not_mem_nil) dX0_beside_29

abbrev rmX0_across : Room := { frames := 0, cells := 0, slots := 0, locals := 0 }
set_option maxHeartbeats 40000000 in
set_option maxRecDepth 100000 in
theorem tX0_across (G : GG) (l : Launch) {qB qBT qBC qBN qBW qBL : Nat} {bn : Int32} {bk : Int32} {bs : Int32} {bW : Nat → Int32} {x1 : Int32} {x2 : Int32} {F : Nat} {r : Int32} (hq : kX0_across F bW x1 x2 = some r) : Met l yX0_across wsX0_across rmX0_across (pcP G [(qB, .inr (0, [.ref qBT, .ref qBC, .ref qBN, .ref qBW, .ref qBL, .int bn, .int bk, .int bs])), (qBW, .inl (G.2.1, 64, .inl bW))] [.ref qB, .int x1, .int x2]) (vp_Si (fun x => r = x)) 0 0 (fun _ => False) := by
  refine Met.ofW (cc := cX0_across) (maxL := 4) (ret := (some .int)) (by decide) rfl ?_
  intro p e s m args below meth c s₁ B hml hv
  obtain ⟨rfl, hP, hKK⟩ := hv
  have hK := hKK.1
  have hx := B.exec
  have hb := B.bytes
  have hr := B.returns
  have hts := atoms_spec (ws := wsX0_across) B.pre
  have hown : s.vm.findClass RX0 = some m.cls := findClass_of_methodNamed B.named
  have hlocks := B.notSynchronized
  have hl := lv_entry ([.ref qB, .int x1, .int x2] : List Value) (n := 4) (Nat.le_of_ble_eq_true rfl)
  rw [lg_entry_eq]
  generalize (lg_sl ([.ref qB, .int x1, .int x2] : List Value) ++ List.replicate (4 - (lg_sl ([.ref qB, .int x1, .int x2] : List Value)).length) Slot.unset).toArray = ls at hl ⊢
  have hl : lv_has ls 4 [(0, .ref qB), (1, .int x1), (2, .int x2)] := hl
  have hi0 : ∀ w ∈ u_ws RX0 TX0 8, w ∈ wsX0_across := by decide +kernel
  have hw0 : (Cond.fieldLink RX0 21 "NetPlumber$Board" "ways" "[I").before #[Value.ref qB, Value.int x1, Value.int x2] s = true := hts _ (by decide +kernel)
  refine wq (fun Q hQ => ?_)
  unfold kX0_across at hq
  refine lv_iload_n hx hb dX0_across_0 rfl (lv_at hl 1 rfl) ?_
  refine lv_iconst (v := 4) hx hb dX0_across_1 (by decide) ?_
  refine lv_imul hx hb dX0_across_2 ?_
  refine lv_iload_n hx hb dX0_across_3 rfl (lv_at hl 2 rfl) ?_
  refine lv_iadd hx hb dX0_across_4 ?_
  refine lv_istore_n (lv' := [(3, .int ((x1 * 4) + x2)), (0, .ref qB), (1, .int x1), (2, .int x2)]) hx hb dX0_across_5 rfl hl (by decide) rfl (fun ls hl => ?_)
  refine lv_iload_n hx hb dX0_across_6 rfl (lv_at hl 0 rfl) ?_
  refine lv_if_lt (tgt := 28) hx hb dX0_across_7 (by decide) (fun c_7 => ?_) (fun c_7 => ?_)
  · have hq := k_t c_7 hq
    refine lv_iconst (v := (-1)) hx hb dX0_across_28 (by decide) ?_
    obtain rfl := Option.some.inj hq
    rw [hQ]
    exact W.iret hx hb hr (fun t ht hW => ⟨_, rfl, rfl, ht⟩) (fun _ h => absurd h List.not_mem_nil) dX0_across_29
  · have hq := k_f c_7 hq
    refine lv_iload_n hx hb dX0_across_10 rfl (lv_at hl 0 rfl) ?_
    refine lv_aload_n hx hb dX0_across_11 rfl (lv_at hl 1 rfl) ?_
    refine va_get (D := G.1) (ci := 0) (v := .ref qBW) (C := RX0) (T := TX0) (N := 8) hx hb hts hi0 hown hK hP 0 rfl rfl 3 (by decide) hw0 (fun _ h9 => h9) rfl dX0_across_12 ?_
    refine va_alen hx hb hK hP 1 0 rfl rfl (v := 64) rfl dX0_across_15 ?_
    refine lv_icmp_ge (tgt := 28) hx hb dX0_across_16 (by decide) (fun c_16 => ?_) (fun c_16 => ?_)
    · have hq := k_t c_16 hq
      refine lv_iconst (v := (-1)) hx hb dX0_across_28 (by decide) ?_
      obtain rfl := Option.some.inj hq
      rw [hQ]
      exact W.iret hx hb hr (fun t ht hW => ⟨_, rfl, rfl, ht⟩) (fun _ h => absurd h List.not_mem_nil) dX0_across_29
    · have hq := k_f c_16 hq
      refine lv_aload_n hx hb dX0_across_19 rfl (lv_at hl 1 rfl) ?_
      refine va_get (D := G.1) (ci := 0) (v := .ref qBW) (C := RX0) (T := TX0) (N := 8) hx hb hts hi0 hown hK hP 0 rfl rfl 3 (by decide) hw0 (fun _ h9 => h9) rfl dX0_across_20 ?_
      refine lv_iload_n hx hb dX0_across_23 rfl (lv_at hl 0 rfl) ?_
      obtain ⟨hg, hq⟩ := k_g hq
      refine va_iald hx hb hK hP 1 0 rfl rfl (ix_in hg) dX0_across_24 ?_
      refine lv_goto (tgt := 29) hx hb dX0_across_25 (by decide) ?_
      obtain rfl := Option.some.inj hq
      rw [hQ]
      exact W.iret hx hb hr (fun t ht hW => ⟨_, rfl, rfl, ht⟩) (fun _ h => absurd h List.not_mem_nil) dX0_across_29

abbrev rmX0_link : Room := { frames := 1, cells := 0, slots := 0, locals := 21 }
set_option maxHeartbeats 40000000 in
set_option maxRecDepth 100000 in
theorem tX0_link (G : GG) (l : Launch) {qB qBT qBC qBN qBW qBL : Nat} {bn : Int32} {bk : Int32} {bs : Int32} {bN : Nat → Int32} {x1 : Int32} {x2 : Int32} {x3 : Int32} {sz : Nat} {F : Nat} {r : Nat → Int32} (hq : kX0_link F bn bN x1 x2 x3 = some r) : Met l yX0_link wsX0_link rmX0_link (pcW G [(qB, .inr (0, [.ref qBT, .ref qBC, .ref qBN, .ref qBW, .ref qBL, .int bn, .int bk, .int bs])), (qBN, .inl (G.2.1, 64, .inl bN))] sz [.ref qB, .int x1, .int x2, .int x3]) (qcV G [(qB, .inr (0, [.ref qBT, .ref qBC, .ref qBN, .ref qBW, .ref qBL, .int bn, .int bk, .int bs])), (qBN, .inl (G.2.1, 64, .inl r))] (va_A [(qB, .inr (0, [.ref qBT, .ref qBC, .ref qBN, .ref qBW, .ref qBL, .int bn, .int bk, .int bs])), (qBN, .inl (G.2.1, 64, .inl bN))] sz)) 0 0 (va_A [(qB, .inr (0, [.ref qBT, .ref qBC, .ref qBN, .ref qBW, .ref qBL, .int bn, .int bk, .int bs])), (qBN, .inl (G.2.1, 64, .inl bN))] sz) := by
  refine Met.ofW (cc := cX0_link) (maxL := 4) (ret := none) (by decide) rfl ?_
  intro p e s m args below meth c s₁ B hml hv
  obtain ⟨rfl, hsz, hP, hKK, hD0⟩ := hv
  have hK := hKK.1
  have hx := B.exec
  have hb := B.bytes
  have hr := B.returns
  have hts := atoms_spec (ws := wsX0_link) B.pre
  have hown : s.vm.findClass RX0 = some m.cls := findClass_of_methodNamed B.named
  have hlocks := B.notSynchronized
  subst hsz
  have hD := hD0.self (sz := s.heap.size)
  generalize hAe : va_A [(qB, .inr (0, [.ref qBT, .ref qBC, .ref qBN, .ref qBW, .ref qBL, .int bn, .int bk, .int bs])), (qBN, .inl (G.2.1, 64, .inl bN))] s.heap.size = A at hD ⊢
  have hA : ∀ q : Nat, s.heap.size ≤ q → A q := fun q h => by rw [← hAe]; exact Or.inr h
  have hS : va_S A s.heap s.heap [] := va_S.rf
  have hl := lv_entry ([.ref qB, .int x1, .int x2, .int x3] : List Value) (n := 4) (Nat.le_of_ble_eq_true rfl)
  rw [lg_entry_eq]
  generalize (lg_sl ([.ref qB, .int x1, .int x2, .int x3] : List Value) ++ List.replicate (4 - (lg_sl ([.ref qB, .int x1, .int x2, .int x3] : List Value)).length) Slot.unset).toArray = ls at hl ⊢
  have hl : lv_has ls 4 [(0, .ref qB), (1, .int x1), (2, .int x2), (3, .int x3)] := hl
  have hi0 : ∀ w ∈ u_ws RX0 TX0 8, w ∈ wsX0_link := by decide +kernel
  have hw0 : (Cond.fieldLink RX0 18 "NetPlumber$Board" "nexts" "[I").before #[Value.ref qB, Value.int x1, Value.int x2, Value.int x3] s = true := hts _ (by decide +kernel)
  have hw1 : (Cond.initialized RX7).before #[Value.ref qB, Value.int x1, Value.int x2, Value.int x3] s = true := hts _ (by decide +kernel)
  have hw2 : (Cond.static yX7_opposite).before #[Value.ref qB, Value.int x1, Value.int x2, Value.int x3] s = true := hts _ (by decide +kernel)
  refine wq (fun Q hQ => ?_)
  unfold kX0_link at hq
  refine lv_aload_n hx hb dX0_link_0 rfl (lv_at hl 0 rfl) ?_
  refine lv_iload_n hx hb dX0_link_1 rfl (lv_at hl 1 rfl) ?_
  obtain ⟨q1, eq1, hq⟩ := ob hq
  have hPc := hP.sub (ws' := [(qB, .inr (0, [.ref qBT, .ref qBC, .ref qBN, .ref qBW, .ref qBL, .int bn, .int bk, .int bs]))]) [0] rfl
  have hKc := hK
  refine vp_callSi (va_Run.run (va_runV (As := [.int x1]) (rest := []) ⟨hx, hb, hml, hown, hts⟩ (tX0_has G l eq1) (cwV 1 hts gX0_link_X0_has rfl rfl rfl (by decide +kernel) ⟨Nat.le_of_ble_eq_true rfl, Nat.le_of_ble_eq_true rfl⟩) ⟨pcP_blind, va_recv hKc hPc (ci := 0) (q0 := 0) rfl rfl, pcP_pre hPc hKK⟩ rfl rfl hl.1 rfl (lv_room (Nat.le_of_ble_eq_true rfl)) dX0_link_2 ⟨Nat.zero_le _, Nat.zero_le _⟩)) (fun r0 hr0 => ?_)
  obtain rfl := hr0
  refine lv_if_eq (tgt := 41) hx hb dX0_link_5 (by decide) (fun c_5 => ?_) (fun c_5 => ?_)
  · have hq := k_t c_5 hq
    obtain rfl := Option.some.inj hq
    rw [hQ]
    exact W.vret hx hb hr (fun t ht hW => ⟨⟨(), rfl, trivial, va_Pat ht hP⟩, hS.F ht⟩) hS.2.2 dX0_link_41
  · have hq := k_f c_5 hq
    refine lv_aload_n hx hb dX0_link_8 rfl (lv_at hl 0 rfl) ?_
    refine lv_iload_n hx hb dX0_link_9 rfl (lv_at hl 3 rfl) ?_
    obtain ⟨q5, eq5, hq⟩ := ob hq
    have hPc := hP.sub (ws' := [(qB, .inr (0, [.ref qBT, .ref qBC, .ref qBN, .ref qBW, .ref qBL, .int bn, .int bk, .int bs]))]) [0] rfl
    have hKc := hK
    refine vp_callSi (va_Run.run (va_runV (As := [.int x3]) (rest := []) ⟨hx, hb, hml, hown, hts⟩ (tX0_has G l eq5) (cwV 1 hts gX0_link_X0_has rfl rfl rfl (by decide +kernel) ⟨Nat.le_of_ble_eq_true rfl, Nat.le_of_ble_eq_true rfl⟩) ⟨pcP_blind, va_recv hKc hPc (ci := 0) (q0 := 0) rfl rfl, pcP_pre hPc hKK⟩ rfl rfl hl.1 rfl (lv_room (Nat.le_of_ble_eq_true rfl)) dX0_link_10 ⟨Nat.zero_le _, Nat.zero_le _⟩)) (fun r0 hr0 => ?_)
    obtain rfl := hr0
    refine lv_if_eq (tgt := 41) hx hb dX0_link_13 (by decide) (fun c_13 => ?_) (fun c_13 => ?_)
    · have hq := k_t c_13 hq
      obtain rfl := Option.some.inj hq
      rw [hQ]
      exact W.vret hx hb hr (fun t ht hW => ⟨⟨(), rfl, trivial, va_Pat ht hP⟩, hS.F ht⟩) hS.2.2 dX0_link_41
    · have hq := k_f c_13 hq
      refine lv_aload_n hx hb dX0_link_16 rfl (lv_at hl 0 rfl) ?_
      refine va_get (D := G.1) (ci := 0) (v := .ref qBN) (C := RX0) (T := TX0) (N := 8) hx hb hts hi0 hown hK hP 0 rfl rfl 2 (by decide) hw0 (fun _ h9 => h9) rfl dX0_link_17 ?_
      refine lv_iload_n hx hb dX0_link_20 rfl (lv_at hl 1 rfl) ?_
      refine lv_iconst (v := 4) hx hb dX0_link_21 (by decide) ?_
      refine lv_imul hx hb dX0_link_22 ?_
      refine lv_iload_n hx hb dX0_link_23 rfl (lv_at hl 2 rfl) ?_
      refine lv_iadd hx hb dX0_link_24 ?_
      refine lv_iload_n hx hb dX0_link_25 rfl (lv_at hl 3 rfl) ?_
      obtain ⟨hg, hq⟩ := k_g hq
      refine va_iast hx hb hK hP hD hS 1 0 rfl rfl (ix_in hg) dX0_link_26 (fun H locs hP hD hS => ?_)
      have hP : va_P G.1 vwCl [(qB, .inr (0, [.ref qBT, .ref qBC, .ref qBN, .ref qBW, .ref qBL, .int bn, .int bk, .int bs])), (qBN, .inl (G.2.1, 64, .inl (upd bN ((x1 * 4) + x2).toNatClampNeg x3)))] H := hP
      have hD : va_D A [(qB, .inr (0, [.ref qBT, .ref qBC, .ref qBN, .ref qBW, .ref qBL, .int bn, .int bk, .int bs])), (qBN, .inl (G.2.1, 64, .inl (upd bN ((x1 * 4) + x2).toNatClampNeg x3)))] := hD
      refine lv_aload_n hx hb dX0_link_27 rfl (lv_at hl 0 rfl) ?_
      refine va_get (D := G.1) (ci := 0) (v := .ref qBN) (C := RX0) (T := TX0) (N := 8) hx hb hts hi0 hown hK hP 0 rfl rfl 2 (by decide) hw0 (fun _ h9 => h9) rfl dX0_link_28 ?_
      refine lv_iload_n hx hb dX0_link_31 rfl (lv_at hl 3 rfl) ?_
      refine lv_iconst (v := 4) hx hb dX0_link_32 (by decide) ?_
      refine lv_imul hx hb dX0_link_33 ?_
      refine lv_iload_n hx hb dX0_link_34 rfl (lv_at hl 2 rfl) ?_
      obtain ⟨q8, eq8, hq⟩ := ob hq
      have hPc := hP.sub (ws' := []) [] rfl
      refine vp_callSi (va_Run.run (va_runSN (As := [.int x2]) (rest := [.int (x3 * 4), .ref qBN]) ⟨hx, hb, hml, hown, hts⟩ (tX7_opposite G l eq8) ⟨va_cnB 1 hts gX0_link_X7_opposite_n57 rfl rfl rfl (hKK.2 _ (List.mem_of_getElem? (i := 3) rfl)) hw1 (by decide +kernel) ⟨Nat.le_of_ble_eq_true rfl, Nat.le_of_ble_eq_true rfl⟩, hw2, trivial⟩ ⟨pcP_blind, pcP_pre hPc hKK⟩ rfl rfl hl.1 rfl (lv_room (Nat.le_of_ble_eq_true rfl)) dX0_link_35 ⟨Nat.zero_le _, Nat.zero_le _⟩)) (fun r0 hr0 => ?_)
      obtain rfl := hr0
      refine lv_iadd hx hb dX0_link_38 ?_
      refine lv_iload_n hx hb dX0_link_39 rfl (lv_at hl 1 rfl) ?_
      obtain ⟨hg, hq⟩ := k_g hq
      refine va_iast hx hb hK hP hD hS 1 0 rfl rfl (ix_in hg) dX0_link_40 (fun H locs hP hD hS => ?_)
      have hP : va_P G.1 vwCl [(qB, .inr (0, [.ref qBT, .ref qBC, .ref qBN, .ref qBW, .ref qBL, .int bn, .int bk, .int bs])), (qBN, .inl (G.2.1, 64, .inl (upd (upd bN ((x1 * 4) + x2).toNatClampNeg x3) ((x3 * 4) + q8).toNatClampNeg x1)))] H := hP
      have hD : va_D A [(qB, .inr (0, [.ref qBT, .ref qBC, .ref qBN, .ref qBW, .ref qBL, .int bn, .int bk, .int bs])), (qBN, .inl (G.2.1, 64, .inl (upd (upd bN ((x1 * 4) + x2).toNatClampNeg x3) ((x3 * 4) + q8).toNatClampNeg x1)))] := hD
      obtain rfl := Option.some.inj hq
      rw [hQ]
      exact W.vret hx hb hr (fun t ht hW => ⟨⟨(), rfl, trivial, va_Pat ht hP⟩, hS.F ht⟩) hS.2.2 dX0_link_41

abbrev rmX0_columnOf : Room := { frames := 1, cells := 0, slots := 0, locals := 21 }
set_option maxHeartbeats 40000000 in
set_option maxRecDepth 100000 in
theorem tX0_columnOf (G : GG) (l : Launch) {qB qBT qBC qBN qBW qBL : Nat} {bn : Int32} {bk : Int32} {bs : Int32} {bC : Nat → Int32} {x1 : Int32} {F : Nat} {r : Int32} (hq : kX0_columnOf F bC x1 = some r) : Met l yX0_columnOf wsX0_columnOf rmX0_columnOf (pcP G [(qB, .inr (0, [.ref qBT, .ref qBC, .ref qBN, .ref qBW, .ref qBL, .int bn, .int bk, .int bs])), (qBC, .inl (G.2.1, 16, .inl bC))] [.ref qB, .int x1]) (vp_Si (fun x => r = x)) 0 0 (fun _ => False) := by
  refine Met.ofW (cc := cX0_columnOf) (maxL := 2) (ret := (some .int)) (by decide) rfl ?_
  intro p e s m args below meth c s₁ B hml hv
  obtain ⟨rfl, hP, hKK⟩ := hv
  have hK := hKK.1
  have hx := B.exec
  have hb := B.bytes
  have hr := B.returns
  have hts := atoms_spec (ws := wsX0_columnOf) B.pre
  have hown : s.vm.findClass RX0 = some m.cls := findClass_of_methodNamed B.named
  have hlocks := B.notSynchronized
  have hl := lv_entry ([.ref qB, .int x1] : List Value) (n := 2) (Nat.le_of_ble_eq_true rfl)
  rw [lg_entry_eq]
  generalize (lg_sl ([.ref qB, .int x1] : List Value) ++ List.replicate (2 - (lg_sl ([.ref qB, .int x1] : List Value)).length) Slot.unset).toArray = ls at hl ⊢
  have hl : lv_has ls 2 [(0, .ref qB), (1, .int x1)] := hl
  have hi0 : ∀ w ∈ u_ws RX0 TX0 8, w ∈ wsX0_columnOf := by decide +kernel
  have hw0 : (Cond.fieldLink RX0 15 "NetPlumber$Board" "columns" "[I").before #[Value.ref qB, Value.int x1] s = true := hts _ (by decide +kernel)
  have hw1 : (Cond.initialized RX7).before #[Value.ref qB, Value.int x1] s = true := hts _ (by decide +kernel)
  have hw2 : (Cond.static yX7_at).before #[Value.ref qB, Value.int x1] s = true := hts _ (by decide +kernel)
  refine wq (fun Q hQ => ?_)
  unfold kX0_columnOf at hq
  refine lv_aload_n hx hb dX0_columnOf_0 rfl (lv_at hl 0 rfl) ?_
  refine va_get (D := G.1) (ci := 0) (v := .ref qBC) (C := RX0) (T := TX0) (N := 8) hx hb hts hi0 hown hK hP 0 rfl rfl 1 (by decide) hw0 (fun _ h9 => h9) rfl dX0_columnOf_1 ?_
  refine lv_iload_n hx hb dX0_columnOf_4 rfl (lv_at hl 1 rfl) ?_
  obtain ⟨q1, eq1, hq⟩ := ob hq
  have hPc := hP.sub (ws' := [(qBC, .inl (G.2.1, 16, .inl bC))]) [1] rfl
  refine vp_callSi (va_Run.run (va_runSN (As := [.ref qBC, .int x1]) (rest := []) ⟨hx, hb, hml, hown, hts⟩ (tX7_at G l eq1) ⟨va_cnB 2 hts gX0_columnOf_X7_at_n61 rfl rfl rfl (hKK.2 _ (List.mem_of_getElem? (i := 4) rfl)) hw1 (by decide +kernel) ⟨Nat.le_of_ble_eq_true rfl, Nat.le_of_ble_eq_true rfl⟩, hw2, trivial⟩ ⟨pcP_blind, pcP_pre hPc hKK⟩ rfl rfl hl.1 rfl (lv_room (Nat.le_of_ble_eq_true rfl)) dX0_columnOf_5 ⟨Nat.zero_le _, Nat.zero_le _⟩)) (fun r0 hr0 => ?_)
  obtain rfl := hr0
  obtain rfl := Option.some.inj hq
  rw [hQ]
  exact W.iret hx hb hr (fun t ht hW => ⟨_, rfl, rfl, ht⟩) (fun _ h => absurd h List.not_mem_nil) dX0_columnOf_8

abbrev rmX0_sidesOf : Room := { frames := 1, cells := 0, slots := 0, locals := 21 }
set_option maxHeartbeats 40000000 in
set_option maxRecDepth 100000 in
theorem tX0_sidesOf (G : GG) (l : Launch) {qB qBT qBC qBN qBW qBL : Nat} {bn : Int32} {bk : Int32} {bs : Int32} {bT : Nat → Int32} {x1 : Int32} {F : Nat} {r : Int32} (hq : kX0_sidesOf F bT x1 = some r) : Met l yX0_sidesOf wsX0_sidesOf rmX0_sidesOf (pcP G [(qB, .inr (0, [.ref qBT, .ref qBC, .ref qBN, .ref qBW, .ref qBL, .int bn, .int bk, .int bs])), (qBT, .inl (G.2.1, 16, .inl bT))] [.ref qB, .int x1]) (vp_Si (fun x => r = x)) 0 0 (fun _ => False) := by
  refine Met.ofW (cc := cX0_sidesOf) (maxL := 2) (ret := (some .int)) (by decide) rfl ?_
  intro p e s m args below meth c s₁ B hml hv
  obtain ⟨rfl, hP, hKK⟩ := hv
  have hK := hKK.1
  have hx := B.exec
  have hb := B.bytes
  have hr := B.returns
  have hts := atoms_spec (ws := wsX0_sidesOf) B.pre
  have hown : s.vm.findClass RX0 = some m.cls := findClass_of_methodNamed B.named
  have hlocks := B.notSynchronized
  have hl := lv_entry ([.ref qB, .int x1] : List Value) (n := 2) (Nat.le_of_ble_eq_true rfl)
  rw [lg_entry_eq]
  generalize (lg_sl ([.ref qB, .int x1] : List Value) ++ List.replicate (2 - (lg_sl ([.ref qB, .int x1] : List Value)).length) Slot.unset).toArray = ls at hl ⊢
  have hl : lv_has ls 2 [(0, .ref qB), (1, .int x1)] := hl
  have hi0 : ∀ w ∈ u_ws RX0 TX0 8, w ∈ wsX0_sidesOf := by decide +kernel
  have hw0 : (Cond.fieldLink RX0 9 "NetPlumber$Board" "tiles" "[I").before #[Value.ref qB, Value.int x1] s = true := hts _ (by decide +kernel)
  have hw1 : (Cond.initialized RX7).before #[Value.ref qB, Value.int x1] s = true := hts _ (by decide +kernel)
  have hw2 : (Cond.static yX7_at).before #[Value.ref qB, Value.int x1] s = true := hts _ (by decide +kernel)
  refine wq (fun Q hQ => ?_)
  unfold kX0_sidesOf at hq
  refine lv_aload_n hx hb dX0_sidesOf_0 rfl (lv_at hl 0 rfl) ?_
  refine va_get (D := G.1) (ci := 0) (v := .ref qBT) (C := RX0) (T := TX0) (N := 8) hx hb hts hi0 hown hK hP 0 rfl rfl 0 (by decide) hw0 (fun _ h9 => h9) rfl dX0_sidesOf_1 ?_
  refine lv_iload_n hx hb dX0_sidesOf_4 rfl (lv_at hl 1 rfl) ?_
  obtain ⟨q1, eq1, hq⟩ := ob hq
  have hPc := hP.sub (ws' := [(qBT, .inl (G.2.1, 16, .inl bT))]) [1] rfl
  refine vp_callSi (va_Run.run (va_runSN (As := [.ref qBT, .int x1]) (rest := []) ⟨hx, hb, hml, hown, hts⟩ (tX7_at G l eq1) ⟨va_cnB 2 hts gX0_sidesOf_X7_at_n61 rfl rfl rfl (hKK.2 _ (List.mem_of_getElem? (i := 4) rfl)) hw1 (by decide +kernel) ⟨Nat.le_of_ble_eq_true rfl, Nat.le_of_ble_eq_true rfl⟩, hw2, trivial⟩ ⟨pcP_blind, pcP_pre hPc hKK⟩ rfl rfl hl.1 rfl (lv_room (Nat.le_of_ble_eq_true rfl)) dX0_sidesOf_5 ⟨Nat.zero_le _, Nat.zero_le _⟩)) (fun r0 hr0 => ?_)
  obtain rfl := hr0
  obtain rfl := Option.some.inj hq
  rw [hQ]
  exact W.iret hx hb hr (fun t ht hW => ⟨_, rfl, rfl, ht⟩) (fun _ h => absurd h List.not_mem_nil) dX0_sidesOf_8

abbrev rmX0_spin : Room := { frames := 2, cells := 0, slots := 0, locals := 43 }
set_option maxHeartbeats 40000000 in
set_option maxRecDepth 100000 in
theorem tX0_spin (G : GG) (l : Launch) {qB qBT qBC qBN qBW qBL : Nat} {bn : Int32} {bk : Int32} {bs : Int32} {bT : Nat → Int32} {x1 : Int32} {x2 : Int32} {sz : Nat} {F : Nat} {r : Nat → Int32} (hq : kX0_spin F bn bT x1 x2 = some r) : Met l yX0_spin wsX0_spin rmX0_spin (pcW G [(qB, .inr (0, [.ref qBT, .ref qBC, .ref qBN, .ref qBW, .ref qBL, .int bn, .int bk, .int bs])), (qBT, .inl (G.2.1, 16, .inl bT))] sz [.ref qB, .int x1, .int x2]) (qcV G [(qB, .inr (0, [.ref qBT, .ref qBC, .ref qBN, .ref qBW, .ref qBL, .int bn, .int bk, .int bs])), (qBT, .inl (G.2.1, 16, .inl r))] (va_A [(qB, .inr (0, [.ref qBT, .ref qBC, .ref qBN, .ref qBW, .ref qBL, .int bn, .int bk, .int bs])), (qBT, .inl (G.2.1, 16, .inl bT))] sz)) 0 0 (va_A [(qB, .inr (0, [.ref qBT, .ref qBC, .ref qBN, .ref qBW, .ref qBL, .int bn, .int bk, .int bs])), (qBT, .inl (G.2.1, 16, .inl bT))] sz) := by
  refine Met.ofW (cc := cX0_spin) (maxL := 3) (ret := none) (by decide) rfl ?_
  intro p e s m args below meth c s₁ B hml hv
  obtain ⟨rfl, hsz, hP, hKK, hD0⟩ := hv
  have hK := hKK.1
  have hx := B.exec
  have hb := B.bytes
  have hr := B.returns
  have hts := atoms_spec (ws := wsX0_spin) B.pre
  have hown : s.vm.findClass RX0 = some m.cls := findClass_of_methodNamed B.named
  have hlocks := B.notSynchronized
  subst hsz
  have hD := hD0.self (sz := s.heap.size)
  generalize hAe : va_A [(qB, .inr (0, [.ref qBT, .ref qBC, .ref qBN, .ref qBW, .ref qBL, .int bn, .int bk, .int bs])), (qBT, .inl (G.2.1, 16, .inl bT))] s.heap.size = A at hD ⊢
  have hA : ∀ q : Nat, s.heap.size ≤ q → A q := fun q h => by rw [← hAe]; exact Or.inr h
  have hS : va_S A s.heap s.heap [] := va_S.rf
  have hl := lv_entry ([.ref qB, .int x1, .int x2] : List Value) (n := 3) (Nat.le_of_ble_eq_true rfl)
  rw [lg_entry_eq]
  generalize (lg_sl ([.ref qB, .int x1, .int x2] : List Value) ++ List.replicate (3 - (lg_sl ([.ref qB, .int x1, .int x2] : List Value)).length) Slot.unset).toArray = ls at hl ⊢
  have hl : lv_has ls 3 [(0, .ref qB), (1, .int x1), (2, .int x2)] := hl
  have hw0 : (Cond.initialized RX7).before #[Value.ref qB, Value.int x1, Value.int x2] s = true := hts _ (by decide +kernel)
  have hw1 : (Cond.static yX7_turned).before #[Value.ref qB, Value.int x1, Value.int x2] s = true := hts _ (by decide +kernel)
  refine wq (fun Q hQ => ?_)
  unfold kX0_spin at hq
  refine lv_aload_n hx hb dX0_spin_0 rfl (lv_at hl 0 rfl) ?_
  refine lv_iload_n hx hb dX0_spin_1 rfl (lv_at hl 1 rfl) ?_
  refine lv_aload_n hx hb dX0_spin_2 rfl (lv_at hl 0 rfl) ?_
  refine lv_iload_n hx hb dX0_spin_3 rfl (lv_at hl 1 rfl) ?_
  obtain ⟨q1, eq1, hq⟩ := ob hq
  have hPc := hP.sub (ws' := [(qB, .inr (0, [.ref qBT, .ref qBC, .ref qBN, .ref qBW, .ref qBL, .int bn, .int bk, .int bs])), (qBT, .inl (G.2.1, 16, .inl bT))]) [0, 1] rfl
  have hKc := hK
  refine vp_callSi (va_Run.run (va_runV (As := [.int x1]) (rest := [.int x1, .ref qB]) ⟨hx, hb, hml, hown, hts⟩ (tX0_sidesOf G l eq1) (cwV 1 hts gX0_spin_X0_sidesOf rfl rfl rfl (by decide +kernel) ⟨Nat.le_of_ble_eq_true rfl, Nat.le_of_ble_eq_true rfl⟩) ⟨pcP_blind, va_recv hKc hPc (ci := 0) (q0 := 0) rfl rfl, pcP_pre hPc hKK⟩ rfl rfl hl.1 rfl (lv_room (Nat.le_of_ble_eq_true rfl)) dX0_spin_4 ⟨Nat.zero_le _, Nat.zero_le _⟩)) (fun r0 hr0 => ?_)
  obtain rfl := hr0
  refine lv_iload_n hx hb dX0_spin_7 rfl (lv_at hl 2 rfl) ?_
  obtain ⟨q2, eq2, hq⟩ := ob hq
  have hPc := hP.sub (ws' := []) [] rfl
  refine vp_callSi (va_Run.run (va_runSN (As := [.int q1, .int x2]) (rest := [.int x1, .ref qB]) ⟨hx, hb, hml, hown, hts⟩ (tX7_turned G l eq2) ⟨va_cnB 2 hts gX0_spin_X7_turned_n68 rfl rfl rfl (hKK.2 _ (List.mem_of_getElem? (i := 7) rfl)) hw0 (by decide +kernel) ⟨Nat.le_of_ble_eq_true rfl, Nat.le_of_ble_eq_true rfl⟩, hw1, trivial⟩ ⟨pcP_blind, pcP_pre hPc hKK⟩ rfl rfl hl.1 rfl (lv_room (Nat.le_of_ble_eq_true rfl)) dX0_spin_8 ⟨Nat.zero_le _, Nat.zero_le _⟩)) (fun r0 hr0 => ?_)
  obtain rfl := hr0
  obtain ⟨q3, eq3, hq⟩ := ob hq
  have hPc := hP.sub (ws' := [(qB, .inr (0, [.ref qBT, .ref qBC, .ref qBN, .ref qBW, .ref qBL, .int bn, .int bk, .int bs])), (qBT, .inl (G.2.1, 16, .inl bT))]) [0, 1] rfl
  have hKc := hK
  have hDc := hD.sub (ws' := [(qB, .inr (0, [.ref qBT, .ref qBC, .ref qBN, .ref qBW, .ref qBL, .int bn, .int bk, .int bs])), (qBT, .inl (G.2.1, 16, .inl bT))]) [0, 1] (by decide) rfl
  have hFc := va_free (wc := [(qB, .inr (0, [.ref qBT, .ref qBC, .ref qBN, .ref qBW, .ref qBL, .int bn, .int bk, .int bs])), (qBT, .inl (G.2.1, 16, .inl bT))]) hD hS hA [0, 1] rfl
  refine va_callv (va_runV (As := [.int x1, .int q2]) (rest := []) ⟨hx, hb, hml, hown, hts⟩ (tX0_lay G l eq3) (cwV 2 hts gX0_spin_X0_lay rfl rfl rfl (by decide +kernel) ⟨Nat.le_of_ble_eq_true rfl, Nat.le_of_ble_eq_true rfl⟩) ⟨pcW_blind, va_recv hKc hPc (ci := 0) (q0 := 0) rfl rfl, pcW_pre hPc hKK hDc⟩ rfl rfl hl.1 rfl (lv_room (Nat.le_of_ble_eq_true rfl)) dX0_spin_11 ⟨Nat.zero_le _, Nat.zero_le _⟩) hS (fun q _ h => hFc q h) hFc (fun u t H1 locs ht hvm hw hB hz1 hk1 hS => ?_)
  have hB := va_Pto ht hB
  obtain ⟨hP, hD⟩ := jn (ws' := [(qB, .inr (0, [.ref qBT, .ref qBC, .ref qBN, .ref qBW, .ref qBL, .int bn, .int bk, .int bs])), (qBT, .inl (G.2.1, 16, .inl q3))]) hP hD hk1 hB [0, 1] rfl rfl rfl rfl
  generalize H1 = H at hP hS ⊢
  obtain rfl := Option.some.inj hq
  rw [hQ]
  exact W.vret hx hb hr (fun t ht hW => ⟨⟨(), rfl, trivial, va_Pat ht hP⟩, hS.F ht⟩) hS.2.2 dX0_spin_14

abbrev rmX0_hasLock : Room := { frames := 1, cells := 0, slots := 0, locals := 21 }
set_option maxHeartbeats 40000000 in
set_option maxRecDepth 100000 in
theorem tX0_hasLock (G : GG) (l : Launch) {qB qBT qBC qBN qBW qBL : Nat} {bn : Int32} {bk : Int32} {bs : Int32} {x1 : Int32} {F : Nat} {r : Int32} (hq : kX0_hasLock F bk x1 = some r) : Met l yX0_hasLock wsX0_hasLock rmX0_hasLock (pcP G [(qB, .inr (0, [.ref qBT, .ref qBC, .ref qBN, .ref qBW, .ref qBL, .int bn, .int bk, .int bs]))] [.ref qB, .int x1]) (vp_Si (fun x => r = x)) 0 0 (fun _ => False) := by
  refine Met.ofW (cc := cX0_hasLock) (maxL := 2) (ret := (some .boolean)) (by decide) rfl ?_
  intro p e s m args below meth c s₁ B hml hv
  obtain ⟨rfl, hP, hKK⟩ := hv
  have hK := hKK.1
  have hx := B.exec
  have hb := B.bytes
  have hr := B.returns
  have hts := atoms_spec (ws := wsX0_hasLock) B.pre
  have hown : s.vm.findClass RX0 = some m.cls := findClass_of_methodNamed B.named
  have hlocks := B.notSynchronized
  have hl := lv_entry ([.ref qB, .int x1] : List Value) (n := 2) (Nat.le_of_ble_eq_true rfl)
  rw [lg_entry_eq]
  generalize (lg_sl ([.ref qB, .int x1] : List Value) ++ List.replicate (2 - (lg_sl ([.ref qB, .int x1] : List Value)).length) Slot.unset).toArray = ls at hl ⊢
  have hl : lv_has ls 2 [(0, .ref qB), (1, .int x1)] := hl
  have hi0 : ∀ w ∈ u_ws RX0 TX0 8, w ∈ wsX0_hasLock := by decide +kernel
  have hw0 : (Cond.fieldLink RX0 37 "NetPlumber$Board" "locks" "I").before #[Value.ref qB, Value.int x1] s = true := hts _ (by decide +kernel)
  have hw1 : (Cond.initialized RX7).before #[Value.ref qB, Value.int x1] s = true := hts _ (by decide +kernel)
  have hw2 : (Cond.static yX7_holds).before #[Value.ref qB, Value.int x1] s = true := hts _ (by decide +kernel)
  refine wq (fun Q hQ => ?_)
  unfold kX0_hasLock at hq
  refine lv_aload_n hx hb dX0_hasLock_0 rfl (lv_at hl 0 rfl) ?_
  refine va_get (D := G.1) (ci := 0) (v := .int bk) (C := RX0) (T := TX0) (N := 8) hx hb hts hi0 hown hK hP 0 rfl rfl 6 (by decide) hw0 (fun _ h9 => h9) rfl dX0_hasLock_1 ?_
  refine lv_iload_n hx hb dX0_hasLock_4 rfl (lv_at hl 1 rfl) ?_
  obtain ⟨q1, eq1, hq⟩ := ob hq
  have hPc := hP.sub (ws' := []) [] rfl
  refine vp_callSi (va_Run.run (va_runSN (As := [.int bk, .int x1]) (rest := []) ⟨hx, hb, hml, hown, hts⟩ (tX7_holds G l eq1) ⟨va_cnB 2 hts gX0_hasLock_X7_holds_n76 rfl rfl rfl (hKK.2 _ (List.mem_of_getElem? (i := 5) rfl)) hw1 (by decide +kernel) ⟨Nat.le_of_ble_eq_true rfl, Nat.le_of_ble_eq_true rfl⟩, hw2, trivial⟩ ⟨pcP_blind, pcP_pre hPc hKK⟩ rfl rfl hl.1 rfl (lv_room (Nat.le_of_ble_eq_true rfl)) dX0_hasLock_5 ⟨Nat.zero_le _, Nat.zero_le _⟩)) (fun r0 hr0 => ?_)
  obtain rfl := hr0
  obtain ⟨hg, hq⟩ := k_g hq
  obtain rfl := Option.some.inj hq
  rw [hQ]
  exact W.zret hx hb hr (isZ_n hg) (fun t ht hW => ⟨_, rfl, rfl, ht⟩) (fun _ h => absurd h List.not_mem_nil) dX0_hasLock_8

abbrev rmX0_putWall : Room := { frames := 1, cells := 0, slots := 0, locals := 23 }
set_option maxHeartbeats 40000000 in
set_option maxRecDepth 100000 in
theorem tX0_putWall (G : GG) (l : Launch) {qB qBT qBC qBN qBW qBL : Nat} {bn : Int32} {bk : Int32} {bs : Int32} {bN : Nat → Int32} {bW : Nat → Int32} {x1 : Int32} {x2 : Int32} {x3 : Int32} {sz : Nat} {F : Nat} {r : Nat → Int32} (hq : kX0_putWall F bn bN bW x1 x2 x3 = some r) : Met l yX0_putWall wsX0_putWall rmX0_putWall (pcW G [(qB, .inr (0, [.ref qBT, .ref qBC, .ref qBN, .ref qBW, .ref qBL, .int bn, .int bk, .int bs])), (qBN, .inl (G.2.1, 64, .inl bN)), (qBW, .inl (G.2.1, 64, .inl bW))] sz [.ref qB, .int x1, .int x2, .int x3]) (qcV G [(qB, .inr (0, [.ref qBT, .ref qBC, .ref qBN, .ref qBW, .ref qBL, .int bn, .int bk, .int bs])), (qBN, .inl (G.2.1, 64, .inl bN)), (qBW, .inl (G.2.1, 64, .inl r))] (va_A [(qB, .inr (0, [.ref qBT, .ref qBC, .ref qBN, .ref qBW, .ref qBL, .int bn, .int bk, .int bs])), (qBN, .inl (G.2.1, 64, .inl bN)), (qBW, .inl (G.2.1, 64, .inl bW))] sz)) 0 0 (va_A [(qB, .inr (0, [.ref qBT, .ref qBC, .ref qBN, .ref qBW, .ref qBL, .int bn, .int bk, .int bs])), (qBN, .inl (G.2.1, 64, .inl bN)), (qBW, .inl (G.2.1, 64, .inl bW))] sz) := by
  refine Met.ofW (cc := cX0_putWall) (maxL := 5) (ret := none) (by decide) rfl ?_
  intro p e s m args below meth c s₁ B hml hv
  obtain ⟨rfl, hsz, hP, hKK, hD0⟩ := hv
  have hK := hKK.1
  have hx := B.exec
  have hb := B.bytes
  have hr := B.returns
  have hts := atoms_spec (ws := wsX0_putWall) B.pre
  have hown : s.vm.findClass RX0 = some m.cls := findClass_of_methodNamed B.named
  have hlocks := B.notSynchronized
  subst hsz
  have hD := hD0.self (sz := s.heap.size)
  generalize hAe : va_A [(qB, .inr (0, [.ref qBT, .ref qBC, .ref qBN, .ref qBW, .ref qBL, .int bn, .int bk, .int bs])), (qBN, .inl (G.2.1, 64, .inl bN)), (qBW, .inl (G.2.1, 64, .inl bW))] s.heap.size = A at hD ⊢
  have hA : ∀ q : Nat, s.heap.size ≤ q → A q := fun q h => by rw [← hAe]; exact Or.inr h
  have hS : va_S A s.heap s.heap [] := va_S.rf
  have hl := lv_entry ([.ref qB, .int x1, .int x2, .int x3] : List Value) (n := 5) (Nat.le_of_ble_eq_true rfl)
  rw [lg_entry_eq]
  generalize (lg_sl ([.ref qB, .int x1, .int x2, .int x3] : List Value) ++ List.replicate (5 - (lg_sl ([.ref qB, .int x1, .int x2, .int x3] : List Value)).length) Slot.unset).toArray = ls at hl ⊢
  have hl : lv_has ls 5 [(0, .ref qB), (1, .int x1), (2, .int x2), (3, .int x3)] := hl
  have hi0 : ∀ w ∈ u_ws RX0 TX0 8, w ∈ wsX0_putWall := by decide +kernel
  have hw0 : (Cond.fieldLink RX0 21 "NetPlumber$Board" "ways" "[I").before #[Value.ref qB, Value.int x1, Value.int x2, Value.int x3] s = true := hts _ (by decide +kernel)
  have hw1 : (Cond.initialized RX7).before #[Value.ref qB, Value.int x1, Value.int x2, Value.int x3] s = true := hts _ (by decide +kernel)
  have hw2 : (Cond.static yX7_opposite).before #[Value.ref qB, Value.int x1, Value.int x2, Value.int x3] s = true := hts _ (by decide +kernel)
  refine wq (fun Q hQ => ?_)
  unfold kX0_putWall at hq
  refine lv_aload_n hx hb dX0_putWall_0 rfl (lv_at hl 0 rfl) ?_
  refine lv_iload_n hx hb dX0_putWall_1 rfl (lv_at hl 1 rfl) ?_
  refine lv_iload_n hx hb dX0_putWall_2 rfl (lv_at hl 2 rfl) ?_
  obtain ⟨q1, eq1, hq⟩ := ob hq
  have hPc := hP.sub (ws' := [(qB, .inr (0, [.ref qBT, .ref qBC, .ref qBN, .ref qBW, .ref qBL, .int bn, .int bk, .int bs])), (qBN, .inl (G.2.1, 64, .inl bN))]) [0, 1] rfl
  have hKc := hK
  refine vp_callSi (va_Run.run (va_runV (As := [.int x1, .int x2]) (rest := []) ⟨hx, hb, hml, hown, hts⟩ (tX0_beside G l eq1) (cwV 2 hts gX0_putWall_X0_beside rfl rfl rfl (by decide +kernel) ⟨Nat.le_of_ble_eq_true rfl, Nat.le_of_ble_eq_true rfl⟩) ⟨pcP_blind, va_recv hKc hPc (ci := 0) (q0 := 0) rfl rfl, pcP_pre hPc hKK⟩ rfl rfl hl.1 rfl (lv_room (Nat.le_of_ble_eq_true rfl)) dX0_putWall_3 ⟨Nat.zero_le _, Nat.zero_le _⟩)) (fun r0 hr0 => ?_)
  obtain rfl := hr0
  refine lv_istore (lv' := [(4, .int q1), (0, .ref qB), (1, .int x1), (2, .int x2), (3, .int x3)]) hx hb dX0_putWall_6 hl (by decide) rfl (fun ls hl => ?_)
  refine lv_aload_n hx hb dX0_putWall_8 rfl (lv_at hl 1 rfl) ?_
  refine lv_iload_n hx hb dX0_putWall_9 rfl (lv_at hl 2 rfl) ?_
  obtain ⟨q2, eq2, hq⟩ := ob hq
  have hPc := hP.sub (ws' := [(qB, .inr (0, [.ref qBT, .ref qBC, .ref qBN, .ref qBW, .ref qBL, .int bn, .int bk, .int bs]))]) [0] rfl
  have hKc := hK
  refine vp_callSi (va_Run.run (va_runV (As := [.int x1]) (rest := []) ⟨hx, hb, hml, hown, hts⟩ (tX0_has G l eq2) (cwV 1 hts gX0_putWall_X0_has rfl rfl rfl (by decide +kernel) ⟨Nat.le_of_ble_eq_true rfl, Nat.le_of_ble_eq_true rfl⟩) ⟨pcP_blind, va_recv hKc hPc (ci := 0) (q0 := 0) rfl rfl, pcP_pre hPc hKK⟩ rfl rfl hl.1 rfl (lv_room (Nat.le_of_ble_eq_true rfl)) dX0_putWall_10 ⟨Nat.zero_le _, Nat.zero_le _⟩)) (fun r0 hr0 => ?_)
  obtain rfl := hr0
  refine lv_if_eq (tgt := 68) hx hb dX0_putWall_13 (by decide) (fun c_13 => ?_) (fun c_13 => ?_)
  · have hq := k_t c_13 hq
    obtain rfl := Option.some.inj hq
    rw [hQ]
    exact W.vret hx hb hr (fun t ht hW => ⟨⟨(), rfl, trivial, va_Pat ht hP⟩, hS.F ht⟩) hS.2.2 dX0_putWall_68
  · have hq := k_f c_13 hq
    refine lv_aload_n hx hb dX0_putWall_16 rfl (lv_at hl 1 rfl) ?_
    refine lv_iload hx hb dX0_putWall_17 (lv_at hl 0 rfl) ?_
    obtain ⟨q8, eq8, hq⟩ := ob hq
    have hPc := hP.sub (ws' := [(qB, .inr (0, [.ref qBT, .ref qBC, .ref qBN, .ref qBW, .ref qBL, .int bn, .int bk, .int bs]))]) [0] rfl
    have hKc := hK
    refine vp_callSi (va_Run.run (va_runV (As := [.int q1]) (rest := []) ⟨hx, hb, hml, hown, hts⟩ (tX0_has G l eq8) (cwV 1 hts gX0_putWall_X0_has rfl rfl rfl (by decide +kernel) ⟨Nat.le_of_ble_eq_true rfl, Nat.le_of_ble_eq_true rfl⟩) ⟨pcP_blind, va_recv hKc hPc (ci := 0) (q0 := 0) rfl rfl, pcP_pre hPc hKK⟩ rfl rfl hl.1 rfl (lv_room (Nat.le_of_ble_eq_true rfl)) dX0_putWall_19 ⟨Nat.zero_le _, Nat.zero_le _⟩)) (fun r0 hr0 => ?_)
    obtain rfl := hr0
    refine lv_if_eq (tgt := 68) hx hb dX0_putWall_22 (by decide) (fun c_22 => ?_) (fun c_22 => ?_)
    · have hq := k_t c_22 hq
      obtain rfl := Option.some.inj hq
      rw [hQ]
      exact W.vret hx hb hr (fun t ht hW => ⟨⟨(), rfl, trivial, va_Pat ht hP⟩, hS.F ht⟩) hS.2.2 dX0_putWall_68
    · have hq := k_f c_22 hq
      refine lv_aload_n hx hb dX0_putWall_25 rfl (lv_at hl 1 rfl) ?_
      refine va_get (D := G.1) (ci := 0) (v := .ref qBW) (C := RX0) (T := TX0) (N := 8) hx hb hts hi0 hown hK hP 0 rfl rfl 3 (by decide) hw0 (fun _ h9 => h9) rfl dX0_putWall_26 ?_
      refine lv_iload_n hx hb dX0_putWall_29 rfl (lv_at hl 2 rfl) ?_
      refine lv_iconst (v := 4) hx hb dX0_putWall_30 (by decide) ?_
      refine lv_imul hx hb dX0_putWall_31 ?_
      refine lv_iload_n hx hb dX0_putWall_32 rfl (lv_at hl 3 rfl) ?_
      refine lv_iadd hx hb dX0_putWall_33 ?_
      refine lv_iload_n hx hb dX0_putWall_34 rfl (lv_at hl 4 rfl) ?_
      have J44 : ∀ (v13 : Int32) (ls : Array Slot) (H : Heap) (locs : List Loc), kX0_putWall_j44 F bW x1 x2 x3 q1 v13 = some r → lv_has ls 5 [(0, .ref qB), (1, .int x1), (2, .int x2), (3, .int x3), (4, .int q1)] → va_P G.1 vwCl [(qB, .inr (0, [.ref qBT, .ref qBC, .ref qBN, .ref qBW, .ref qBL, .int bn, .int bk, .int bs])), (qBN, .inl (G.2.1, 64, .inl bN)), (qBW, .inl (G.2.1, 64, .inl bW))] H → va_D A [(qB, .inr (0, [.ref qBT, .ref qBC, .ref qBN, .ref qBW, .ref qBL, .int bn, .int bk, .int bs])), (qBN, .inl (G.2.1, 64, .inl bN)), (qBW, .inl (G.2.1, 64, .inl bW))] → va_S A s.heap H locs → W p l e (headSpec wsX0_putWall rmX0_putWall).room s m ([.ref qB, .int x1, .int x2, .int x3] : List Value).toArray below meth c H locs 0 0 Q (F0 m 44 ls [.int v13, .int ((x1 * 4) + x2), .ref qBW]) := by
        intro v13 ls H locs hq hl hP hD hS
        unfold kX0_putWall_j44 at hq
        obtain ⟨hg, hq⟩ := k_g hq
        refine va_iast hx hb hK hP hD hS 2 0 rfl rfl (ix_in hg) dX0_putWall_44 (fun H locs hP hD hS => ?_)
        have hP : va_P G.1 vwCl [(qB, .inr (0, [.ref qBT, .ref qBC, .ref qBN, .ref qBW, .ref qBL, .int bn, .int bk, .int bs])), (qBN, .inl (G.2.1, 64, .inl bN)), (qBW, .inl (G.2.1, 64, .inl (upd bW ((x1 * 4) + x2).toNatClampNeg v13)))] H := hP
        have hD : va_D A [(qB, .inr (0, [.ref qBT, .ref qBC, .ref qBN, .ref qBW, .ref qBL, .int bn, .int bk, .int bs])), (qBN, .inl (G.2.1, 64, .inl bN)), (qBW, .inl (G.2.1, 64, .inl (upd bW ((x1 * 4) + x2).toNatClampNeg v13)))] := hD
        refine lv_aload_n hx hb dX0_putWall_45 rfl (lv_at hl 0 rfl) ?_
        refine va_get (D := G.1) (ci := 0) (v := .ref qBW) (C := RX0) (T := TX0) (N := 8) hx hb hts hi0 hown hK hP 0 rfl rfl 3 (by decide) hw0 (fun _ h9 => h9) rfl dX0_putWall_46 ?_
        refine lv_iload hx hb dX0_putWall_49 (lv_at hl 4 rfl) ?_
        refine lv_iconst (v := 4) hx hb dX0_putWall_51 (by decide) ?_
        refine lv_imul hx hb dX0_putWall_52 ?_
        refine lv_iload_n hx hb dX0_putWall_53 rfl (lv_at hl 2 rfl) ?_
        obtain ⟨q14, eq14, hq⟩ := ob hq
        have hPc := hP.sub (ws' := []) [] rfl
        refine vp_callSi (va_Run.run (va_runSN (As := [.int x2]) (rest := [.int (q1 * 4), .ref qBW]) ⟨hx, hb, hml, hown, hts⟩ (tX7_opposite G l eq14) ⟨va_cnB 1 hts gX0_putWall_X7_opposite_n57 rfl rfl rfl (hKK.2 _ (List.mem_of_getElem? (i := 3) rfl)) hw1 (by decide +kernel) ⟨Nat.le_of_ble_eq_true rfl, Nat.le_of_ble_eq_true rfl⟩, hw2, trivial⟩ ⟨pcP_blind, pcP_pre hPc hKK⟩ rfl rfl hl.1 rfl (lv_room (Nat.le_of_ble_eq_true rfl)) dX0_putWall_54 ⟨Nat.zero_le _, Nat.zero_le _⟩)) (fun r0 hr0 => ?_)
        obtain rfl := hr0
        refine lv_iadd hx hb dX0_putWall_57 ?_
        refine lv_iload_n hx hb dX0_putWall_58 rfl (lv_at hl 3 rfl) ?_
        refine lv_if_eq (tgt := 66) hx hb dX0_putWall_59 (by decide) (fun c_59 => ?_) (fun c_59 => ?_)
        · have hq := k_t c_59 hq
          refine lv_iload_n hx hb dX0_putWall_66 rfl (lv_at hl 1 rfl) ?_
          obtain ⟨hg, hq⟩ := k_g hq
          refine va_iast hx hb hK hP hD hS 2 0 rfl rfl (ix_in hg) dX0_putWall_67 (fun H locs hP hD hS => ?_)
          have hP : va_P G.1 vwCl [(qB, .inr (0, [.ref qBT, .ref qBC, .ref qBN, .ref qBW, .ref qBL, .int bn, .int bk, .int bs])), (qBN, .inl (G.2.1, 64, .inl bN)), (qBW, .inl (G.2.1, 64, .inl (upd (upd bW ((x1 * 4) + x2).toNatClampNeg v13) ((q1 * 4) + q14).toNatClampNeg x1)))] H := hP
          have hD : va_D A [(qB, .inr (0, [.ref qBT, .ref qBC, .ref qBN, .ref qBW, .ref qBL, .int bn, .int bk, .int bs])), (qBN, .inl (G.2.1, 64, .inl bN)), (qBW, .inl (G.2.1, 64, .inl (upd (upd bW ((x1 * 4) + x2).toNatClampNeg v13) ((q1 * 4) + q14).toNatClampNeg x1)))] := hD
          obtain rfl := Option.some.inj hq
          rw [hQ]
          exact W.vret hx hb hr (fun t ht hW => ⟨⟨(), rfl, trivial, va_Pat ht hP⟩, hS.F ht⟩) hS.2.2 dX0_putWall_68
        · have hq := k_f c_59 hq
          refine lv_iconst (v := (-1)) hx hb dX0_putWall_62 (by decide) ?_
          refine lv_goto (tgt := 67) hx hb dX0_putWall_63 (by decide) ?_
          obtain ⟨hg, hq⟩ := k_g hq
          refine va_iast hx hb hK hP hD hS 2 0 rfl rfl (ix_in hg) dX0_putWall_67 (fun H locs hP hD hS => ?_)
          have hP : va_P G.1 vwCl [(qB, .inr (0, [.ref qBT, .ref qBC, .ref qBN, .ref qBW, .ref qBL, .int bn, .int bk, .int bs])), (qBN, .inl (G.2.1, 64, .inl bN)), (qBW, .inl (G.2.1, 64, .inl (upd (upd bW ((x1 * 4) + x2).toNatClampNeg v13) ((q1 * 4) + q14).toNatClampNeg (-1))))] H := hP
          have hD : va_D A [(qB, .inr (0, [.ref qBT, .ref qBC, .ref qBN, .ref qBW, .ref qBL, .int bn, .int bk, .int bs])), (qBN, .inl (G.2.1, 64, .inl bN)), (qBW, .inl (G.2.1, 64, .inl (upd (upd bW ((x1 * 4) + x2).toNatClampNeg v13) ((q1 * 4) + q14).toNatClampNeg (-1))))] := hD
          obtain rfl := Option.some.inj hq
          rw [hQ]
          exact W.vret hx hb hr (fun t ht hW => ⟨⟨(), rfl, trivial, va_Pat ht hP⟩, hS.F ht⟩) hS.2.2 dX0_putWall_68
      refine lv_if_eq (tgt := 42) hx hb dX0_putWall_35 (by decide) (fun c_35 => ?_) (fun c_35 => ?_)
      · have hq := k_t c_35 hq
        refine lv_iload hx hb dX0_putWall_42 (lv_at hl 0 rfl) ?_
        exact J44 q1 ls _ _ hq (lv_sub hl [1, 2, 3, 4, 0] rfl) hP hD hS
      · have hq := k_f c_35 hq
        refine lv_iconst (v := (-1)) hx hb dX0_putWall_38 (by decide) ?_
        refine lv_goto (tgt := 44) hx hb dX0_putWall_39 (by decide) ?_
        exact J44 (-1) ls _ _ hq (lv_sub hl [1, 2, 3, 4, 0] rfl) hP hD hS

abbrev rmX0_joins : Room := { frames := 1, cells := 0, slots := 0, locals := 23 }
set_option maxHeartbeats 40000000 in
set_option maxRecDepth 100000 in
theorem tX0_joins (G : GG) (l : Launch) {qB qBT qBC qBN qBW qBL : Nat} {bn : Int32} {bk : Int32} {bs : Int32} {bT : Nat → Int32} {bW : Nat → Int32} {x1 : Int32} {x2 : Int32} {F : Nat} {r : Int32} (hq : kX0_joins F bT bW x1 x2 = some r) : Met l yX0_joins wsX0_joins rmX0_joins (pcP G [(qB, .inr (0, [.ref qBT, .ref qBC, .ref qBN, .ref qBW, .ref qBL, .int bn, .int bk, .int bs])), (qBT, .inl (G.2.1, 16, .inl bT)), (qBW, .inl (G.2.1, 64, .inl bW))] [.ref qB, .int x1, .int x2]) (vp_Si (fun x => r = x)) 0 0 (fun _ => False) := by
  refine Met.ofW (cc := cX0_joins) (maxL := 4) (ret := (some .boolean)) (by decide) rfl ?_
  intro p e s m args below meth c s₁ B hml hv
  obtain ⟨rfl, hP, hKK⟩ := hv
  have hK := hKK.1
  have hx := B.exec
  have hb := B.bytes
  have hr := B.returns
  have hts := atoms_spec (ws := wsX0_joins) B.pre
  have hown : s.vm.findClass RX0 = some m.cls := findClass_of_methodNamed B.named
  have hlocks := B.notSynchronized
  have hl := lv_entry ([.ref qB, .int x1, .int x2] : List Value) (n := 4) (Nat.le_of_ble_eq_true rfl)
  rw [lg_entry_eq]
  generalize (lg_sl ([.ref qB, .int x1, .int x2] : List Value) ++ List.replicate (4 - (lg_sl ([.ref qB, .int x1, .int x2] : List Value)).length) Slot.unset).toArray = ls at hl ⊢
  have hl : lv_has ls 4 [(0, .ref qB), (1, .int x1), (2, .int x2)] := hl
  have hi0 : ∀ w ∈ u_ws RX0 TX0 8, w ∈ wsX0_joins := by decide +kernel
  have hw0 : (Cond.fieldLink RX0 9 "NetPlumber$Board" "tiles" "[I").before #[Value.ref qB, Value.int x1, Value.int x2] s = true := hts _ (by decide +kernel)
  have hw1 : (Cond.initialized RX7).before #[Value.ref qB, Value.int x1, Value.int x2] s = true := hts _ (by decide +kernel)
  have hw2 : (Cond.static yX7_at).before #[Value.ref qB, Value.int x1, Value.int x2] s = true := hts _ (by decide +kernel)
  have hw3 : (Cond.static yX7_holds).before #[Value.ref qB, Value.int x1, Value.int x2] s = true := hts _ (by decide +kernel)
  have hw4 : (Cond.static yX7_opposite).before #[Value.ref qB, Value.int x1, Value.int x2] s = true := hts _ (by decide +kernel)
  refine wq (fun Q hQ => ?_)
  unfold kX0_joins at hq
  refine lv_aload_n hx hb dX0_joins_0 rfl (lv_at hl 0 rfl) ?_
  refine lv_iload_n hx hb dX0_joins_1 rfl (lv_at hl 1 rfl) ?_
  refine lv_iload_n hx hb dX0_joins_2 rfl (lv_at hl 2 rfl) ?_
  obtain ⟨q1, eq1, hq⟩ := ob hq
  have hPc := hP.sub (ws' := [(qB, .inr (0, [.ref qBT, .ref qBC, .ref qBN, .ref qBW, .ref qBL, .int bn, .int bk, .int bs])), (qBW, .inl (G.2.1, 64, .inl bW))]) [0, 2] rfl
  have hKc := hK
  refine vp_callSi (va_Run.run (va_runV (As := [.int x1, .int x2]) (rest := []) ⟨hx, hb, hml, hown, hts⟩ (tX0_across G l eq1) (cwV 2 hts gX0_joins_X0_across rfl rfl rfl (by decide +kernel) ⟨Nat.le_of_ble_eq_true rfl, Nat.le_of_ble_eq_true rfl⟩) ⟨pcP_blind, va_recv hKc hPc (ci := 0) (q0 := 0) rfl rfl, pcP_pre hPc hKK⟩ rfl rfl hl.1 rfl (lv_room (Nat.le_of_ble_eq_true rfl)) dX0_joins_3 ⟨Nat.zero_le _, Nat.zero_le _⟩)) (fun r0 hr0 => ?_)
  obtain rfl := hr0
  refine lv_istore_n (lv' := [(3, .int q1), (0, .ref qB), (1, .int x1), (2, .int x2)]) hx hb dX0_joins_6 rfl hl (by decide) rfl (fun ls hl => ?_)
  refine lv_iload_n hx hb dX0_joins_7 rfl (lv_at hl 0 rfl) ?_
  refine lv_iconst (v := (-1)) hx hb dX0_joins_8 (by decide) ?_
  refine lv_icmp_eq (tgt := 49) hx hb dX0_joins_9 (by decide) (fun c_9 => ?_) (fun c_9 => ?_)
  · have hq := k_t c_9 hq
    refine lv_iconst (v := 0) hx hb dX0_joins_49 (by decide) ?_
    obtain rfl := Option.some.inj hq
    rw [hQ]
    exact W.zret hx hb hr rfl (fun t ht hW => ⟨_, rfl, rfl, ht⟩) (fun _ h => absurd h List.not_mem_nil) dX0_joins_50
  · have hq := k_f c_9 hq
    refine lv_aload_n hx hb dX0_joins_12 rfl (lv_at hl 1 rfl) ?_
    refine va_get (D := G.1) (ci := 0) (v := .ref qBT) (C := RX0) (T := TX0) (N := 8) hx hb hts hi0 hown hK hP 0 rfl rfl 0 (by decide) hw0 (fun _ h9 => h9) rfl dX0_joins_13 ?_
    refine lv_iload_n hx hb dX0_joins_16 rfl (lv_at hl 2 rfl) ?_
    obtain ⟨q8, eq8, hq⟩ := ob hq
    have hPc := hP.sub (ws' := [(qBT, .inl (G.2.1, 16, .inl bT))]) [1] rfl
    refine vp_callSi (va_Run.run (va_runSN (As := [.ref qBT, .int x1]) (rest := []) ⟨hx, hb, hml, hown, hts⟩ (tX7_at G l eq8) ⟨va_cnB 2 hts gX0_joins_X7_at_n61 rfl rfl rfl (hKK.2 _ (List.mem_of_getElem? (i := 4) rfl)) hw1 (by decide +kernel) ⟨Nat.le_of_ble_eq_true rfl, Nat.le_of_ble_eq_true rfl⟩, hw2, trivial⟩ ⟨pcP_blind, pcP_pre hPc hKK⟩ rfl rfl hl.1 rfl (lv_room (Nat.le_of_ble_eq_true rfl)) dX0_joins_17 ⟨Nat.zero_le _, Nat.zero_le _⟩)) (fun r0 hr0 => ?_)
    obtain rfl := hr0
    refine lv_iload_n hx hb dX0_joins_20 rfl (lv_at hl 3 rfl) ?_
    obtain ⟨q9, eq9, hq⟩ := ob hq
    have hPc := hP.sub (ws' := []) [] rfl
    refine vp_callSi (va_Run.run (va_runSN (As := [.int q8, .int x2]) (rest := []) ⟨hx, hb, hml, hown, hts⟩ (tX7_holds G l eq9) ⟨va_cnB 2 hts gX0_joins_X7_holds_n76 rfl rfl rfl (hKK.2 _ (List.mem_of_getElem? (i := 5) rfl)) hw1 (by decide +kernel) ⟨Nat.le_of_ble_eq_true rfl, Nat.le_of_ble_eq_true rfl⟩, hw3, trivial⟩ ⟨pcP_blind, pcP_pre hPc hKK⟩ rfl rfl hl.1 rfl (lv_room (Nat.le_of_ble_eq_true rfl)) dX0_joins_21 ⟨Nat.zero_le _, Nat.zero_le _⟩)) (fun r0 hr0 => ?_)
    obtain rfl := hr0
    refine lv_if_eq (tgt := 49) hx hb dX0_joins_24 (by decide) (fun c_24 => ?_) (fun c_24 => ?_)
    · have hq := k_t c_24 hq
      refine lv_iconst (v := 0) hx hb dX0_joins_49 (by decide) ?_
      obtain rfl := Option.some.inj hq
      rw [hQ]
      exact W.zret hx hb hr rfl (fun t ht hW => ⟨_, rfl, rfl, ht⟩) (fun _ h => absurd h List.not_mem_nil) dX0_joins_50
    · have hq := k_f c_24 hq
      refine lv_aload_n hx hb dX0_joins_27 rfl (lv_at hl 1 rfl) ?_
      refine va_get (D := G.1) (ci := 0) (v := .ref qBT) (C := RX0) (T := TX0) (N := 8) hx hb hts hi0 hown hK hP 0 rfl rfl 0 (by decide) hw0 (fun _ h9 => h9) rfl dX0_joins_28 ?_
      refine lv_iload_n hx hb dX0_joins_31 rfl (lv_at hl 0 rfl) ?_
      obtain ⟨q14, eq14, hq⟩ := ob hq
      have hPc := hP.sub (ws' := [(qBT, .inl (G.2.1, 16, .inl bT))]) [1] rfl
      refine vp_callSi (va_Run.run (va_runSN (As := [.ref qBT, .int q1]) (rest := []) ⟨hx, hb, hml, hown, hts⟩ (tX7_at G l eq14) ⟨va_cnB 2 hts gX0_joins_X7_at_n61 rfl rfl rfl (hKK.2 _ (List.mem_of_getElem? (i := 4) rfl)) hw1 (by decide +kernel) ⟨Nat.le_of_ble_eq_true rfl, Nat.le_of_ble_eq_true rfl⟩, hw2, trivial⟩ ⟨pcP_blind, pcP_pre hPc hKK⟩ rfl rfl hl.1 rfl (lv_room (Nat.le_of_ble_eq_true rfl)) dX0_joins_32 ⟨Nat.zero_le _, Nat.zero_le _⟩)) (fun r0 hr0 => ?_)
      obtain rfl := hr0
      refine lv_iload_n hx hb dX0_joins_35 rfl (lv_at hl 3 rfl) ?_
      obtain ⟨q15, eq15, hq⟩ := ob hq
      have hPc := hP.sub (ws' := []) [] rfl
      refine vp_callSi (va_Run.run (va_runSN (As := [.int x2]) (rest := [.int q14]) ⟨hx, hb, hml, hown, hts⟩ (tX7_opposite G l eq15) ⟨va_cnB 1 hts gX0_joins_X7_opposite_n57 rfl rfl rfl (hKK.2 _ (List.mem_of_getElem? (i := 3) rfl)) hw1 (by decide +kernel) ⟨Nat.le_of_ble_eq_true rfl, Nat.le_of_ble_eq_true rfl⟩, hw4, trivial⟩ ⟨pcP_blind, pcP_pre hPc hKK⟩ rfl rfl hl.1 rfl (lv_room (Nat.le_of_ble_eq_true rfl)) dX0_joins_36 ⟨Nat.zero_le _, Nat.zero_le _⟩)) (fun r0 hr0 => ?_)
      obtain rfl := hr0
      obtain ⟨q16, eq16, hq⟩ := ob hq
      have hPc := hP.sub (ws' := []) [] rfl
      refine vp_callSi (va_Run.run (va_runSN (As := [.int q14, .int q15]) (rest := []) ⟨hx, hb, hml, hown, hts⟩ (tX7_holds G l eq16) ⟨va_cnB 2 hts gX0_joins_X7_holds_n76 rfl rfl rfl (hKK.2 _ (List.mem_of_getElem? (i := 5) rfl)) hw1 (by decide +kernel) ⟨Nat.le_of_ble_eq_true rfl, Nat.le_of_ble_eq_true rfl⟩, hw3, trivial⟩ ⟨pcP_blind, pcP_pre hPc hKK⟩ rfl rfl hl.1 rfl (lv_room (Nat.le_of_ble_eq_true rfl)) dX0_joins_39 ⟨Nat.zero_le _, Nat.zero_le _⟩)) (fun r0 hr0 => ?_)
      obtain rfl := hr0
      refine lv_if_eq (tgt := 49) hx hb dX0_joins_42 (by decide) (fun c_42 => ?_) (fun c_42 => ?_)
      · have hq := k_t c_42 hq
        refine lv_iconst (v := 0) hx hb dX0_joins_49 (by decide) ?_
        obtain rfl := Option.some.inj hq
        rw [hQ]
        exact W.zret hx hb hr rfl (fun t ht hW => ⟨_, rfl, rfl, ht⟩) (fun _ h => absurd h List.not_mem_nil) dX0_joins_50
      · have hq := k_f c_42 hq
        refine lv_iconst (v := 1) hx hb dX0_joins_45 (by decide) ?_
        refine lv_goto (tgt := 50) hx hb dX0_joins_46 (by decide) ?_
        obtain rfl := Option.some.inj hq
        rw [hQ]
        exact W.zret hx hb hr rfl (fun t ht hW => ⟨_, rfl, rfl, ht⟩) (fun _ h => absurd h List.not_mem_nil) dX0_joins_50

abbrev rmX0_countOpen : Room := { frames := 2, cells := 0, slots := 0, locals := 42 }
set_option maxHeartbeats 40000000 in
set_option maxRecDepth 100000 in
theorem tX0_countOpen (G : GG) (l : Launch) {qB qBT qBC qBN qBW qBL : Nat} {bn : Int32} {bk : Int32} {bs : Int32} {bT : Nat → Int32} {F : Nat} {r : Int32} (hq : kX0_countOpen F bn bT = some r) : Met l yX0_countOpen wsX0_countOpen rmX0_countOpen (pcP G [(qB, .inr (0, [.ref qBT, .ref qBC, .ref qBN, .ref qBW, .ref qBL, .int bn, .int bk, .int bs])), (qBT, .inl (G.2.1, 16, .inl bT))] [.ref qB]) (vp_Si (fun x => r = x)) 0 0 (fun _ => False) := by
  refine Met.ofW (cc := cX0_countOpen) (maxL := 3) (ret := (some .int)) (by decide) rfl ?_
  intro p e s m args below meth c s₁ B hml hv
  obtain ⟨rfl, hP, hKK⟩ := hv
  have hK := hKK.1
  have hx := B.exec
  have hb := B.bytes
  have hr := B.returns
  have hts := atoms_spec (ws := wsX0_countOpen) B.pre
  have hown : s.vm.findClass RX0 = some m.cls := findClass_of_methodNamed B.named
  have hlocks := B.notSynchronized
  have hl := lv_entry ([.ref qB] : List Value) (n := 3) (Nat.le_of_ble_eq_true rfl)
  rw [lg_entry_eq]
  generalize (lg_sl ([.ref qB] : List Value) ++ List.replicate (3 - (lg_sl ([.ref qB] : List Value)).length) Slot.unset).toArray = ls at hl ⊢
  have hl : lv_has ls 3 [(0, .ref qB)] := hl
  have hi0 : ∀ w ∈ u_ws RX0 TX0 8, w ∈ wsX0_countOpen := by decide +kernel
  have hw0 : (Cond.fieldLink RX0 33 "NetPlumber$Board" "cells" "I").before #[Value.ref qB] s = true := hts _ (by decide +kernel)
  refine wq (fun Q hQ => ?_)
  unfold kX0_countOpen at hq
  refine lv_iconst (v := 0) hx hb dX0_countOpen_0 (by decide) ?_
  refine lv_istore_n (lv' := [(1, .int 0), (0, .ref qB)]) hx hb dX0_countOpen_1 rfl hl (by decide) rfl (fun ls hl => ?_)
  refine lv_iconst (v := 0) hx hb dX0_countOpen_2 (by decide) ?_
  refine lv_istore_n (lv' := [(2, .int 0), (1, .int 0), (0, .ref qB)]) hx hb dX0_countOpen_3 rfl hl (by decide) rfl (fun ls hl => ?_)
  have L4 : ∀ (n : Nat) (s5 : Int32) (s6 : Int32) (t_4 : Int32) (ls : Array Slot), kloop n (fun s_ => kX0_countOpen_s4 F bn bT s_.1 s_.2) (s5, s6) = some t_4 → lv_has ls 3 [(0, .ref qB), (1, .int s5), (2, .int s6)] → va_P G.1 vwCl [(qB, .inr (0, [.ref qBT, .ref qBC, .ref qBN, .ref qBW, .ref qBL, .int bn, .int bk, .int bs])), (qBT, .inl (G.2.1, 16, .inl bT))] s.heap → (∀ (ls : Array Slot), lv_has ls 3 [(1, .int t_4)] → va_P G.1 vwCl [(qB, .inr (0, [.ref qBT, .ref qBC, .ref qBN, .ref qBW, .ref qBL, .int bn, .int bk, .int bs])), (qBT, .inl (G.2.1, 16, .inl bT))] s.heap → W p l e (headSpec wsX0_countOpen rmX0_countOpen).room s m ([.ref qB] : List Value).toArray below meth c s.heap [] 0 0 Q (F0 m 29 ls [])) → W p l e (headSpec wsX0_countOpen rmX0_countOpen).room s m ([.ref qB] : List Value).toArray below meth c s.heap [] 0 0 Q (F0 m 4 ls []) := by
    intro n
    induction n with
    | zero => 
      intro s5 s6 t_4 ls hq hl hP kk4_29
      exact absurd hq kl_0
    | succ n ih4 =>
      intro s5 s6 t_4 ls hq hl hP kk4_29
      obtain ⟨y_4, hq, hx4⟩ := kl_s hq
      have hq : kX0_countOpen_s4 F bn bT s5 s6 = some y_4 := hq
      unfold kX0_countOpen_s4 at hq
      refine lv_iload_n hx hb dX0_countOpen_4 rfl (lv_at hl 2 rfl) ?_
      refine lv_aload_n hx hb dX0_countOpen_5 rfl (lv_at hl 0 rfl) ?_
      refine va_get (D := G.1) (ci := 0) (v := .int bn) (C := RX0) (T := TX0) (N := 8) hx hb hts hi0 hown hK hP 0 rfl rfl 5 (by decide) hw0 (fun _ h9 => h9) rfl dX0_countOpen_6 ?_
      refine lv_icmp_ge (tgt := 29) hx hb dX0_countOpen_9 (by decide) (fun c_9 => ?_) (fun c_9 => ?_)
      · have hq := k_t c_9 hq
        have et := kl_exit hq hx4
        subst et
        exact kk4_29 ls (lv_sub hl [1] rfl) hP
      · have hq := k_f c_9 hq
        refine lv_iload_n hx hb dX0_countOpen_12 rfl (lv_at hl 1 rfl) ?_
        refine lv_aload_n hx hb dX0_countOpen_13 rfl (lv_at hl 0 rfl) ?_
        refine lv_iload_n hx hb dX0_countOpen_14 rfl (lv_at hl 2 rfl) ?_
        obtain ⟨q7, eq7, hq⟩ := ob hq
        have hPc := hP.sub (ws' := [(qB, .inr (0, [.ref qBT, .ref qBC, .ref qBN, .ref qBW, .ref qBL, .int bn, .int bk, .int bs])), (qBT, .inl (G.2.1, 16, .inl bT))]) [0, 1] rfl
        have hKc := hK
        refine vp_callSi (va_Run.run (va_runV (As := [.int s6]) (rest := [.int s5]) ⟨hx, hb, hml, hown, hts⟩ (tX0_sidesOf G l eq7) (cwV 1 hts gX0_countOpen_X0_sidesOf rfl rfl rfl (by decide +kernel) ⟨Nat.le_of_ble_eq_true rfl, Nat.le_of_ble_eq_true rfl⟩) ⟨pcP_blind, va_recv hKc hPc (ci := 0) (q0 := 0) rfl rfl, pcP_pre hPc hKK⟩ rfl rfl hl.1 rfl (lv_room (Nat.le_of_ble_eq_true rfl)) dX0_countOpen_15 ⟨Nat.zero_le _, Nat.zero_le _⟩)) (fun r0 hr0 => ?_)
        obtain rfl := hr0
        obtain ⟨q8, eq8, hq⟩ := ob hq
        have hPc := hP.sub (ws' := []) [] rfl
        refine vp_callSi (va_Run.run (va_runS (As := [.int q7]) (rest := [.int s5]) ⟨hx, hb, hml, hown, hts⟩ (tJ6_bitCount_0f7a4 G l eq8) (va_cwS 1 hts gX0_countOpen_J6_bitCount_0f7a4 rfl rfl rfl (by decide +kernel) ⟨Nat.le_of_ble_eq_true rfl, Nat.le_of_ble_eq_true rfl⟩) ⟨pcP_blind, pcP_pre hPc hKK⟩ rfl rfl hl.1 rfl (lv_room (Nat.le_of_ble_eq_true rfl)) dX0_countOpen_18 ⟨Nat.zero_le _, Nat.zero_le _⟩)) (fun r0 hr0 => ?_)
        obtain rfl := hr0
        refine lv_iadd hx hb dX0_countOpen_21 ?_
        refine lv_istore_n (lv' := [(1, .int (s5 + q8)), (0, .ref qB), (2, .int s6)]) hx hb dX0_countOpen_22 rfl hl (by decide) rfl (fun ls hl => ?_)
        refine lv_iinc (v := (s6 + 1)) (lv' := [(2, .int (s6 + 1)), (1, .int (s5 + q8)), (0, .ref qB)]) hx hb dX0_countOpen_23 hl (k := 2) rfl rfl (by decide) rfl (fun ls hl => ?_)
        refine lv_goto (tgt := 4) hx hb dX0_countOpen_26 (by decide) ?_
        exact ih4 (s5 + q8) (s6 + 1) t_4 ls (kl_back hq hx4) (lv_sub hl [2, 1, 0] rfl) hP kk4_29
  obtain ⟨q9, eq9, hq⟩ := ob hq
  refine L4 F 0 0 q9 ls (eq9) (lv_sub hl [2, 1, 0] rfl) hP (fun ls hl hP => ?_)
  · refine lv_iload_n hx hb dX0_countOpen_29 rfl (lv_at hl 0 rfl) ?_
    obtain rfl := Option.some.inj hq
    rw [hQ]
    exact W.iret hx hb hr (fun t ht hW => ⟨_, rfl, rfl, ht⟩) (fun _ h => absurd h List.not_mem_nil) dX0_countOpen_30

abbrev rmX0_countEnds : Room := { frames := 2, cells := 0, slots := 0, locals := 42 }
set_option maxHeartbeats 40000000 in
set_option maxRecDepth 100000 in
theorem tX0_countEnds (G : GG) (l : Launch) {qB qBT qBC qBN qBW qBL : Nat} {bn : Int32} {bk : Int32} {bs : Int32} {bT : Nat → Int32} {F : Nat} {r : Int32} (hq : kX0_countEnds F bn bT = some r) : Met l yX0_countEnds wsX0_countEnds rmX0_countEnds (pcP G [(qB, .inr (0, [.ref qBT, .ref qBC, .ref qBN, .ref qBW, .ref qBL, .int bn, .int bk, .int bs])), (qBT, .inl (G.2.1, 16, .inl bT))] [.ref qB]) (vp_Si (fun x => r = x)) 0 0 (fun _ => False) := by
  refine Met.ofW (cc := cX0_countEnds) (maxL := 3) (ret := (some .int)) (by decide) rfl ?_
  intro p e s m args below meth c s₁ B hml hv
  obtain ⟨rfl, hP, hKK⟩ := hv
  have hK := hKK.1
  have hx := B.exec
  have hb := B.bytes
  have hr := B.returns
  have hts := atoms_spec (ws := wsX0_countEnds) B.pre
  have hown : s.vm.findClass RX0 = some m.cls := findClass_of_methodNamed B.named
  have hlocks := B.notSynchronized
  have hl := lv_entry ([.ref qB] : List Value) (n := 3) (Nat.le_of_ble_eq_true rfl)
  rw [lg_entry_eq]
  generalize (lg_sl ([.ref qB] : List Value) ++ List.replicate (3 - (lg_sl ([.ref qB] : List Value)).length) Slot.unset).toArray = ls at hl ⊢
  have hl : lv_has ls 3 [(0, .ref qB)] := hl
  have hi0 : ∀ w ∈ u_ws RX0 TX0 8, w ∈ wsX0_countEnds := by decide +kernel
  have hw0 : (Cond.fieldLink RX0 33 "NetPlumber$Board" "cells" "I").before #[Value.ref qB] s = true := hts _ (by decide +kernel)
  refine wq (fun Q hQ => ?_)
  unfold kX0_countEnds at hq
  refine lv_iconst (v := 0) hx hb dX0_countEnds_0 (by decide) ?_
  refine lv_istore_n (lv' := [(1, .int 0), (0, .ref qB)]) hx hb dX0_countEnds_1 rfl hl (by decide) rfl (fun ls hl => ?_)
  refine lv_iconst (v := 0) hx hb dX0_countEnds_2 (by decide) ?_
  refine lv_istore_n (lv' := [(2, .int 0), (1, .int 0), (0, .ref qB)]) hx hb dX0_countEnds_3 rfl hl (by decide) rfl (fun ls hl => ?_)
  have L4 : ∀ (n : Nat) (s6 : Int32) (s7 : Int32) (t_4 : Int32) (ls : Array Slot), kloop n (fun s_ => kX0_countEnds_s4 F bn bT s_.1 s_.2) (s6, s7) = some t_4 → lv_has ls 3 [(0, .ref qB), (1, .int s6), (2, .int s7)] → va_P G.1 vwCl [(qB, .inr (0, [.ref qBT, .ref qBC, .ref qBN, .ref qBW, .ref qBL, .int bn, .int bk, .int bs])), (qBT, .inl (G.2.1, 16, .inl bT))] s.heap → (∀ (ls : Array Slot), lv_has ls 3 [(1, .int t_4)] → va_P G.1 vwCl [(qB, .inr (0, [.ref qBT, .ref qBC, .ref qBN, .ref qBW, .ref qBL, .int bn, .int bk, .int bs])), (qBT, .inl (G.2.1, 16, .inl bT))] s.heap → W p l e (headSpec wsX0_countEnds rmX0_countEnds).room s m ([.ref qB] : List Value).toArray below meth c s.heap [] 0 0 Q (F0 m 33 ls [])) → W p l e (headSpec wsX0_countEnds rmX0_countEnds).room s m ([.ref qB] : List Value).toArray below meth c s.heap [] 0 0 Q (F0 m 4 ls []) := by
    intro n
    induction n with
    | zero => 
      intro s6 s7 t_4 ls hq hl hP kk4_33
      exact absurd hq kl_0
    | succ n ih4 =>
      intro s6 s7 t_4 ls hq hl hP kk4_33
      obtain ⟨y_4, hq, hx4⟩ := kl_s hq
      have hq : kX0_countEnds_s4 F bn bT s6 s7 = some y_4 := hq
      unfold kX0_countEnds_s4 at hq
      refine lv_iload_n hx hb dX0_countEnds_4 rfl (lv_at hl 2 rfl) ?_
      refine lv_aload_n hx hb dX0_countEnds_5 rfl (lv_at hl 0 rfl) ?_
      refine va_get (D := G.1) (ci := 0) (v := .int bn) (C := RX0) (T := TX0) (N := 8) hx hb hts hi0 hown hK hP 0 rfl rfl 5 (by decide) hw0 (fun _ h9 => h9) rfl dX0_countEnds_6 ?_
      refine lv_icmp_ge (tgt := 33) hx hb dX0_countEnds_9 (by decide) (fun c_9 => ?_) (fun c_9 => ?_)
      · have hq := k_t c_9 hq
        have et := kl_exit hq hx4
        subst et
        exact kk4_33 ls (lv_sub hl [1] rfl) hP
      · have hq := k_f c_9 hq
        refine lv_aload_n hx hb dX0_countEnds_12 rfl (lv_at hl 0 rfl) ?_
        refine lv_iload_n hx hb dX0_countEnds_13 rfl (lv_at hl 2 rfl) ?_
        obtain ⟨q8, eq8, hq⟩ := ob hq
        have hPc := hP.sub (ws' := [(qB, .inr (0, [.ref qBT, .ref qBC, .ref qBN, .ref qBW, .ref qBL, .int bn, .int bk, .int bs])), (qBT, .inl (G.2.1, 16, .inl bT))]) [0, 1] rfl
        have hKc := hK
        refine vp_callSi (va_Run.run (va_runV (As := [.int s7]) (rest := []) ⟨hx, hb, hml, hown, hts⟩ (tX0_sidesOf G l eq8) (cwV 1 hts gX0_countEnds_X0_sidesOf rfl rfl rfl (by decide +kernel) ⟨Nat.le_of_ble_eq_true rfl, Nat.le_of_ble_eq_true rfl⟩) ⟨pcP_blind, va_recv hKc hPc (ci := 0) (q0 := 0) rfl rfl, pcP_pre hPc hKK⟩ rfl rfl hl.1 rfl (lv_room (Nat.le_of_ble_eq_true rfl)) dX0_countEnds_14 ⟨Nat.zero_le _, Nat.zero_le _⟩)) (fun r0 hr0 => ?_)
        obtain rfl := hr0
        obtain ⟨q9, eq9, hq⟩ := ob hq
        have hPc := hP.sub (ws' := []) [] rfl
        refine vp_callSi (va_Run.run (va_runS (As := [.int q8]) (rest := []) ⟨hx, hb, hml, hown, hts⟩ (tJ6_bitCount_0f7a4 G l eq9) (va_cwS 1 hts gX0_countEnds_J6_bitCount_0f7a4 rfl rfl rfl (by decide +kernel) ⟨Nat.le_of_ble_eq_true rfl, Nat.le_of_ble_eq_true rfl⟩) ⟨pcP_blind, pcP_pre hPc hKK⟩ rfl rfl hl.1 rfl (lv_room (Nat.le_of_ble_eq_true rfl)) dX0_countEnds_17 ⟨Nat.zero_le _, Nat.zero_le _⟩)) (fun r0 hr0 => ?_)
        obtain rfl := hr0
        refine lv_iconst (v := 1) hx hb dX0_countEnds_20 (by decide) ?_
        refine lv_icmp_ne (tgt := 27) hx hb dX0_countEnds_21 (by decide) (fun c_21 => ?_) (fun c_21 => ?_)
        · have hq := k_f c_21 hq
          refine lv_iinc (v := (s7 + 1)) (lv' := [(2, .int (s7 + 1)), (0, .ref qB), (1, .int s6)]) hx hb dX0_countEnds_27 hl (k := 2) rfl rfl (by decide) rfl (fun ls hl => ?_)
          refine lv_goto (tgt := 4) hx hb dX0_countEnds_30 (by decide) ?_
          exact ih4 s6 (s7 + 1) t_4 ls (kl_back hq hx4) (lv_sub hl [1, 2, 0] rfl) hP kk4_33
        · have hq := k_t c_21 hq
          refine lv_iinc (v := (s6 + 1)) (lv' := [(1, .int (s6 + 1)), (0, .ref qB), (2, .int s7)]) hx hb dX0_countEnds_24 hl (k := 1) rfl rfl (by decide) rfl (fun ls hl => ?_)
          refine lv_iinc (v := (s7 + 1)) (lv' := [(2, .int (s7 + 1)), (1, .int (s6 + 1)), (0, .ref qB)]) hx hb dX0_countEnds_27 hl (k := 2) rfl rfl (by decide) rfl (fun ls hl => ?_)
          refine lv_goto (tgt := 4) hx hb dX0_countEnds_30 (by decide) ?_
          exact ih4 (s6 + 1) (s7 + 1) t_4 ls (kl_back hq hx4) (lv_sub hl [2, 1, 0] rfl) hP kk4_33
  obtain ⟨q11, eq11, hq⟩ := ob hq
  refine L4 F 0 0 q11 ls (eq11) (lv_sub hl [2, 1, 0] rfl) hP (fun ls hl hP => ?_)
  · refine lv_iload_n hx hb dX0_countEnds_33 rfl (lv_at hl 0 rfl) ?_
    obtain rfl := Option.some.inj hq
    rw [hQ]
    exact W.iret hx hb hr (fun t ht hW => ⟨_, rfl, rfl, ht⟩) (fun _ h => absurd h List.not_mem_nil) dX0_countEnds_34

abbrev rmX0_joinedTo : Room := { frames := 2, cells := 0, slots := 0, locals := 46 }
set_option maxHeartbeats 40000000 in
set_option maxRecDepth 100000 in
theorem tX0_joinedTo (G : GG) (l : Launch) {qB qBT qBC qBN qBW qBL : Nat} {bn : Int32} {bk : Int32} {bs : Int32} {bT : Nat → Int32} {bW : Nat → Int32} {x1 : Int32} {F : Nat} {r : Int32} (hq : kX0_joinedTo F bT bW x1 = some r) : Met l yX0_joinedTo wsX0_joinedTo rmX0_joinedTo (pcP G [(qB, .inr (0, [.ref qBT, .ref qBC, .ref qBN, .ref qBW, .ref qBL, .int bn, .int bk, .int bs])), (qBT, .inl (G.2.1, 16, .inl bT)), (qBW, .inl (G.2.1, 64, .inl bW))] [.ref qB, .int x1]) (vp_Si (fun x => r = x)) 0 0 (fun _ => False) := by
  refine Met.ofW (cc := cX0_joinedTo) (maxL := 4) (ret := (some .int)) (by decide) rfl ?_
  intro p e s m args below meth c s₁ B hml hv
  obtain ⟨rfl, hP, hKK⟩ := hv
  have hK := hKK.1
  have hx := B.exec
  have hb := B.bytes
  have hr := B.returns
  have hts := atoms_spec (ws := wsX0_joinedTo) B.pre
  have hown : s.vm.findClass RX0 = some m.cls := findClass_of_methodNamed B.named
  have hlocks := B.notSynchronized
  have hl := lv_entry ([.ref qB, .int x1] : List Value) (n := 4) (Nat.le_of_ble_eq_true rfl)
  rw [lg_entry_eq]
  generalize (lg_sl ([.ref qB, .int x1] : List Value) ++ List.replicate (4 - (lg_sl ([.ref qB, .int x1] : List Value)).length) Slot.unset).toArray = ls at hl ⊢
  have hl : lv_has ls 4 [(0, .ref qB), (1, .int x1)] := hl
  refine wq (fun Q hQ => ?_)
  unfold kX0_joinedTo at hq
  refine lv_iconst (v := 0) hx hb dX0_joinedTo_0 (by decide) ?_
  refine lv_istore_n (lv' := [(2, .int 0), (0, .ref qB), (1, .int x1)]) hx hb dX0_joinedTo_1 rfl hl (by decide) rfl (fun ls hl => ?_)
  refine lv_iconst (v := 0) hx hb dX0_joinedTo_2 (by decide) ?_
  refine lv_istore_n (lv' := [(3, .int 0), (2, .int 0), (0, .ref qB), (1, .int x1)]) hx hb dX0_joinedTo_3 rfl hl (by decide) rfl (fun ls hl => ?_)
  have L4 : ∀ (n : Nat) (s8 : Int32) (s9 : Int32) (t_4 : Int32) (ls : Array Slot), kloop n (fun s_ => kX0_joinedTo_s4 F bT bW x1 s_.1 s_.2) (s8, s9) = some t_4 → lv_has ls 4 [(0, .ref qB), (1, .int x1), (2, .int s8), (3, .int s9)] → va_P G.1 vwCl [(qB, .inr (0, [.ref qBT, .ref qBC, .ref qBN, .ref qBW, .ref qBL, .int bn, .int bk, .int bs])), (qBT, .inl (G.2.1, 16, .inl bT)), (qBW, .inl (G.2.1, 64, .inl bW))] s.heap → (∀ (ls : Array Slot), lv_has ls 4 [(2, .int t_4)] → va_P G.1 vwCl [(qB, .inr (0, [.ref qBT, .ref qBC, .ref qBN, .ref qBW, .ref qBL, .int bn, .int bk, .int bs])), (qBT, .inl (G.2.1, 16, .inl bT)), (qBW, .inl (G.2.1, 64, .inl bW))] s.heap → W p l e (headSpec wsX0_joinedTo rmX0_joinedTo).room s m ([.ref qB, .int x1] : List Value).toArray below meth c s.heap [] 0 0 Q (F0 m 35 ls [])) → W p l e (headSpec wsX0_joinedTo rmX0_joinedTo).room s m ([.ref qB, .int x1] : List Value).toArray below meth c s.heap [] 0 0 Q (F0 m 4 ls []) := by
    intro n
    induction n with
    | zero => 
      intro s8 s9 t_4 ls hq hl hP kk4_35
      exact absurd hq kl_0
    | succ n ih4 =>
      intro s8 s9 t_4 ls hq hl hP kk4_35
      obtain ⟨y_4, hq, hx4⟩ := kl_s hq
      have hq : kX0_joinedTo_s4 F bT bW x1 s8 s9 = some y_4 := hq
      unfold kX0_joinedTo_s4 at hq
      refine lv_iload_n hx hb dX0_joinedTo_4 rfl (lv_at hl 3 rfl) ?_
      refine lv_iconst (v := 3) hx hb dX0_joinedTo_5 (by decide) ?_
      refine lv_icmp_gt (tgt := 35) hx hb dX0_joinedTo_6 (by decide) (fun c_6 => ?_) (fun c_6 => ?_)
      · have hq := k_t c_6 hq
        have et := kl_exit hq hx4
        subst et
        exact kk4_35 ls (lv_sub hl [2] rfl) hP
      · have hq := k_f c_6 hq
        refine lv_aload_n hx hb dX0_joinedTo_9 rfl (lv_at hl 0 rfl) ?_
        refine lv_iload_n hx hb dX0_joinedTo_10 rfl (lv_at hl 1 rfl) ?_
        refine lv_iload_n hx hb dX0_joinedTo_11 rfl (lv_at hl 3 rfl) ?_
        obtain ⟨q10, eq10, hq⟩ := ob hq
        have hPc := hP.sub (ws' := [(qB, .inr (0, [.ref qBT, .ref qBC, .ref qBN, .ref qBW, .ref qBL, .int bn, .int bk, .int bs])), (qBT, .inl (G.2.1, 16, .inl bT)), (qBW, .inl (G.2.1, 64, .inl bW))]) [0, 1, 2] rfl
        have hKc := hK
        refine vp_callSi (va_Run.run (va_runV (As := [.int x1, .int s9]) (rest := []) ⟨hx, hb, hml, hown, hts⟩ (tX0_joins G l eq10) (cwV 2 hts gX0_joinedTo_X0_joins rfl rfl rfl (by decide +kernel) ⟨Nat.le_of_ble_eq_true rfl, Nat.le_of_ble_eq_true rfl⟩) ⟨pcP_blind, va_recv hKc hPc (ci := 0) (q0 := 0) rfl rfl, pcP_pre hPc hKK⟩ rfl rfl hl.1 rfl (lv_room (Nat.le_of_ble_eq_true rfl)) dX0_joinedTo_12 ⟨Nat.zero_le _, Nat.zero_le _⟩)) (fun r0 hr0 => ?_)
        obtain rfl := hr0
        refine lv_if_eq (tgt := 29) hx hb dX0_joinedTo_15 (by decide) (fun c_15 => ?_) (fun c_15 => ?_)
        · have hq := k_t c_15 hq
          refine lv_iinc (v := (s9 + 1)) (lv' := [(3, .int (s9 + 1)), (0, .ref qB), (1, .int x1), (2, .int s8)]) hx hb dX0_joinedTo_29 hl (k := 3) rfl rfl (by decide) rfl (fun ls hl => ?_)
          refine lv_goto (tgt := 4) hx hb dX0_joinedTo_32 (by decide) ?_
          exact ih4 s8 (s9 + 1) t_4 ls (kl_back hq hx4) (lv_sub hl [1, 2, 3, 0] rfl) hP kk4_35
        · have hq := k_f c_15 hq
          refine lv_iload_n hx hb dX0_joinedTo_18 rfl (lv_at hl 2 rfl) ?_
          refine lv_iconst (v := 1) hx hb dX0_joinedTo_19 (by decide) ?_
          refine lv_aload_n hx hb dX0_joinedTo_20 rfl (lv_at hl 0 rfl) ?_
          refine lv_iload_n hx hb dX0_joinedTo_21 rfl (lv_at hl 1 rfl) ?_
          refine lv_iload_n hx hb dX0_joinedTo_22 rfl (lv_at hl 3 rfl) ?_
          obtain ⟨q13, eq13, hq⟩ := ob hq
          have hPc := hP.sub (ws' := [(qB, .inr (0, [.ref qBT, .ref qBC, .ref qBN, .ref qBW, .ref qBL, .int bn, .int bk, .int bs])), (qBW, .inl (G.2.1, 64, .inl bW))]) [0, 2] rfl
          have hKc := hK
          refine vp_callSi (va_Run.run (va_runV (As := [.int x1, .int s9]) (rest := [.int 1, .int s8]) ⟨hx, hb, hml, hown, hts⟩ (tX0_across G l eq13) (cwV 2 hts gX0_joinedTo_X0_across rfl rfl rfl (by decide +kernel) ⟨Nat.le_of_ble_eq_true rfl, Nat.le_of_ble_eq_true rfl⟩) ⟨pcP_blind, va_recv hKc hPc (ci := 0) (q0 := 0) rfl rfl, pcP_pre hPc hKK⟩ rfl rfl hl.1 rfl (lv_room (Nat.le_of_ble_eq_true rfl)) dX0_joinedTo_23 ⟨Nat.zero_le _, Nat.zero_le _⟩)) (fun r0 hr0 => ?_)
          obtain rfl := hr0
          refine lv_ishl hx hb dX0_joinedTo_26 ?_
          refine lv_ior hx hb dX0_joinedTo_27 ?_
          refine lv_istore_n (lv' := [(2, .int (s8 ||| ((1 : Int32) <<< (q13 &&& 31)))), (0, .ref qB), (1, .int x1), (3, .int s9)]) hx hb dX0_joinedTo_28 rfl hl (by decide) rfl (fun ls hl => ?_)
          refine lv_iinc (v := (s9 + 1)) (lv' := [(3, .int (s9 + 1)), (2, .int (s8 ||| ((1 : Int32) <<< (q13 &&& 31)))), (0, .ref qB), (1, .int x1)]) hx hb dX0_joinedTo_29 hl (k := 3) rfl rfl (by decide) rfl (fun ls hl => ?_)
          refine lv_goto (tgt := 4) hx hb dX0_joinedTo_32 (by decide) ?_
          exact ih4 (s8 ||| ((1 : Int32) <<< (q13 &&& 31))) (s9 + 1) t_4 ls (kl_back hq hx4) (lv_sub hl [2, 3, 1, 0] rfl) hP kk4_35
  obtain ⟨q14, eq14, hq⟩ := ob hq
  refine L4 F 0 0 q14 ls (eq14) (lv_sub hl [2, 3, 1, 0] rfl) hP (fun ls hl hP => ?_)
  · refine lv_iload_n hx hb dX0_joinedTo_35 rfl (lv_at hl 0 rfl) ?_
    obtain rfl := Option.some.inj hq
    rw [hQ]
    exact W.iret hx hb hr (fun t ht hW => ⟨_, rfl, rfl, ht⟩) (fun _ h => absurd h List.not_mem_nil) dX0_joinedTo_36

abbrev rmX0_ownLays : Room := { frames := 2, cells := 0, slots := 0, locals := 42 }
set_option maxHeartbeats 40000000 in
set_option maxRecDepth 100000 in
theorem tX0_ownLays (G : GG) (l : Launch) {qB qBT qBC qBN qBW qBL : Nat} {bn : Int32} {bk : Int32} {bs : Int32} {bT : Nat → Int32} {x1 : Int32} {F : Nat} {r : Int32} (hq : kX0_ownLays F bk bT x1 = some r) : Met l yX0_ownLays wsX0_ownLays rmX0_ownLays (pcP G [(qB, .inr (0, [.ref qBT, .ref qBC, .ref qBN, .ref qBW, .ref qBL, .int bn, .int bk, .int bs])), (qBT, .inl (G.2.1, 16, .inl bT))] [.ref qB, .int x1]) (vp_Si (fun x => r = x)) 0 0 (fun _ => False) := by
  refine Met.ofW (cc := cX0_ownLays) (maxL := 3) (ret := (some .int)) (by decide) rfl ?_
  intro p e s m args below meth c s₁ B hml hv
  obtain ⟨rfl, hP, hKK⟩ := hv
  have hK := hKK.1
  have hx := B.exec
  have hb := B.bytes
  have hr := B.returns
  have hts := atoms_spec (ws := wsX0_ownLays) B.pre
  have hown : s.vm.findClass RX0 = some m.cls := findClass_of_methodNamed B.named
  have hlocks := B.notSynchronized
  have hl := lv_entry ([.ref qB, .int x1] : List Value) (n := 3) (Nat.le_of_ble_eq_true rfl)
  rw [lg_entry_eq]
  generalize (lg_sl ([.ref qB, .int x1] : List Value) ++ List.replicate (3 - (lg_sl ([.ref qB, .int x1] : List Value)).length) Slot.unset).toArray = ls at hl ⊢
  have hl : lv_has ls 3 [(0, .ref qB), (1, .int x1)] := hl
  have hw0 : (Cond.initialized RX7).before #[Value.ref qB, Value.int x1] s = true := hts _ (by decide +kernel)
  have hw1 : (Cond.static yX7_turned).before #[Value.ref qB, Value.int x1] s = true := hts _ (by decide +kernel)
  refine wq (fun Q hQ => ?_)
  unfold kX0_ownLays at hq
  refine lv_aload_n hx hb dX0_ownLays_0 rfl (lv_at hl 0 rfl) ?_
  refine lv_iload_n hx hb dX0_ownLays_1 rfl (lv_at hl 1 rfl) ?_
  obtain ⟨q1, eq1, hq⟩ := ob hq
  have hPc := hP.sub (ws' := [(qB, .inr (0, [.ref qBT, .ref qBC, .ref qBN, .ref qBW, .ref qBL, .int bn, .int bk, .int bs])), (qBT, .inl (G.2.1, 16, .inl bT))]) [0, 1] rfl
  have hKc := hK
  refine vp_callSi (va_Run.run (va_runV (As := [.int x1]) (rest := []) ⟨hx, hb, hml, hown, hts⟩ (tX0_sidesOf G l eq1) (cwV 1 hts gX0_ownLays_X0_sidesOf rfl rfl rfl (by decide +kernel) ⟨Nat.le_of_ble_eq_true rfl, Nat.le_of_ble_eq_true rfl⟩) ⟨pcP_blind, va_recv hKc hPc (ci := 0) (q0 := 0) rfl rfl, pcP_pre hPc hKK⟩ rfl rfl hl.1 rfl (lv_room (Nat.le_of_ble_eq_true rfl)) dX0_ownLays_2 ⟨Nat.zero_le _, Nat.zero_le _⟩)) (fun r0 hr0 => ?_)
  obtain rfl := hr0
  refine lv_istore_n (lv' := [(2, .int q1), (0, .ref qB), (1, .int x1)]) hx hb dX0_ownLays_5 rfl hl (by decide) rfl (fun ls hl => ?_)
  refine lv_aload_n hx hb dX0_ownLays_6 rfl (lv_at hl 1 rfl) ?_
  refine lv_iload_n hx hb dX0_ownLays_7 rfl (lv_at hl 2 rfl) ?_
  obtain ⟨q2, eq2, hq⟩ := ob hq
  have hPc := hP.sub (ws' := [(qB, .inr (0, [.ref qBT, .ref qBC, .ref qBN, .ref qBW, .ref qBL, .int bn, .int bk, .int bs]))]) [0] rfl
  have hKc := hK
  refine vp_callSi (va_Run.run (va_runV (As := [.int x1]) (rest := []) ⟨hx, hb, hml, hown, hts⟩ (tX0_hasLock G l eq2) (cwV 1 hts gX0_ownLays_X0_hasLock rfl rfl rfl (by decide +kernel) ⟨Nat.le_of_ble_eq_true rfl, Nat.le_of_ble_eq_true rfl⟩) ⟨pcP_blind, va_recv hKc hPc (ci := 0) (q0 := 0) rfl rfl, pcP_pre hPc hKK⟩ rfl rfl hl.1 rfl (lv_room (Nat.le_of_ble_eq_true rfl)) dX0_ownLays_8 ⟨Nat.zero_le _, Nat.zero_le _⟩)) (fun r0 hr0 => ?_)
  obtain rfl := hr0
  refine lv_if_ne (tgt := 23) hx hb dX0_ownLays_11 (by decide) (fun c_11 => ?_) (fun c_11 => ?_)
  · have hq := k_f c_11 hq
    refine lv_iconst (v := 1) hx hb dX0_ownLays_23 (by decide) ?_
    obtain rfl := Option.some.inj hq
    rw [hQ]
    exact W.iret hx hb hr (fun t ht hW => ⟨_, rfl, rfl, ht⟩) (fun _ h => absurd h List.not_mem_nil) dX0_ownLays_24
  · have hq := k_t c_11 hq
    refine lv_iload_n hx hb dX0_ownLays_14 rfl (lv_at hl 0 rfl) ?_
    refine lv_iconst (v := 1) hx hb dX0_ownLays_15 (by decide) ?_
    obtain ⟨q3, eq3, hq⟩ := ob hq
    have hPc := hP.sub (ws' := []) [] rfl
    refine vp_callSi (va_Run.run (va_runSN (As := [.int q1, .int 1]) (rest := []) ⟨hx, hb, hml, hown, hts⟩ (tX7_turned G l eq3) ⟨va_cnB 2 hts gX0_ownLays_X7_turned_n68 rfl rfl rfl (hKK.2 _ (List.mem_of_getElem? (i := 7) rfl)) hw0 (by decide +kernel) ⟨Nat.le_of_ble_eq_true rfl, Nat.le_of_ble_eq_true rfl⟩, hw1, trivial⟩ ⟨pcP_blind, pcP_pre hPc hKK⟩ rfl rfl hl.1 rfl (lv_room (Nat.le_of_ble_eq_true rfl)) dX0_ownLays_16 ⟨Nat.zero_le _, Nat.zero_le _⟩)) (fun r0 hr0 => ?_)
    obtain rfl := hr0
    refine lv_iload_n hx hb dX0_ownLays_19 rfl (lv_at hl 0 rfl) ?_
    refine lv_icmp_ne (tgt := 25) hx hb dX0_ownLays_20 (by decide) (fun c_20 => ?_) (fun c_20 => ?_)
    · have hq := k_f c_20 hq
      refine lv_iload_n hx hb dX0_ownLays_25 rfl (lv_at hl 0 rfl) ?_
      refine lv_iconst (v := 2) hx hb dX0_ownLays_26 (by decide) ?_
      obtain ⟨q4, eq4, hq⟩ := ob hq
      have hPc := hP.sub (ws' := []) [] rfl
      refine vp_callSi (va_Run.run (va_runSN (As := [.int q1, .int 2]) (rest := []) ⟨hx, hb, hml, hown, hts⟩ (tX7_turned G l eq4) ⟨va_cnB 2 hts gX0_ownLays_X7_turned_n68 rfl rfl rfl (hKK.2 _ (List.mem_of_getElem? (i := 7) rfl)) hw0 (by decide +kernel) ⟨Nat.le_of_ble_eq_true rfl, Nat.le_of_ble_eq_true rfl⟩, hw1, trivial⟩ ⟨pcP_blind, pcP_pre hPc hKK⟩ rfl rfl hl.1 rfl (lv_room (Nat.le_of_ble_eq_true rfl)) dX0_ownLays_27 ⟨Nat.zero_le _, Nat.zero_le _⟩)) (fun r0 hr0 => ?_)
      obtain rfl := hr0
      refine lv_iload_n hx hb dX0_ownLays_30 rfl (lv_at hl 0 rfl) ?_
      refine lv_icmp_ne (tgt := 38) hx hb dX0_ownLays_31 (by decide) (fun c_31 => ?_) (fun c_31 => ?_)
      · have hq := k_f c_31 hq
        refine lv_bipush (v := 15) hx hb dX0_ownLays_38 (by decide) ?_
        obtain rfl := Option.some.inj hq
        rw [hQ]
        exact W.iret hx hb hr (fun t ht hW => ⟨_, rfl, rfl, ht⟩) (fun _ h => absurd h List.not_mem_nil) dX0_ownLays_40
      · have hq := k_t c_31 hq
        refine lv_iconst (v := 3) hx hb dX0_ownLays_34 (by decide) ?_
        refine lv_goto (tgt := 40) hx hb dX0_ownLays_35 (by decide) ?_
        obtain rfl := Option.some.inj hq
        rw [hQ]
        exact W.iret hx hb hr (fun t ht hW => ⟨_, rfl, rfl, ht⟩) (fun _ h => absurd h List.not_mem_nil) dX0_ownLays_40
    · have hq := k_t c_20 hq
      refine lv_iconst (v := 1) hx hb dX0_ownLays_23 (by decide) ?_
      obtain rfl := Option.some.inj hq
      rw [hQ]
      exact W.iret hx hb hr (fun t ht hW => ⟨_, rfl, rfl, ht⟩) (fun _ h => absurd h List.not_mem_nil) dX0_ownLays_24

abbrev rmX0_clear : Room := { frames := 2, cells := 0, slots := 0, locals := 80 }
set_option maxHeartbeats 40000000 in
set_option maxRecDepth 100000 in
theorem tX0_clear (G : GG) (l : Launch) {qB qBT qBC qBN qBW qBL : Nat} {bn : Int32} {bk : Int32} {bs : Int32} {bT : Nat → Int32} {bC : Nat → Int32} {bN : Nat → Int32} {bW : Nat → Int32} {x1 : Int32} {x2 : Int32} {x3 : Int32} {sz : Nat} {F : Nat} {r : Int32 × Int32 × Int32 × (Nat → Int32) × (Nat → Int32) × (Nat → Int32) × (Nat → Int32)} (hq : kX0_clear F bn bk bs bT bC bN bW x1 x2 x3 = some r) : Met l yX0_clear wsX0_clear rmX0_clear (pcW G [(qB, .inr (0, [.ref qBT, .ref qBC, .ref qBN, .ref qBW, .ref qBL, .int bn, .int bk, .int bs])), (qBT, .inl (G.2.1, 16, .inl bT)), (qBC, .inl (G.2.1, 16, .inl bC)), (qBN, .inl (G.2.1, 64, .inl bN)), (qBW, .inl (G.2.1, 64, .inl bW))] sz [.ref qB, .int x1, .int x2, .int x3]) (qcV G [(qB, .inr (0, [.ref qBT, .ref qBC, .ref qBN, .ref qBW, .ref qBL, .int r.1, .int r.2.1, .int r.2.2.1])), (qBT, .inl (G.2.1, 16, .inl r.2.2.2.1)), (qBC, .inl (G.2.1, 16, .inl r.2.2.2.2.1)), (qBN, .inl (G.2.1, 64, .inl r.2.2.2.2.2.1)), (qBW, .inl (G.2.1, 64, .inl r.2.2.2.2.2.2))] (va_A [(qB, .inr (0, [.ref qBT, .ref qBC, .ref qBN, .ref qBW, .ref qBL, .int bn, .int bk, .int bs])), (qBT, .inl (G.2.1, 16, .inl bT)), (qBC, .inl (G.2.1, 16, .inl bC)), (qBN, .inl (G.2.1, 64, .inl bN)), (qBW, .inl (G.2.1, 64, .inl bW))] sz)) 0 0 (va_A [(qB, .inr (0, [.ref qBT, .ref qBC, .ref qBN, .ref qBW, .ref qBL, .int bn, .int bk, .int bs])), (qBT, .inl (G.2.1, 16, .inl bT)), (qBC, .inl (G.2.1, 16, .inl bC)), (qBN, .inl (G.2.1, 64, .inl bN)), (qBW, .inl (G.2.1, 64, .inl bW))] sz) := by
  refine Met.ofW (cc := cX0_clear) (maxL := 7) (ret := none) (by decide) rfl ?_
  intro p e s m args below meth c s₁ B hml hv
  obtain ⟨rfl, hsz, hP, hKK, hD0⟩ := hv
  have hK := hKK.1
  have hx := B.exec
  have hb := B.bytes
  have hr := B.returns
  have hts := atoms_spec (ws := wsX0_clear) B.pre
  have hown : s.vm.findClass RX0 = some m.cls := findClass_of_methodNamed B.named
  have hlocks := B.notSynchronized
  subst hsz
  have hD := hD0.self (sz := s.heap.size)
  generalize hAe : va_A [(qB, .inr (0, [.ref qBT, .ref qBC, .ref qBN, .ref qBW, .ref qBL, .int bn, .int bk, .int bs])), (qBT, .inl (G.2.1, 16, .inl bT)), (qBC, .inl (G.2.1, 16, .inl bC)), (qBN, .inl (G.2.1, 64, .inl bN)), (qBW, .inl (G.2.1, 64, .inl bW))] s.heap.size = A at hD ⊢
  have hA : ∀ q : Nat, s.heap.size ≤ q → A q := fun q h => by rw [← hAe]; exact Or.inr h
  have hS : va_S A s.heap s.heap [] := va_S.rf
  have hl := lv_entry ([.ref qB, .int x1, .int x2, .int x3] : List Value) (n := 7) (Nat.le_of_ble_eq_true rfl)
  rw [lg_entry_eq]
  generalize (lg_sl ([.ref qB, .int x1, .int x2, .int x3] : List Value) ++ List.replicate (7 - (lg_sl ([.ref qB, .int x1, .int x2, .int x3] : List Value)).length) Slot.unset).toArray = ls at hl ⊢
  have hl : lv_has ls 7 [(0, .ref qB), (1, .int x1), (2, .int x2), (3, .int x3)] := hl
  have hi0 : ∀ w ∈ u_ws RX0 TX0 8, w ∈ wsX0_clear := by decide +kernel
  have hw0 : (Cond.fieldLink RX0 9 "NetPlumber$Board" "tiles" "[I").before #[Value.ref qB, Value.int x1, Value.int x2, Value.int x3] s = true := hts _ (by decide +kernel)
  have hw1 : (Cond.fieldLink RX0 18 "NetPlumber$Board" "nexts" "[I").before #[Value.ref qB, Value.int x1, Value.int x2, Value.int x3] s = true := hts _ (by decide +kernel)
  have hw2 : (Cond.fieldLink RX0 33 "NetPlumber$Board" "cells" "I").before #[Value.ref qB, Value.int x1, Value.int x2, Value.int x3] s = true := hts _ (by decide +kernel)
  have hw3 : (Cond.fieldLink RX0 37 "NetPlumber$Board" "locks" "I").before #[Value.ref qB, Value.int x1, Value.int x2, Value.int x3] s = true := hts _ (by decide +kernel)
  have hw4 : (Cond.fieldLink RX0 40 "NetPlumber$Board" "source" "I").before #[Value.ref qB, Value.int x1, Value.int x2, Value.int x3] s = true := hts _ (by decide +kernel)
  have hw5 : (Cond.fieldLink RX0 15 "NetPlumber$Board" "columns" "[I").before #[Value.ref qB, Value.int x1, Value.int x2, Value.int x3] s = true := hts _ (by decide +kernel)
  have hw6 : (Cond.fieldLink RX0 21 "NetPlumber$Board" "ways" "[I").before #[Value.ref qB, Value.int x1, Value.int x2, Value.int x3] s = true := hts _ (by decide +kernel)
  have hw7 : (Cond.methodLink RX0 47 arraycopyName).before #[Value.ref qB, Value.int x1, Value.int x2, Value.int x3] s = true := hts _ (by decide +kernel)
  have hw8 : (Cond.native arraycopyName).before #[Value.ref qB, Value.int x1, Value.int x2, Value.int x3] s = true := hts _ (by decide +kernel)
  have hw9 : (Cond.static arraycopyName).before #[Value.ref qB, Value.int x1, Value.int x2, Value.int x3] s = true := hts _ (by decide +kernel)
  have hw10 : (Cond.initialized "java/lang/System").before #[Value.ref qB, Value.int x1, Value.int x2, Value.int x3] s = true := hts _ (by decide +kernel)
  refine wq (fun Q hQ => ?_)
  unfold kX0_clear at hq
  refine lv_aload_n hx hb dX0_clear_0 rfl (lv_at hl 0 rfl) ?_
  refine va_get (D := G.1) (ci := 0) (v := .ref qBT) (C := RX0) (T := TX0) (N := 8) hx hb hts hi0 hown hK hP 0 rfl rfl 0 (by decide) hw0 (fun _ h9 => h9) rfl dX0_clear_1 ?_
  refine lv_iconst (v := 0) hx hb dX0_clear_4 (by decide) ?_
  obtain ⟨q1, eq1, hq⟩ := ob hq
  have hPc := hP.sub (ws' := [(qBT, .inl (G.2.1, 16, .inl bT))]) [1] rfl
  have hDc := hD.sub (ws' := [(qBT, .inl (G.2.1, 16, .inl bT))]) [1] (by decide) rfl
  have hFc := va_free (wc := [(qBT, .inl (G.2.1, 16, .inl bT))]) hD hS hA [1] rfl
  refine va_callv (va_runS (As := [.ref qBT, .int 0]) (rest := []) ⟨hx, hb, hml, hown, hts⟩ (tJ7_fill_53178 G l eq1) (va_cwS 2 hts gX0_clear_J7_fill_53178 rfl rfl rfl (by decide +kernel) ⟨Nat.le_of_ble_eq_true rfl, Nat.le_of_ble_eq_true rfl⟩) ⟨pcW_blind, pcW_pre hPc hKK hDc⟩ rfl rfl hl.1 rfl (lv_room (Nat.le_of_ble_eq_true rfl)) dX0_clear_5 ⟨Nat.zero_le _, Nat.zero_le _⟩) hS (fun q _ h => hFc q h) hFc (fun u t H1 locs ht hvm hw hB hz1 hk1 hS => ?_)
  have hB := va_Pto ht hB
  obtain ⟨hP, hD⟩ := jn (ws' := [(qB, .inr (0, [.ref qBT, .ref qBC, .ref qBN, .ref qBW, .ref qBL, .int bn, .int bk, .int bs])), (qBT, .inl (G.2.1, 16, .inl q1)), (qBC, .inl (G.2.1, 16, .inl bC)), (qBN, .inl (G.2.1, 64, .inl bN)), (qBW, .inl (G.2.1, 64, .inl bW))]) hP hD hk1 hB [1] rfl rfl rfl rfl
  generalize H1 = H at hP hS ⊢
  refine lv_aload_n hx hb dX0_clear_8 rfl (lv_at hl 0 rfl) ?_
  refine va_get (D := G.1) (ci := 0) (v := .ref qBN) (C := RX0) (T := TX0) (N := 8) hx hb hts hi0 hown hK hP 0 rfl rfl 2 (by decide) hw1 (fun _ h9 => h9) rfl dX0_clear_9 ?_
  refine lv_iconst (v := (-1)) hx hb dX0_clear_12 (by decide) ?_
  obtain ⟨q2, eq2, hq⟩ := ob hq
  have hPc := hP.sub (ws' := [(qBN, .inl (G.2.1, 64, .inl bN))]) [3] rfl
  have hDc := hD.sub (ws' := [(qBN, .inl (G.2.1, 64, .inl bN))]) [3] (by decide) rfl
  have hFc := va_free (wc := [(qBN, .inl (G.2.1, 64, .inl bN))]) hD hS hA [3] rfl
  refine va_callv (va_runS (As := [.ref qBN, .int (-1)]) (rest := []) ⟨hx, hb, hml, hown, hts⟩ (tJ7_fill_53178 G l eq2) (va_cwS 2 hts gX0_clear_J7_fill_53178 rfl rfl rfl (by decide +kernel) ⟨Nat.le_of_ble_eq_true rfl, Nat.le_of_ble_eq_true rfl⟩) ⟨pcW_blind, pcW_pre hPc hKK hDc⟩ rfl rfl hl.1 rfl (lv_room (Nat.le_of_ble_eq_true rfl)) dX0_clear_13 ⟨Nat.zero_le _, Nat.zero_le _⟩) hS (fun q _ h => hFc q h) hFc (fun u t H1 locs ht hvm hw hB hz1 hk1 hS => ?_)
  have hB := va_Pto ht hB
  obtain ⟨hP, hD⟩ := jn (ws' := [(qB, .inr (0, [.ref qBT, .ref qBC, .ref qBN, .ref qBW, .ref qBL, .int bn, .int bk, .int bs])), (qBT, .inl (G.2.1, 16, .inl q1)), (qBC, .inl (G.2.1, 16, .inl bC)), (qBN, .inl (G.2.1, 64, .inl q2)), (qBW, .inl (G.2.1, 64, .inl bW))]) hP hD hk1 hB [3] rfl rfl rfl rfl
  generalize H1 = H at hP hS ⊢
  refine lv_aload_n hx hb dX0_clear_16 rfl (lv_at hl 0 rfl) ?_
  refine lv_iload_n hx hb dX0_clear_17 rfl (lv_at hl 1 rfl) ?_
  refine lv_iload_n hx hb dX0_clear_18 rfl (lv_at hl 2 rfl) ?_
  refine lv_imul hx hb dX0_clear_19 ?_
  refine va_put (D := G.1) (ci := 0) (v := .int (x1 * x2)) (ty := .int) (C := RX0) (T := TX0) (N := 8) hx hb hts hi0 tyX0 tyX0_ok nmX0 hown hK hP hD hS 0 rfl rfl 5 (by decide) hw2 (fun _ h9 => h9) rfl (by decide +kernel) rfl rfl (Nat.le_of_ble_eq_true rfl) dX0_clear_20 (fun H locs hP hD hS => ?_)
  have hP : va_P G.1 vwCl [(qB, .inr (0, [.ref qBT, .ref qBC, .ref qBN, .ref qBW, .ref qBL, .int (x1 * x2), .int bk, .int bs])), (qBT, .inl (G.2.1, 16, .inl q1)), (qBC, .inl (G.2.1, 16, .inl bC)), (qBN, .inl (G.2.1, 64, .inl q2)), (qBW, .inl (G.2.1, 64, .inl bW))] H := hP
  have hD : va_D A [(qB, .inr (0, [.ref qBT, .ref qBC, .ref qBN, .ref qBW, .ref qBL, .int (x1 * x2), .int bk, .int bs])), (qBT, .inl (G.2.1, 16, .inl q1)), (qBC, .inl (G.2.1, 16, .inl bC)), (qBN, .inl (G.2.1, 64, .inl q2)), (qBW, .inl (G.2.1, 64, .inl bW))] := hD
  refine lv_aload_n hx hb dX0_clear_23 rfl (lv_at hl 0 rfl) ?_
  refine lv_iconst (v := 0) hx hb dX0_clear_24 (by decide) ?_
  refine va_put (D := G.1) (ci := 0) (v := .int 0) (ty := .int) (C := RX0) (T := TX0) (N := 8) hx hb hts hi0 tyX0 tyX0_ok nmX0 hown hK hP hD hS 0 rfl rfl 6 (by decide) hw3 (fun _ h9 => h9) rfl (by decide +kernel) rfl rfl (Nat.le_of_ble_eq_true rfl) dX0_clear_25 (fun H locs hP hD hS => ?_)
  have hP : va_P G.1 vwCl [(qB, .inr (0, [.ref qBT, .ref qBC, .ref qBN, .ref qBW, .ref qBL, .int (x1 * x2), .int 0, .int bs])), (qBT, .inl (G.2.1, 16, .inl q1)), (qBC, .inl (G.2.1, 16, .inl bC)), (qBN, .inl (G.2.1, 64, .inl q2)), (qBW, .inl (G.2.1, 64, .inl bW))] H := hP
  have hD : va_D A [(qB, .inr (0, [.ref qBT, .ref qBC, .ref qBN, .ref qBW, .ref qBL, .int (x1 * x2), .int 0, .int bs])), (qBT, .inl (G.2.1, 16, .inl q1)), (qBC, .inl (G.2.1, 16, .inl bC)), (qBN, .inl (G.2.1, 64, .inl q2)), (qBW, .inl (G.2.1, 64, .inl bW))] := hD
  refine lv_aload_n hx hb dX0_clear_28 rfl (lv_at hl 0 rfl) ?_
  refine lv_iconst (v := 0) hx hb dX0_clear_29 (by decide) ?_
  refine va_put (D := G.1) (ci := 0) (v := .int 0) (ty := .int) (C := RX0) (T := TX0) (N := 8) hx hb hts hi0 tyX0 tyX0_ok nmX0 hown hK hP hD hS 0 rfl rfl 7 (by decide) hw4 (fun _ h9 => h9) rfl (by decide +kernel) rfl rfl (Nat.le_of_ble_eq_true rfl) dX0_clear_30 (fun H locs hP hD hS => ?_)
  have hP : va_P G.1 vwCl [(qB, .inr (0, [.ref qBT, .ref qBC, .ref qBN, .ref qBW, .ref qBL, .int (x1 * x2), .int 0, .int 0])), (qBT, .inl (G.2.1, 16, .inl q1)), (qBC, .inl (G.2.1, 16, .inl bC)), (qBN, .inl (G.2.1, 64, .inl q2)), (qBW, .inl (G.2.1, 64, .inl bW))] H := hP
  have hD : va_D A [(qB, .inr (0, [.ref qBT, .ref qBC, .ref qBN, .ref qBW, .ref qBL, .int (x1 * x2), .int 0, .int 0])), (qBT, .inl (G.2.1, 16, .inl q1)), (qBC, .inl (G.2.1, 16, .inl bC)), (qBN, .inl (G.2.1, 64, .inl q2)), (qBW, .inl (G.2.1, 64, .inl bW))] := hD
  refine lv_iconst (v := 0) hx hb dX0_clear_33 (by decide) ?_
  refine lv_istore (lv' := [(4, .int 0), (0, .ref qB), (1, .int x1), (2, .int x2), (3, .int x3)]) hx hb dX0_clear_34 hl (by decide) rfl (fun ls hl => ?_)
  refine lv_iconst (v := 0) hx hb dX0_clear_36 (by decide) ?_
  refine lv_istore (lv' := [(5, .int 0), (4, .int 0), (0, .ref qB), (1, .int x1), (2, .int x2), (3, .int x3)]) hx hb dX0_clear_37 hl (by decide) rfl (fun ls hl => ?_)
  have L39 : ∀ (n : Nat) (s101 : Int32) (s102 : Int32) (s103 : Nat → Int32) (s104 : Nat → Int32) (t_39 : (Nat → Int32) × (Nat → Int32)) (ls : Array Slot) (H : Heap) (locs : List Loc), kloop n (fun s_ => kX0_clear_s39 F x1 x2 x3 s_.1 s_.2.1 s_.2.2.1 s_.2.2.2) (s101, s102, s103, s104) = some t_39 → lv_has ls 7 [(0, .ref qB), (1, .int x1), (2, .int x2), (3, .int x3), (4, .int s101), (5, .int s102)] → va_P G.1 vwCl [(qB, .inr (0, [.ref qBT, .ref qBC, .ref qBN, .ref qBW, .ref qBL, .int (x1 * x2), .int 0, .int 0])), (qBT, .inl (G.2.1, 16, .inl q1)), (qBC, .inl (G.2.1, 16, .inl s103)), (qBN, .inl (G.2.1, 64, .inl s104)), (qBW, .inl (G.2.1, 64, .inl bW))] H → va_D A [(qB, .inr (0, [.ref qBT, .ref qBC, .ref qBN, .ref qBW, .ref qBL, .int (x1 * x2), .int 0, .int 0])), (qBT, .inl (G.2.1, 16, .inl q1)), (qBC, .inl (G.2.1, 16, .inl s103)), (qBN, .inl (G.2.1, 64, .inl s104)), (qBW, .inl (G.2.1, 64, .inl bW))] → va_S A s.heap H locs → (∀ (ls : Array Slot) (H : Heap) (locs : List Loc), lv_has ls 7 [(0, .ref qB)] → va_P G.1 vwCl [(qB, .inr (0, [.ref qBT, .ref qBC, .ref qBN, .ref qBW, .ref qBL, .int (x1 * x2), .int 0, .int 0])), (qBT, .inl (G.2.1, 16, .inl q1)), (qBC, .inl (G.2.1, 16, .inl t_39.1)), (qBN, .inl (G.2.1, 64, .inl t_39.2)), (qBW, .inl (G.2.1, 64, .inl bW))] H → va_D A [(qB, .inr (0, [.ref qBT, .ref qBC, .ref qBN, .ref qBW, .ref qBL, .int (x1 * x2), .int 0, .int 0])), (qBT, .inl (G.2.1, 16, .inl q1)), (qBC, .inl (G.2.1, 16, .inl t_39.1)), (qBN, .inl (G.2.1, 64, .inl t_39.2)), (qBW, .inl (G.2.1, 64, .inl bW))] → va_S A s.heap H locs → W p l e (headSpec wsX0_clear rmX0_clear).room s m ([.ref qB, .int x1, .int x2, .int x3] : List Value).toArray below meth c H locs 0 0 Q (F0 m 160 ls [])) → W p l e (headSpec wsX0_clear rmX0_clear).room s m ([.ref qB, .int x1, .int x2, .int x3] : List Value).toArray below meth c H locs 0 0 Q (F0 m 39 ls []) := by
    intro n
    induction n with
    | zero => 
      intro s101 s102 s103 s104 t_39 ls H locs hq hl hP hD hS kk39_160
      exact absurd hq kl_0
    | succ n ih39 =>
      intro s101 s102 s103 s104 t_39 ls H locs hq hl hP hD hS kk39_160
      obtain ⟨y_39, hq, hx39⟩ := kl_s hq
      have hq : kX0_clear_s39 F x1 x2 x3 s101 s102 s103 s104 = some y_39 := hq
      unfold kX0_clear_s39 at hq
      refine lv_iload hx hb dX0_clear_39 (lv_at hl 5 rfl) ?_
      refine lv_iload_n hx hb dX0_clear_41 rfl (lv_at hl 2 rfl) ?_
      refine lv_icmp_ge (tgt := 160) hx hb dX0_clear_42 (by decide) (fun c_42 => ?_) (fun c_42 => ?_)
      · have hq := k_t c_42 hq
        have et := kl_exit hq hx39
        subst et
        exact kk39_160 ls _ _ (lv_sub hl [0] rfl) hP hD hS
      · have hq := k_f c_42 hq
        refine lv_iconst (v := 0) hx hb dX0_clear_45 (by decide) ?_
        refine lv_istore (lv' := [(6, .int 0), (0, .ref qB), (1, .int x1), (2, .int x2), (3, .int x3), (4, .int s101), (5, .int s102)]) hx hb dX0_clear_46 hl (by decide) rfl (fun ls hl => ?_)
        have L48 : ∀ (n : Nat) (s152 : Int32) (s153 : Int32) (s154 : Nat → Int32) (s155 : Nat → Int32) (t_48 : Int32 × (Nat → Int32) × (Nat → Int32)) (ls : Array Slot) (H : Heap) (locs : List Loc), kloop n (fun s_ => kX0_clear_s48 F x1 x2 x3 s102 s_.1 s_.2.1 s_.2.2.1 s_.2.2.2) (s152, s153, s154, s155) = some t_48 → lv_has ls 7 [(0, .ref qB), (1, .int x1), (2, .int x2), (3, .int x3), (4, .int s152), (5, .int s102), (6, .int s153)] → va_P G.1 vwCl [(qB, .inr (0, [.ref qBT, .ref qBC, .ref qBN, .ref qBW, .ref qBL, .int (x1 * x2), .int 0, .int 0])), (qBT, .inl (G.2.1, 16, .inl q1)), (qBC, .inl (G.2.1, 16, .inl s154)), (qBN, .inl (G.2.1, 64, .inl s155)), (qBW, .inl (G.2.1, 64, .inl bW))] H → va_D A [(qB, .inr (0, [.ref qBT, .ref qBC, .ref qBN, .ref qBW, .ref qBL, .int (x1 * x2), .int 0, .int 0])), (qBT, .inl (G.2.1, 16, .inl q1)), (qBC, .inl (G.2.1, 16, .inl s154)), (qBN, .inl (G.2.1, 64, .inl s155)), (qBW, .inl (G.2.1, 64, .inl bW))] → va_S A s.heap H locs → (∀ (ls : Array Slot) (H : Heap) (locs : List Loc), lv_has ls 7 [(0, .ref qB), (1, .int x1), (2, .int x2), (3, .int x3), (4, .int t_48.1), (5, .int s102)] → va_P G.1 vwCl [(qB, .inr (0, [.ref qBT, .ref qBC, .ref qBN, .ref qBW, .ref qBL, .int (x1 * x2), .int 0, .int 0])), (qBT, .inl (G.2.1, 16, .inl q1)), (qBC, .inl (G.2.1, 16, .inl t_48.2.1)), (qBN, .inl (G.2.1, 64, .inl t_48.2.2)), (qBW, .inl (G.2.1, 64, .inl bW))] H → va_D A [(qB, .inr (0, [.ref qBT, .ref qBC, .ref qBN, .ref qBW, .ref qBL, .int (x1 * x2), .int 0, .int 0])), (qBT, .inl (G.2.1, 16, .inl q1)), (qBC, .inl (G.2.1, 16, .inl t_48.2.1)), (qBN, .inl (G.2.1, 64, .inl t_48.2.2)), (qBW, .inl (G.2.1, 64, .inl bW))] → va_S A s.heap H locs → W p l e (headSpec wsX0_clear rmX0_clear).room s m ([.ref qB, .int x1, .int x2, .int x3] : List Value).toArray below meth c H locs 0 0 Q (F0 m 154 ls [])) → W p l e (headSpec wsX0_clear rmX0_clear).room s m ([.ref qB, .int x1, .int x2, .int x3] : List Value).toArray below meth c H locs 0 0 Q (F0 m 48 ls []) := by
          intro n
          induction n with
          | zero => 
            intro s152 s153 s154 s155 t_48 ls H locs hq hl hP hD hS kk48_154
            exact absurd hq kl_0
          | succ n ih48 =>
            intro s152 s153 s154 s155 t_48 ls H locs hq hl hP hD hS kk48_154
            obtain ⟨y_48, hq, hx48⟩ := kl_s hq
            have hq : kX0_clear_s48 F x1 x2 x3 s102 s152 s153 s154 s155 = some y_48 := hq
            unfold kX0_clear_s48 at hq
            refine lv_iload hx hb dX0_clear_48 (lv_at hl 6 rfl) ?_
            refine lv_iload_n hx hb dX0_clear_50 rfl (lv_at hl 1 rfl) ?_
            refine lv_icmp_ge (tgt := 154) hx hb dX0_clear_51 (by decide) (fun c_51 => ?_) (fun c_51 => ?_)
            · have hq := k_t c_51 hq
              have et := kl_exit hq hx48
              subst et
              exact kk48_154 ls _ _ (lv_sub hl [0, 1, 2, 3, 4, 5] rfl) hP hD hS
            · have hq := k_f c_51 hq
              refine lv_iload hx hb dX0_clear_54 (lv_at hl 4 rfl) ?_
              refine lv_bipush (v := 16) hx hb dX0_clear_56 (by decide) ?_
              refine lv_icmp_ge (tgt := 154) hx hb dX0_clear_58 (by decide) (fun c_58 => ?_) (fun c_58 => ?_)
              · have hq := k_t c_58 hq
                have et := kl_exit hq hx48
                subst et
                exact kk48_154 ls _ _ (lv_sub hl [0, 1, 2, 3, 4, 5] rfl) hP hD hS
              · have hq := k_f c_58 hq
                refine lv_aload_n hx hb dX0_clear_61 rfl (lv_at hl 0 rfl) ?_
                refine va_get (D := G.1) (ci := 0) (v := .ref qBC) (C := RX0) (T := TX0) (N := 8) hx hb hts hi0 hown hK hP 0 rfl rfl 1 (by decide) hw5 (fun _ h9 => h9) rfl dX0_clear_62 ?_
                refine lv_iload hx hb dX0_clear_65 (lv_at hl 4 rfl) ?_
                refine lv_iload hx hb dX0_clear_67 (lv_at hl 6 rfl) ?_
                obtain ⟨hg, hq⟩ := k_g hq
                refine va_iast hx hb hK hP hD hS 2 0 rfl rfl (ix_in hg) dX0_clear_69 (fun H locs hP hD hS => ?_)
                have hP : va_P G.1 vwCl [(qB, .inr (0, [.ref qBT, .ref qBC, .ref qBN, .ref qBW, .ref qBL, .int (x1 * x2), .int 0, .int 0])), (qBT, .inl (G.2.1, 16, .inl q1)), (qBC, .inl (G.2.1, 16, .inl (upd s154 s152.toNatClampNeg s153))), (qBN, .inl (G.2.1, 64, .inl s155)), (qBW, .inl (G.2.1, 64, .inl bW))] H := hP
                have hD : va_D A [(qB, .inr (0, [.ref qBT, .ref qBC, .ref qBN, .ref qBW, .ref qBL, .int (x1 * x2), .int 0, .int 0])), (qBT, .inl (G.2.1, 16, .inl q1)), (qBC, .inl (G.2.1, 16, .inl (upd s154 s152.toNatClampNeg s153))), (qBN, .inl (G.2.1, 64, .inl s155)), (qBW, .inl (G.2.1, 64, .inl bW))] := hD
                refine lv_iload_n hx hb dX0_clear_70 rfl (lv_at hl 3 rfl) ?_
                have J109 : ∀ (w164 : Nat → Int32) (ls : Array Slot) (H : Heap) (locs : List Loc), kX0_clear_j109 F x1 x2 x3 s102 s152 s153 s154 w164 = some y_48 → lv_has ls 7 [(0, .ref qB), (1, .int x1), (2, .int x2), (3, .int x3), (4, .int s152), (5, .int s102), (6, .int s153)] → va_P G.1 vwCl [(qB, .inr (0, [.ref qBT, .ref qBC, .ref qBN, .ref qBW, .ref qBL, .int (x1 * x2), .int 0, .int 0])), (qBT, .inl (G.2.1, 16, .inl q1)), (qBC, .inl (G.2.1, 16, .inl (upd s154 s152.toNatClampNeg s153))), (qBN, .inl (G.2.1, 64, .inl w164)), (qBW, .inl (G.2.1, 64, .inl bW))] H → va_D A [(qB, .inr (0, [.ref qBT, .ref qBC, .ref qBN, .ref qBW, .ref qBL, .int (x1 * x2), .int 0, .int 0])), (qBT, .inl (G.2.1, 16, .inl q1)), (qBC, .inl (G.2.1, 16, .inl (upd s154 s152.toNatClampNeg s153))), (qBN, .inl (G.2.1, 64, .inl w164)), (qBW, .inl (G.2.1, 64, .inl bW))] → va_S A s.heap H locs → W p l e (headSpec wsX0_clear rmX0_clear).room s m ([.ref qB, .int x1, .int x2, .int x3] : List Value).toArray below meth c H locs 0 0 Q (F0 m 109 ls []) := by
                  intro w164 ls H locs hq hl hP hD hS
                  unfold kX0_clear_j109 at hq
                  refine lv_iload_n hx hb dX0_clear_109 rfl (lv_at hl 3 rfl) ?_
                  have J145 : ∀ (w173 : Nat → Int32) (ls : Array Slot) (H : Heap) (locs : List Loc), kX0_clear_j145 F s152 s153 s154 w173 = some y_48 → lv_has ls 7 [(0, .ref qB), (1, .int x1), (2, .int x2), (3, .int x3), (4, .int s152), (5, .int s102), (6, .int s153)] → va_P G.1 vwCl [(qB, .inr (0, [.ref qBT, .ref qBC, .ref qBN, .ref qBW, .ref qBL, .int (x1 * x2), .int 0, .int 0])), (qBT, .inl (G.2.1, 16, .inl q1)), (qBC, .inl (G.2.1, 16, .inl (upd s154 s152.toNatClampNeg s153))), (qBN, .inl (G.2.1, 64, .inl w173)), (qBW, .inl (G.2.1, 64, .inl bW))] H → va_D A [(qB, .inr (0, [.ref qBT, .ref qBC, .ref qBN, .ref qBW, .ref qBL, .int (x1 * x2), .int 0, .int 0])), (qBT, .inl (G.2.1, 16, .inl q1)), (qBC, .inl (G.2.1, 16, .inl (upd s154 s152.toNatClampNeg s153))), (qBN, .inl (G.2.1, 64, .inl w173)), (qBW, .inl (G.2.1, 64, .inl bW))] → va_S A s.heap H locs → W p l e (headSpec wsX0_clear rmX0_clear).room s m ([.ref qB, .int x1, .int x2, .int x3] : List Value).toArray below meth c H locs 0 0 Q (F0 m 145 ls []) := by
                    intro w173 ls H locs hq hl hP hD hS
                    unfold kX0_clear_j145 at hq
                    refine lv_iinc (v := (s152 + 1)) (lv' := [(4, .int (s152 + 1)), (0, .ref qB), (1, .int x1), (2, .int x2), (3, .int x3), (5, .int s102), (6, .int s153)]) hx hb dX0_clear_145 hl (k := 4) rfl rfl (by decide) rfl (fun ls hl => ?_)
                    refine lv_iinc (v := (s153 + 1)) (lv' := [(6, .int (s153 + 1)), (4, .int (s152 + 1)), (0, .ref qB), (1, .int x1), (2, .int x2), (3, .int x3), (5, .int s102)]) hx hb dX0_clear_148 hl (k := 6) rfl rfl (by decide) rfl (fun ls hl => ?_)
                    refine lv_goto (tgt := 48) hx hb dX0_clear_151 (by decide) ?_
                    exact ih48 (s152 + 1) (s153 + 1) (upd s154 s152.toNatClampNeg s153) w173 t_48 ls _ _ (kl_back hq hx48) (lv_sub hl [2, 3, 4, 5, 1, 6, 0] rfl) hP hD hS kk48_154
                  refine lv_if_ne (tgt := 121) hx hb dX0_clear_110 (by decide) (fun c_110 => ?_) (fun c_110 => ?_)
                  · have hq := k_f c_110 hq
                    refine lv_aload_n hx hb dX0_clear_121 rfl (lv_at hl 0 rfl) ?_
                    refine lv_iload hx hb dX0_clear_122 (lv_at hl 4 rfl) ?_
                    refine lv_iconst (v := 2) hx hb dX0_clear_124 (by decide) ?_
                    refine lv_iload hx hb dX0_clear_125 (lv_at hl 5 rfl) ?_
                    refine lv_iload_n hx hb dX0_clear_127 rfl (lv_at hl 2 rfl) ?_
                    refine lv_iconst (v := 1) hx hb dX0_clear_128 (by decide) ?_
                    refine lv_isub hx hb dX0_clear_129 ?_
                    refine lv_icmp_ge (tgt := 140) hx hb dX0_clear_130 (by decide) (fun c_130 => ?_) (fun c_130 => ?_)
                    · have hq := k_t c_130 hq
                      refine lv_iload hx hb dX0_clear_140 (lv_at hl 6 rfl) ?_
                      obtain ⟨q176, eq176, hq⟩ := ob hq
                      have hPc := hP.sub (ws' := [(qB, .inr (0, [.ref qBT, .ref qBC, .ref qBN, .ref qBW, .ref qBL, .int (x1 * x2), .int 0, .int 0])), (qBN, .inl (G.2.1, 64, .inl w164))]) [0, 3] rfl
                      have hKc := hK
                      have hDc := hD.sub (ws' := [(qB, .inr (0, [.ref qBT, .ref qBC, .ref qBN, .ref qBW, .ref qBL, .int (x1 * x2), .int 0, .int 0])), (qBN, .inl (G.2.1, 64, .inl w164))]) [0, 3] (by decide) rfl
                      have hFc := va_free (wc := [(qB, .inr (0, [.ref qBT, .ref qBC, .ref qBN, .ref qBW, .ref qBL, .int (x1 * x2), .int 0, .int 0])), (qBN, .inl (G.2.1, 64, .inl w164))]) hD hS hA [0, 3] rfl
                      refine va_callv (va_runV (As := [.int s152, .int 2, .int s153]) (rest := []) ⟨hx, hb, hml, hown, hts⟩ (tX0_link G l eq176) (cwV 3 hts gX0_clear_X0_link rfl rfl rfl (by decide +kernel) ⟨Nat.le_of_ble_eq_true rfl, Nat.le_of_ble_eq_true rfl⟩) ⟨pcW_blind, va_recv hKc hPc (ci := 0) (q0 := 0) rfl rfl, pcW_pre hPc hKK hDc⟩ rfl rfl hl.1 rfl (lv_room (Nat.le_of_ble_eq_true rfl)) dX0_clear_142 ⟨Nat.zero_le _, Nat.zero_le _⟩) hS (fun q _ h => hFc q h) hFc (fun u t H1 locs ht hvm hw hB hz1 hk1 hS => ?_)
                      have hB := va_Pto ht hB
                      obtain ⟨hP, hD⟩ := jn (ws' := [(qB, .inr (0, [.ref qBT, .ref qBC, .ref qBN, .ref qBW, .ref qBL, .int (x1 * x2), .int 0, .int 0])), (qBT, .inl (G.2.1, 16, .inl q1)), (qBC, .inl (G.2.1, 16, .inl (upd s154 s152.toNatClampNeg s153))), (qBN, .inl (G.2.1, 64, .inl q176)), (qBW, .inl (G.2.1, 64, .inl bW))]) hP hD hk1 hB [0, 3] rfl rfl rfl rfl
                      generalize H1 = H at hP hS ⊢
                      exact J145 q176 ls _ _ hq (lv_sub hl [0, 1, 2, 3, 4, 5, 6] rfl) hP hD hS
                    · have hq := k_f c_130 hq
                      refine lv_iload hx hb dX0_clear_133 (lv_at hl 4 rfl) ?_
                      refine lv_iload_n hx hb dX0_clear_135 rfl (lv_at hl 1 rfl) ?_
                      refine lv_iadd hx hb dX0_clear_136 ?_
                      refine lv_goto (tgt := 142) hx hb dX0_clear_137 (by decide) ?_
                      obtain ⟨q177, eq177, hq⟩ := ob hq
                      have hPc := hP.sub (ws' := [(qB, .inr (0, [.ref qBT, .ref qBC, .ref qBN, .ref qBW, .ref qBL, .int (x1 * x2), .int 0, .int 0])), (qBN, .inl (G.2.1, 64, .inl w164))]) [0, 3] rfl
                      have hKc := hK
                      have hDc := hD.sub (ws' := [(qB, .inr (0, [.ref qBT, .ref qBC, .ref qBN, .ref qBW, .ref qBL, .int (x1 * x2), .int 0, .int 0])), (qBN, .inl (G.2.1, 64, .inl w164))]) [0, 3] (by decide) rfl
                      have hFc := va_free (wc := [(qB, .inr (0, [.ref qBT, .ref qBC, .ref qBN, .ref qBW, .ref qBL, .int (x1 * x2), .int 0, .int 0])), (qBN, .inl (G.2.1, 64, .inl w164))]) hD hS hA [0, 3] rfl
                      refine va_callv (va_runV (As := [.int s152, .int 2, .int (s152 + x1)]) (rest := []) ⟨hx, hb, hml, hown, hts⟩ (tX0_link G l eq177) (cwV 3 hts gX0_clear_X0_link rfl rfl rfl (by decide +kernel) ⟨Nat.le_of_ble_eq_true rfl, Nat.le_of_ble_eq_true rfl⟩) ⟨pcW_blind, va_recv hKc hPc (ci := 0) (q0 := 0) rfl rfl, pcW_pre hPc hKK hDc⟩ rfl rfl hl.1 rfl (lv_room (Nat.le_of_ble_eq_true rfl)) dX0_clear_142 ⟨Nat.zero_le _, Nat.zero_le _⟩) hS (fun q _ h => hFc q h) hFc (fun u t H1 locs ht hvm hw hB hz1 hk1 hS => ?_)
                      have hB := va_Pto ht hB
                      obtain ⟨hP, hD⟩ := jn (ws' := [(qB, .inr (0, [.ref qBT, .ref qBC, .ref qBN, .ref qBW, .ref qBL, .int (x1 * x2), .int 0, .int 0])), (qBT, .inl (G.2.1, 16, .inl q1)), (qBC, .inl (G.2.1, 16, .inl (upd s154 s152.toNatClampNeg s153))), (qBN, .inl (G.2.1, 64, .inl q177)), (qBW, .inl (G.2.1, 64, .inl bW))]) hP hD hk1 hB [0, 3] rfl rfl rfl rfl
                      generalize H1 = H at hP hS ⊢
                      exact J145 q177 ls _ _ hq (lv_sub hl [0, 1, 2, 3, 4, 5, 6] rfl) hP hD hS
                  · have hq := k_t c_110 hq
                    refine lv_iload hx hb dX0_clear_113 (lv_at hl 5 rfl) ?_
                    refine lv_iload_n hx hb dX0_clear_115 rfl (lv_at hl 2 rfl) ?_
                    refine lv_iconst (v := 1) hx hb dX0_clear_116 (by decide) ?_
                    refine lv_isub hx hb dX0_clear_117 ?_
                    refine lv_icmp_ge (tgt := 145) hx hb dX0_clear_118 (by decide) (fun c_118 => ?_) (fun c_118 => ?_)
                    · have hq := k_t c_118 hq
                      exact J145 w164 ls _ _ hq (lv_sub hl [0, 1, 2, 3, 4, 5, 6] rfl) hP hD hS
                    · have hq := k_f c_118 hq
                      refine lv_aload_n hx hb dX0_clear_121 rfl (lv_at hl 0 rfl) ?_
                      refine lv_iload hx hb dX0_clear_122 (lv_at hl 4 rfl) ?_
                      refine lv_iconst (v := 2) hx hb dX0_clear_124 (by decide) ?_
                      refine lv_iload hx hb dX0_clear_125 (lv_at hl 5 rfl) ?_
                      refine lv_iload_n hx hb dX0_clear_127 rfl (lv_at hl 2 rfl) ?_
                      refine lv_iconst (v := 1) hx hb dX0_clear_128 (by decide) ?_
                      refine lv_isub hx hb dX0_clear_129 ?_
                      refine lv_icmp_ge (tgt := 140) hx hb dX0_clear_130 (by decide) (fun c_130 => ?_) (fun c_130 => ?_)
                      · have hq := k_t c_130 hq
                        refine lv_iload hx hb dX0_clear_140 (lv_at hl 6 rfl) ?_
                        obtain ⟨q180, eq180, hq⟩ := ob hq
                        have hPc := hP.sub (ws' := [(qB, .inr (0, [.ref qBT, .ref qBC, .ref qBN, .ref qBW, .ref qBL, .int (x1 * x2), .int 0, .int 0])), (qBN, .inl (G.2.1, 64, .inl w164))]) [0, 3] rfl
                        have hKc := hK
                        have hDc := hD.sub (ws' := [(qB, .inr (0, [.ref qBT, .ref qBC, .ref qBN, .ref qBW, .ref qBL, .int (x1 * x2), .int 0, .int 0])), (qBN, .inl (G.2.1, 64, .inl w164))]) [0, 3] (by decide) rfl
                        have hFc := va_free (wc := [(qB, .inr (0, [.ref qBT, .ref qBC, .ref qBN, .ref qBW, .ref qBL, .int (x1 * x2), .int 0, .int 0])), (qBN, .inl (G.2.1, 64, .inl w164))]) hD hS hA [0, 3] rfl
                        refine va_callv (va_runV (As := [.int s152, .int 2, .int s153]) (rest := []) ⟨hx, hb, hml, hown, hts⟩ (tX0_link G l eq180) (cwV 3 hts gX0_clear_X0_link rfl rfl rfl (by decide +kernel) ⟨Nat.le_of_ble_eq_true rfl, Nat.le_of_ble_eq_true rfl⟩) ⟨pcW_blind, va_recv hKc hPc (ci := 0) (q0 := 0) rfl rfl, pcW_pre hPc hKK hDc⟩ rfl rfl hl.1 rfl (lv_room (Nat.le_of_ble_eq_true rfl)) dX0_clear_142 ⟨Nat.zero_le _, Nat.zero_le _⟩) hS (fun q _ h => hFc q h) hFc (fun u t H1 locs ht hvm hw hB hz1 hk1 hS => ?_)
                        have hB := va_Pto ht hB
                        obtain ⟨hP, hD⟩ := jn (ws' := [(qB, .inr (0, [.ref qBT, .ref qBC, .ref qBN, .ref qBW, .ref qBL, .int (x1 * x2), .int 0, .int 0])), (qBT, .inl (G.2.1, 16, .inl q1)), (qBC, .inl (G.2.1, 16, .inl (upd s154 s152.toNatClampNeg s153))), (qBN, .inl (G.2.1, 64, .inl q180)), (qBW, .inl (G.2.1, 64, .inl bW))]) hP hD hk1 hB [0, 3] rfl rfl rfl rfl
                        generalize H1 = H at hP hS ⊢
                        exact J145 q180 ls _ _ hq (lv_sub hl [0, 1, 2, 3, 4, 5, 6] rfl) hP hD hS
                      · have hq := k_f c_130 hq
                        refine lv_iload hx hb dX0_clear_133 (lv_at hl 4 rfl) ?_
                        refine lv_iload_n hx hb dX0_clear_135 rfl (lv_at hl 1 rfl) ?_
                        refine lv_iadd hx hb dX0_clear_136 ?_
                        refine lv_goto (tgt := 142) hx hb dX0_clear_137 (by decide) ?_
                        obtain ⟨q181, eq181, hq⟩ := ob hq
                        have hPc := hP.sub (ws' := [(qB, .inr (0, [.ref qBT, .ref qBC, .ref qBN, .ref qBW, .ref qBL, .int (x1 * x2), .int 0, .int 0])), (qBN, .inl (G.2.1, 64, .inl w164))]) [0, 3] rfl
                        have hKc := hK
                        have hDc := hD.sub (ws' := [(qB, .inr (0, [.ref qBT, .ref qBC, .ref qBN, .ref qBW, .ref qBL, .int (x1 * x2), .int 0, .int 0])), (qBN, .inl (G.2.1, 64, .inl w164))]) [0, 3] (by decide) rfl
                        have hFc := va_free (wc := [(qB, .inr (0, [.ref qBT, .ref qBC, .ref qBN, .ref qBW, .ref qBL, .int (x1 * x2), .int 0, .int 0])), (qBN, .inl (G.2.1, 64, .inl w164))]) hD hS hA [0, 3] rfl
                        refine va_callv (va_runV (As := [.int s152, .int 2, .int (s152 + x1)]) (rest := []) ⟨hx, hb, hml, hown, hts⟩ (tX0_link G l eq181) (cwV 3 hts gX0_clear_X0_link rfl rfl rfl (by decide +kernel) ⟨Nat.le_of_ble_eq_true rfl, Nat.le_of_ble_eq_true rfl⟩) ⟨pcW_blind, va_recv hKc hPc (ci := 0) (q0 := 0) rfl rfl, pcW_pre hPc hKK hDc⟩ rfl rfl hl.1 rfl (lv_room (Nat.le_of_ble_eq_true rfl)) dX0_clear_142 ⟨Nat.zero_le _, Nat.zero_le _⟩) hS (fun q _ h => hFc q h) hFc (fun u t H1 locs ht hvm hw hB hz1 hk1 hS => ?_)
                        have hB := va_Pto ht hB
                        obtain ⟨hP, hD⟩ := jn (ws' := [(qB, .inr (0, [.ref qBT, .ref qBC, .ref qBN, .ref qBW, .ref qBL, .int (x1 * x2), .int 0, .int 0])), (qBT, .inl (G.2.1, 16, .inl q1)), (qBC, .inl (G.2.1, 16, .inl (upd s154 s152.toNatClampNeg s153))), (qBN, .inl (G.2.1, 64, .inl q181)), (qBW, .inl (G.2.1, 64, .inl bW))]) hP hD hk1 hB [0, 3] rfl rfl rfl rfl
                        generalize H1 = H at hP hS ⊢
                        exact J145 q181 ls _ _ hq (lv_sub hl [0, 1, 2, 3, 4, 5, 6] rfl) hP hD hS
                refine lv_if_ne (tgt := 82) hx hb dX0_clear_71 (by decide) (fun c_71 => ?_) (fun c_71 => ?_)
                · have hq := k_f c_71 hq
                  refine lv_aload_n hx hb dX0_clear_82 rfl (lv_at hl 0 rfl) ?_
                  refine lv_iload hx hb dX0_clear_83 (lv_at hl 4 rfl) ?_
                  refine lv_iconst (v := 1) hx hb dX0_clear_85 (by decide) ?_
                  refine lv_iload hx hb dX0_clear_86 (lv_at hl 6 rfl) ?_
                  refine lv_iload_n hx hb dX0_clear_88 rfl (lv_at hl 1 rfl) ?_
                  refine lv_iconst (v := 1) hx hb dX0_clear_89 (by decide) ?_
                  refine lv_isub hx hb dX0_clear_90 ?_
                  refine lv_icmp_ge (tgt := 101) hx hb dX0_clear_91 (by decide) (fun c_91 => ?_) (fun c_91 => ?_)
                  · have hq := k_t c_91 hq
                    refine lv_iload hx hb dX0_clear_101 (lv_at hl 4 rfl) ?_
                    refine lv_iload hx hb dX0_clear_103 (lv_at hl 6 rfl) ?_
                    refine lv_isub hx hb dX0_clear_105 ?_
                    obtain ⟨q184, eq184, hq⟩ := ob hq
                    have hPc := hP.sub (ws' := [(qB, .inr (0, [.ref qBT, .ref qBC, .ref qBN, .ref qBW, .ref qBL, .int (x1 * x2), .int 0, .int 0])), (qBN, .inl (G.2.1, 64, .inl s155))]) [0, 3] rfl
                    have hKc := hK
                    have hDc := hD.sub (ws' := [(qB, .inr (0, [.ref qBT, .ref qBC, .ref qBN, .ref qBW, .ref qBL, .int (x1 * x2), .int 0, .int 0])), (qBN, .inl (G.2.1, 64, .inl s155))]) [0, 3] (by decide) rfl
                    have hFc := va_free (wc := [(qB, .inr (0, [.ref qBT, .ref qBC, .ref qBN, .ref qBW, .ref qBL, .int (x1 * x2), .int 0, .int 0])), (qBN, .inl (G.2.1, 64, .inl s155))]) hD hS hA [0, 3] rfl
                    refine va_callv (va_runV (As := [.int s152, .int 1, .int (s152 - s153)]) (rest := []) ⟨hx, hb, hml, hown, hts⟩ (tX0_link G l eq184) (cwV 3 hts gX0_clear_X0_link rfl rfl rfl (by decide +kernel) ⟨Nat.le_of_ble_eq_true rfl, Nat.le_of_ble_eq_true rfl⟩) ⟨pcW_blind, va_recv hKc hPc (ci := 0) (q0 := 0) rfl rfl, pcW_pre hPc hKK hDc⟩ rfl rfl hl.1 rfl (lv_room (Nat.le_of_ble_eq_true rfl)) dX0_clear_106 ⟨Nat.zero_le _, Nat.zero_le _⟩) hS (fun q _ h => hFc q h) hFc (fun u t H1 locs ht hvm hw hB hz1 hk1 hS => ?_)
                    have hB := va_Pto ht hB
                    obtain ⟨hP, hD⟩ := jn (ws' := [(qB, .inr (0, [.ref qBT, .ref qBC, .ref qBN, .ref qBW, .ref qBL, .int (x1 * x2), .int 0, .int 0])), (qBT, .inl (G.2.1, 16, .inl q1)), (qBC, .inl (G.2.1, 16, .inl (upd s154 s152.toNatClampNeg s153))), (qBN, .inl (G.2.1, 64, .inl q184)), (qBW, .inl (G.2.1, 64, .inl bW))]) hP hD hk1 hB [0, 3] rfl rfl rfl rfl
                    generalize H1 = H at hP hS ⊢
                    exact J109 q184 ls _ _ hq (lv_sub hl [0, 1, 2, 3, 4, 5, 6] rfl) hP hD hS
                  · have hq := k_f c_91 hq
                    refine lv_iload hx hb dX0_clear_94 (lv_at hl 4 rfl) ?_
                    refine lv_iconst (v := 1) hx hb dX0_clear_96 (by decide) ?_
                    refine lv_iadd hx hb dX0_clear_97 ?_
                    refine lv_goto (tgt := 106) hx hb dX0_clear_98 (by decide) ?_
                    obtain ⟨q185, eq185, hq⟩ := ob hq
                    have hPc := hP.sub (ws' := [(qB, .inr (0, [.ref qBT, .ref qBC, .ref qBN, .ref qBW, .ref qBL, .int (x1 * x2), .int 0, .int 0])), (qBN, .inl (G.2.1, 64, .inl s155))]) [0, 3] rfl
                    have hKc := hK
                    have hDc := hD.sub (ws' := [(qB, .inr (0, [.ref qBT, .ref qBC, .ref qBN, .ref qBW, .ref qBL, .int (x1 * x2), .int 0, .int 0])), (qBN, .inl (G.2.1, 64, .inl s155))]) [0, 3] (by decide) rfl
                    have hFc := va_free (wc := [(qB, .inr (0, [.ref qBT, .ref qBC, .ref qBN, .ref qBW, .ref qBL, .int (x1 * x2), .int 0, .int 0])), (qBN, .inl (G.2.1, 64, .inl s155))]) hD hS hA [0, 3] rfl
                    refine va_callv (va_runV (As := [.int s152, .int 1, .int (s152 + 1)]) (rest := []) ⟨hx, hb, hml, hown, hts⟩ (tX0_link G l eq185) (cwV 3 hts gX0_clear_X0_link rfl rfl rfl (by decide +kernel) ⟨Nat.le_of_ble_eq_true rfl, Nat.le_of_ble_eq_true rfl⟩) ⟨pcW_blind, va_recv hKc hPc (ci := 0) (q0 := 0) rfl rfl, pcW_pre hPc hKK hDc⟩ rfl rfl hl.1 rfl (lv_room (Nat.le_of_ble_eq_true rfl)) dX0_clear_106 ⟨Nat.zero_le _, Nat.zero_le _⟩) hS (fun q _ h => hFc q h) hFc (fun u t H1 locs ht hvm hw hB hz1 hk1 hS => ?_)
                    have hB := va_Pto ht hB
                    obtain ⟨hP, hD⟩ := jn (ws' := [(qB, .inr (0, [.ref qBT, .ref qBC, .ref qBN, .ref qBW, .ref qBL, .int (x1 * x2), .int 0, .int 0])), (qBT, .inl (G.2.1, 16, .inl q1)), (qBC, .inl (G.2.1, 16, .inl (upd s154 s152.toNatClampNeg s153))), (qBN, .inl (G.2.1, 64, .inl q185)), (qBW, .inl (G.2.1, 64, .inl bW))]) hP hD hk1 hB [0, 3] rfl rfl rfl rfl
                    generalize H1 = H at hP hS ⊢
                    exact J109 q185 ls _ _ hq (lv_sub hl [0, 1, 2, 3, 4, 5, 6] rfl) hP hD hS
                · have hq := k_t c_71 hq
                  refine lv_iload hx hb dX0_clear_74 (lv_at hl 6 rfl) ?_
                  refine lv_iload_n hx hb dX0_clear_76 rfl (lv_at hl 1 rfl) ?_
                  refine lv_iconst (v := 1) hx hb dX0_clear_77 (by decide) ?_
                  refine lv_isub hx hb dX0_clear_78 ?_
                  refine lv_icmp_ge (tgt := 109) hx hb dX0_clear_79 (by decide) (fun c_79 => ?_) (fun c_79 => ?_)
                  · have hq := k_t c_79 hq
                    exact J109 s155 ls _ _ hq (lv_sub hl [0, 1, 2, 3, 4, 5, 6] rfl) hP hD hS
                  · have hq := k_f c_79 hq
                    refine lv_aload_n hx hb dX0_clear_82 rfl (lv_at hl 0 rfl) ?_
                    refine lv_iload hx hb dX0_clear_83 (lv_at hl 4 rfl) ?_
                    refine lv_iconst (v := 1) hx hb dX0_clear_85 (by decide) ?_
                    refine lv_iload hx hb dX0_clear_86 (lv_at hl 6 rfl) ?_
                    refine lv_iload_n hx hb dX0_clear_88 rfl (lv_at hl 1 rfl) ?_
                    refine lv_iconst (v := 1) hx hb dX0_clear_89 (by decide) ?_
                    refine lv_isub hx hb dX0_clear_90 ?_
                    refine lv_icmp_ge (tgt := 101) hx hb dX0_clear_91 (by decide) (fun c_91 => ?_) (fun c_91 => ?_)
                    · have hq := k_t c_91 hq
                      refine lv_iload hx hb dX0_clear_101 (lv_at hl 4 rfl) ?_
                      refine lv_iload hx hb dX0_clear_103 (lv_at hl 6 rfl) ?_
                      refine lv_isub hx hb dX0_clear_105 ?_
                      obtain ⟨q188, eq188, hq⟩ := ob hq
                      have hPc := hP.sub (ws' := [(qB, .inr (0, [.ref qBT, .ref qBC, .ref qBN, .ref qBW, .ref qBL, .int (x1 * x2), .int 0, .int 0])), (qBN, .inl (G.2.1, 64, .inl s155))]) [0, 3] rfl
                      have hKc := hK
                      have hDc := hD.sub (ws' := [(qB, .inr (0, [.ref qBT, .ref qBC, .ref qBN, .ref qBW, .ref qBL, .int (x1 * x2), .int 0, .int 0])), (qBN, .inl (G.2.1, 64, .inl s155))]) [0, 3] (by decide) rfl
                      have hFc := va_free (wc := [(qB, .inr (0, [.ref qBT, .ref qBC, .ref qBN, .ref qBW, .ref qBL, .int (x1 * x2), .int 0, .int 0])), (qBN, .inl (G.2.1, 64, .inl s155))]) hD hS hA [0, 3] rfl
                      refine va_callv (va_runV (As := [.int s152, .int 1, .int (s152 - s153)]) (rest := []) ⟨hx, hb, hml, hown, hts⟩ (tX0_link G l eq188) (cwV 3 hts gX0_clear_X0_link rfl rfl rfl (by decide +kernel) ⟨Nat.le_of_ble_eq_true rfl, Nat.le_of_ble_eq_true rfl⟩) ⟨pcW_blind, va_recv hKc hPc (ci := 0) (q0 := 0) rfl rfl, pcW_pre hPc hKK hDc⟩ rfl rfl hl.1 rfl (lv_room (Nat.le_of_ble_eq_true rfl)) dX0_clear_106 ⟨Nat.zero_le _, Nat.zero_le _⟩) hS (fun q _ h => hFc q h) hFc (fun u t H1 locs ht hvm hw hB hz1 hk1 hS => ?_)
                      have hB := va_Pto ht hB
                      obtain ⟨hP, hD⟩ := jn (ws' := [(qB, .inr (0, [.ref qBT, .ref qBC, .ref qBN, .ref qBW, .ref qBL, .int (x1 * x2), .int 0, .int 0])), (qBT, .inl (G.2.1, 16, .inl q1)), (qBC, .inl (G.2.1, 16, .inl (upd s154 s152.toNatClampNeg s153))), (qBN, .inl (G.2.1, 64, .inl q188)), (qBW, .inl (G.2.1, 64, .inl bW))]) hP hD hk1 hB [0, 3] rfl rfl rfl rfl
                      generalize H1 = H at hP hS ⊢
                      exact J109 q188 ls _ _ hq (lv_sub hl [0, 1, 2, 3, 4, 5, 6] rfl) hP hD hS
                    · have hq := k_f c_91 hq
                      refine lv_iload hx hb dX0_clear_94 (lv_at hl 4 rfl) ?_
                      refine lv_iconst (v := 1) hx hb dX0_clear_96 (by decide) ?_
                      refine lv_iadd hx hb dX0_clear_97 ?_
                      refine lv_goto (tgt := 106) hx hb dX0_clear_98 (by decide) ?_
                      obtain ⟨q189, eq189, hq⟩ := ob hq
                      have hPc := hP.sub (ws' := [(qB, .inr (0, [.ref qBT, .ref qBC, .ref qBN, .ref qBW, .ref qBL, .int (x1 * x2), .int 0, .int 0])), (qBN, .inl (G.2.1, 64, .inl s155))]) [0, 3] rfl
                      have hKc := hK
                      have hDc := hD.sub (ws' := [(qB, .inr (0, [.ref qBT, .ref qBC, .ref qBN, .ref qBW, .ref qBL, .int (x1 * x2), .int 0, .int 0])), (qBN, .inl (G.2.1, 64, .inl s155))]) [0, 3] (by decide) rfl
                      have hFc := va_free (wc := [(qB, .inr (0, [.ref qBT, .ref qBC, .ref qBN, .ref qBW, .ref qBL, .int (x1 * x2), .int 0, .int 0])), (qBN, .inl (G.2.1, 64, .inl s155))]) hD hS hA [0, 3] rfl
                      refine va_callv (va_runV (As := [.int s152, .int 1, .int (s152 + 1)]) (rest := []) ⟨hx, hb, hml, hown, hts⟩ (tX0_link G l eq189) (cwV 3 hts gX0_clear_X0_link rfl rfl rfl (by decide +kernel) ⟨Nat.le_of_ble_eq_true rfl, Nat.le_of_ble_eq_true rfl⟩) ⟨pcW_blind, va_recv hKc hPc (ci := 0) (q0 := 0) rfl rfl, pcW_pre hPc hKK hDc⟩ rfl rfl hl.1 rfl (lv_room (Nat.le_of_ble_eq_true rfl)) dX0_clear_106 ⟨Nat.zero_le _, Nat.zero_le _⟩) hS (fun q _ h => hFc q h) hFc (fun u t H1 locs ht hvm hw hB hz1 hk1 hS => ?_)
                      have hB := va_Pto ht hB
                      obtain ⟨hP, hD⟩ := jn (ws' := [(qB, .inr (0, [.ref qBT, .ref qBC, .ref qBN, .ref qBW, .ref qBL, .int (x1 * x2), .int 0, .int 0])), (qBT, .inl (G.2.1, 16, .inl q1)), (qBC, .inl (G.2.1, 16, .inl (upd s154 s152.toNatClampNeg s153))), (qBN, .inl (G.2.1, 64, .inl q189)), (qBW, .inl (G.2.1, 64, .inl bW))]) hP hD hk1 hB [0, 3] rfl rfl rfl rfl
                      generalize H1 = H at hP hS ⊢
                      exact J109 q189 ls _ _ hq (lv_sub hl [0, 1, 2, 3, 4, 5, 6] rfl) hP hD hS
        obtain ⟨q190, eq190, hq⟩ := ob hq
        refine L48 F s101 0 s103 s104 q190 ls _ _ (eq190) (lv_sub hl [1, 2, 3, 4, 5, 6, 0] rfl) hP hD hS (fun ls H locs hl hP hD hS => ?_)
        · refine lv_iinc (v := (s102 + 1)) (lv' := [(5, .int (s102 + 1)), (0, .ref qB), (1, .int x1), (2, .int x2), (3, .int x3), (4, .int q190.1)]) hx hb dX0_clear_154 hl (k := 5) rfl rfl (by decide) rfl (fun ls hl => ?_)
          refine lv_goto (tgt := 39) hx hb dX0_clear_157 (by decide) ?_
          exact ih39 q190.1 (s102 + 1) q190.2.1 q190.2.2 t_39 ls _ _ (kl_back hq hx39) (lv_sub hl [1, 2, 3, 4, 5, 0] rfl) hP hD hS kk39_160
  obtain ⟨q191, eq191, hq⟩ := ob hq
  refine L39 F 0 0 bC q2 q191 ls _ _ (eq191) (lv_sub hl [2, 3, 4, 5, 1, 0] rfl) hP hD hS (fun ls H locs hl hP hD hS => ?_)
  · refine lv_aload_n hx hb dX0_clear_160 rfl (lv_at hl 0 rfl) ?_
    refine va_get (D := G.1) (ci := 0) (v := .ref qBN) (C := RX0) (T := TX0) (N := 8) hx hb hts hi0 hown hK hP 0 rfl rfl 2 (by decide) hw1 (fun _ h9 => h9) rfl dX0_clear_161 ?_
    refine lv_iconst (v := 0) hx hb dX0_clear_164 (by decide) ?_
    refine lv_aload_n hx hb dX0_clear_165 rfl (lv_at hl 0 rfl) ?_
    refine va_get (D := G.1) (ci := 0) (v := .ref qBW) (C := RX0) (T := TX0) (N := 8) hx hb hts hi0 hown hK hP 0 rfl rfl 3 (by decide) hw6 (fun _ h9 => h9) rfl dX0_clear_166 ?_
    refine lv_iconst (v := 0) hx hb dX0_clear_169 (by decide) ?_
    refine lv_bipush (v := 64) hx hb dX0_clear_170 (by decide) ?_
    obtain ⟨hg, hq⟩ := k_g hq
    refine va_copyi hx hb (hml.trans hl.1.symm) hown hw7 hw8 hw9 hw10 hK hP hD hS 3 4 0 0 rfl rfl rfl rfl rfl (cp_1 hg) (cp_2 hg) (cp_3 hg) (cp_4 hg) (cp_5 hg) (fun _ _ => rfl) (Nat.le_of_ble_eq_true rfl) (Nat.le_of_ble_eq_true rfl) dX0_clear_172 (fun H locs hP hD hS => ?_)
    have hP : va_P G.1 vwCl [(qB, .inr (0, [.ref qBT, .ref qBC, .ref qBN, .ref qBW, .ref qBL, .int (x1 * x2), .int 0, .int 0])), (qBT, .inl (G.2.1, 16, .inl q1)), (qBC, .inl (G.2.1, 16, .inl q191.1)), (qBN, .inl (G.2.1, 64, .inl q191.2)), (qBW, .inl (G.2.1, 64, .inl (va_cpy q191.2 bW (0 : Int32).toNatClampNeg (0 : Int32).toNatClampNeg (64 : Int32).toNatClampNeg)))] H := hP
    have hD : va_D A [(qB, .inr (0, [.ref qBT, .ref qBC, .ref qBN, .ref qBW, .ref qBL, .int (x1 * x2), .int 0, .int 0])), (qBT, .inl (G.2.1, 16, .inl q1)), (qBC, .inl (G.2.1, 16, .inl q191.1)), (qBN, .inl (G.2.1, 64, .inl q191.2)), (qBW, .inl (G.2.1, 64, .inl (va_cpy q191.2 bW (0 : Int32).toNatClampNeg (0 : Int32).toNatClampNeg (64 : Int32).toNatClampNeg)))] := hD
    obtain rfl := Option.some.inj hq
    rw [hQ]
    exact W.vret hx hb hr (fun t ht hW => ⟨⟨(), rfl, trivial, va_Pat ht hP⟩, hS.F ht⟩) hS.2.2 dX0_clear_175

abbrev rmX0_countJoined : Room := { frames := 3, cells := 0, slots := 0, locals := 69 }
set_option maxHeartbeats 40000000 in
set_option maxRecDepth 100000 in
theorem tX0_countJoined (G : GG) (l : Launch) {qB qBT qBC qBN qBW qBL : Nat} {bn : Int32} {bk : Int32} {bs : Int32} {bT : Nat → Int32} {bW : Nat → Int32} {F : Nat} {r : Int32} (hq : kX0_countJoined F bn bT bW = some r) : Met l yX0_countJoined wsX0_countJoined rmX0_countJoined (pcP G [(qB, .inr (0, [.ref qBT, .ref qBC, .ref qBN, .ref qBW, .ref qBL, .int bn, .int bk, .int bs])), (qBT, .inl (G.2.1, 16, .inl bT)), (qBW, .inl (G.2.1, 64, .inl bW))] [.ref qB]) (vp_Si (fun x => r = x)) 0 0 (fun _ => False) := by
  refine Met.ofW (cc := cX0_countJoined) (maxL := 3) (ret := (some .int)) (by decide) rfl ?_
  intro p e s m args below meth c s₁ B hml hv
  obtain ⟨rfl, hP, hKK⟩ := hv
  have hK := hKK.1
  have hx := B.exec
  have hb := B.bytes
  have hr := B.returns
  have hts := atoms_spec (ws := wsX0_countJoined) B.pre
  have hown : s.vm.findClass RX0 = some m.cls := findClass_of_methodNamed B.named
  have hlocks := B.notSynchronized
  have hl := lv_entry ([.ref qB] : List Value) (n := 3) (Nat.le_of_ble_eq_true rfl)
  rw [lg_entry_eq]
  generalize (lg_sl ([.ref qB] : List Value) ++ List.replicate (3 - (lg_sl ([.ref qB] : List Value)).length) Slot.unset).toArray = ls at hl ⊢
  have hl : lv_has ls 3 [(0, .ref qB)] := hl
  have hi0 : ∀ w ∈ u_ws RX0 TX0 8, w ∈ wsX0_countJoined := by decide +kernel
  have hw0 : (Cond.fieldLink RX0 33 "NetPlumber$Board" "cells" "I").before #[Value.ref qB] s = true := hts _ (by decide +kernel)
  refine wq (fun Q hQ => ?_)
  unfold kX0_countJoined at hq
  refine lv_iconst (v := 0) hx hb dX0_countJoined_0 (by decide) ?_
  refine lv_istore_n (lv' := [(1, .int 0), (0, .ref qB)]) hx hb dX0_countJoined_1 rfl hl (by decide) rfl (fun ls hl => ?_)
  refine lv_iconst (v := 0) hx hb dX0_countJoined_2 (by decide) ?_
  refine lv_istore_n (lv' := [(2, .int 0), (1, .int 0), (0, .ref qB)]) hx hb dX0_countJoined_3 rfl hl (by decide) rfl (fun ls hl => ?_)
  have L4 : ∀ (n : Nat) (s5 : Int32) (s6 : Int32) (t_4 : Int32) (ls : Array Slot), kloop n (fun s_ => kX0_countJoined_s4 F bn bT bW s_.1 s_.2) (s5, s6) = some t_4 → lv_has ls 3 [(0, .ref qB), (1, .int s5), (2, .int s6)] → va_P G.1 vwCl [(qB, .inr (0, [.ref qBT, .ref qBC, .ref qBN, .ref qBW, .ref qBL, .int bn, .int bk, .int bs])), (qBT, .inl (G.2.1, 16, .inl bT)), (qBW, .inl (G.2.1, 64, .inl bW))] s.heap → (∀ (ls : Array Slot), lv_has ls 3 [(1, .int t_4)] → va_P G.1 vwCl [(qB, .inr (0, [.ref qBT, .ref qBC, .ref qBN, .ref qBW, .ref qBL, .int bn, .int bk, .int bs])), (qBT, .inl (G.2.1, 16, .inl bT)), (qBW, .inl (G.2.1, 64, .inl bW))] s.heap → W p l e (headSpec wsX0_countJoined rmX0_countJoined).room s m ([.ref qB] : List Value).toArray below meth c s.heap [] 0 0 Q (F0 m 29 ls [])) → W p l e (headSpec wsX0_countJoined rmX0_countJoined).room s m ([.ref qB] : List Value).toArray below meth c s.heap [] 0 0 Q (F0 m 4 ls []) := by
    intro n
    induction n with
    | zero => 
      intro s5 s6 t_4 ls hq hl hP kk4_29
      exact absurd hq kl_0
    | succ n ih4 =>
      intro s5 s6 t_4 ls hq hl hP kk4_29
      obtain ⟨y_4, hq, hx4⟩ := kl_s hq
      have hq : kX0_countJoined_s4 F bn bT bW s5 s6 = some y_4 := hq
      unfold kX0_countJoined_s4 at hq
      refine lv_iload_n hx hb dX0_countJoined_4 rfl (lv_at hl 2 rfl) ?_
      refine lv_aload_n hx hb dX0_countJoined_5 rfl (lv_at hl 0 rfl) ?_
      refine va_get (D := G.1) (ci := 0) (v := .int bn) (C := RX0) (T := TX0) (N := 8) hx hb hts hi0 hown hK hP 0 rfl rfl 5 (by decide) hw0 (fun _ h9 => h9) rfl dX0_countJoined_6 ?_
      refine lv_icmp_ge (tgt := 29) hx hb dX0_countJoined_9 (by decide) (fun c_9 => ?_) (fun c_9 => ?_)
      · have hq := k_t c_9 hq
        have et := kl_exit hq hx4
        subst et
        exact kk4_29 ls (lv_sub hl [1] rfl) hP
      · have hq := k_f c_9 hq
        refine lv_iload_n hx hb dX0_countJoined_12 rfl (lv_at hl 1 rfl) ?_
        refine lv_aload_n hx hb dX0_countJoined_13 rfl (lv_at hl 0 rfl) ?_
        refine lv_iload_n hx hb dX0_countJoined_14 rfl (lv_at hl 2 rfl) ?_
        obtain ⟨q7, eq7, hq⟩ := ob hq
        have hPc := hP.sub (ws' := [(qB, .inr (0, [.ref qBT, .ref qBC, .ref qBN, .ref qBW, .ref qBL, .int bn, .int bk, .int bs])), (qBT, .inl (G.2.1, 16, .inl bT)), (qBW, .inl (G.2.1, 64, .inl bW))]) [0, 1, 2] rfl
        have hKc := hK
        refine vp_callSi (va_Run.run (va_runV (As := [.int s6]) (rest := [.int s5]) ⟨hx, hb, hml, hown, hts⟩ (tX0_joinedTo G l eq7) (cwV 1 hts gX0_countJoined_X0_joinedTo rfl rfl rfl (by decide +kernel) ⟨Nat.le_of_ble_eq_true rfl, Nat.le_of_ble_eq_true rfl⟩) ⟨pcP_blind, va_recv hKc hPc (ci := 0) (q0 := 0) rfl rfl, pcP_pre hPc hKK⟩ rfl rfl hl.1 rfl (lv_room (Nat.le_of_ble_eq_true rfl)) dX0_countJoined_15 ⟨Nat.zero_le _, Nat.zero_le _⟩)) (fun r0 hr0 => ?_)
        obtain rfl := hr0
        obtain ⟨q8, eq8, hq⟩ := ob hq
        have hPc := hP.sub (ws' := []) [] rfl
        refine vp_callSi (va_Run.run (va_runS (As := [.int q7]) (rest := [.int s5]) ⟨hx, hb, hml, hown, hts⟩ (tJ6_bitCount_0f7a4 G l eq8) (va_cwS 1 hts gX0_countJoined_J6_bitCount_0f7a4 rfl rfl rfl (by decide +kernel) ⟨Nat.le_of_ble_eq_true rfl, Nat.le_of_ble_eq_true rfl⟩) ⟨pcP_blind, pcP_pre hPc hKK⟩ rfl rfl hl.1 rfl (lv_room (Nat.le_of_ble_eq_true rfl)) dX0_countJoined_18 ⟨Nat.zero_le _, Nat.zero_le _⟩)) (fun r0 hr0 => ?_)
        obtain rfl := hr0
        refine lv_iadd hx hb dX0_countJoined_21 ?_
        refine lv_istore_n (lv' := [(1, .int (s5 + q8)), (0, .ref qB), (2, .int s6)]) hx hb dX0_countJoined_22 rfl hl (by decide) rfl (fun ls hl => ?_)
        refine lv_iinc (v := (s6 + 1)) (lv' := [(2, .int (s6 + 1)), (1, .int (s5 + q8)), (0, .ref qB)]) hx hb dX0_countJoined_23 hl (k := 2) rfl rfl (by decide) rfl (fun ls hl => ?_)
        refine lv_goto (tgt := 4) hx hb dX0_countJoined_26 (by decide) ?_
        exact ih4 (s5 + q8) (s6 + 1) t_4 ls (kl_back hq hx4) (lv_sub hl [2, 1, 0] rfl) hP kk4_29
  obtain ⟨q9, eq9, hq⟩ := ob hq
  refine L4 F 0 0 q9 ls (eq9) (lv_sub hl [2, 1, 0] rfl) hP (fun ls hl hP => ?_)
  · refine lv_iload_n hx hb dX0_countJoined_29 rfl (lv_at hl 0 rfl) ?_
    obtain rfl := Option.some.inj hq
    rw [hQ]
    exact W.iret hx hb hr (fun t ht hW => ⟨_, rfl, rfl, ht⟩) (fun _ h => absurd h List.not_mem_nil) dX0_countJoined_30

abbrev rmX0_reachedFrom : Room := { frames := 3, cells := 0, slots := 0, locals := 69 }
set_option maxHeartbeats 40000000 in
set_option maxRecDepth 100000 in
theorem tX0_reachedFrom (G : GG) (l : Launch) {qB qBT qBC qBN qBW qBL : Nat} {bn : Int32} {bk : Int32} {bs : Int32} {bT : Nat → Int32} {bW : Nat → Int32} {bL : Nat → Int32} {x1 : Int32} {sz : Nat} {F : Nat} {r : Int32 × (Nat → Int32)} (hq : kX0_reachedFrom F bT bW bL x1 = some r) : Met l yX0_reachedFrom wsX0_reachedFrom rmX0_reachedFrom (pcW G [(qB, .inr (0, [.ref qBT, .ref qBC, .ref qBN, .ref qBW, .ref qBL, .int bn, .int bk, .int bs])), (qBT, .inl (G.2.1, 16, .inl bT)), (qBW, .inl (G.2.1, 64, .inl bW)), (qBL, .inl (G.2.1, 16, .inl bL))] sz [.ref qB, .int x1]) (qcI G r.1 [(qB, .inr (0, [.ref qBT, .ref qBC, .ref qBN, .ref qBW, .ref qBL, .int bn, .int bk, .int bs])), (qBT, .inl (G.2.1, 16, .inl bT)), (qBW, .inl (G.2.1, 64, .inl bW)), (qBL, .inl (G.2.1, 16, .inl r.2))] (va_A [(qB, .inr (0, [.ref qBT, .ref qBC, .ref qBN, .ref qBW, .ref qBL, .int bn, .int bk, .int bs])), (qBT, .inl (G.2.1, 16, .inl bT)), (qBW, .inl (G.2.1, 64, .inl bW)), (qBL, .inl (G.2.1, 16, .inl bL))] sz)) 0 0 (va_A [(qB, .inr (0, [.ref qBT, .ref qBC, .ref qBN, .ref qBW, .ref qBL, .int bn, .int bk, .int bs])), (qBT, .inl (G.2.1, 16, .inl bT)), (qBW, .inl (G.2.1, 64, .inl bW)), (qBL, .inl (G.2.1, 16, .inl bL))] sz) := by
  refine Met.ofW (cc := cX0_reachedFrom) (maxL := 3) (ret := (some .int)) (by decide) rfl ?_
  intro p e s m args below meth c s₁ B hml hv
  obtain ⟨rfl, hsz, hP, hKK, hD0⟩ := hv
  have hK := hKK.1
  have hx := B.exec
  have hb := B.bytes
  have hr := B.returns
  have hts := atoms_spec (ws := wsX0_reachedFrom) B.pre
  have hown : s.vm.findClass RX0 = some m.cls := findClass_of_methodNamed B.named
  have hlocks := B.notSynchronized
  subst hsz
  have hD := hD0.self (sz := s.heap.size)
  generalize hAe : va_A [(qB, .inr (0, [.ref qBT, .ref qBC, .ref qBN, .ref qBW, .ref qBL, .int bn, .int bk, .int bs])), (qBT, .inl (G.2.1, 16, .inl bT)), (qBW, .inl (G.2.1, 64, .inl bW)), (qBL, .inl (G.2.1, 16, .inl bL))] s.heap.size = A at hD ⊢
  have hA : ∀ q : Nat, s.heap.size ≤ q → A q := fun q h => by rw [← hAe]; exact Or.inr h
  have hS : va_S A s.heap s.heap [] := va_S.rf
  have hl := lv_entry ([.ref qB, .int x1] : List Value) (n := 3) (Nat.le_of_ble_eq_true rfl)
  rw [lg_entry_eq]
  generalize (lg_sl ([.ref qB, .int x1] : List Value) ++ List.replicate (3 - (lg_sl ([.ref qB, .int x1] : List Value)).length) Slot.unset).toArray = ls at hl ⊢
  have hl : lv_has ls 3 [(0, .ref qB), (1, .int x1)] := hl
  have hi0 : ∀ w ∈ u_ws RX0 TX0 8, w ∈ wsX0_reachedFrom := by decide +kernel
  have hw0 : (Cond.fieldLink RX0 24 "NetPlumber$Board" "links" "[I").before #[Value.ref qB, Value.int x1] s = true := hts _ (by decide +kernel)
  have hw1 : (Cond.initialized RX7).before #[Value.ref qB, Value.int x1] s = true := hts _ (by decide +kernel)
  have hw2 : (Cond.static yX7_spread).before #[Value.ref qB, Value.int x1] s = true := hts _ (by decide +kernel)
  refine wq (fun Q hQ => ?_)
  unfold kX0_reachedFrom at hq
  refine lv_iconst (v := 0) hx hb dX0_reachedFrom_0 (by decide) ?_
  refine lv_istore_n (lv' := [(2, .int 0), (0, .ref qB), (1, .int x1)]) hx hb dX0_reachedFrom_1 rfl hl (by decide) rfl (fun ls hl => ?_)
  have L2 : ∀ (n : Nat) (s5 : Int32) (s6 : Nat → Int32) (t_2 : Nat → Int32) (ls : Array Slot) (H : Heap) (locs : List Loc), kloop n (fun s_ => kX0_reachedFrom_s2 F bT bW s_.1 s_.2) (s5, s6) = some t_2 → lv_has ls 3 [(0, .ref qB), (1, .int x1), (2, .int s5)] → va_P G.1 vwCl [(qB, .inr (0, [.ref qBT, .ref qBC, .ref qBN, .ref qBW, .ref qBL, .int bn, .int bk, .int bs])), (qBT, .inl (G.2.1, 16, .inl bT)), (qBW, .inl (G.2.1, 64, .inl bW)), (qBL, .inl (G.2.1, 16, .inl s6))] H → va_D A [(qB, .inr (0, [.ref qBT, .ref qBC, .ref qBN, .ref qBW, .ref qBL, .int bn, .int bk, .int bs])), (qBT, .inl (G.2.1, 16, .inl bT)), (qBW, .inl (G.2.1, 64, .inl bW)), (qBL, .inl (G.2.1, 16, .inl s6))] → va_S A s.heap H locs → (∀ (ls : Array Slot) (H : Heap) (locs : List Loc), lv_has ls 3 [(0, .ref qB), (1, .int x1)] → va_P G.1 vwCl [(qB, .inr (0, [.ref qBT, .ref qBC, .ref qBN, .ref qBW, .ref qBL, .int bn, .int bk, .int bs])), (qBT, .inl (G.2.1, 16, .inl bT)), (qBW, .inl (G.2.1, 64, .inl bW)), (qBL, .inl (G.2.1, 16, .inl t_2))] H → va_D A [(qB, .inr (0, [.ref qBT, .ref qBC, .ref qBN, .ref qBW, .ref qBL, .int bn, .int bk, .int bs])), (qBT, .inl (G.2.1, 16, .inl bT)), (qBW, .inl (G.2.1, 64, .inl bW)), (qBL, .inl (G.2.1, 16, .inl t_2))] → va_S A s.heap H locs → W p l e (headSpec wsX0_reachedFrom rmX0_reachedFrom).room s m ([.ref qB, .int x1] : List Value).toArray below meth c H locs 0 0 Q (F0 m 25 ls [])) → W p l e (headSpec wsX0_reachedFrom rmX0_reachedFrom).room s m ([.ref qB, .int x1] : List Value).toArray below meth c H locs 0 0 Q (F0 m 2 ls []) := by
    intro n
    induction n with
    | zero => 
      intro s5 s6 t_2 ls H locs hq hl hP hD hS kk2_25
      exact absurd hq kl_0
    | succ n ih2 =>
      intro s5 s6 t_2 ls H locs hq hl hP hD hS kk2_25
      obtain ⟨y_2, hq, hx2⟩ := kl_s hq
      have hq : kX0_reachedFrom_s2 F bT bW s5 s6 = some y_2 := hq
      unfold kX0_reachedFrom_s2 at hq
      refine lv_iload_n hx hb dX0_reachedFrom_2 rfl (lv_at hl 2 rfl) ?_
      refine lv_bipush (v := 16) hx hb dX0_reachedFrom_3 (by decide) ?_
      refine lv_icmp_ge (tgt := 25) hx hb dX0_reachedFrom_5 (by decide) (fun c_5 => ?_) (fun c_5 => ?_)
      · have hq := k_t c_5 hq
        have et := kl_exit hq hx2
        subst et
        exact kk2_25 ls _ _ (lv_sub hl [0, 1] rfl) hP hD hS
      · have hq := k_f c_5 hq
        refine lv_aload_n hx hb dX0_reachedFrom_8 rfl (lv_at hl 0 rfl) ?_
        refine va_get (D := G.1) (ci := 0) (v := .ref qBL) (C := RX0) (T := TX0) (N := 8) hx hb hts hi0 hown hK hP 0 rfl rfl 4 (by decide) hw0 (fun _ h9 => h9) rfl dX0_reachedFrom_9 ?_
        refine lv_iload_n hx hb dX0_reachedFrom_12 rfl (lv_at hl 2 rfl) ?_
        refine lv_aload_n hx hb dX0_reachedFrom_13 rfl (lv_at hl 0 rfl) ?_
        refine lv_iload_n hx hb dX0_reachedFrom_14 rfl (lv_at hl 2 rfl) ?_
        obtain ⟨q7, eq7, hq⟩ := ob hq
        have hPc := hP.sub (ws' := [(qB, .inr (0, [.ref qBT, .ref qBC, .ref qBN, .ref qBW, .ref qBL, .int bn, .int bk, .int bs])), (qBT, .inl (G.2.1, 16, .inl bT)), (qBW, .inl (G.2.1, 64, .inl bW))]) [0, 1, 2] rfl
        have hKc := hK
        refine vp_callSi (va_Run.run (va_runV (As := [.int s5]) (rest := [.int s5, .ref qBL]) ⟨hx, hb, hml, hown, hts⟩ (tX0_joinedTo G l eq7) (cwV 1 hts gX0_reachedFrom_X0_joinedTo rfl rfl rfl (by decide +kernel) ⟨Nat.le_of_ble_eq_true rfl, Nat.le_of_ble_eq_true rfl⟩) ⟨pcP_blind, va_recv hKc hPc (ci := 0) (q0 := 0) rfl rfl, pcP_pre hPc hKK⟩ rfl rfl hl.1 rfl (lv_room (Nat.le_of_ble_eq_true rfl)) dX0_reachedFrom_15 ⟨Nat.zero_le _, Nat.zero_le _⟩)) (fun r0 hr0 => ?_)
        obtain rfl := hr0
        obtain ⟨hg, hq⟩ := k_g hq
        refine va_iast hx hb hK hP hD hS 3 0 rfl rfl (ix_in hg) dX0_reachedFrom_18 (fun H locs hP hD hS => ?_)
        have hP : va_P G.1 vwCl [(qB, .inr (0, [.ref qBT, .ref qBC, .ref qBN, .ref qBW, .ref qBL, .int bn, .int bk, .int bs])), (qBT, .inl (G.2.1, 16, .inl bT)), (qBW, .inl (G.2.1, 64, .inl bW)), (qBL, .inl (G.2.1, 16, .inl (upd s6 s5.toNatClampNeg q7)))] H := hP
        have hD : va_D A [(qB, .inr (0, [.ref qBT, .ref qBC, .ref qBN, .ref qBW, .ref qBL, .int bn, .int bk, .int bs])), (qBT, .inl (G.2.1, 16, .inl bT)), (qBW, .inl (G.2.1, 64, .inl bW)), (qBL, .inl (G.2.1, 16, .inl (upd s6 s5.toNatClampNeg q7)))] := hD
        refine lv_iinc (v := (s5 + 1)) (lv' := [(2, .int (s5 + 1)), (0, .ref qB), (1, .int x1)]) hx hb dX0_reachedFrom_19 hl (k := 2) rfl rfl (by decide) rfl (fun ls hl => ?_)
        refine lv_goto (tgt := 2) hx hb dX0_reachedFrom_22 (by decide) ?_
        exact ih2 (s5 + 1) (upd s6 s5.toNatClampNeg q7) t_2 ls _ _ (kl_back hq hx2) (lv_sub hl [1, 2, 0] rfl) hP hD hS kk2_25
  obtain ⟨q8, eq8, hq⟩ := ob hq
  refine L2 F 0 bL q8 ls _ _ (eq8) (lv_sub hl [1, 2, 0] rfl) hP hD hS (fun ls H locs hl hP hD hS => ?_)
  · refine lv_aload_n hx hb dX0_reachedFrom_25 rfl (lv_at hl 0 rfl) ?_
    refine va_get (D := G.1) (ci := 0) (v := .ref qBL) (C := RX0) (T := TX0) (N := 8) hx hb hts hi0 hown hK hP 0 rfl rfl 4 (by decide) hw0 (fun _ h9 => h9) rfl dX0_reachedFrom_26 ?_
    refine lv_iload_n hx hb dX0_reachedFrom_29 rfl (lv_at hl 1 rfl) ?_
    refine lv_iconst (v := (-1)) hx hb dX0_reachedFrom_30 (by decide) ?_
    obtain ⟨q9, eq9, hq⟩ := ob hq
    have hPc := hP.sub (ws' := [(qBL, .inl (G.2.1, 16, .inl q8))]) [3] rfl
    refine vp_callSi (va_Run.run (va_runSN (As := [.ref qBL, .int x1, .int (-1)]) (rest := []) ⟨hx, hb, hml, hown, hts⟩ (tX7_spread G l eq9) ⟨va_cnB 3 hts gX0_reachedFrom_X7_spread_n94 rfl rfl rfl (hKK.2 _ (List.mem_of_getElem? (i := 6) rfl)) hw1 (by decide +kernel) ⟨Nat.le_of_ble_eq_true rfl, Nat.le_of_ble_eq_true rfl⟩, hw2, trivial⟩ ⟨pcP_blind, pcP_pre hPc hKK⟩ rfl rfl hl.1 rfl (lv_room (Nat.le_of_ble_eq_true rfl)) dX0_reachedFrom_31 ⟨Nat.zero_le _, Nat.zero_le _⟩)) (fun r0 hr0 => ?_)
    obtain rfl := hr0
    obtain rfl := Option.some.inj hq
    rw [hQ]
    exact W.iret hx hb hr (fun t ht hW => ⟨⟨_, (), rfl, rfl, va_Pat ht hP⟩, hS.F ht⟩) hS.2.2 dX0_reachedFrom_34
