/-! contracts (laid by wip/whole/gen.py) -/
abbrev rmX7_holds : Room := { frames := 0, cells := 0, slots := 0, locals := 0 }
set_option maxHeartbeats 40000000 in
set_option maxRecDepth 100000 in
theorem tX7_holds (G : GG) (l : Launch) {x0 : Int32} {x1 : Int32} {F : Nat} {r : Int32} (hq : kX7_holds F x0 x1 = some r) : Met l yX7_holds wsX7_holds rmX7_holds (pcP G [] [.int x0, .int x1]) (vp_Si (fun x => r = x)) 0 0 (fun _ => False) := by
  refine Met.ofW (cc := cX7_holds) (maxL := 2) (ret := (some .boolean)) (by decide) rfl ?_
  intro p e s m args below meth c s₁ B hml hv
  obtain ⟨rfl, hP, hKK⟩ := hv
  have hK := hKK.1
  have hx := B.exec
  have hb := B.bytes
  have hr := B.returns
  have hts := atoms_spec (ws := wsX7_holds) B.pre
  have hown : s.vm.findClass RX7 = some m.cls := findClass_of_methodNamed B.named
  have hlocks := B.notSynchronized
  have hl := lv_entry ([.int x0, .int x1] : List Value) (n := 2) (Nat.le_of_ble_eq_true rfl)
  rw [lg_entry_eq]
  generalize (lg_sl ([.int x0, .int x1] : List Value) ++ List.replicate (2 - (lg_sl ([.int x0, .int x1] : List Value)).length) Slot.unset).toArray = ls at hl ⊢
  have hl : lv_has ls 2 [(0, .int x0), (1, .int x1)] := hl
  refine wq (fun Q hQ => ?_)
  unfold kX7_holds at hq
  refine lv_iload_n hx hb dX7_holds_0 rfl (lv_at hl 0 rfl) ?_
  refine lv_iload_n hx hb dX7_holds_1 rfl (lv_at hl 1 rfl) ?_
  refine lv_ishr hx hb dX7_holds_2 ?_
  refine lv_iconst (v := 1) hx hb dX7_holds_3 (by decide) ?_
  refine lv_iand hx hb dX7_holds_4 ?_
  refine lv_if_eq (tgt := 12) hx hb dX7_holds_5 (by decide) (fun c_5 => ?_) (fun c_5 => ?_)
  · have hq := k_t c_5 hq
    refine lv_iconst (v := 0) hx hb dX7_holds_12 (by decide) ?_
    obtain rfl := Option.some.inj hq
    rw [hQ]
    exact W.zret hx hb hr rfl (fun t ht hW => ⟨_, rfl, rfl, ht⟩) (fun _ h => absurd h List.not_mem_nil) dX7_holds_13
  · have hq := k_f c_5 hq
    refine lv_iconst (v := 1) hx hb dX7_holds_8 (by decide) ?_
    refine lv_goto (tgt := 13) hx hb dX7_holds_9 (by decide) ?_
    obtain rfl := Option.some.inj hq
    rw [hQ]
    exact W.zret hx hb hr rfl (fun t ht hW => ⟨_, rfl, rfl, ht⟩) (fun _ h => absurd h List.not_mem_nil) dX7_holds_13

abbrev rmX7_at : Room := { frames := 0, cells := 0, slots := 0, locals := 0 }
set_option maxHeartbeats 40000000 in
set_option maxRecDepth 100000 in
theorem tX7_at (G : GG) (l : Launch) {qP0 : Nat} {n0 : Nat} {p0 : Nat → Int32} {x1 : Int32} {F : Nat} {r : Int32} (hq : kX7_at F n0 p0 x1 = some r) : Met l yX7_at wsX7_at rmX7_at (pcP G [(qP0, .inl (G.2.1, n0, .inl p0))] [.ref qP0, .int x1]) (vp_Si (fun x => r = x)) 0 0 (fun _ => False) := by
  refine Met.ofW (cc := cX7_at) (maxL := 2) (ret := (some .int)) (by decide) rfl ?_
  intro p e s m args below meth c s₁ B hml hv
  obtain ⟨rfl, hP, hKK⟩ := hv
  have hK := hKK.1
  have hx := B.exec
  have hb := B.bytes
  have hr := B.returns
  have hts := atoms_spec (ws := wsX7_at) B.pre
  have hown : s.vm.findClass RX7 = some m.cls := findClass_of_methodNamed B.named
  have hlocks := B.notSynchronized
  have hl := lv_entry ([.ref qP0, .int x1] : List Value) (n := 2) (Nat.le_of_ble_eq_true rfl)
  rw [lg_entry_eq]
  generalize (lg_sl ([.ref qP0, .int x1] : List Value) ++ List.replicate (2 - (lg_sl ([.ref qP0, .int x1] : List Value)).length) Slot.unset).toArray = ls at hl ⊢
  have hl : lv_has ls 2 [(0, .ref qP0), (1, .int x1)] := hl
  refine wq (fun Q hQ => ?_)
  unfold kX7_at at hq
  refine lv_iload_n hx hb dX7_at_0 rfl (lv_at hl 1 rfl) ?_
  refine lv_if_lt (tgt := 16) hx hb dX7_at_1 (by decide) (fun c_1 => ?_) (fun c_1 => ?_)
  · have hq := k_t c_1 hq
    refine lv_iconst (v := 0) hx hb dX7_at_16 (by decide) ?_
    obtain rfl := Option.some.inj hq
    rw [hQ]
    exact W.iret hx hb hr (fun t ht hW => ⟨_, rfl, rfl, ht⟩) (fun _ h => absurd h List.not_mem_nil) dX7_at_17
  · have hq := k_f c_1 hq
    refine lv_iload_n hx hb dX7_at_4 rfl (lv_at hl 1 rfl) ?_
    refine lv_aload_n hx hb dX7_at_5 rfl (lv_at hl 0 rfl) ?_
    refine va_alen hx hb hK hP 0 0 rfl rfl (v := (Int32.ofNat n0)) rfl dX7_at_6 ?_
    refine lv_icmp_ge (tgt := 16) hx hb dX7_at_7 (by decide) (fun c_7 => ?_) (fun c_7 => ?_)
    · have hq := k_t c_7 hq
      refine lv_iconst (v := 0) hx hb dX7_at_16 (by decide) ?_
      obtain rfl := Option.some.inj hq
      rw [hQ]
      exact W.iret hx hb hr (fun t ht hW => ⟨_, rfl, rfl, ht⟩) (fun _ h => absurd h List.not_mem_nil) dX7_at_17
    · have hq := k_f c_7 hq
      refine lv_aload_n hx hb dX7_at_10 rfl (lv_at hl 0 rfl) ?_
      refine lv_iload_n hx hb dX7_at_11 rfl (lv_at hl 1 rfl) ?_
      obtain ⟨hg, hq⟩ := k_g hq
      refine va_iald hx hb hK hP 0 0 rfl rfl (ix_in hg) dX7_at_12 ?_
      refine lv_goto (tgt := 17) hx hb dX7_at_13 (by decide) ?_
      obtain rfl := Option.some.inj hq
      rw [hQ]
      exact W.iret hx hb hr (fun t ht hW => ⟨_, rfl, rfl, ht⟩) (fun _ h => absurd h List.not_mem_nil) dX7_at_17

abbrev rmX7_opposite : Room := { frames := 0, cells := 0, slots := 0, locals := 0 }
set_option maxHeartbeats 40000000 in
set_option maxRecDepth 100000 in
theorem tX7_opposite (G : GG) (l : Launch) {x0 : Int32} {F : Nat} {r : Int32} (hq : kX7_opposite F x0 = some r) : Met l yX7_opposite wsX7_opposite rmX7_opposite (pcP G [] [.int x0]) (vp_Si (fun x => r = x)) 0 0 (fun _ => False) := by
  refine Met.ofW (cc := cX7_opposite) (maxL := 1) (ret := (some .int)) (by decide) rfl ?_
  intro p e s m args below meth c s₁ B hml hv
  obtain ⟨rfl, hP, hKK⟩ := hv
  have hK := hKK.1
  have hx := B.exec
  have hb := B.bytes
  have hr := B.returns
  have hts := atoms_spec (ws := wsX7_opposite) B.pre
  have hown : s.vm.findClass RX7 = some m.cls := findClass_of_methodNamed B.named
  have hlocks := B.notSynchronized
  have hl := lv_entry ([.int x0] : List Value) (n := 1) (Nat.le_of_ble_eq_true rfl)
  rw [lg_entry_eq]
  generalize (lg_sl ([.int x0] : List Value) ++ List.replicate (1 - (lg_sl ([.int x0] : List Value)).length) Slot.unset).toArray = ls at hl ⊢
  have hl : lv_has ls 1 [(0, .int x0)] := hl
  refine wq (fun Q hQ => ?_)
  unfold kX7_opposite at hq
  refine lv_iload_n hx hb dX7_opposite_0 rfl (lv_at hl 0 rfl) ?_
  refine lv_iconst (v := 2) hx hb dX7_opposite_1 (by decide) ?_
  refine lv_iadd hx hb dX7_opposite_2 ?_
  refine lv_iconst (v := 3) hx hb dX7_opposite_3 (by decide) ?_
  refine lv_iand hx hb dX7_opposite_4 ?_
  obtain rfl := Option.some.inj hq
  rw [hQ]
  exact W.iret hx hb hr (fun t ht hW => ⟨_, rfl, rfl, ht⟩) (fun _ h => absurd h List.not_mem_nil) dX7_opposite_5

abbrev rmX7_turned : Room := { frames := 0, cells := 0, slots := 0, locals := 0 }
set_option maxHeartbeats 40000000 in
set_option maxRecDepth 100000 in
theorem tX7_turned (G : GG) (l : Launch) {x0 : Int32} {x1 : Int32} {F : Nat} {r : Int32} (hq : kX7_turned F x0 x1 = some r) : Met l yX7_turned wsX7_turned rmX7_turned (pcP G [] [.int x0, .int x1]) (vp_Si (fun x => r = x)) 0 0 (fun _ => False) := by
  refine Met.ofW (cc := cX7_turned) (maxL := 2) (ret := (some .int)) (by decide) rfl ?_
  intro p e s m args below meth c s₁ B hml hv
  obtain ⟨rfl, hP, hKK⟩ := hv
  have hK := hKK.1
  have hx := B.exec
  have hb := B.bytes
  have hr := B.returns
  have hts := atoms_spec (ws := wsX7_turned) B.pre
  have hown : s.vm.findClass RX7 = some m.cls := findClass_of_methodNamed B.named
  have hlocks := B.notSynchronized
  have hl := lv_entry ([.int x0, .int x1] : List Value) (n := 2) (Nat.le_of_ble_eq_true rfl)
  rw [lg_entry_eq]
  generalize (lg_sl ([.int x0, .int x1] : List Value) ++ List.replicate (2 - (lg_sl ([.int x0, .int x1] : List Value)).length) Slot.unset).toArray = ls at hl ⊢
  have hl : lv_has ls 2 [(0, .int x0), (1, .int x1)] := hl
  refine wq (fun Q hQ => ?_)
  unfold kX7_turned at hq
  refine lv_iload_n hx hb dX7_turned_0 rfl (lv_at hl 0 rfl) ?_
  refine lv_iload_n hx hb dX7_turned_1 rfl (lv_at hl 1 rfl) ?_
  refine lv_ishl hx hb dX7_turned_2 ?_
  refine lv_iload_n hx hb dX7_turned_3 rfl (lv_at hl 0 rfl) ?_
  refine lv_iconst (v := 4) hx hb dX7_turned_4 (by decide) ?_
  refine lv_iload_n hx hb dX7_turned_5 rfl (lv_at hl 1 rfl) ?_
  refine lv_isub hx hb dX7_turned_6 ?_
  refine lv_ishr hx hb dX7_turned_7 ?_
  refine lv_ior hx hb dX7_turned_8 ?_
  refine lv_bipush (v := 15) hx hb dX7_turned_9 (by decide) ?_
  refine lv_iand hx hb dX7_turned_11 ?_
  obtain rfl := Option.some.inj hq
  rw [hQ]
  exact W.iret hx hb hr (fun t ht hW => ⟨_, rfl, rfl, ht⟩) (fun _ h => absurd h List.not_mem_nil) dX7_turned_12

abbrev rmX7_spread : Room := { frames := 1, cells := 0, slots := 0, locals := 21 }
set_option maxHeartbeats 40000000 in
set_option maxRecDepth 100000 in
theorem tX7_spread (G : GG) (l : Launch) {qP0 : Nat} {n0 : Nat} {p0 : Nat → Int32} {x1 : Int32} {x2 : Int32} {F : Nat} {r : Int32} (hq : kX7_spread F n0 p0 x1 x2 = some r) : Met l yX7_spread wsX7_spread rmX7_spread (pcP G [(qP0, .inl (G.2.1, n0, .inl p0))] [.ref qP0, .int x1, .int x2]) (vp_Si (fun x => r = x)) 0 0 (fun _ => False) := by
  refine Met.ofW (cc := cX7_spread) (maxL := 8) (ret := (some .int)) (by decide) rfl ?_
  intro p e s m args below meth c s₁ B hml hv
  obtain ⟨rfl, hP, hKK⟩ := hv
  have hK := hKK.1
  have hx := B.exec
  have hb := B.bytes
  have hr := B.returns
  have hts := atoms_spec (ws := wsX7_spread) B.pre
  have hown : s.vm.findClass RX7 = some m.cls := findClass_of_methodNamed B.named
  have hlocks := B.notSynchronized
  have hl := lv_entry ([.ref qP0, .int x1, .int x2] : List Value) (n := 8) (Nat.le_of_ble_eq_true rfl)
  rw [lg_entry_eq]
  generalize (lg_sl ([.ref qP0, .int x1, .int x2] : List Value) ++ List.replicate (8 - (lg_sl ([.ref qP0, .int x1, .int x2] : List Value)).length) Slot.unset).toArray = ls at hl ⊢
  have hl : lv_has ls 8 [(0, .ref qP0), (1, .int x1), (2, .int x2)] := hl
  refine wq (fun Q hQ => ?_)
  unfold kX7_spread at hq
  refine lv_iconst (v := 1) hx hb dX7_spread_0 (by decide) ?_
  refine lv_iload_n hx hb dX7_spread_1 rfl (lv_at hl 1 rfl) ?_
  refine lv_ishl hx hb dX7_spread_2 ?_
  refine lv_istore_n (lv' := [(3, .int ((1 : Int32) <<< (x1 &&& 31))), (0, .ref qP0), (1, .int x1), (2, .int x2)]) hx hb dX7_spread_3 rfl hl (by decide) rfl (fun ls hl => ?_)
  refine lv_iconst (v := 1) hx hb dX7_spread_4 (by decide) ?_
  refine lv_istore (lv' := [(4, .int 1), (3, .int ((1 : Int32) <<< (x1 &&& 31))), (0, .ref qP0), (1, .int x1), (2, .int x2)]) hx hb dX7_spread_5 hl (by decide) rfl (fun ls hl => ?_)
  refine lv_iconst (v := 0) hx hb dX7_spread_7 (by decide) ?_
  refine lv_istore (lv' := [(5, .int 0), (4, .int 1), (3, .int ((1 : Int32) <<< (x1 &&& 31))), (0, .ref qP0), (1, .int x1), (2, .int x2)]) hx hb dX7_spread_8 hl (by decide) rfl (fun ls hl => ?_)
  have L10 : ∀ (n : Nat) (s22 : Int32) (s23 : Int32) (s24 : Int32) (t_10 : Int32) (ls : Array Slot), kloop n (fun s_ => kX7_spread_s10 F n0 p0 x2 s_.1 s_.2.1 s_.2.2) (s22, s23, s24) = some t_10 → lv_has ls 8 [(0, .ref qP0), (2, .int x2), (3, .int s22), (4, .int s23), (5, .int s24)] → va_P G.1 vwCl [(qP0, .inl (G.2.1, n0, .inl p0))] s.heap → (∀ (ls : Array Slot), lv_has ls 8 [(3, .int t_10)] → va_P G.1 vwCl [(qP0, .inl (G.2.1, n0, .inl p0))] s.heap → W p l e (headSpec wsX7_spread rmX7_spread).room s m ([.ref qP0, .int x1, .int x2] : List Value).toArray below meth c s.heap [] 0 0 Q (F0 m 82 ls [])) → W p l e (headSpec wsX7_spread rmX7_spread).room s m ([.ref qP0, .int x1, .int x2] : List Value).toArray below meth c s.heap [] 0 0 Q (F0 m 10 ls []) := by
    intro n
    induction n with
    | zero => 
      intro s22 s23 s24 t_10 ls hq hl hP kk10_82
      exact absurd hq kl_0
    | succ n ih10 =>
      intro s22 s23 s24 t_10 ls hq hl hP kk10_82
      obtain ⟨y_10, hq, hx10⟩ := kl_s hq
      have hq : kX7_spread_s10 F n0 p0 x2 s22 s23 s24 = some y_10 := hq
      unfold kX7_spread_s10 at hq
      refine lv_iload hx hb dX7_spread_10 (lv_at hl 3 rfl) ?_
      refine lv_if_eq (tgt := 82) hx hb dX7_spread_12 (by decide) (fun c_12 => ?_) (fun c_12 => ?_)
      · have hq := k_t c_12 hq
        have et := kl_exit hq hx10
        subst et
        exact kk10_82 ls (lv_sub hl [2] rfl) hP
      · have hq := k_f c_12 hq
        refine lv_iload hx hb dX7_spread_15 (lv_at hl 4 rfl) ?_
        refine lv_aload_n hx hb dX7_spread_17 rfl (lv_at hl 0 rfl) ?_
        refine va_alen hx hb hK hP 0 0 rfl rfl (v := (Int32.ofNat n0)) rfl dX7_spread_18 ?_
        refine lv_icmp_ge (tgt := 82) hx hb dX7_spread_19 (by decide) (fun c_19 => ?_) (fun c_19 => ?_)
        · have hq := k_t c_19 hq
          have et := kl_exit hq hx10
          subst et
          exact kk10_82 ls (lv_sub hl [2] rfl) hP
        · have hq := k_f c_19 hq
          refine lv_iload_n hx hb dX7_spread_22 rfl (lv_at hl 2 rfl) ?_
          refine lv_istore (lv' := [(6, .int s22), (0, .ref qP0), (2, .int x2), (3, .int s22), (4, .int s23), (5, .int s24)]) hx hb dX7_spread_23 hl (by decide) rfl (fun ls hl => ?_)
          refine lv_iconst (v := 0) hx hb dX7_spread_25 (by decide) ?_
          refine lv_istore (lv' := [(7, .int 0), (6, .int s22), (0, .ref qP0), (2, .int x2), (3, .int s22), (4, .int s23), (5, .int s24)]) hx hb dX7_spread_26 hl (by decide) rfl (fun ls hl => ?_)
          have L28 : ∀ (n : Nat) (s34 : Int32) (s35 : Int32) (t_28 : Int32) (ls : Array Slot), kloop n (fun s_ => kX7_spread_s28 F n0 p0 x2 s_.1 s_.2) (s34, s35) = some t_28 → lv_has ls 8 [(0, .ref qP0), (2, .int x2), (3, .int s34), (5, .int s24), (6, .int s22), (7, .int s35)] → va_P G.1 vwCl [(qP0, .inl (G.2.1, n0, .inl p0))] s.heap → (∀ (ls : Array Slot), lv_has ls 8 [(0, .ref qP0), (2, .int x2), (3, .int t_28), (5, .int s24), (6, .int s22)] → va_P G.1 vwCl [(qP0, .inl (G.2.1, n0, .inl p0))] s.heap → W p l e (headSpec wsX7_spread rmX7_spread).room s m ([.ref qP0, .int x1, .int x2] : List Value).toArray below meth c s.heap [] 0 0 Q (F0 m 63 ls [])) → W p l e (headSpec wsX7_spread rmX7_spread).room s m ([.ref qP0, .int x1, .int x2] : List Value).toArray below meth c s.heap [] 0 0 Q (F0 m 28 ls []) := by
            intro n
            induction n with
            | zero => 
              intro s34 s35 t_28 ls hq hl hP kk28_63
              exact absurd hq kl_0
            | succ n ih28 =>
              intro s34 s35 t_28 ls hq hl hP kk28_63
              obtain ⟨y_28, hq, hx28⟩ := kl_s hq
              have hq : kX7_spread_s28 F n0 p0 x2 s34 s35 = some y_28 := hq
              unfold kX7_spread_s28 at hq
              refine lv_iload hx hb dX7_spread_28 (lv_at hl 5 rfl) ?_
              refine lv_aload_n hx hb dX7_spread_30 rfl (lv_at hl 0 rfl) ?_
              refine va_alen hx hb hK hP 0 0 rfl rfl (v := (Int32.ofNat n0)) rfl dX7_spread_31 ?_
              refine lv_icmp_ge (tgt := 63) hx hb dX7_spread_32 (by decide) (fun c_32 => ?_) (fun c_32 => ?_)
              · have hq := k_t c_32 hq
                have et := kl_exit hq hx28
                subst et
                exact kk28_63 ls (lv_sub hl [0, 1, 2, 3, 4] rfl) hP
              · have hq := k_f c_32 hq
                refine lv_iload hx hb dX7_spread_35 (lv_at hl 5 rfl) ?_
                refine lv_iload_n hx hb dX7_spread_37 rfl (lv_at hl 1 rfl) ?_
                refine lv_icmp_eq (tgt := 57) hx hb dX7_spread_38 (by decide) (fun c_38 => ?_) (fun c_38 => ?_)
                · have hq := k_t c_38 hq
                  refine lv_iinc (v := (s35 + 1)) (lv' := [(7, .int (s35 + 1)), (0, .ref qP0), (2, .int x2), (3, .int s34), (5, .int s24), (6, .int s22)]) hx hb dX7_spread_57 hl (k := 5) rfl rfl (by decide) rfl (fun ls hl => ?_)
                  refine lv_goto (tgt := 28) hx hb dX7_spread_60 (by decide) ?_
                  exact ih28 s34 (s35 + 1) t_28 ls (kl_back hq hx28) (lv_sub hl [1, 2, 3, 4, 5, 0] rfl) hP kk28_63
                · have hq := k_f c_38 hq
                  refine lv_iload_n hx hb dX7_spread_41 rfl (lv_at hl 2 rfl) ?_
                  refine lv_iload hx hb dX7_spread_42 (lv_at hl 5 rfl) ?_
                  obtain ⟨q38, eq38, hq⟩ := ob hq
                  have hPc := hP.sub (ws' := []) [] rfl
                  refine vp_callSi (va_Run.run (va_runS (As := [.int s34, .int s35]) (rest := []) ⟨hx, hb, hml, hown, hts⟩ (tX7_holds G l eq38) (va_cwS 2 hts gX7_spread_X7_holds rfl rfl rfl (by decide +kernel) ⟨Nat.le_of_ble_eq_true rfl, Nat.le_of_ble_eq_true rfl⟩) ⟨pcP_blind, pcP_pre hPc hKK⟩ rfl rfl hl.1 rfl (lv_room (Nat.le_of_ble_eq_true rfl)) dX7_spread_44 ⟨Nat.zero_le _, Nat.zero_le _⟩)) (fun r0 hr0 => ?_)
                  obtain rfl := hr0
                  refine lv_if_eq (tgt := 57) hx hb dX7_spread_47 (by decide) (fun c_47 => ?_) (fun c_47 => ?_)
                  · have hq := k_t c_47 hq
                    refine lv_iinc (v := (s35 + 1)) (lv' := [(7, .int (s35 + 1)), (0, .ref qP0), (2, .int x2), (3, .int s34), (5, .int s24), (6, .int s22)]) hx hb dX7_spread_57 hl (k := 5) rfl rfl (by decide) rfl (fun ls hl => ?_)
                    refine lv_goto (tgt := 28) hx hb dX7_spread_60 (by decide) ?_
                    exact ih28 s34 (s35 + 1) t_28 ls (kl_back hq hx28) (lv_sub hl [1, 2, 3, 4, 5, 0] rfl) hP kk28_63
                  · have hq := k_f c_47 hq
                    refine lv_iload_n hx hb dX7_spread_50 rfl (lv_at hl 2 rfl) ?_
                    refine lv_aload_n hx hb dX7_spread_51 rfl (lv_at hl 0 rfl) ?_
                    refine lv_iload hx hb dX7_spread_52 (lv_at hl 5 rfl) ?_
                    obtain ⟨hg, hq⟩ := k_g hq
                    refine va_iald hx hb hK hP 0 0 rfl rfl (ix_in hg) dX7_spread_54 ?_
                    refine lv_ior hx hb dX7_spread_55 ?_
                    refine lv_istore_n (lv' := [(3, .int (s34 ||| (p0 s35.toNatClampNeg))), (0, .ref qP0), (2, .int x2), (5, .int s24), (6, .int s22), (7, .int s35)]) hx hb dX7_spread_56 rfl hl (by decide) rfl (fun ls hl => ?_)
                    refine lv_iinc (v := (s35 + 1)) (lv' := [(7, .int (s35 + 1)), (3, .int (s34 ||| (p0 s35.toNatClampNeg))), (0, .ref qP0), (2, .int x2), (5, .int s24), (6, .int s22)]) hx hb dX7_spread_57 hl (k := 5) rfl rfl (by decide) rfl (fun ls hl => ?_)
                    refine lv_goto (tgt := 28) hx hb dX7_spread_60 (by decide) ?_
                    exact ih28 (s34 ||| (p0 s35.toNatClampNeg)) (s35 + 1) t_28 ls (kl_back hq hx28) (lv_sub hl [2, 3, 1, 4, 5, 0] rfl) hP kk28_63
          obtain ⟨q40, eq40, hq⟩ := ob hq
          refine L28 F s22 0 q40 ls (eq40) (lv_sub hl [2, 3, 4, 6, 1, 0] rfl) hP (fun ls hl hP => ?_)
          · refine lv_iload_n hx hb dX7_spread_63 rfl (lv_at hl 2 rfl) ?_
            refine lv_iload hx hb dX7_spread_64 (lv_at hl 4 rfl) ?_
            refine lv_icmp_eq (tgt := 73) hx hb dX7_spread_66 (by decide) (fun c_66 => ?_) (fun c_66 => ?_)
            · have hq := k_t c_66 hq
              refine lv_iconst (v := 0) hx hb dX7_spread_73 (by decide) ?_
              refine lv_istore (lv' := [(4, .int 0), (0, .ref qP0), (2, .int x2), (3, .int q40), (5, .int s24), (6, .int s22)]) hx hb dX7_spread_74 hl (by decide) rfl (fun ls hl => ?_)
              refine lv_iinc (v := (s24 + 1)) (lv' := [(5, .int (s24 + 1)), (4, .int 0), (0, .ref qP0), (2, .int x2), (3, .int q40), (6, .int s22)]) hx hb dX7_spread_76 hl (k := 4) rfl rfl (by decide) rfl (fun ls hl => ?_)
              refine lv_goto (tgt := 10) hx hb dX7_spread_79 (by decide) ?_
              exact ih10 q40 0 (s24 + 1) t_10 ls (kl_back hq hx10) (lv_sub hl [2, 3, 4, 1, 0] rfl) hP kk10_82
            · have hq := k_f c_66 hq
              refine lv_iconst (v := 1) hx hb dX7_spread_69 (by decide) ?_
              refine lv_goto (tgt := 74) hx hb dX7_spread_70 (by decide) ?_
              refine lv_istore (lv' := [(4, .int 1), (0, .ref qP0), (2, .int x2), (3, .int q40), (5, .int s24), (6, .int s22)]) hx hb dX7_spread_74 hl (by decide) rfl (fun ls hl => ?_)
              refine lv_iinc (v := (s24 + 1)) (lv' := [(5, .int (s24 + 1)), (4, .int 1), (0, .ref qP0), (2, .int x2), (3, .int q40), (6, .int s22)]) hx hb dX7_spread_76 hl (k := 4) rfl rfl (by decide) rfl (fun ls hl => ?_)
              refine lv_goto (tgt := 10) hx hb dX7_spread_79 (by decide) ?_
              exact ih10 q40 1 (s24 + 1) t_10 ls (kl_back hq hx10) (lv_sub hl [2, 3, 4, 1, 0] rfl) hP kk10_82
  obtain ⟨q42, eq42, hq⟩ := ob hq
  refine L10 F ((1 : Int32) <<< (x1 &&& 31)) 1 0 q42 ls (eq42) (lv_sub hl [3, 5, 2, 1, 0] rfl) hP (fun ls hl hP => ?_)
  · refine lv_iload_n hx hb dX7_spread_82 rfl (lv_at hl 0 rfl) ?_
    obtain rfl := Option.some.inj hq
    rw [hQ]
    exact W.iret hx hb hr (fun t ht hW => ⟨_, rfl, rfl, ht⟩) (fun _ h => absurd h List.not_mem_nil) dX7_spread_83

abbrev rmJ6_bitCount_0f7a4 : Room := { frames := 0, cells := 0, slots := 0, locals := 0 }
set_option maxHeartbeats 40000000 in
set_option maxRecDepth 100000 in
theorem tJ6_bitCount_0f7a4 (G : GG) (l : Launch) {x0 : Int32} {F : Nat} {r : Int32} (hq : kJ6_bitCount_0f7a4 F x0 = some r) : Met l yJ6_bitCount_0f7a4 wsJ6_bitCount_0f7a4 rmJ6_bitCount_0f7a4 (pcP G [] [.int x0]) (vp_Si (fun x => r = x)) 0 0 (fun _ => False) := by
  refine Met.ofW (cc := cJ6_bitCount_0f7a4) (maxL := 1) (ret := (some .int)) (by decide) rfl ?_
  intro p e s m args below meth c s₁ B hml hv
  obtain ⟨rfl, hP, hKK⟩ := hv
  have hK := hKK.1
  have hx := B.exec
  have hb := B.bytes
  have hr := B.returns
  have hts := atoms_spec (ws := wsJ6_bitCount_0f7a4) B.pre
  have hown : s.vm.findClass RJ6 = some m.cls := findClass_of_methodNamed B.named
  have hlocks := B.notSynchronized
  have hl := lv_entry ([.int x0] : List Value) (n := 1) (Nat.le_of_ble_eq_true rfl)
  rw [lg_entry_eq]
  generalize (lg_sl ([.int x0] : List Value) ++ List.replicate (1 - (lg_sl ([.int x0] : List Value)).length) Slot.unset).toArray = ls at hl ⊢
  have hl : lv_has ls 1 [(0, .int x0)] := hl
  have hw0 : (Cond.constant RJ6 265 (1431655765)).before #[Value.int x0] s = true := hts _ (by decide +kernel)
  have hw1 : (Cond.constant RJ6 266 (858993459)).before #[Value.int x0] s = true := hts _ (by decide +kernel)
  have hw2 : (Cond.constant RJ6 267 (252645135)).before #[Value.int x0] s = true := hts _ (by decide +kernel)
  refine wq (fun Q hQ => ?_)
  unfold kJ6_bitCount_0f7a4 at hq
  refine lv_iload_n hx hb dJ6_bitCount_0f7a4_0 rfl (lv_at hl 0 rfl) ?_
  refine lv_iload_n hx hb dJ6_bitCount_0f7a4_1 rfl (lv_at hl 0 rfl) ?_
  refine lv_iconst (v := 1) hx hb dJ6_bitCount_0f7a4_2 (by decide) ?_
  refine lv_iushr hx hb dJ6_bitCount_0f7a4_3 rfl ?_
  refine lv_ldcw (v := 1431655765) hx hb hown hw0 dJ6_bitCount_0f7a4_4 ?_
  refine lv_iand hx hb dJ6_bitCount_0f7a4_7 ?_
  refine lv_isub hx hb dJ6_bitCount_0f7a4_8 ?_
  refine lv_istore_n (lv' := [(0, .int (x0 - (((x0.toUInt32 >>> ((1 : Int32).toUInt32 &&& Int32.toUInt32 31)).toInt32) &&& 1431655765)))]) hx hb dJ6_bitCount_0f7a4_9 rfl hl (by decide) rfl (fun ls hl => ?_)
  refine lv_iload_n hx hb dJ6_bitCount_0f7a4_10 rfl (lv_at hl 0 rfl) ?_
  refine lv_ldcw (v := 858993459) hx hb hown hw1 dJ6_bitCount_0f7a4_11 ?_
  refine lv_iand hx hb dJ6_bitCount_0f7a4_14 ?_
  refine lv_iload_n hx hb dJ6_bitCount_0f7a4_15 rfl (lv_at hl 0 rfl) ?_
  refine lv_iconst (v := 2) hx hb dJ6_bitCount_0f7a4_16 (by decide) ?_
  refine lv_iushr hx hb dJ6_bitCount_0f7a4_17 rfl ?_
  refine lv_ldcw (v := 858993459) hx hb hown hw1 dJ6_bitCount_0f7a4_18 ?_
  refine lv_iand hx hb dJ6_bitCount_0f7a4_21 ?_
  refine lv_iadd hx hb dJ6_bitCount_0f7a4_22 ?_
  refine lv_istore_n (lv' := [(0, .int (((x0 - (((x0.toUInt32 >>> ((1 : Int32).toUInt32 &&& Int32.toUInt32 31)).toInt32) &&& 1431655765)) &&& 858993459) + ((((x0 - (((x0.toUInt32 >>> ((1 : Int32).toUInt32 &&& Int32.toUInt32 31)).toInt32) &&& 1431655765)).toUInt32 >>> ((2 : Int32).toUInt32 &&& Int32.toUInt32 31)).toInt32) &&& 858993459)))]) hx hb dJ6_bitCount_0f7a4_23 rfl hl (by decide) rfl (fun ls hl => ?_)
  refine lv_iload_n hx hb dJ6_bitCount_0f7a4_24 rfl (lv_at hl 0 rfl) ?_
  refine lv_iload_n hx hb dJ6_bitCount_0f7a4_25 rfl (lv_at hl 0 rfl) ?_
  refine lv_iconst (v := 4) hx hb dJ6_bitCount_0f7a4_26 (by decide) ?_
  refine lv_iushr hx hb dJ6_bitCount_0f7a4_27 rfl ?_
  refine lv_iadd hx hb dJ6_bitCount_0f7a4_28 ?_
  refine lv_ldcw (v := 252645135) hx hb hown hw2 dJ6_bitCount_0f7a4_29 ?_
  refine lv_iand hx hb dJ6_bitCount_0f7a4_32 ?_
  refine lv_istore_n (lv' := [(0, .int (((((x0 - (((x0.toUInt32 >>> ((1 : Int32).toUInt32 &&& Int32.toUInt32 31)).toInt32) &&& 1431655765)) &&& 858993459) + ((((x0 - (((x0.toUInt32 >>> ((1 : Int32).toUInt32 &&& Int32.toUInt32 31)).toInt32) &&& 1431655765)).toUInt32 >>> ((2 : Int32).toUInt32 &&& Int32.toUInt32 31)).toInt32) &&& 858993459)) + (((((x0 - (((x0.toUInt32 >>> ((1 : Int32).toUInt32 &&& Int32.toUInt32 31)).toInt32) &&& 1431655765)) &&& 858993459) + ((((x0 - (((x0.toUInt32 >>> ((1 : Int32).toUInt32 &&& Int32.toUInt32 31)).toInt32) &&& 1431655765)).toUInt32 >>> ((2 : Int32).toUInt32 &&& Int32.toUInt32 31)).toInt32) &&& 858993459)).toUInt32 >>> ((4 : Int32).toUInt32 &&& Int32.toUInt32 31)).toInt32)) &&& 252645135))]) hx hb dJ6_bitCount_0f7a4_33 rfl hl (by decide) rfl (fun ls hl => ?_)
  refine lv_iload_n hx hb dJ6_bitCount_0f7a4_34 rfl (lv_at hl 0 rfl) ?_
  refine lv_iload_n hx hb dJ6_bitCount_0f7a4_35 rfl (lv_at hl 0 rfl) ?_
  refine lv_bipush (v := 8) hx hb dJ6_bitCount_0f7a4_36 (by decide) ?_
  refine lv_iushr hx hb dJ6_bitCount_0f7a4_38 rfl ?_
  refine lv_iadd hx hb dJ6_bitCount_0f7a4_39 ?_
  refine lv_istore_n (lv' := [(0, .int ((((((x0 - (((x0.toUInt32 >>> ((1 : Int32).toUInt32 &&& Int32.toUInt32 31)).toInt32) &&& 1431655765)) &&& 858993459) + ((((x0 - (((x0.toUInt32 >>> ((1 : Int32).toUInt32 &&& Int32.toUInt32 31)).toInt32) &&& 1431655765)).toUInt32 >>> ((2 : Int32).toUInt32 &&& Int32.toUInt32 31)).toInt32) &&& 858993459)) + (((((x0 - (((x0.toUInt32 >>> ((1 : Int32).toUInt32 &&& Int32.toUInt32 31)).toInt32) &&& 1431655765)) &&& 858993459) + ((((x0 - (((x0.toUInt32 >>> ((1 : Int32).toUInt32 &&& Int32.toUInt32 31)).toInt32) &&& 1431655765)).toUInt32 >>> ((2 : Int32).toUInt32 &&& Int32.toUInt32 31)).toInt32) &&& 858993459)).toUInt32 >>> ((4 : Int32).toUInt32 &&& Int32.toUInt32 31)).toInt32)) &&& 252645135) + (((((((x0 - (((x0.toUInt32 >>> ((1 : Int32).toUInt32 &&& Int32.toUInt32 31)).toInt32) &&& 1431655765)) &&& 858993459) + ((((x0 - (((x0.toUInt32 >>> ((1 : Int32).toUInt32 &&& Int32.toUInt32 31)).toInt32) &&& 1431655765)).toUInt32 >>> ((2 : Int32).toUInt32 &&& Int32.toUInt32 31)).toInt32) &&& 858993459)) + (((((x0 - (((x0.toUInt32 >>> ((1 : Int32).toUInt32 &&& Int32.toUInt32 31)).toInt32) &&& 1431655765)) &&& 858993459) + ((((x0 - (((x0.toUInt32 >>> ((1 : Int32).toUInt32 &&& Int32.toUInt32 31)).toInt32) &&& 1431655765)).toUInt32 >>> ((2 : Int32).toUInt32 &&& Int32.toUInt32 31)).toInt32) &&& 858993459)).toUInt32 >>> ((4 : Int32).toUInt32 &&& Int32.toUInt32 31)).toInt32)) &&& 252645135).toUInt32 >>> ((8 : Int32).toUInt32 &&& Int32.toUInt32 31)).toInt32)))]) hx hb dJ6_bitCount_0f7a4_40 rfl hl (by decide) rfl (fun ls hl => ?_)
  refine lv_iload_n hx hb dJ6_bitCount_0f7a4_41 rfl (lv_at hl 0 rfl) ?_
  refine lv_iload_n hx hb dJ6_bitCount_0f7a4_42 rfl (lv_at hl 0 rfl) ?_
  refine lv_bipush (v := 16) hx hb dJ6_bitCount_0f7a4_43 (by decide) ?_
  refine lv_iushr hx hb dJ6_bitCount_0f7a4_45 rfl ?_
  refine lv_iadd hx hb dJ6_bitCount_0f7a4_46 ?_
  refine lv_istore_n (lv' := [(0, .int (((((((x0 - (((x0.toUInt32 >>> ((1 : Int32).toUInt32 &&& Int32.toUInt32 31)).toInt32) &&& 1431655765)) &&& 858993459) + ((((x0 - (((x0.toUInt32 >>> ((1 : Int32).toUInt32 &&& Int32.toUInt32 31)).toInt32) &&& 1431655765)).toUInt32 >>> ((2 : Int32).toUInt32 &&& Int32.toUInt32 31)).toInt32) &&& 858993459)) + (((((x0 - (((x0.toUInt32 >>> ((1 : Int32).toUInt32 &&& Int32.toUInt32 31)).toInt32) &&& 1431655765)) &&& 858993459) + ((((x0 - (((x0.toUInt32 >>> ((1 : Int32).toUInt32 &&& Int32.toUInt32 31)).toInt32) &&& 1431655765)).toUInt32 >>> ((2 : Int32).toUInt32 &&& Int32.toUInt32 31)).toInt32) &&& 858993459)).toUInt32 >>> ((4 : Int32).toUInt32 &&& Int32.toUInt32 31)).toInt32)) &&& 252645135) + (((((((x0 - (((x0.toUInt32 >>> ((1 : Int32).toUInt32 &&& Int32.toUInt32 31)).toInt32) &&& 1431655765)) &&& 858993459) + ((((x0 - (((x0.toUInt32 >>> ((1 : Int32).toUInt32 &&& Int32.toUInt32 31)).toInt32) &&& 1431655765)).toUInt32 >>> ((2 : Int32).toUInt32 &&& Int32.toUInt32 31)).toInt32) &&& 858993459)) + (((((x0 - (((x0.toUInt32 >>> ((1 : Int32).toUInt32 &&& Int32.toUInt32 31)).toInt32) &&& 1431655765)) &&& 858993459) + ((((x0 - (((x0.toUInt32 >>> ((1 : Int32).toUInt32 &&& Int32.toUInt32 31)).toInt32) &&& 1431655765)).toUInt32 >>> ((2 : Int32).toUInt32 &&& Int32.toUInt32 31)).toInt32) &&& 858993459)).toUInt32 >>> ((4 : Int32).toUInt32 &&& Int32.toUInt32 31)).toInt32)) &&& 252645135).toUInt32 >>> ((8 : Int32).toUInt32 &&& Int32.toUInt32 31)).toInt32)) + ((((((((x0 - (((x0.toUInt32 >>> ((1 : Int32).toUInt32 &&& Int32.toUInt32 31)).toInt32) &&& 1431655765)) &&& 858993459) + ((((x0 - (((x0.toUInt32 >>> ((1 : Int32).toUInt32 &&& Int32.toUInt32 31)).toInt32) &&& 1431655765)).toUInt32 >>> ((2 : Int32).toUInt32 &&& Int32.toUInt32 31)).toInt32) &&& 858993459)) + (((((x0 - (((x0.toUInt32 >>> ((1 : Int32).toUInt32 &&& Int32.toUInt32 31)).toInt32) &&& 1431655765)) &&& 858993459) + ((((x0 - (((x0.toUInt32 >>> ((1 : Int32).toUInt32 &&& Int32.toUInt32 31)).toInt32) &&& 1431655765)).toUInt32 >>> ((2 : Int32).toUInt32 &&& Int32.toUInt32 31)).toInt32) &&& 858993459)).toUInt32 >>> ((4 : Int32).toUInt32 &&& Int32.toUInt32 31)).toInt32)) &&& 252645135) + (((((((x0 - (((x0.toUInt32 >>> ((1 : Int32).toUInt32 &&& Int32.toUInt32 31)).toInt32) &&& 1431655765)) &&& 858993459) + ((((x0 - (((x0.toUInt32 >>> ((1 : Int32).toUInt32 &&& Int32.toUInt32 31)).toInt32) &&& 1431655765)).toUInt32 >>> ((2 : Int32).toUInt32 &&& Int32.toUInt32 31)).toInt32) &&& 858993459)) + (((((x0 - (((x0.toUInt32 >>> ((1 : Int32).toUInt32 &&& Int32.toUInt32 31)).toInt32) &&& 1431655765)) &&& 858993459) + ((((x0 - (((x0.toUInt32 >>> ((1 : Int32).toUInt32 &&& Int32.toUInt32 31)).toInt32) &&& 1431655765)).toUInt32 >>> ((2 : Int32).toUInt32 &&& Int32.toUInt32 31)).toInt32) &&& 858993459)).toUInt32 >>> ((4 : Int32).toUInt32 &&& Int32.toUInt32 31)).toInt32)) &&& 252645135).toUInt32 >>> ((8 : Int32).toUInt32 &&& Int32.toUInt32 31)).toInt32)).toUInt32 >>> ((16 : Int32).toUInt32 &&& Int32.toUInt32 31)).toInt32)))]) hx hb dJ6_bitCount_0f7a4_47 rfl hl (by decide) rfl (fun ls hl => ?_)
  refine lv_iload_n hx hb dJ6_bitCount_0f7a4_48 rfl (lv_at hl 0 rfl) ?_
  refine lv_bipush (v := 63) hx hb dJ6_bitCount_0f7a4_49 (by decide) ?_
  refine lv_iand hx hb dJ6_bitCount_0f7a4_51 ?_
  obtain rfl := Option.some.inj hq
  rw [hQ]
  exact W.iret hx hb hr (fun t ht hW => ⟨_, rfl, rfl, ht⟩) (fun _ h => absurd h List.not_mem_nil) dJ6_bitCount_0f7a4_52

abbrev rmJ7_fill_53178 : Room := { frames := 0, cells := 0, slots := 0, locals := 0 }
set_option maxHeartbeats 40000000 in
set_option maxRecDepth 100000 in
theorem tJ7_fill_53178 (G : GG) (l : Launch) {qP0 : Nat} {n0 : Nat} {p0 : Nat → Int32} {x1 : Int32} {sz : Nat} {F : Nat} {r : Nat → Int32} (hq : kJ7_fill_53178 F n0 p0 x1 = some r) : Met l yJ7_fill_53178 wsJ7_fill_53178 rmJ7_fill_53178 (pcW G [(qP0, .inl (G.2.1, n0, .inl p0))] sz [.ref qP0, .int x1]) (qcV G [(qP0, .inl (G.2.1, n0, .inl r))] (va_A [(qP0, .inl (G.2.1, n0, .inl p0))] sz)) 0 0 (va_A [(qP0, .inl (G.2.1, n0, .inl p0))] sz) := by
  refine Met.ofW (cc := cJ7_fill_53178) (maxL := 4) (ret := none) (by decide) rfl ?_
  intro p e s m args below meth c s₁ B hml hv
  obtain ⟨rfl, hsz, hP, hKK, hD0⟩ := hv
  have hK := hKK.1
  have hx := B.exec
  have hb := B.bytes
  have hr := B.returns
  have hts := atoms_spec (ws := wsJ7_fill_53178) B.pre
  have hown : s.vm.findClass RJ7 = some m.cls := findClass_of_methodNamed B.named
  have hlocks := B.notSynchronized
  subst hsz
  have hD := hD0.self (sz := s.heap.size)
  generalize hAe : va_A [(qP0, .inl (G.2.1, n0, .inl p0))] s.heap.size = A at hD ⊢
  have hA : ∀ q : Nat, s.heap.size ≤ q → A q := fun q h => by rw [← hAe]; exact Or.inr h
  have hS : va_S A s.heap s.heap [] := va_S.rf
  have hl := lv_entry ([.ref qP0, .int x1] : List Value) (n := 4) (Nat.le_of_ble_eq_true rfl)
  rw [lg_entry_eq]
  generalize (lg_sl ([.ref qP0, .int x1] : List Value) ++ List.replicate (4 - (lg_sl ([.ref qP0, .int x1] : List Value)).length) Slot.unset).toArray = ls at hl ⊢
  have hl : lv_has ls 4 [(0, .ref qP0), (1, .int x1)] := hl
  refine wq (fun Q hQ => ?_)
  unfold kJ7_fill_53178 at hq
  refine lv_iconst (v := 0) hx hb dJ7_fill_53178_0 (by decide) ?_
  refine lv_istore_n (lv' := [(2, .int 0), (0, .ref qP0), (1, .int x1)]) hx hb dJ7_fill_53178_1 rfl hl (by decide) rfl (fun ls hl => ?_)
  refine lv_aload_n hx hb dJ7_fill_53178_2 rfl (lv_at hl 1 rfl) ?_
  refine va_alen hx hb hK hP 0 0 rfl rfl (v := (Int32.ofNat n0)) rfl dJ7_fill_53178_3 ?_
  refine lv_istore_n (lv' := [(3, .int (Int32.ofNat n0)), (2, .int 0), (0, .ref qP0), (1, .int x1)]) hx hb dJ7_fill_53178_4 rfl hl (by decide) rfl (fun ls hl => ?_)
  have L5 : ∀ (n : Nat) (s5 : Int32) (s6 : Nat → Int32) (t_5 : Nat → Int32) (ls : Array Slot) (H : Heap) (locs : List Loc), kloop n (fun s_ => kJ7_fill_53178_s5 F n0 x1 s_.1 s_.2) (s5, s6) = some t_5 → lv_has ls 4 [(0, .ref qP0), (1, .int x1), (2, .int s5), (3, .int (Int32.ofNat n0))] → va_P G.1 vwCl [(qP0, .inl (G.2.1, n0, .inl s6))] H → va_D A [(qP0, .inl (G.2.1, n0, .inl s6))] → va_S A s.heap H locs → (∀ (ls : Array Slot) (H : Heap) (locs : List Loc), lv_has ls 4 [] → va_P G.1 vwCl [(qP0, .inl (G.2.1, n0, .inl t_5))] H → va_D A [(qP0, .inl (G.2.1, n0, .inl t_5))] → va_S A s.heap H locs → W p l e (headSpec wsJ7_fill_53178 rmJ7_fill_53178).room s m ([.ref qP0, .int x1] : List Value).toArray below meth c H locs 0 0 Q (F0 m 20 ls [])) → W p l e (headSpec wsJ7_fill_53178 rmJ7_fill_53178).room s m ([.ref qP0, .int x1] : List Value).toArray below meth c H locs 0 0 Q (F0 m 5 ls []) := by
    intro n
    induction n with
    | zero => 
      intro s5 s6 t_5 ls H locs hq hl hP hD hS kk5_20
      exact absurd hq kl_0
    | succ n ih5 =>
      intro s5 s6 t_5 ls H locs hq hl hP hD hS kk5_20
      obtain ⟨y_5, hq, hx5⟩ := kl_s hq
      have hq : kJ7_fill_53178_s5 F n0 x1 s5 s6 = some y_5 := hq
      unfold kJ7_fill_53178_s5 at hq
      refine lv_iload_n hx hb dJ7_fill_53178_5 rfl (lv_at hl 2 rfl) ?_
      refine lv_iload_n hx hb dJ7_fill_53178_6 rfl (lv_at hl 3 rfl) ?_
      refine lv_icmp_ge (tgt := 20) hx hb dJ7_fill_53178_7 (by decide) (fun c_7 => ?_) (fun c_7 => ?_)
      · have hq := k_t c_7 hq
        have et := kl_exit hq hx5
        subst et
        exact kk5_20 ls _ _ (lv_sub hl [] rfl) hP hD hS
      · have hq := k_f c_7 hq
        refine lv_aload_n hx hb dJ7_fill_53178_10 rfl (lv_at hl 0 rfl) ?_
        refine lv_iload_n hx hb dJ7_fill_53178_11 rfl (lv_at hl 2 rfl) ?_
        refine lv_iload_n hx hb dJ7_fill_53178_12 rfl (lv_at hl 1 rfl) ?_
        obtain ⟨hg, hq⟩ := k_g hq
        refine va_iast hx hb hK hP hD hS 0 0 rfl rfl (ix_in hg) dJ7_fill_53178_13 (fun H locs hP hD hS => ?_)
        have hP : va_P G.1 vwCl [(qP0, .inl (G.2.1, n0, .inl (upd s6 s5.toNatClampNeg x1)))] H := hP
        have hD : va_D A [(qP0, .inl (G.2.1, n0, .inl (upd s6 s5.toNatClampNeg x1)))] := hD
        refine lv_iinc (v := (s5 + 1)) (lv' := [(2, .int (s5 + 1)), (0, .ref qP0), (1, .int x1), (3, .int (Int32.ofNat n0))]) hx hb dJ7_fill_53178_14 hl (k := 2) rfl rfl (by decide) rfl (fun ls hl => ?_)
        refine lv_goto (tgt := 5) hx hb dJ7_fill_53178_17 (by decide) ?_
        exact ih5 (s5 + 1) (upd s6 s5.toNatClampNeg x1) t_5 ls _ _ (kl_back hq hx5) (lv_sub hl [1, 2, 0, 3] rfl) hP hD hS kk5_20
  obtain ⟨q7, eq7, hq⟩ := ob hq
  refine L5 F 0 p0 q7 ls _ _ (eq7) (lv_sub hl [2, 3, 1, 0] rfl) hP hD hS (fun ls H locs hl hP hD hS => ?_)
  · obtain rfl := Option.some.inj hq
    rw [hQ]
    exact W.vret hx hb hr (fun t ht hW => ⟨⟨(), rfl, trivial, va_Pat ht hP⟩, hS.F ht⟩) hS.2.2 dJ7_fill_53178_20
