/-! contracts (laid by wip/whole/gen.py) -/
abbrev rmX6_unpack : Room := { frames := 0, cells := 0, slots := 0, locals := 0 }
set_option maxHeartbeats 40000000 in
set_option maxRecDepth 100000 in
theorem tX6_unpack (G : GG) (l : Launch) {qW qB qWP qWN qL0 qL1 : Nat} {wP : Nat → Int32} {x1 : Int64} {sz : Nat} {F : Nat} {r : Nat → Int32} (hq : kX6_unpack F wP x1 = some r) : Met l yX6_unpack wsX6_unpack rmX6_unpack (pcW G [(qW, .inr (6, [.ref qB, .ref qWP, .ref qWN, .ref qL0, .ref qL1])), (qWP, .inl (G.2.1, 12, .inl wP))] sz [.ref qW, .long x1]) (qcV G [(qW, .inr (6, [.ref qB, .ref qWP, .ref qWN, .ref qL0, .ref qL1])), (qWP, .inl (G.2.1, 12, .inl r))] (va_A [(qW, .inr (6, [.ref qB, .ref qWP, .ref qWN, .ref qL0, .ref qL1])), (qWP, .inl (G.2.1, 12, .inl wP))] sz)) 0 0 (va_A [(qW, .inr (6, [.ref qB, .ref qWP, .ref qWN, .ref qL0, .ref qL1])), (qWP, .inl (G.2.1, 12, .inl wP))] sz) := by
  refine Met.ofW (cc := cX6_unpack) (maxL := 4) (ret := none) (by decide) rfl ?_
  intro p e s m args below meth c s₁ B hml hv
  obtain ⟨rfl, hsz, hP, hKK, hD0⟩ := hv
  have hK := hKK.1
  have hx := B.exec
  have hb := B.bytes
  have hr := B.returns
  have hts := atoms_spec (ws := wsX6_unpack) B.pre
  have hown : s.vm.findClass RX6 = some m.cls := findClass_of_methodNamed B.named
  have hlocks := B.notSynchronized
  subst hsz
  have hD := hD0.self (sz := s.heap.size)
  generalize hAe : va_A [(qW, .inr (6, [.ref qB, .ref qWP, .ref qWN, .ref qL0, .ref qL1])), (qWP, .inl (G.2.1, 12, .inl wP))] s.heap.size = A at hD ⊢
  have hA : ∀ q : Nat, s.heap.size ≤ q → A q := fun q h => by rw [← hAe]; exact Or.inr h
  have hS : va_S A s.heap s.heap [] := va_S.rf
  have hl := lv_entry ([.ref qW, .long x1] : List Value) (n := 4) (Nat.le_of_ble_eq_true rfl)
  rw [lg_entry_eq]
  generalize (lg_sl ([.ref qW, .long x1] : List Value) ++ List.replicate (4 - (lg_sl ([.ref qW, .long x1] : List Value)).length) Slot.unset).toArray = ls at hl ⊢
  have hl : lv_has ls 4 [(0, .ref qW), (1, .long x1)] := hl
  have hi6 : ∀ w ∈ u_ws RX6 TX6 5, w ∈ wsX6_unpack := by decide +kernel
  have hw0 : (Cond.fieldLink RX6 11 "NetPlumber$Sweep" "places" "[I").before #[Value.ref qW, Value.long x1] s = true := hts _ (by decide +kernel)
  refine wq (fun Q hQ => ?_)
  unfold kX6_unpack at hq
  refine lv_iconst (v := 0) hx hb dX6_unpack_0 (by decide) ?_
  refine lv_istore_n (lv' := [(3, .int 0), (0, .ref qW), (1, .long x1)]) hx hb dX6_unpack_1 rfl hl (by decide) rfl (fun ls hl => ?_)
  have L2 : ∀ (n : Nat) (s4 : Int32) (s5 : Nat → Int32) (t_2 : Nat → Int32) (ls : Array Slot) (H : Heap) (locs : List Loc), kloop n (fun s_ => kX6_unpack_s2 F x1 s_.1 s_.2) (s4, s5) = some t_2 → lv_has ls 4 [(0, .ref qW), (1, .long x1), (3, .int s4)] → va_P G.1 vwCl [(qW, .inr (6, [.ref qB, .ref qWP, .ref qWN, .ref qL0, .ref qL1])), (qWP, .inl (G.2.1, 12, .inl s5))] H → va_D A [(qW, .inr (6, [.ref qB, .ref qWP, .ref qWN, .ref qL0, .ref qL1])), (qWP, .inl (G.2.1, 12, .inl s5))] → va_S A s.heap H locs → (∀ (ls : Array Slot) (H : Heap) (locs : List Loc), lv_has ls 4 [] → va_P G.1 vwCl [(qW, .inr (6, [.ref qB, .ref qWP, .ref qWN, .ref qL0, .ref qL1])), (qWP, .inl (G.2.1, 12, .inl t_2))] H → va_D A [(qW, .inr (6, [.ref qB, .ref qWP, .ref qWN, .ref qL0, .ref qL1])), (qWP, .inl (G.2.1, 12, .inl t_2))] → va_S A s.heap H locs → W p l e (headSpec wsX6_unpack rmX6_unpack).room s m ([.ref qW, .long x1] : List Value).toArray below meth c H locs 0 0 Q (F0 m 29 ls [])) → W p l e (headSpec wsX6_unpack rmX6_unpack).room s m ([.ref qW, .long x1] : List Value).toArray below meth c H locs 0 0 Q (F0 m 2 ls []) := by
    intro n
    induction n with
    | zero => 
      intro s4 s5 t_2 ls H locs hq hl hP hD hS kk2_29
      exact absurd hq kl_0
    | succ n ih2 =>
      intro s4 s5 t_2 ls H locs hq hl hP hD hS kk2_29
      obtain ⟨y_2, hq, hx2⟩ := kl_s hq
      have hq : kX6_unpack_s2 F x1 s4 s5 = some y_2 := hq
      unfold kX6_unpack_s2 at hq
      refine lv_iload_n hx hb dX6_unpack_2 rfl (lv_at hl 2 rfl) ?_
      refine lv_bipush (v := 12) hx hb dX6_unpack_3 (by decide) ?_
      refine lv_icmp_ge (tgt := 29) hx hb dX6_unpack_5 (by decide) (fun c_5 => ?_) (fun c_5 => ?_)
      · have hq := k_t c_5 hq
        have et := kl_exit hq hx2
        subst et
        exact kk2_29 ls _ _ (lv_sub hl [] rfl) hP hD hS
      · have hq := k_f c_5 hq
        refine lv_aload_n hx hb dX6_unpack_8 rfl (lv_at hl 0 rfl) ?_
        refine va_get (D := G.1) (ci := 6) (v := .ref qWP) (C := RX6) (T := TX6) (N := 5) hx hb hts hi6 hown hK hP 0 rfl rfl 1 (by decide) hw0 (fun _ h9 => h9) rfl dX6_unpack_9 ?_
        refine lv_iload_n hx hb dX6_unpack_12 rfl (lv_at hl 2 rfl) ?_
        refine lv_lload_n hx hb dX6_unpack_13 rfl (lv_at hl 1 rfl) ?_
        refine lv_iconst (v := 4) hx hb dX6_unpack_14 (by decide) ?_
        refine lv_iload_n hx hb dX6_unpack_15 rfl (lv_at hl 2 rfl) ?_
        refine lv_imul hx hb dX6_unpack_16 ?_
        refine lv_lshr hx hb dX6_unpack_17 rfl ?_
        refine lv_l2i hx hb dX6_unpack_18 rfl ?_
        refine lv_bipush (v := 15) hx hb dX6_unpack_19 (by decide) ?_
        refine lv_iand hx hb dX6_unpack_21 ?_
        obtain ⟨hg, hq⟩ := k_g hq
        refine va_iast hx hb hK hP hD hS 1 0 rfl rfl (ix_in hg) dX6_unpack_22 (fun H locs hP hD hS => ?_)
        have hP : va_P G.1 vwCl [(qW, .inr (6, [.ref qB, .ref qWP, .ref qWN, .ref qL0, .ref qL1])), (qWP, .inl (G.2.1, 12, .inl (upd s5 s4.toNatClampNeg (((x1 >>> ((4 * s4).toInt64 &&& 63)).toInt32) &&& 15))))] H := hP
        have hD : va_D A [(qW, .inr (6, [.ref qB, .ref qWP, .ref qWN, .ref qL0, .ref qL1])), (qWP, .inl (G.2.1, 12, .inl (upd s5 s4.toNatClampNeg (((x1 >>> ((4 * s4).toInt64 &&& 63)).toInt32) &&& 15))))] := hD
        refine lv_iinc (v := (s4 + 1)) (lv' := [(3, .int (s4 + 1)), (0, .ref qW), (1, .long x1)]) hx hb dX6_unpack_23 hl (k := 2) rfl rfl (by decide) rfl (fun ls hl => ?_)
        refine lv_goto (tgt := 2) hx hb dX6_unpack_26 (by decide) ?_
        exact ih2 (s4 + 1) (upd s5 s4.toNatClampNeg (((x1 >>> ((4 * s4).toInt64 &&& 63)).toInt32) &&& 15)) t_2 ls _ _ (kl_back hq hx2) (lv_sub hl [1, 2, 0] rfl) hP hD hS kk2_29
  obtain ⟨q6, eq6, hq⟩ := ob hq
  refine L2 F 0 wP q6 ls _ _ (eq6) (lv_sub hl [1, 2, 0] rfl) hP hD hS (fun ls H locs hl hP hD hS => ?_)
  · obtain rfl := Option.some.inj hq
    rw [hQ]
    exact W.vret hx hb hr (fun t ht hW => ⟨⟨(), rfl, trivial, va_Pat ht hP⟩, hS.F ht⟩) hS.2.2 dX6_unpack_29

abbrev rmX6_put : Room := { frames := 0, cells := 0, slots := 0, locals := 0 }
set_option maxHeartbeats 40000000 in
set_option maxRecDepth 100000 in
theorem tX6_put (G : GG) (l : Launch) {qW qB qWP qWN qL0 qL1 : Nat} {wP : Nat → Int32} {x1 : Int32} {x2 : Int32} {sz : Nat} {F : Nat} {r : Nat → Int32} (hq : kX6_put F wP x1 x2 = some r) : Met l yX6_put wsX6_put rmX6_put (pcW G [(qW, .inr (6, [.ref qB, .ref qWP, .ref qWN, .ref qL0, .ref qL1])), (qWP, .inl (G.2.1, 12, .inl wP))] sz [.ref qW, .int x1, .int x2]) (qcV G [(qW, .inr (6, [.ref qB, .ref qWP, .ref qWN, .ref qL0, .ref qL1])), (qWP, .inl (G.2.1, 12, .inl r))] (va_A [(qW, .inr (6, [.ref qB, .ref qWP, .ref qWN, .ref qL0, .ref qL1])), (qWP, .inl (G.2.1, 12, .inl wP))] sz)) 0 0 (va_A [(qW, .inr (6, [.ref qB, .ref qWP, .ref qWN, .ref qL0, .ref qL1])), (qWP, .inl (G.2.1, 12, .inl wP))] sz) := by
  refine Met.ofW (cc := cX6_put) (maxL := 3) (ret := none) (by decide) rfl ?_
  intro p e s m args below meth c s₁ B hml hv
  obtain ⟨rfl, hsz, hP, hKK, hD0⟩ := hv
  have hK := hKK.1
  have hx := B.exec
  have hb := B.bytes
  have hr := B.returns
  have hts := atoms_spec (ws := wsX6_put) B.pre
  have hown : s.vm.findClass RX6 = some m.cls := findClass_of_methodNamed B.named
  have hlocks := B.notSynchronized
  subst hsz
  have hD := hD0.self (sz := s.heap.size)
  generalize hAe : va_A [(qW, .inr (6, [.ref qB, .ref qWP, .ref qWN, .ref qL0, .ref qL1])), (qWP, .inl (G.2.1, 12, .inl wP))] s.heap.size = A at hD ⊢
  have hA : ∀ q : Nat, s.heap.size ≤ q → A q := fun q h => by rw [← hAe]; exact Or.inr h
  have hS : va_S A s.heap s.heap [] := va_S.rf
  have hl := lv_entry ([.ref qW, .int x1, .int x2] : List Value) (n := 3) (Nat.le_of_ble_eq_true rfl)
  rw [lg_entry_eq]
  generalize (lg_sl ([.ref qW, .int x1, .int x2] : List Value) ++ List.replicate (3 - (lg_sl ([.ref qW, .int x1, .int x2] : List Value)).length) Slot.unset).toArray = ls at hl ⊢
  have hl : lv_has ls 3 [(0, .ref qW), (1, .int x1), (2, .int x2)] := hl
  have hi6 : ∀ w ∈ u_ws RX6 TX6 5, w ∈ wsX6_put := by decide +kernel
  have hw0 : (Cond.fieldLink RX6 11 "NetPlumber$Sweep" "places" "[I").before #[Value.ref qW, Value.int x1, Value.int x2] s = true := hts _ (by decide +kernel)
  refine wq (fun Q hQ => ?_)
  unfold kX6_put at hq
  refine lv_iload_n hx hb dX6_put_0 rfl (lv_at hl 1 rfl) ?_
  refine lv_if_lt (tgt := 26) hx hb dX6_put_1 (by decide) (fun c_1 => ?_) (fun c_1 => ?_)
  · have hq := k_t c_1 hq
    obtain rfl := Option.some.inj hq
    rw [hQ]
    exact W.vret hx hb hr (fun t ht hW => ⟨⟨(), rfl, trivial, va_Pat ht hP⟩, hS.F ht⟩) hS.2.2 dX6_put_26
  · have hq := k_f c_1 hq
    refine lv_iload_n hx hb dX6_put_4 rfl (lv_at hl 1 rfl) ?_
    refine lv_bipush (v := 12) hx hb dX6_put_5 (by decide) ?_
    refine lv_icmp_ge (tgt := 26) hx hb dX6_put_7 (by decide) (fun c_7 => ?_) (fun c_7 => ?_)
    · have hq := k_t c_7 hq
      obtain rfl := Option.some.inj hq
      rw [hQ]
      exact W.vret hx hb hr (fun t ht hW => ⟨⟨(), rfl, trivial, va_Pat ht hP⟩, hS.F ht⟩) hS.2.2 dX6_put_26
    · have hq := k_f c_7 hq
      refine lv_aload_n hx hb dX6_put_10 rfl (lv_at hl 0 rfl) ?_
      refine va_get (D := G.1) (ci := 6) (v := .ref qWP) (C := RX6) (T := TX6) (N := 5) hx hb hts hi6 hown hK hP 0 rfl rfl 1 (by decide) hw0 (fun _ h9 => h9) rfl dX6_put_11 ?_
      refine lv_iload_n hx hb dX6_put_14 rfl (lv_at hl 1 rfl) ?_
      refine lv_iload_n hx hb dX6_put_15 rfl (lv_at hl 2 rfl) ?_
      refine lv_if_eq (tgt := 24) hx hb dX6_put_16 (by decide) (fun c_16 => ?_) (fun c_16 => ?_)
      · have hq := k_t c_16 hq
        refine lv_iconst (v := 0) hx hb dX6_put_24 (by decide) ?_
        obtain ⟨hg, hq⟩ := k_g hq
        refine va_iast hx hb hK hP hD hS 1 0 rfl rfl (ix_in hg) dX6_put_25 (fun H locs hP hD hS => ?_)
        have hP : va_P G.1 vwCl [(qW, .inr (6, [.ref qB, .ref qWP, .ref qWN, .ref qL0, .ref qL1])), (qWP, .inl (G.2.1, 12, .inl (upd wP x1.toNatClampNeg 0)))] H := hP
        have hD : va_D A [(qW, .inr (6, [.ref qB, .ref qWP, .ref qWN, .ref qL0, .ref qL1])), (qWP, .inl (G.2.1, 12, .inl (upd wP x1.toNatClampNeg 0)))] := hD
        obtain rfl := Option.some.inj hq
        rw [hQ]
        exact W.vret hx hb hr (fun t ht hW => ⟨⟨(), rfl, trivial, va_Pat ht hP⟩, hS.F ht⟩) hS.2.2 dX6_put_26
      · have hq := k_f c_16 hq
        refine lv_bipush (v := 15) hx hb dX6_put_19 (by decide) ?_
        refine lv_goto (tgt := 25) hx hb dX6_put_21 (by decide) ?_
        obtain ⟨hg, hq⟩ := k_g hq
        refine va_iast hx hb hK hP hD hS 1 0 rfl rfl (ix_in hg) dX6_put_25 (fun H locs hP hD hS => ?_)
        have hP : va_P G.1 vwCl [(qW, .inr (6, [.ref qB, .ref qWP, .ref qWN, .ref qL0, .ref qL1])), (qWP, .inl (G.2.1, 12, .inl (upd wP x1.toNatClampNeg 15)))] H := hP
        have hD : va_D A [(qW, .inr (6, [.ref qB, .ref qWP, .ref qWN, .ref qL0, .ref qL1])), (qWP, .inl (G.2.1, 12, .inl (upd wP x1.toNatClampNeg 15)))] := hD
        obtain rfl := Option.some.inj hq
        rw [hQ]
        exact W.vret hx hb hr (fun t ht hW => ⟨⟨(), rfl, trivial, va_Pat ht hP⟩, hS.F ht⟩) hS.2.2 dX6_put_26

abbrev rmX6_goesOn : Room := { frames := 0, cells := 0, slots := 0, locals := 0 }
set_option maxHeartbeats 40000000 in
set_option maxRecDepth 100000 in
theorem tX6_goesOn (G : GG) (l : Launch) {qW qB qWP qWN qL0 qL1 : Nat} {wP : Nat → Int32} {F : Nat} {r : Int32} (hq : kX6_goesOn F wP = some r) : Met l yX6_goesOn wsX6_goesOn rmX6_goesOn (pcP G [(qW, .inr (6, [.ref qB, .ref qWP, .ref qWN, .ref qL0, .ref qL1])), (qWP, .inl (G.2.1, 12, .inl wP))] [.ref qW]) (vp_Si (fun x => r = x)) 0 0 (fun _ => False) := by
  refine Met.ofW (cc := cX6_goesOn) (maxL := 2) (ret := (some .boolean)) (by decide) rfl ?_
  intro p e s m args below meth c s₁ B hml hv
  obtain ⟨rfl, hP, hKK⟩ := hv
  have hK := hKK.1
  have hx := B.exec
  have hb := B.bytes
  have hr := B.returns
  have hts := atoms_spec (ws := wsX6_goesOn) B.pre
  have hown : s.vm.findClass RX6 = some m.cls := findClass_of_methodNamed B.named
  have hlocks := B.notSynchronized
  have hl := lv_entry ([.ref qW] : List Value) (n := 2) (Nat.le_of_ble_eq_true rfl)
  rw [lg_entry_eq]
  generalize (lg_sl ([.ref qW] : List Value) ++ List.replicate (2 - (lg_sl ([.ref qW] : List Value)).length) Slot.unset).toArray = ls at hl ⊢
  have hl : lv_has ls 2 [(0, .ref qW)] := hl
  have hi6 : ∀ w ∈ u_ws RX6 TX6 5, w ∈ wsX6_goesOn := by decide +kernel
  have hw0 : (Cond.fieldLink RX6 11 "NetPlumber$Sweep" "places" "[I").before #[Value.ref qW] s = true := hts _ (by decide +kernel)
  refine wq (fun Q hQ => ?_)
  unfold kX6_goesOn at hq
  refine lv_iconst (v := 0) hx hb dX6_goesOn_0 (by decide) ?_
  refine lv_istore_n (lv' := [(1, .int 0), (0, .ref qW)]) hx hb dX6_goesOn_1 rfl hl (by decide) rfl (fun ls hl => ?_)
  have L2 : ∀ (n : Nat) (s2 : Int32) (t_2 : Nat) (ls : Array Slot), kloop n (fun s_ => kX6_goesOn_s2 F wP s_) s2 = some t_2 → lv_has ls 2 [(0, .ref qW), (1, .int s2)] → va_P G.1 vwCl [(qW, .inr (6, [.ref qB, .ref qWP, .ref qWN, .ref qL0, .ref qL1])), (qWP, .inl (G.2.1, 12, .inl wP))] s.heap → (∀ (_ : t_2 = 0) (ls : Array Slot), lv_has ls 2 [] → va_P G.1 vwCl [(qW, .inr (6, [.ref qB, .ref qWP, .ref qWN, .ref qL0, .ref qL1])), (qWP, .inl (G.2.1, 12, .inl wP))] s.heap → W p l e (headSpec wsX6_goesOn rmX6_goesOn).room s m ([.ref qW] : List Value).toArray below meth c s.heap [] 0 0 Q (F0 m 19 ls [])) → (∀ (_ : t_2 = 1) (ls : Array Slot), lv_has ls 2 [] → va_P G.1 vwCl [(qW, .inr (6, [.ref qB, .ref qWP, .ref qWN, .ref qL0, .ref qL1])), (qWP, .inl (G.2.1, 12, .inl wP))] s.heap → W p l e (headSpec wsX6_goesOn rmX6_goesOn).room s m ([.ref qW] : List Value).toArray below meth c s.heap [] 0 0 Q (F0 m 27 ls [])) → W p l e (headSpec wsX6_goesOn rmX6_goesOn).room s m ([.ref qW] : List Value).toArray below meth c s.heap [] 0 0 Q (F0 m 2 ls []) := by
    intro n
    induction n with
    | zero => 
      intro s2 t_2 ls hq hl hP kk2_19 kk2_27
      exact absurd hq kl_0
    | succ n ih2 =>
      intro s2 t_2 ls hq hl hP kk2_19 kk2_27
      obtain ⟨y_2, hq, hx2⟩ := kl_s hq
      have hq : kX6_goesOn_s2 F wP s2 = some y_2 := hq
      unfold kX6_goesOn_s2 at hq
      refine lv_iload_n hx hb dX6_goesOn_2 rfl (lv_at hl 1 rfl) ?_
      refine lv_bipush (v := 12) hx hb dX6_goesOn_3 (by decide) ?_
      refine lv_icmp_ge (tgt := 27) hx hb dX6_goesOn_5 (by decide) (fun c_5 => ?_) (fun c_5 => ?_)
      · have hq := k_t c_5 hq
        have et := kl_exit hq hx2
        subst et
        exact kk2_27 rfl ls (lv_sub hl [] rfl) hP
      · have hq := k_f c_5 hq
        refine lv_aload_n hx hb dX6_goesOn_8 rfl (lv_at hl 0 rfl) ?_
        refine va_get (D := G.1) (ci := 6) (v := .ref qWP) (C := RX6) (T := TX6) (N := 5) hx hb hts hi6 hown hK hP 0 rfl rfl 1 (by decide) hw0 (fun _ h9 => h9) rfl dX6_goesOn_9 ?_
        refine lv_iload_n hx hb dX6_goesOn_12 rfl (lv_at hl 1 rfl) ?_
        obtain ⟨hg, hq⟩ := k_g hq
        refine va_iald hx hb hK hP 1 0 rfl rfl (ix_in hg) dX6_goesOn_13 ?_
        refine lv_bipush (v := 15) hx hb dX6_goesOn_14 (by decide) ?_
        refine lv_icmp_ne (tgt := 21) hx hb dX6_goesOn_16 (by decide) (fun c_16 => ?_) (fun c_16 => ?_)
        · have hq := k_f c_16 hq
          refine lv_iinc (v := (s2 + 1)) (lv' := [(1, .int (s2 + 1)), (0, .ref qW)]) hx hb dX6_goesOn_21 hl (k := 1) rfl rfl (by decide) rfl (fun ls hl => ?_)
          refine lv_goto (tgt := 2) hx hb dX6_goesOn_24 (by decide) ?_
          exact ih2 (s2 + 1) t_2 ls (kl_back hq hx2) (lv_sub hl [1, 0] rfl) hP kk2_19 kk2_27
        · have hq := k_t c_16 hq
          have et := kl_exit hq hx2
          subst et
          exact kk2_19 rfl ls (lv_sub hl [] rfl) hP
  obtain ⟨q3, eq3, hq⟩ := ob hq
  refine L2 F 0 q3 ls (eq3) (lv_sub hl [1, 0] rfl) hP (fun he ls hl hP => ?_) (fun he ls hl hP => ?_)
  · have hq := k_t he hq
    refine lv_iconst (v := 1) hx hb dX6_goesOn_19 (by decide) ?_
    obtain rfl := Option.some.inj hq
    rw [hQ]
    exact W.zret hx hb hr rfl (fun t ht hW => ⟨_, rfl, rfl, ht⟩) (fun _ h => absurd h List.not_mem_nil) dX6_goesOn_20
  · have hq := k_f (show ¬ q3 = 0 by rw [he]; decide) hq
    refine lv_iconst (v := 0) hx hb dX6_goesOn_27 (by decide) ?_
    obtain rfl := Option.some.inj hq
    rw [hQ]
    exact W.zret hx hb hr rfl (fun t ht hW => ⟨_, rfl, rfl, ht⟩) (fun _ h => absurd h List.not_mem_nil) dX6_goesOn_28

abbrev rmX6_pack : Room := { frames := 1, cells := 0, slots := 0, locals := 23 }
set_option maxHeartbeats 40000000 in
set_option maxRecDepth 100000 in
theorem tX6_pack (G : GG) (l : Launch) {qW qB qWP qWN qL0 qL1 : Nat} {wP : Nat → Int32} {wN : Nat → Int32} {sz : Nat} {F : Nat} {r : Int64 × (Nat → Int32)} (hq : kX6_pack F wP wN = some r) : Met l yX6_pack wsX6_pack rmX6_pack (pcW G [(qW, .inr (6, [.ref qB, .ref qWP, .ref qWN, .ref qL0, .ref qL1])), (qWP, .inl (G.2.1, 12, .inl wP)), (qWN, .inl (G.2.1, 16, .inl wN))] sz [.ref qW]) (qcL G r.1 [(qW, .inr (6, [.ref qB, .ref qWP, .ref qWN, .ref qL0, .ref qL1])), (qWP, .inl (G.2.1, 12, .inl wP)), (qWN, .inl (G.2.1, 16, .inl r.2))] (va_A [(qW, .inr (6, [.ref qB, .ref qWP, .ref qWN, .ref qL0, .ref qL1])), (qWP, .inl (G.2.1, 12, .inl wP)), (qWN, .inl (G.2.1, 16, .inl wN))] sz)) 0 0 (va_A [(qW, .inr (6, [.ref qB, .ref qWP, .ref qWN, .ref qL0, .ref qL1])), (qWP, .inl (G.2.1, 12, .inl wP)), (qWN, .inl (G.2.1, 16, .inl wN))] sz) := by
  refine Met.ofW (cc := cX6_pack) (maxL := 6) (ret := (some .long)) (by decide) rfl ?_
  intro p e s m args below meth c s₁ B hml hv
  obtain ⟨rfl, hsz, hP, hKK, hD0⟩ := hv
  have hK := hKK.1
  have hx := B.exec
  have hb := B.bytes
  have hr := B.returns
  have hts := atoms_spec (ws := wsX6_pack) B.pre
  have hown : s.vm.findClass RX6 = some m.cls := findClass_of_methodNamed B.named
  have hlocks := B.notSynchronized
  subst hsz
  have hD := hD0.self (sz := s.heap.size)
  generalize hAe : va_A [(qW, .inr (6, [.ref qB, .ref qWP, .ref qWN, .ref qL0, .ref qL1])), (qWP, .inl (G.2.1, 12, .inl wP)), (qWN, .inl (G.2.1, 16, .inl wN))] s.heap.size = A at hD ⊢
  have hA : ∀ q : Nat, s.heap.size ≤ q → A q := fun q h => by rw [← hAe]; exact Or.inr h
  have hS : va_S A s.heap s.heap [] := va_S.rf
  have hl := lv_entry ([.ref qW] : List Value) (n := 6) (Nat.le_of_ble_eq_true rfl)
  rw [lg_entry_eq]
  generalize (lg_sl ([.ref qW] : List Value) ++ List.replicate (6 - (lg_sl ([.ref qW] : List Value)).length) Slot.unset).toArray = ls at hl ⊢
  have hl : lv_has ls 6 [(0, .ref qW)] := hl
  have hi6 : ∀ w ∈ u_ws RX6 TX6 5, w ∈ wsX6_pack := by decide +kernel
  have hw0 : (Cond.fieldLink RX6 15 "NetPlumber$Sweep" "names" "[I").before #[Value.ref qW] s = true := hts _ (by decide +kernel)
  have hw1 : (Cond.fieldLink RX6 11 "NetPlumber$Sweep" "places" "[I").before #[Value.ref qW] s = true := hts _ (by decide +kernel)
  refine wq (fun Q hQ => ?_)
  unfold kX6_pack at hq
  refine lv_aload_n hx hb dX6_pack_0 rfl (lv_at hl 0 rfl) ?_
  refine va_get (D := G.1) (ci := 6) (v := .ref qWN) (C := RX6) (T := TX6) (N := 5) hx hb hts hi6 hown hK hP 0 rfl rfl 2 (by decide) hw0 (fun _ h9 => h9) rfl dX6_pack_1 ?_
  refine lv_iconst (v := 0) hx hb dX6_pack_4 (by decide) ?_
  obtain ⟨q1, eq1, hq⟩ := ob hq
  have hPc := hP.sub (ws' := [(qWN, .inl (G.2.1, 16, .inl wN))]) [2] rfl
  have hDc := hD.sub (ws' := [(qWN, .inl (G.2.1, 16, .inl wN))]) [2] (by decide) rfl
  have hFc := va_free (wc := [(qWN, .inl (G.2.1, 16, .inl wN))]) hD hS hA [2] rfl
  refine va_callv (va_runS (As := [.ref qWN, .int 0]) (rest := []) ⟨hx, hb, hml, hown, hts⟩ (tJ7_fill_53178 G l eq1) (va_cwS 2 hts gX6_pack_J7_fill_53178 rfl rfl rfl (by decide +kernel) ⟨Nat.le_of_ble_eq_true rfl, Nat.le_of_ble_eq_true rfl⟩) ⟨pcW_blind, pcW_pre hPc hKK hDc⟩ rfl rfl hl.1 rfl (lv_room (Nat.le_of_ble_eq_true rfl)) dX6_pack_5 ⟨Nat.zero_le _, Nat.zero_le _⟩) hS (fun q _ h => hFc q h) hFc (fun u t H1 locs ht hvm hw hB hz1 hk1 hS => ?_)
  have hB := va_Pto ht hB
  obtain ⟨hP, hD⟩ := jn (ws' := [(qW, .inr (6, [.ref qB, .ref qWP, .ref qWN, .ref qL0, .ref qL1])), (qWP, .inl (G.2.1, 12, .inl wP)), (qWN, .inl (G.2.1, 16, .inl q1))]) hP hD hk1 hB [2] rfl rfl rfl rfl
  generalize H1 = H at hP hS ⊢
  refine lv_iconst (v := 0) hx hb dX6_pack_8 (by decide) ?_
  refine lv_istore_n (lv' := [(1, .int 0), (0, .ref qW)]) hx hb dX6_pack_9 rfl hl (by decide) rfl (fun ls hl => ?_)
  refine lv_lconst (v := 0) hx hb dX6_pack_10 (by decide) ?_
  refine lv_lstore_n (lv' := [(2, .long 0), (1, .int 0), (0, .ref qW)]) hx hb dX6_pack_11 rfl hl (by decide) rfl (fun ls hl => ?_)
  refine lv_iconst (v := 0) hx hb dX6_pack_12 (by decide) ?_
  refine lv_istore (lv' := [(4, .int 0), (2, .long 0), (1, .int 0), (0, .ref qW)]) hx hb dX6_pack_13 hl (by decide) rfl (fun ls hl => ?_)
  have L15 : ∀ (n : Nat) (s8 : Int32) (s9 : Int64) (s10 : Int32) (s11 : Nat → Int32) (t_15 : Int64 × (Nat → Int32)) (ls : Array Slot) (H : Heap) (locs : List Loc), kloop n (fun s_ => kX6_pack_s15 F wP s_.1 s_.2.1 s_.2.2.1 s_.2.2.2) (s8, s9, s10, s11) = some t_15 → lv_has ls 6 [(0, .ref qW), (1, .int s8), (2, .long s9), (4, .int s10)] → va_P G.1 vwCl [(qW, .inr (6, [.ref qB, .ref qWP, .ref qWN, .ref qL0, .ref qL1])), (qWP, .inl (G.2.1, 12, .inl wP)), (qWN, .inl (G.2.1, 16, .inl s11))] H → va_D A [(qW, .inr (6, [.ref qB, .ref qWP, .ref qWN, .ref qL0, .ref qL1])), (qWP, .inl (G.2.1, 12, .inl wP)), (qWN, .inl (G.2.1, 16, .inl s11))] → va_S A s.heap H locs → (∀ (ls : Array Slot) (H : Heap) (locs : List Loc), lv_has ls 6 [(2, .long t_15.1)] → va_P G.1 vwCl [(qW, .inr (6, [.ref qB, .ref qWP, .ref qWN, .ref qL0, .ref qL1])), (qWP, .inl (G.2.1, 12, .inl wP)), (qWN, .inl (G.2.1, 16, .inl t_15.2))] H → va_D A [(qW, .inr (6, [.ref qB, .ref qWP, .ref qWN, .ref qL0, .ref qL1])), (qWP, .inl (G.2.1, 12, .inl wP)), (qWN, .inl (G.2.1, 16, .inl t_15.2))] → va_S A s.heap H locs → W p l e (headSpec wsX6_pack rmX6_pack).room s m ([.ref qW] : List Value).toArray below meth c H locs 0 0 Q (F0 m 82 ls [])) → W p l e (headSpec wsX6_pack rmX6_pack).room s m ([.ref qW] : List Value).toArray below meth c H locs 0 0 Q (F0 m 15 ls []) := by
    intro n
    induction n with
    | zero => 
      intro s8 s9 s10 s11 t_15 ls H locs hq hl hP hD hS kk15_82
      exact absurd hq kl_0
    | succ n ih15 =>
      intro s8 s9 s10 s11 t_15 ls H locs hq hl hP hD hS kk15_82
      obtain ⟨y_15, hq, hx15⟩ := kl_s hq
      have hq : kX6_pack_s15 F wP s8 s9 s10 s11 = some y_15 := hq
      unfold kX6_pack_s15 at hq
      refine lv_iload hx hb dX6_pack_15 (lv_at hl 3 rfl) ?_
      refine lv_bipush (v := 12) hx hb dX6_pack_17 (by decide) ?_
      refine lv_icmp_ge (tgt := 82) hx hb dX6_pack_19 (by decide) (fun c_19 => ?_) (fun c_19 => ?_)
      · have hq := k_t c_19 hq
        have et := kl_exit hq hx15
        subst et
        exact kk15_82 ls _ _ (lv_sub hl [2] rfl) hP hD hS
      · have hq := k_f c_19 hq
        refine lv_aload_n hx hb dX6_pack_22 rfl (lv_at hl 0 rfl) ?_
        refine va_get (D := G.1) (ci := 6) (v := .ref qWP) (C := RX6) (T := TX6) (N := 5) hx hb hts hi6 hown hK hP 0 rfl rfl 1 (by decide) hw1 (fun _ h9 => h9) rfl dX6_pack_23 ?_
        refine lv_iload hx hb dX6_pack_26 (lv_at hl 3 rfl) ?_
        obtain ⟨hg, hq⟩ := k_g hq
        refine va_iald hx hb hK hP 1 0 rfl rfl (ix_in hg) dX6_pack_28 ?_
        refine lv_bipush (v := 15) hx hb dX6_pack_29 (by decide) ?_
        refine lv_iand hx hb dX6_pack_31 ?_
        refine lv_istore (lv' := [(5, .int ((wP s10.toNatClampNeg) &&& 15)), (0, .ref qW), (1, .int s8), (2, .long s9), (4, .int s10)]) hx hb dX6_pack_32 hl (by decide) rfl (fun ls hl => ?_)
        refine lv_iload hx hb dX6_pack_34 (lv_at hl 0 rfl) ?_
        have J60 : ∀ (v12 : Int32) (w13 : Nat → Int32) (ls : Array Slot) (H : Heap) (locs : List Loc), kX6_pack_j60 F wP s9 s10 v12 w13 = some y_15 → lv_has ls 6 [(0, .ref qW), (1, .int v12), (2, .long s9), (4, .int s10), (5, .int ((wP s10.toNatClampNeg) &&& 15))] → va_P G.1 vwCl [(qW, .inr (6, [.ref qB, .ref qWP, .ref qWN, .ref qL0, .ref qL1])), (qWP, .inl (G.2.1, 12, .inl wP)), (qWN, .inl (G.2.1, 16, .inl w13))] H → va_D A [(qW, .inr (6, [.ref qB, .ref qWP, .ref qWN, .ref qL0, .ref qL1])), (qWP, .inl (G.2.1, 12, .inl wP)), (qWN, .inl (G.2.1, 16, .inl w13))] → va_S A s.heap H locs → W p l e (headSpec wsX6_pack rmX6_pack).room s m ([.ref qW] : List Value).toArray below meth c H locs 0 0 Q (F0 m 60 ls []) := by
          intro v12 w13 ls H locs hq hl hP hD hS
          unfold kX6_pack_j60 at hq
          refine lv_lload_n hx hb dX6_pack_60 rfl (lv_at hl 2 rfl) ?_
          refine lv_aload_n hx hb dX6_pack_61 rfl (lv_at hl 0 rfl) ?_
          refine va_get (D := G.1) (ci := 6) (v := .ref qWN) (C := RX6) (T := TX6) (N := 5) hx hb hts hi6 hown hK hP 0 rfl rfl 2 (by decide) hw0 (fun _ h9 => h9) rfl dX6_pack_62 ?_
          refine lv_iload hx hb dX6_pack_65 (lv_at hl 4 rfl) ?_
          obtain ⟨hg, hq⟩ := k_g hq
          refine va_iald hx hb hK hP 2 0 rfl rfl (ix_in hg) dX6_pack_67 ?_
          refine lv_i2l hx hb dX6_pack_68 rfl ?_
          refine lv_iconst (v := 4) hx hb dX6_pack_69 (by decide) ?_
          refine lv_iload hx hb dX6_pack_70 (lv_at hl 3 rfl) ?_
          refine lv_imul hx hb dX6_pack_72 ?_
          refine lv_lshl hx hb dX6_pack_73 rfl ?_
          refine lv_lor hx hb dX6_pack_74 ?_
          refine lv_lstore_n (lv' := [(2, .long (s9 ||| (((w13 ((wP s10.toNatClampNeg) &&& 15).toNatClampNeg).toInt64) <<< ((4 * s10).toInt64 &&& 63)))), (0, .ref qW), (1, .int v12), (4, .int s10), (5, .int ((wP s10.toNatClampNeg) &&& 15))]) hx hb dX6_pack_75 rfl hl (by decide) rfl (fun ls hl => ?_)
          refine lv_iinc (v := (s10 + 1)) (lv' := [(4, .int (s10 + 1)), (2, .long (s9 ||| (((w13 ((wP s10.toNatClampNeg) &&& 15).toNatClampNeg).toInt64) <<< ((4 * s10).toInt64 &&& 63)))), (0, .ref qW), (1, .int v12), (5, .int ((wP s10.toNatClampNeg) &&& 15))]) hx hb dX6_pack_76 hl (k := 3) rfl rfl (by decide) rfl (fun ls hl => ?_)
          refine lv_goto (tgt := 15) hx hb dX6_pack_79 (by decide) ?_
          exact ih15 v12 (s9 ||| (((w13 ((wP s10.toNatClampNeg) &&& 15).toNatClampNeg).toInt64) <<< ((4 * s10).toInt64 &&& 63))) (s10 + 1) w13 t_15 ls _ _ (kl_back hq hx15) (lv_sub hl [2, 3, 1, 0] rfl) hP hD hS kk15_82
        refine lv_if_eq (tgt := 60) hx hb dX6_pack_36 (by decide) (fun c_36 => ?_) (fun c_36 => ?_)
        · have hq := k_t c_36 hq
          exact J60 s8 s11 ls _ _ hq (lv_sub hl [1, 2, 3, 4, 0] rfl) hP hD hS
        · have hq := k_f c_36 hq
          refine lv_aload_n hx hb dX6_pack_39 rfl (lv_at hl 1 rfl) ?_
          refine va_get (D := G.1) (ci := 6) (v := .ref qWN) (C := RX6) (T := TX6) (N := 5) hx hb hts hi6 hown hK hP 0 rfl rfl 2 (by decide) hw0 (fun _ h9 => h9) rfl dX6_pack_40 ?_
          refine lv_iload hx hb dX6_pack_43 (lv_at hl 0 rfl) ?_
          obtain ⟨hg, hq⟩ := k_g hq
          refine va_iald hx hb hK hP 2 0 rfl rfl (ix_in hg) dX6_pack_45 ?_
          refine lv_if_ne (tgt := 60) hx hb dX6_pack_46 (by decide) (fun c_46 => ?_) (fun c_46 => ?_)
          · have hq := k_f c_46 hq
            exact J60 s8 s11 ls _ _ hq (lv_sub hl [1, 2, 3, 4, 0] rfl) hP hD hS
          · have hq := k_t c_46 hq
            refine lv_iinc (v := (s8 + 1)) (lv' := [(1, .int (s8 + 1)), (5, .int ((wP s10.toNatClampNeg) &&& 15)), (0, .ref qW), (2, .long s9), (4, .int s10)]) hx hb dX6_pack_49 hl (k := 2) rfl rfl (by decide) rfl (fun ls hl => ?_)
            refine lv_aload_n hx hb dX6_pack_52 rfl (lv_at hl 2 rfl) ?_
            refine va_get (D := G.1) (ci := 6) (v := .ref qWN) (C := RX6) (T := TX6) (N := 5) hx hb hts hi6 hown hK hP 0 rfl rfl 2 (by decide) hw0 (fun _ h9 => h9) rfl dX6_pack_53 ?_
            refine lv_iload hx hb dX6_pack_56 (lv_at hl 1 rfl) ?_
            refine lv_iload_n hx hb dX6_pack_58 rfl (lv_at hl 0 rfl) ?_
            obtain ⟨hg, hq⟩ := k_g hq
            refine va_iast hx hb hK hP hD hS 2 0 rfl rfl (ix_in hg) dX6_pack_59 (fun H locs hP hD hS => ?_)
            have hP : va_P G.1 vwCl [(qW, .inr (6, [.ref qB, .ref qWP, .ref qWN, .ref qL0, .ref qL1])), (qWP, .inl (G.2.1, 12, .inl wP)), (qWN, .inl (G.2.1, 16, .inl (upd s11 ((wP s10.toNatClampNeg) &&& 15).toNatClampNeg (s8 + 1))))] H := hP
            have hD : va_D A [(qW, .inr (6, [.ref qB, .ref qWP, .ref qWN, .ref qL0, .ref qL1])), (qWP, .inl (G.2.1, 12, .inl wP)), (qWN, .inl (G.2.1, 16, .inl (upd s11 ((wP s10.toNatClampNeg) &&& 15).toNatClampNeg (s8 + 1))))] := hD
            exact J60 (s8 + 1) (upd s11 ((wP s10.toNatClampNeg) &&& 15).toNatClampNeg (s8 + 1)) ls _ _ hq (lv_sub hl [2, 0, 3, 4, 1] rfl) hP hD hS
  obtain ⟨q14, eq14, hq⟩ := ob hq
  refine L15 F 0 0 0 q1 q14 ls _ _ (eq14) (lv_sub hl [3, 2, 1, 0] rfl) hP hD hS (fun ls H locs hl hP hD hS => ?_)
  · refine lv_lload_n hx hb dX6_pack_82 rfl (lv_at hl 0 rfl) ?_
    obtain rfl := Option.some.inj hq
    rw [hQ]
    exact W.lret hx hb hr (fun t ht hW => ⟨⟨_, (), rfl, rfl, va_Pat ht hP⟩, hS.F ht⟩) hS.2.2 dX6_pack_83

abbrev rmX6_take : Room := { frames := 1, cells := 0, slots := 0, locals := 22 }
set_option maxHeartbeats 40000000 in
set_option maxRecDepth 100000 in
theorem tX6_take (G : GG) (l : Launch) {qW qB qWP qWN qL0 qL1 : Nat} {wP : Nat → Int32} {x1 : Int32} {x2 : Int32} {sz : Nat} {F : Nat} {r : Int32 × (Nat → Int32)} (hq : kX6_take F wP x1 x2 = some r) : Met l yX6_take wsX6_take rmX6_take (pcW G [(qW, .inr (6, [.ref qB, .ref qWP, .ref qWN, .ref qL0, .ref qL1])), (qWP, .inl (G.2.1, 12, .inl wP))] sz [.ref qW, .int x1, .int x2]) (qcI G r.1 [(qW, .inr (6, [.ref qB, .ref qWP, .ref qWN, .ref qL0, .ref qL1])), (qWP, .inl (G.2.1, 12, .inl r.2))] (va_A [(qW, .inr (6, [.ref qB, .ref qWP, .ref qWN, .ref qL0, .ref qL1])), (qWP, .inl (G.2.1, 12, .inl wP))] sz)) 0 0 (va_A [(qW, .inr (6, [.ref qB, .ref qWP, .ref qWN, .ref qL0, .ref qL1])), (qWP, .inl (G.2.1, 12, .inl wP))] sz) := by
  refine Met.ofW (cc := cX6_take) (maxL := 5) (ret := (some .boolean)) (by decide) rfl ?_
  intro p e s m args below meth c s₁ B hml hv
  obtain ⟨rfl, hsz, hP, hKK, hD0⟩ := hv
  have hK := hKK.1
  have hx := B.exec
  have hb := B.bytes
  have hr := B.returns
  have hts := atoms_spec (ws := wsX6_take) B.pre
  have hown : s.vm.findClass RX6 = some m.cls := findClass_of_methodNamed B.named
  have hlocks := B.notSynchronized
  subst hsz
  have hD := hD0.self (sz := s.heap.size)
  generalize hAe : va_A [(qW, .inr (6, [.ref qB, .ref qWP, .ref qWN, .ref qL0, .ref qL1])), (qWP, .inl (G.2.1, 12, .inl wP))] s.heap.size = A at hD ⊢
  have hA : ∀ q : Nat, s.heap.size ≤ q → A q := fun q h => by rw [← hAe]; exact Or.inr h
  have hS : va_S A s.heap s.heap [] := va_S.rf
  have hl := lv_entry ([.ref qW, .int x1, .int x2] : List Value) (n := 5) (Nat.le_of_ble_eq_true rfl)
  rw [lg_entry_eq]
  generalize (lg_sl ([.ref qW, .int x1, .int x2] : List Value) ++ List.replicate (5 - (lg_sl ([.ref qW, .int x1, .int x2] : List Value)).length) Slot.unset).toArray = ls at hl ⊢
  have hl : lv_has ls 5 [(0, .ref qW), (1, .int x1), (2, .int x2)] := hl
  have hi6 : ∀ w ∈ u_ws RX6 TX6 5, w ∈ wsX6_take := by decide +kernel
  have hw0 : (Cond.fieldLink RX6 11 "NetPlumber$Sweep" "places" "[I").before #[Value.ref qW, Value.int x1, Value.int x2] s = true := hts _ (by decide +kernel)
  have hw1 : (Cond.initialized RX7).before #[Value.ref qW, Value.int x1, Value.int x2] s = true := hts _ (by decide +kernel)
  have hw2 : (Cond.static yX7_at).before #[Value.ref qW, Value.int x1, Value.int x2] s = true := hts _ (by decide +kernel)
  refine wq (fun Q hQ => ?_)
  unfold kX6_take at hq
  refine lv_aload_n hx hb dX6_take_0 rfl (lv_at hl 0 rfl) ?_
  refine va_get (D := G.1) (ci := 6) (v := .ref qWP) (C := RX6) (T := TX6) (N := 5) hx hb hts hi6 hown hK hP 0 rfl rfl 1 (by decide) hw0 (fun _ h9 => h9) rfl dX6_take_1 ?_
  refine lv_iload_n hx hb dX6_take_4 rfl (lv_at hl 1 rfl) ?_
  obtain ⟨q1, eq1, hq⟩ := ob hq
  have hPc := hP.sub (ws' := [(qWP, .inl (G.2.1, 12, .inl wP))]) [1] rfl
  refine vp_callSi (va_Run.run (va_runSN (As := [.ref qWP, .int x1]) (rest := []) ⟨hx, hb, hml, hown, hts⟩ (tX7_at G l eq1) ⟨va_cnB 2 hts gX6_take_X7_at_n107 rfl rfl rfl (hKK.2 _ (List.mem_of_getElem? (i := 19) rfl)) hw1 (by decide +kernel) ⟨Nat.le_of_ble_eq_true rfl, Nat.le_of_ble_eq_true rfl⟩, hw2, trivial⟩ ⟨pcP_blind, pcP_pre hPc hKK⟩ rfl rfl hl.1 rfl (lv_room (Nat.le_of_ble_eq_true rfl)) dX6_take_5 ⟨Nat.zero_le _, Nat.zero_le _⟩)) (fun r0 hr0 => ?_)
  obtain rfl := hr0
  refine lv_istore_n (lv' := [(3, .int q1), (0, .ref qW), (1, .int x1), (2, .int x2)]) hx hb dX6_take_8 rfl hl (by decide) rfl (fun ls hl => ?_)
  refine lv_iload_n hx hb dX6_take_9 rfl (lv_at hl 0 rfl) ?_
  refine lv_bipush (v := 15) hx hb dX6_take_10 (by decide) ?_
  refine lv_icmp_eq (tgt := 28) hx hb dX6_take_12 (by decide) (fun c_12 => ?_) (fun c_12 => ?_)
  · have hq := k_t c_12 hq
    refine lv_iconst (v := 0) hx hb dX6_take_28 (by decide) ?_
    obtain rfl := Option.some.inj hq
    rw [hQ]
    exact W.zret hx hb hr rfl (fun t ht hW => ⟨⟨_, (), rfl, rfl, va_Pat ht hP⟩, hS.F ht⟩) hS.2.2 dX6_take_29
  · have hq := k_f c_12 hq
    refine lv_iload_n hx hb dX6_take_15 rfl (lv_at hl 3 rfl) ?_
    refine lv_iload_n hx hb dX6_take_16 rfl (lv_at hl 0 rfl) ?_
    have J25 : ∀ (v2 : Int32) (ls : Array Slot) (H : Heap) (locs : List Loc), kX6_take_j25 F wP x1 x2 q1 v2 = some r → lv_has ls 5 [(0, .ref qW), (1, .int x1), (2, .int x2), (3, .int q1)] → va_P G.1 vwCl [(qW, .inr (6, [.ref qB, .ref qWP, .ref qWN, .ref qL0, .ref qL1])), (qWP, .inl (G.2.1, 12, .inl wP))] H → va_D A [(qW, .inr (6, [.ref qB, .ref qWP, .ref qWN, .ref qL0, .ref qL1])), (qWP, .inl (G.2.1, 12, .inl wP))] → va_S A s.heap H locs → W p l e (headSpec wsX6_take rmX6_take).room s m ([.ref qW, .int x1, .int x2] : List Value).toArray below meth c H locs 0 0 Q (F0 m 25 ls [.int v2, .int x2]) := by
      intro v2 ls H locs hq hl hP hD hS
      unfold kX6_take_j25 at hq
      refine lv_icmp_eq (tgt := 30) hx hb dX6_take_25 (by decide) (fun c_25 => ?_) (fun c_25 => ?_)
      · have hq := k_t c_25 hq
        refine lv_iconst (v := 0) hx hb dX6_take_30 (by decide) ?_
        refine lv_istore (lv' := [(4, .int 0), (0, .ref qW), (1, .int x1), (2, .int x2), (3, .int q1)]) hx hb dX6_take_31 hl (by decide) rfl (fun ls hl => ?_)
        have L33 : ∀ (n : Nat) (s10 : Int32) (s11 : Nat → Int32) (t_33 : Nat → Int32) (ls : Array Slot) (H : Heap) (locs : List Loc), kloop n (fun s_ => kX6_take_s33 F x2 q1 s_.1 s_.2) (s10, s11) = some t_33 → lv_has ls 5 [(0, .ref qW), (1, .int x1), (2, .int x2), (3, .int q1), (4, .int s10)] → va_P G.1 vwCl [(qW, .inr (6, [.ref qB, .ref qWP, .ref qWN, .ref qL0, .ref qL1])), (qWP, .inl (G.2.1, 12, .inl s11))] H → va_D A [(qW, .inr (6, [.ref qB, .ref qWP, .ref qWN, .ref qL0, .ref qL1])), (qWP, .inl (G.2.1, 12, .inl s11))] → va_S A s.heap H locs → (∀ (ls : Array Slot) (H : Heap) (locs : List Loc), lv_has ls 5 [(0, .ref qW), (1, .int x1)] → va_P G.1 vwCl [(qW, .inr (6, [.ref qB, .ref qWP, .ref qWN, .ref qL0, .ref qL1])), (qWP, .inl (G.2.1, 12, .inl t_33))] H → va_D A [(qW, .inr (6, [.ref qB, .ref qWP, .ref qWN, .ref qL0, .ref qL1])), (qWP, .inl (G.2.1, 12, .inl t_33))] → va_S A s.heap H locs → W p l e (headSpec wsX6_take rmX6_take).room s m ([.ref qW, .int x1, .int x2] : List Value).toArray below meth c H locs 0 0 Q (F0 m 70 ls [])) → W p l e (headSpec wsX6_take rmX6_take).room s m ([.ref qW, .int x1, .int x2] : List Value).toArray below meth c H locs 0 0 Q (F0 m 33 ls []) := by
          intro n
          induction n with
          | zero => 
            intro s10 s11 t_33 ls H locs hq hl hP hD hS kk33_70
            exact absurd hq kl_0
          | succ n ih33 =>
            intro s10 s11 t_33 ls H locs hq hl hP hD hS kk33_70
            obtain ⟨y_33, hq, hx33⟩ := kl_s hq
            have hq : kX6_take_s33 F x2 q1 s10 s11 = some y_33 := hq
            unfold kX6_take_s33 at hq
            refine lv_iload hx hb dX6_take_33 (lv_at hl 4 rfl) ?_
            refine lv_bipush (v := 12) hx hb dX6_take_35 (by decide) ?_
            refine lv_icmp_ge (tgt := 70) hx hb dX6_take_37 (by decide) (fun c_37 => ?_) (fun c_37 => ?_)
            · have hq := k_t c_37 hq
              have et := kl_exit hq hx33
              subst et
              exact kk33_70 ls _ _ (lv_sub hl [0, 1] rfl) hP hD hS
            · have hq := k_f c_37 hq
              refine lv_iload_n hx hb dX6_take_40 rfl (lv_at hl 2 rfl) ?_
              refine lv_if_eq (tgt := 64) hx hb dX6_take_41 (by decide) (fun c_41 => ?_) (fun c_41 => ?_)
              · have hq := k_t c_41 hq
                refine lv_iinc (v := (s10 + 1)) (lv' := [(4, .int (s10 + 1)), (0, .ref qW), (1, .int x1), (2, .int x2), (3, .int q1)]) hx hb dX6_take_64 hl (k := 4) rfl rfl (by decide) rfl (fun ls hl => ?_)
                refine lv_goto (tgt := 33) hx hb dX6_take_67 (by decide) ?_
                exact ih33 (s10 + 1) s11 t_33 ls _ _ (kl_back hq hx33) (lv_sub hl [1, 2, 3, 4, 0] rfl) hP hD hS kk33_70
              · have hq := k_f c_41 hq
                refine lv_aload_n hx hb dX6_take_44 rfl (lv_at hl 0 rfl) ?_
                refine va_get (D := G.1) (ci := 6) (v := .ref qWP) (C := RX6) (T := TX6) (N := 5) hx hb hts hi6 hown hK hP 0 rfl rfl 1 (by decide) hw0 (fun _ h9 => h9) rfl dX6_take_45 ?_
                refine lv_iload hx hb dX6_take_48 (lv_at hl 4 rfl) ?_
                obtain ⟨hg, hq⟩ := k_g hq
                refine va_iald hx hb hK hP 1 0 rfl rfl (ix_in hg) dX6_take_50 ?_
                refine lv_iload_n hx hb dX6_take_51 rfl (lv_at hl 3 rfl) ?_
                refine lv_icmp_ne (tgt := 64) hx hb dX6_take_52 (by decide) (fun c_52 => ?_) (fun c_52 => ?_)
                · have hq := k_f c_52 hq
                  refine lv_iinc (v := (s10 + 1)) (lv' := [(4, .int (s10 + 1)), (0, .ref qW), (1, .int x1), (2, .int x2), (3, .int q1)]) hx hb dX6_take_64 hl (k := 4) rfl rfl (by decide) rfl (fun ls hl => ?_)
                  refine lv_goto (tgt := 33) hx hb dX6_take_67 (by decide) ?_
                  exact ih33 (s10 + 1) s11 t_33 ls _ _ (kl_back hq hx33) (lv_sub hl [1, 2, 3, 4, 0] rfl) hP hD hS kk33_70
                · have hq := k_t c_52 hq
                  refine lv_aload_n hx hb dX6_take_55 rfl (lv_at hl 0 rfl) ?_
                  refine va_get (D := G.1) (ci := 6) (v := .ref qWP) (C := RX6) (T := TX6) (N := 5) hx hb hts hi6 hown hK hP 0 rfl rfl 1 (by decide) hw0 (fun _ h9 => h9) rfl dX6_take_56 ?_
                  refine lv_iload hx hb dX6_take_59 (lv_at hl 4 rfl) ?_
                  refine lv_bipush (v := 15) hx hb dX6_take_61 (by decide) ?_
                  obtain ⟨hg, hq⟩ := k_g hq
                  refine va_iast hx hb hK hP hD hS 1 0 rfl rfl (ix_in hg) dX6_take_63 (fun H locs hP hD hS => ?_)
                  have hP : va_P G.1 vwCl [(qW, .inr (6, [.ref qB, .ref qWP, .ref qWN, .ref qL0, .ref qL1])), (qWP, .inl (G.2.1, 12, .inl (upd s11 s10.toNatClampNeg 15)))] H := hP
                  have hD : va_D A [(qW, .inr (6, [.ref qB, .ref qWP, .ref qWN, .ref qL0, .ref qL1])), (qWP, .inl (G.2.1, 12, .inl (upd s11 s10.toNatClampNeg 15)))] := hD
                  refine lv_iinc (v := (s10 + 1)) (lv' := [(4, .int (s10 + 1)), (0, .ref qW), (1, .int x1), (2, .int x2), (3, .int q1)]) hx hb dX6_take_64 hl (k := 4) rfl rfl (by decide) rfl (fun ls hl => ?_)
                  refine lv_goto (tgt := 33) hx hb dX6_take_67 (by decide) ?_
                  exact ih33 (s10 + 1) (upd s11 s10.toNatClampNeg 15) t_33 ls _ _ (kl_back hq hx33) (lv_sub hl [1, 2, 3, 4, 0] rfl) hP hD hS kk33_70
        obtain ⟨q14, eq14, hq⟩ := ob hq
        refine L33 F 0 wP q14 ls _ _ (eq14) (lv_sub hl [1, 2, 3, 4, 0] rfl) hP hD hS (fun ls H locs hl hP hD hS => ?_)
        · refine lv_aload_n hx hb dX6_take_70 rfl (lv_at hl 0 rfl) ?_
          refine lv_iload_n hx hb dX6_take_71 rfl (lv_at hl 1 rfl) ?_
          refine lv_iconst (v := 0) hx hb dX6_take_72 (by decide) ?_
          obtain ⟨q15, eq15, hq⟩ := ob hq
          have hPc := hP.sub (ws' := [(qW, .inr (6, [.ref qB, .ref qWP, .ref qWN, .ref qL0, .ref qL1])), (qWP, .inl (G.2.1, 12, .inl q14))]) [0, 1] rfl
          have hKc := hK
          have hDc := hD.sub (ws' := [(qW, .inr (6, [.ref qB, .ref qWP, .ref qWN, .ref qL0, .ref qL1])), (qWP, .inl (G.2.1, 12, .inl q14))]) [0, 1] (by decide) rfl
          have hFc := va_free (wc := [(qW, .inr (6, [.ref qB, .ref qWP, .ref qWN, .ref qL0, .ref qL1])), (qWP, .inl (G.2.1, 12, .inl q14))]) hD hS hA [0, 1] rfl
          refine va_callv (va_runV (As := [.int x1, .int 0]) (rest := []) ⟨hx, hb, hml, hown, hts⟩ (tX6_put G l eq15) (cwV 2 hts gX6_take_X6_put rfl rfl rfl (by decide +kernel) ⟨Nat.le_of_ble_eq_true rfl, Nat.le_of_ble_eq_true rfl⟩) ⟨pcW_blind, va_recv hKc hPc (ci := 6) (q0 := 0) rfl rfl, pcW_pre hPc hKK hDc⟩ rfl rfl hl.1 rfl (lv_room (Nat.le_of_ble_eq_true rfl)) dX6_take_73 ⟨Nat.zero_le _, Nat.zero_le _⟩) hS (fun q _ h => hFc q h) hFc (fun u t H1 locs ht hvm hw hB hz1 hk1 hS => ?_)
          have hB := va_Pto ht hB
          obtain ⟨hP, hD⟩ := jn (ws' := [(qW, .inr (6, [.ref qB, .ref qWP, .ref qWN, .ref qL0, .ref qL1])), (qWP, .inl (G.2.1, 12, .inl q15))]) hP hD hk1 hB [0, 1] rfl rfl rfl rfl
          generalize H1 = H at hP hS ⊢
          refine lv_iconst (v := 1) hx hb dX6_take_76 (by decide) ?_
          obtain rfl := Option.some.inj hq
          rw [hQ]
          exact W.zret hx hb hr rfl (fun t ht hW => ⟨⟨_, (), rfl, rfl, va_Pat ht hP⟩, hS.F ht⟩) hS.2.2 dX6_take_77
      · have hq := k_f c_25 hq
        refine lv_iconst (v := 0) hx hb dX6_take_28 (by decide) ?_
        obtain rfl := Option.some.inj hq
        rw [hQ]
        exact W.zret hx hb hr rfl (fun t ht hW => ⟨⟨_, (), rfl, rfl, va_Pat ht hP⟩, hS.F ht⟩) hS.2.2 dX6_take_29
    refine lv_if_eq (tgt := 24) hx hb dX6_take_17 (by decide) (fun c_17 => ?_) (fun c_17 => ?_)
    · have hq := k_t c_17 hq
      refine lv_iconst (v := 0) hx hb dX6_take_24 (by decide) ?_
      exact J25 0 ls _ _ hq (lv_sub hl [1, 2, 3, 0] rfl) hP hD hS
    · have hq := k_f c_17 hq
      refine lv_iconst (v := 1) hx hb dX6_take_20 (by decide) ?_
      refine lv_goto (tgt := 25) hx hb dX6_take_21 (by decide) ?_
      exact J25 1 ls _ _ hq (lv_sub hl [1, 2, 3, 0] rfl) hP hD hS

abbrev rmX6_placeOf : Room := { frames := 2, cells := 0, slots := 0, locals := 42 }
set_option maxHeartbeats 40000000 in
set_option maxRecDepth 100000 in
theorem tX6_placeOf (G : GG) (l : Launch) {qB qBT qBC qBN qBW qBL qW qWP qWN qL0 qL1 : Nat} {bn : Int32} {bk : Int32} {bs : Int32} {bC : Nat → Int32} {bN : Nat → Int32} {x1 : Int32} {x2 : Int32} {F : Nat} {r : Int32} (hq : kX6_placeOf F bC bN x1 x2 = some r) : Met l yX6_placeOf wsX6_placeOf rmX6_placeOf (pcP G [(qB, .inr (0, [.ref qBT, .ref qBC, .ref qBN, .ref qBW, .ref qBL, .int bn, .int bk, .int bs])), (qBC, .inl (G.2.1, 16, .inl bC)), (qBN, .inl (G.2.1, 64, .inl bN)), (qW, .inr (6, [.ref qB, .ref qWP, .ref qWN, .ref qL0, .ref qL1]))] [.ref qW, .int x1, .int x2]) (vp_Si (fun x => r = x)) 0 0 (fun _ => False) := by
  refine Met.ofW (cc := cX6_placeOf) (maxL := 6) (ret := (some .int)) (by decide) rfl ?_
  intro p e s m args below meth c s₁ B hml hv
  obtain ⟨rfl, hP, hKK⟩ := hv
  have hK := hKK.1
  have hx := B.exec
  have hb := B.bytes
  have hr := B.returns
  have hts := atoms_spec (ws := wsX6_placeOf) B.pre
  have hown : s.vm.findClass RX6 = some m.cls := findClass_of_methodNamed B.named
  have hlocks := B.notSynchronized
  have hl := lv_entry ([.ref qW, .int x1, .int x2] : List Value) (n := 6) (Nat.le_of_ble_eq_true rfl)
  rw [lg_entry_eq]
  generalize (lg_sl ([.ref qW, .int x1, .int x2] : List Value) ++ List.replicate (6 - (lg_sl ([.ref qW, .int x1, .int x2] : List Value)).length) Slot.unset).toArray = ls at hl ⊢
  have hl : lv_has ls 6 [(0, .ref qW), (1, .int x1), (2, .int x2)] := hl
  have hi6 : ∀ w ∈ u_ws RX6 TX6 5, w ∈ wsX6_placeOf := by decide +kernel
  have hw0 : (Cond.fieldLink RX6 28 "NetPlumber$Sweep" "board" "LNetPlumber$Board;").before #[Value.ref qW, Value.int x1, Value.int x2] s = true := hts _ (by decide +kernel)
  refine wq (fun Q hQ => ?_)
  unfold kX6_placeOf at hq
  refine lv_aload_n hx hb dX6_placeOf_0 rfl (lv_at hl 0 rfl) ?_
  refine va_get (D := G.1) (ci := 6) (v := .ref qB) (C := RX6) (T := TX6) (N := 5) hx hb hts hi6 hown hK hP 3 rfl rfl 0 (by decide) hw0 (fun _ h9 => h9) rfl dX6_placeOf_1 ?_
  refine lv_iload_n hx hb dX6_placeOf_4 rfl (lv_at hl 1 rfl) ?_
  refine lv_iload_n hx hb dX6_placeOf_5 rfl (lv_at hl 2 rfl) ?_
  obtain ⟨q1, eq1, hq⟩ := ob hq
  have hPc := hP.sub (ws' := [(qB, .inr (0, [.ref qBT, .ref qBC, .ref qBN, .ref qBW, .ref qBL, .int bn, .int bk, .int bs])), (qBN, .inl (G.2.1, 64, .inl bN))]) [0, 2] rfl
  have hKc := hK
  refine vp_callSi (va_Run.run (va_runV (As := [.int x1, .int x2]) (rest := []) ⟨hx, hb, hml, hown, hts⟩ (tX0_beside G l eq1) (cwV 2 hts gX6_placeOf_X0_beside rfl rfl rfl (by decide +kernel) ⟨Nat.le_of_ble_eq_true rfl, Nat.le_of_ble_eq_true rfl⟩) ⟨pcP_blind, va_recv hKc hPc (ci := 0) (q0 := 0) rfl rfl, pcP_pre hPc hKK⟩ rfl rfl hl.1 rfl (lv_room (Nat.le_of_ble_eq_true rfl)) dX6_placeOf_6 ⟨Nat.zero_le _, Nat.zero_le _⟩)) (fun r0 hr0 => ?_)
  obtain rfl := hr0
  refine lv_iload_n hx hb dX6_placeOf_9 rfl (lv_at hl 1 rfl) ?_
  have J18 : ∀ (v2 : Int32) (ls : Array Slot), kX6_placeOf_j18 F bC x1 x2 v2 = some r → lv_has ls 6 [(0, .ref qW), (1, .int x1), (2, .int x2)] → va_P G.1 vwCl [(qB, .inr (0, [.ref qBT, .ref qBC, .ref qBN, .ref qBW, .ref qBL, .int bn, .int bk, .int bs])), (qBC, .inl (G.2.1, 16, .inl bC)), (qBN, .inl (G.2.1, 64, .inl bN)), (qW, .inr (6, [.ref qB, .ref qWP, .ref qWN, .ref qL0, .ref qL1]))] s.heap → W p l e (headSpec wsX6_placeOf rmX6_placeOf).room s m ([.ref qW, .int x1, .int x2] : List Value).toArray below meth c s.heap [] 0 0 Q (F0 m 18 ls [.int v2]) := by
    intro v2 ls hq hl hP
    unfold kX6_placeOf_j18 at hq
    refine lv_istore_n (lv' := [(3, .int v2), (0, .ref qW), (1, .int x1), (2, .int x2)]) hx hb dX6_placeOf_18 rfl hl (by decide) rfl (fun ls hl => ?_)
    refine lv_iload_n hx hb dX6_placeOf_19 rfl (lv_at hl 0 rfl) ?_
    refine lv_iload_n hx hb dX6_placeOf_20 rfl (lv_at hl 3 rfl) ?_
    refine lv_iconst (v := 1) hx hb dX6_placeOf_21 (by decide) ?_
    have J35 : ∀ (v3 : Int32) (ls : Array Slot), kX6_placeOf_j35 F bC x1 x2 v2 v3 = some r → lv_has ls 6 [(0, .ref qW), (1, .int x1), (2, .int x2)] → va_P G.1 vwCl [(qB, .inr (0, [.ref qBT, .ref qBC, .ref qBN, .ref qBW, .ref qBL, .int bn, .int bk, .int bs])), (qBC, .inl (G.2.1, 16, .inl bC)), (qBN, .inl (G.2.1, 64, .inl bN)), (qW, .inr (6, [.ref qB, .ref qWP, .ref qWN, .ref qL0, .ref qL1]))] s.heap → W p l e (headSpec wsX6_placeOf rmX6_placeOf).room s m ([.ref qW, .int x1, .int x2] : List Value).toArray below meth c s.heap [] 0 0 Q (F0 m 35 ls [.int v3, .int v2]) := by
      intro v3 ls hq hl hP
      unfold kX6_placeOf_j35 at hq
      have J43 : ∀ (v4 : Int32) (ls : Array Slot), kX6_placeOf_j43 F bC x1 x2 v4 = some r → lv_has ls 6 [(0, .ref qW), (1, .int x1), (2, .int x2)] → va_P G.1 vwCl [(qB, .inr (0, [.ref qBT, .ref qBC, .ref qBN, .ref qBW, .ref qBL, .int bn, .int bk, .int bs])), (qBC, .inl (G.2.1, 16, .inl bC)), (qBN, .inl (G.2.1, 64, .inl bN)), (qW, .inr (6, [.ref qB, .ref qWP, .ref qWN, .ref qL0, .ref qL1]))] s.heap → W p l e (headSpec wsX6_placeOf rmX6_placeOf).room s m ([.ref qW, .int x1, .int x2] : List Value).toArray below meth c s.heap [] 0 0 Q (F0 m 43 ls [.int v4]) := by
        intro v4 ls hq hl hP
        unfold kX6_placeOf_j43 at hq
        refine lv_istore (lv' := [(4, .int v4), (0, .ref qW), (1, .int x1), (2, .int x2)]) hx hb dX6_placeOf_43 hl (by decide) rfl (fun ls hl => ?_)
        refine lv_iload_n hx hb dX6_placeOf_45 rfl (lv_at hl 3 rfl) ?_
        have J66 : ∀ (v7 : Int32) (ls : Array Slot), kX6_placeOf_j66 F v4 v7 = some r → lv_has ls 6 [(4, .int v4)] → va_P G.1 vwCl [(qB, .inr (0, [.ref qBT, .ref qBC, .ref qBN, .ref qBW, .ref qBL, .int bn, .int bk, .int bs])), (qBC, .inl (G.2.1, 16, .inl bC)), (qBN, .inl (G.2.1, 64, .inl bN)), (qW, .inr (6, [.ref qB, .ref qWP, .ref qWN, .ref qL0, .ref qL1]))] s.heap → W p l e (headSpec wsX6_placeOf rmX6_placeOf).room s m ([.ref qW, .int x1, .int x2] : List Value).toArray below meth c s.heap [] 0 0 Q (F0 m 66 ls [.int v7]) := by
          intro v7 ls hq hl hP
          unfold kX6_placeOf_j66 at hq
          refine lv_istore (lv' := [(5, .int v7), (4, .int v4)]) hx hb dX6_placeOf_66 hl (by decide) rfl (fun ls hl => ?_)
          refine lv_iload hx hb dX6_placeOf_68 (lv_at hl 1 rfl) ?_
          refine lv_if_eq (tgt := 81) hx hb dX6_placeOf_70 (by decide) (fun c_70 => ?_) (fun c_70 => ?_)
          · have hq := k_t c_70 hq
            refine lv_iload hx hb dX6_placeOf_81 (lv_at hl 0 rfl) ?_
            obtain rfl := Option.some.inj hq
            rw [hQ]
            exact W.iret hx hb hr (fun t ht hW => ⟨_, rfl, rfl, ht⟩) (fun _ h => absurd h List.not_mem_nil) dX6_placeOf_83
          · have hq := k_f c_70 hq
            refine lv_iload hx hb dX6_placeOf_73 (lv_at hl 0 rfl) ?_
            refine lv_bipush (v := 6) hx hb dX6_placeOf_75 (by decide) ?_
            refine lv_iadd hx hb dX6_placeOf_77 ?_
            refine lv_goto (tgt := 83) hx hb dX6_placeOf_78 (by decide) ?_
            obtain rfl := Option.some.inj hq
            rw [hQ]
            exact W.iret hx hb hr (fun t ht hW => ⟨_, rfl, rfl, ht⟩) (fun _ h => absurd h List.not_mem_nil) dX6_placeOf_83
        refine lv_if_eq (tgt := 54) hx hb dX6_placeOf_46 (by decide) (fun c_46 => ?_) (fun c_46 => ?_)
        · have hq := k_t c_46 hq
          refine lv_aload_n hx hb dX6_placeOf_54 rfl (lv_at hl 1 rfl) ?_
          refine va_get (D := G.1) (ci := 6) (v := .ref qB) (C := RX6) (T := TX6) (N := 5) hx hb hts hi6 hown hK hP 3 rfl rfl 0 (by decide) hw0 (fun _ h9 => h9) rfl dX6_placeOf_55 ?_
          refine lv_iload_n hx hb dX6_placeOf_58 rfl (lv_at hl 2 rfl) ?_
          obtain ⟨q9, eq9, hq⟩ := ob hq
          have hPc := hP.sub (ws' := [(qB, .inr (0, [.ref qBT, .ref qBC, .ref qBN, .ref qBW, .ref qBL, .int bn, .int bk, .int bs])), (qBC, .inl (G.2.1, 16, .inl bC))]) [0, 1] rfl
          have hKc := hK
          refine vp_callSi (va_Run.run (va_runV (As := [.int x1]) (rest := []) ⟨hx, hb, hml, hown, hts⟩ (tX0_columnOf G l eq9) (cwV 1 hts gX6_placeOf_X0_columnOf rfl rfl rfl (by decide +kernel) ⟨Nat.le_of_ble_eq_true rfl, Nat.le_of_ble_eq_true rfl⟩) ⟨pcP_blind, va_recv hKc hPc (ci := 0) (q0 := 0) rfl rfl, pcP_pre hPc hKK⟩ rfl rfl hl.1 rfl (lv_room (Nat.le_of_ble_eq_true rfl)) dX6_placeOf_59 ⟨Nat.zero_le _, Nat.zero_le _⟩)) (fun r0 hr0 => ?_)
          obtain rfl := hr0
          refine lv_goto (tgt := 66) hx hb dX6_placeOf_62 (by decide) ?_
          exact J66 q9 ls hq (lv_sub hl [0] rfl) hP
        · have hq := k_f c_46 hq
          refine lv_iload_n hx hb dX6_placeOf_49 rfl (lv_at hl 3 rfl) ?_
          refine lv_iconst (v := 2) hx hb dX6_placeOf_50 (by decide) ?_
          refine lv_icmp_ne (tgt := 65) hx hb dX6_placeOf_51 (by decide) (fun c_51 => ?_) (fun c_51 => ?_)
          · have hq := k_f c_51 hq
            refine lv_iconst (v := 5) hx hb dX6_placeOf_65 (by decide) ?_
            exact J66 5 ls hq (lv_sub hl [0] rfl) hP
          · have hq := k_t c_51 hq
            refine lv_aload_n hx hb dX6_placeOf_54 rfl (lv_at hl 1 rfl) ?_
            refine va_get (D := G.1) (ci := 6) (v := .ref qB) (C := RX6) (T := TX6) (N := 5) hx hb hts hi6 hown hK hP 3 rfl rfl 0 (by decide) hw0 (fun _ h9 => h9) rfl dX6_placeOf_55 ?_
            refine lv_iload_n hx hb dX6_placeOf_58 rfl (lv_at hl 2 rfl) ?_
            obtain ⟨q10, eq10, hq⟩ := ob hq
            have hPc := hP.sub (ws' := [(qB, .inr (0, [.ref qBT, .ref qBC, .ref qBN, .ref qBW, .ref qBL, .int bn, .int bk, .int bs])), (qBC, .inl (G.2.1, 16, .inl bC))]) [0, 1] rfl
            have hKc := hK
            refine vp_callSi (va_Run.run (va_runV (As := [.int x1]) (rest := []) ⟨hx, hb, hml, hown, hts⟩ (tX0_columnOf G l eq10) (cwV 1 hts gX6_placeOf_X0_columnOf rfl rfl rfl (by decide +kernel) ⟨Nat.le_of_ble_eq_true rfl, Nat.le_of_ble_eq_true rfl⟩) ⟨pcP_blind, va_recv hKc hPc (ci := 0) (q0 := 0) rfl rfl, pcP_pre hPc hKK⟩ rfl rfl hl.1 rfl (lv_room (Nat.le_of_ble_eq_true rfl)) dX6_placeOf_59 ⟨Nat.zero_le _, Nat.zero_le _⟩)) (fun r0 hr0 => ?_)
            obtain rfl := hr0
            refine lv_goto (tgt := 66) hx hb dX6_placeOf_62 (by decide) ?_
            exact J66 q10 ls hq (lv_sub hl [0] rfl) hP
      refine lv_icmp_eq (tgt := 42) hx hb dX6_placeOf_35 (by decide) (fun c_35 => ?_) (fun c_35 => ?_)
      · have hq := k_t c_35 hq
        refine lv_iconst (v := 0) hx hb dX6_placeOf_42 (by decide) ?_
        exact J43 0 ls hq (lv_sub hl [0, 1, 2] rfl) hP
      · have hq := k_f c_35 hq
        refine lv_iconst (v := 1) hx hb dX6_placeOf_38 (by decide) ?_
        refine lv_goto (tgt := 43) hx hb dX6_placeOf_39 (by decide) ?_
        exact J43 1 ls hq (lv_sub hl [0, 1, 2] rfl) hP
    refine lv_icmp_eq (tgt := 30) hx hb dX6_placeOf_22 (by decide) (fun c_22 => ?_) (fun c_22 => ?_)
    · have hq := k_t c_22 hq
      refine lv_iconst (v := 1) hx hb dX6_placeOf_30 (by decide) ?_
      refine lv_goto (tgt := 35) hx hb dX6_placeOf_31 (by decide) ?_
      exact J35 1 ls hq (lv_sub hl [1, 2, 3] rfl) hP
    · have hq := k_f c_22 hq
      refine lv_iload_n hx hb dX6_placeOf_25 rfl (lv_at hl 3 rfl) ?_
      refine lv_iconst (v := 2) hx hb dX6_placeOf_26 (by decide) ?_
      refine lv_icmp_ne (tgt := 34) hx hb dX6_placeOf_27 (by decide) (fun c_27 => ?_) (fun c_27 => ?_)
      · have hq := k_f c_27 hq
        refine lv_iconst (v := 0) hx hb dX6_placeOf_34 (by decide) ?_
        exact J35 0 ls hq (lv_sub hl [1, 2, 3] rfl) hP
      · have hq := k_t c_27 hq
        refine lv_iconst (v := 1) hx hb dX6_placeOf_30 (by decide) ?_
        refine lv_goto (tgt := 35) hx hb dX6_placeOf_31 (by decide) ?_
        exact J35 1 ls hq (lv_sub hl [1, 2, 3] rfl) hP
  refine lv_icmp_le (tgt := 17) hx hb dX6_placeOf_10 (by decide) (fun c_10 => ?_) (fun c_10 => ?_)
  · have hq := k_t c_10 hq
    refine lv_iconst (v := 0) hx hb dX6_placeOf_17 (by decide) ?_
    exact J18 0 ls hq (lv_sub hl [0, 1, 2] rfl) hP
  · have hq := k_f c_10 hq
    refine lv_iconst (v := 1) hx hb dX6_placeOf_13 (by decide) ?_
    refine lv_goto (tgt := 18) hx hb dX6_placeOf_14 (by decide) ?_
    exact J18 1 ls hq (lv_sub hl [0, 1, 2] rfl) hP

abbrev rmX6_pass : Room := { frames := 3, cells := 0, slots := 0, locals := 67 }
set_option maxHeartbeats 40000000 in
set_option maxRecDepth 100000 in
theorem tX6_pass (G : GG) (l : Launch) {qB qBT qBC qBN qBW qBL qW qWP qWN qL0 qL1 : Nat} {bn : Int32} {bk : Int32} {bs : Int32} {bC : Nat → Int32} {bN : Nat → Int32} {bW : Nat → Int32} {wP : Nat → Int32} {x1 : Int32} {x2 : Int32} {sz : Nat} {F : Nat} {r : Int32 × (Nat → Int32)} (hq : kX6_pass F bn bC bN bW wP x1 x2 = some r) : Met l yX6_pass wsX6_pass rmX6_pass (pcW G [(qB, .inr (0, [.ref qBT, .ref qBC, .ref qBN, .ref qBW, .ref qBL, .int bn, .int bk, .int bs])), (qBC, .inl (G.2.1, 16, .inl bC)), (qBN, .inl (G.2.1, 64, .inl bN)), (qBW, .inl (G.2.1, 64, .inl bW)), (qW, .inr (6, [.ref qB, .ref qWP, .ref qWN, .ref qL0, .ref qL1])), (qWP, .inl (G.2.1, 12, .inl wP))] sz [.ref qW, .int x1, .int x2]) (qcI G r.1 [(qB, .inr (0, [.ref qBT, .ref qBC, .ref qBN, .ref qBW, .ref qBL, .int bn, .int bk, .int bs])), (qBC, .inl (G.2.1, 16, .inl bC)), (qBN, .inl (G.2.1, 64, .inl bN)), (qBW, .inl (G.2.1, 64, .inl bW)), (qW, .inr (6, [.ref qB, .ref qWP, .ref qWN, .ref qL0, .ref qL1])), (qWP, .inl (G.2.1, 12, .inl r.2))] (va_A [(qB, .inr (0, [.ref qBT, .ref qBC, .ref qBN, .ref qBW, .ref qBL, .int bn, .int bk, .int bs])), (qBC, .inl (G.2.1, 16, .inl bC)), (qBN, .inl (G.2.1, 64, .inl bN)), (qBW, .inl (G.2.1, 64, .inl bW)), (qW, .inr (6, [.ref qB, .ref qWP, .ref qWN, .ref qL0, .ref qL1])), (qWP, .inl (G.2.1, 12, .inl wP))] sz)) 0 0 (va_A [(qB, .inr (0, [.ref qBT, .ref qBC, .ref qBN, .ref qBW, .ref qBL, .int bn, .int bk, .int bs])), (qBC, .inl (G.2.1, 16, .inl bC)), (qBN, .inl (G.2.1, 64, .inl bN)), (qBW, .inl (G.2.1, 64, .inl bW)), (qW, .inr (6, [.ref qB, .ref qWP, .ref qWN, .ref qL0, .ref qL1])), (qWP, .inl (G.2.1, 12, .inl wP))] sz) := by
  refine Met.ofW (cc := cX6_pass) (maxL := 6) (ret := (some .boolean)) (by decide) rfl ?_
  intro p e s m args below meth c s₁ B hml hv
  obtain ⟨rfl, hsz, hP, hKK, hD0⟩ := hv
  have hK := hKK.1
  have hx := B.exec
  have hb := B.bytes
  have hr := B.returns
  have hts := atoms_spec (ws := wsX6_pass) B.pre
  have hown : s.vm.findClass RX6 = some m.cls := findClass_of_methodNamed B.named
  have hlocks := B.notSynchronized
  subst hsz
  have hD := hD0.self (sz := s.heap.size)
  generalize hAe : va_A [(qB, .inr (0, [.ref qBT, .ref qBC, .ref qBN, .ref qBW, .ref qBL, .int bn, .int bk, .int bs])), (qBC, .inl (G.2.1, 16, .inl bC)), (qBN, .inl (G.2.1, 64, .inl bN)), (qBW, .inl (G.2.1, 64, .inl bW)), (qW, .inr (6, [.ref qB, .ref qWP, .ref qWN, .ref qL0, .ref qL1])), (qWP, .inl (G.2.1, 12, .inl wP))] s.heap.size = A at hD ⊢
  have hA : ∀ q : Nat, s.heap.size ≤ q → A q := fun q h => by rw [← hAe]; exact Or.inr h
  have hS : va_S A s.heap s.heap [] := va_S.rf
  have hl := lv_entry ([.ref qW, .int x1, .int x2] : List Value) (n := 6) (Nat.le_of_ble_eq_true rfl)
  rw [lg_entry_eq]
  generalize (lg_sl ([.ref qW, .int x1, .int x2] : List Value) ++ List.replicate (6 - (lg_sl ([.ref qW, .int x1, .int x2] : List Value)).length) Slot.unset).toArray = ls at hl ⊢
  have hl : lv_has ls 6 [(0, .ref qW), (1, .int x1), (2, .int x2)] := hl
  have hi6 : ∀ w ∈ u_ws RX6 TX6 5, w ∈ wsX6_pass := by decide +kernel
  have hw0 : (Cond.fieldLink RX6 28 "NetPlumber$Sweep" "board" "LNetPlumber$Board;").before #[Value.ref qW, Value.int x1, Value.int x2] s = true := hts _ (by decide +kernel)
  have hw1 : (Cond.initialized RX7).before #[Value.ref qW, Value.int x1, Value.int x2] s = true := hts _ (by decide +kernel)
  have hw2 : (Cond.static yX7_holds).before #[Value.ref qW, Value.int x1, Value.int x2] s = true := hts _ (by decide +kernel)
  refine wq (fun Q hQ => ?_)
  unfold kX6_pass at hq
  refine lv_iconst (v := 0) hx hb dX6_pass_0 (by decide) ?_
  refine lv_istore_n (lv' := [(3, .int 0), (0, .ref qW), (1, .int x1), (2, .int x2)]) hx hb dX6_pass_1 rfl hl (by decide) rfl (fun ls hl => ?_)
  have L2 : ∀ (n : Nat) (s11 : Int32) (s12 : Nat → Int32) (t_2 : Nat × (Nat → Int32)) (ls : Array Slot) (H : Heap) (locs : List Loc), kloop n (fun s_ => kX6_pass_s2 F bC bN bW x1 x2 s_.1 s_.2) (s11, s12) = some t_2 → lv_has ls 6 [(0, .ref qW), (1, .int x1), (2, .int x2), (3, .int s11)] → va_P G.1 vwCl [(qB, .inr (0, [.ref qBT, .ref qBC, .ref qBN, .ref qBW, .ref qBL, .int bn, .int bk, .int bs])), (qBC, .inl (G.2.1, 16, .inl bC)), (qBN, .inl (G.2.1, 64, .inl bN)), (qBW, .inl (G.2.1, 64, .inl bW)), (qW, .inr (6, [.ref qB, .ref qWP, .ref qWN, .ref qL0, .ref qL1])), (qWP, .inl (G.2.1, 12, .inl s12))] H → va_D A [(qB, .inr (0, [.ref qBT, .ref qBC, .ref qBN, .ref qBW, .ref qBL, .int bn, .int bk, .int bs])), (qBC, .inl (G.2.1, 16, .inl bC)), (qBN, .inl (G.2.1, 64, .inl bN)), (qBW, .inl (G.2.1, 64, .inl bW)), (qW, .inr (6, [.ref qB, .ref qWP, .ref qWN, .ref qL0, .ref qL1])), (qWP, .inl (G.2.1, 12, .inl s12))] → va_S A s.heap H locs → (∀ (_ : t_2.1 = 0) (ls : Array Slot) (H : Heap) (locs : List Loc), lv_has ls 6 [] → va_P G.1 vwCl [(qB, .inr (0, [.ref qBT, .ref qBC, .ref qBN, .ref qBW, .ref qBL, .int bn, .int bk, .int bs])), (qBC, .inl (G.2.1, 16, .inl bC)), (qBN, .inl (G.2.1, 64, .inl bN)), (qBW, .inl (G.2.1, 64, .inl bW)), (qW, .inr (6, [.ref qB, .ref qWP, .ref qWN, .ref qL0, .ref qL1])), (qWP, .inl (G.2.1, 12, .inl t_2.2))] H → va_D A [(qB, .inr (0, [.ref qBT, .ref qBC, .ref qBN, .ref qBW, .ref qBL, .int bn, .int bk, .int bs])), (qBC, .inl (G.2.1, 16, .inl bC)), (qBN, .inl (G.2.1, 64, .inl bN)), (qBW, .inl (G.2.1, 64, .inl bW)), (qW, .inr (6, [.ref qB, .ref qWP, .ref qWN, .ref qL0, .ref qL1])), (qWP, .inl (G.2.1, 12, .inl t_2.2))] → va_S A s.heap H locs → W p l e (headSpec wsX6_pass rmX6_pass).room s m ([.ref qW, .int x1, .int x2] : List Value).toArray below meth c H locs 0 0 Q (F0 m 36 ls [])) → (∀ (_ : t_2.1 = 1) (ls : Array Slot) (H : Heap) (locs : List Loc), lv_has ls 6 [] → va_P G.1 vwCl [(qB, .inr (0, [.ref qBT, .ref qBC, .ref qBN, .ref qBW, .ref qBL, .int bn, .int bk, .int bs])), (qBC, .inl (G.2.1, 16, .inl bC)), (qBN, .inl (G.2.1, 64, .inl bN)), (qBW, .inl (G.2.1, 64, .inl bW)), (qW, .inr (6, [.ref qB, .ref qWP, .ref qWN, .ref qL0, .ref qL1])), (qWP, .inl (G.2.1, 12, .inl t_2.2))] H → va_D A [(qB, .inr (0, [.ref qBT, .ref qBC, .ref qBN, .ref qBW, .ref qBL, .int bn, .int bk, .int bs])), (qBC, .inl (G.2.1, 16, .inl bC)), (qBN, .inl (G.2.1, 64, .inl bN)), (qBW, .inl (G.2.1, 64, .inl bW)), (qW, .inr (6, [.ref qB, .ref qWP, .ref qWN, .ref qL0, .ref qL1])), (qWP, .inl (G.2.1, 12, .inl t_2.2))] → va_S A s.heap H locs → W p l e (headSpec wsX6_pass rmX6_pass).room s m ([.ref qW, .int x1, .int x2] : List Value).toArray below meth c H locs 0 0 Q (F0 m 65 ls [])) → (∀ (_ : t_2.1 = 2) (ls : Array Slot) (H : Heap) (locs : List Loc), lv_has ls 6 [(0, .ref qW), (1, .int x1), (2, .int x2)] → va_P G.1 vwCl [(qB, .inr (0, [.ref qBT, .ref qBC, .ref qBN, .ref qBW, .ref qBL, .int bn, .int bk, .int bs])), (qBC, .inl (G.2.1, 16, .inl bC)), (qBN, .inl (G.2.1, 64, .inl bN)), (qBW, .inl (G.2.1, 64, .inl bW)), (qW, .inr (6, [.ref qB, .ref qWP, .ref qWN, .ref qL0, .ref qL1])), (qWP, .inl (G.2.1, 12, .inl t_2.2))] H → va_D A [(qB, .inr (0, [.ref qBT, .ref qBC, .ref qBN, .ref qBW, .ref qBL, .int bn, .int bk, .int bs])), (qBC, .inl (G.2.1, 16, .inl bC)), (qBN, .inl (G.2.1, 64, .inl bN)), (qBW, .inl (G.2.1, 64, .inl bW)), (qW, .inr (6, [.ref qB, .ref qWP, .ref qWN, .ref qL0, .ref qL1])), (qWP, .inl (G.2.1, 12, .inl t_2.2))] → va_S A s.heap H locs → W p l e (headSpec wsX6_pass rmX6_pass).room s m ([.ref qW, .int x1, .int x2] : List Value).toArray below meth c H locs 0 0 Q (F0 m 73 ls [])) → W p l e (headSpec wsX6_pass rmX6_pass).room s m ([.ref qW, .int x1, .int x2] : List Value).toArray below meth c H locs 0 0 Q (F0 m 2 ls []) := by
    intro n
    induction n with
    | zero => 
      intro s11 s12 t_2 ls H locs hq hl hP hD hS kk2_36 kk2_65 kk2_73
      exact absurd hq kl_0
    | succ n ih2 =>
      intro s11 s12 t_2 ls H locs hq hl hP hD hS kk2_36 kk2_65 kk2_73
      obtain ⟨y_2, hq, hx2⟩ := kl_s hq
      have hq : kX6_pass_s2 F bC bN bW x1 x2 s11 s12 = some y_2 := hq
      unfold kX6_pass_s2 at hq
      refine lv_iload_n hx hb dX6_pass_2 rfl (lv_at hl 3 rfl) ?_
      refine lv_iconst (v := 3) hx hb dX6_pass_3 (by decide) ?_
      refine lv_icmp_gt (tgt := 73) hx hb dX6_pass_4 (by decide) (fun c_4 => ?_) (fun c_4 => ?_)
      · have hq := k_t c_4 hq
        have et := kl_exit hq hx2
        subst et
        exact kk2_73 rfl ls _ _ (lv_sub hl [0, 1, 2] rfl) hP hD hS
      · have hq := k_f c_4 hq
        refine lv_aload_n hx hb dX6_pass_7 rfl (lv_at hl 0 rfl) ?_
        refine va_get (D := G.1) (ci := 6) (v := .ref qB) (C := RX6) (T := TX6) (N := 5) hx hb hts hi6 hown hK hP 4 rfl rfl 0 (by decide) hw0 (fun _ h9 => h9) rfl dX6_pass_8 ?_
        refine lv_iload_n hx hb dX6_pass_11 rfl (lv_at hl 1 rfl) ?_
        refine lv_iload_n hx hb dX6_pass_12 rfl (lv_at hl 3 rfl) ?_
        obtain ⟨q13, eq13, hq⟩ := ob hq
        have hPc := hP.sub (ws' := [(qB, .inr (0, [.ref qBT, .ref qBC, .ref qBN, .ref qBW, .ref qBL, .int bn, .int bk, .int bs])), (qBW, .inl (G.2.1, 64, .inl bW))]) [0, 3] rfl
        have hKc := hK
        refine vp_callSi (va_Run.run (va_runV (As := [.int x1, .int s11]) (rest := []) ⟨hx, hb, hml, hown, hts⟩ (tX0_across G l eq13) (cwV 2 hts gX6_pass_X0_across rfl rfl rfl (by decide +kernel) ⟨Nat.le_of_ble_eq_true rfl, Nat.le_of_ble_eq_true rfl⟩) ⟨pcP_blind, va_recv hKc hPc (ci := 0) (q0 := 0) rfl rfl, pcP_pre hPc hKK⟩ rfl rfl hl.1 rfl (lv_room (Nat.le_of_ble_eq_true rfl)) dX6_pass_13 ⟨Nat.zero_le _, Nat.zero_le _⟩)) (fun r0 hr0 => ?_)
        obtain rfl := hr0
        refine lv_istore (lv' := [(4, .int q13), (0, .ref qW), (1, .int x1), (2, .int x2), (3, .int s11)]) hx hb dX6_pass_16 hl (by decide) rfl (fun ls hl => ?_)
        refine lv_iload_n hx hb dX6_pass_18 rfl (lv_at hl 3 rfl) ?_
        refine lv_iload_n hx hb dX6_pass_19 rfl (lv_at hl 4 rfl) ?_
        obtain ⟨q14, eq14, hq⟩ := ob hq
        have hPc := hP.sub (ws' := []) [] rfl
        refine vp_callSi (va_Run.run (va_runSN (As := [.int x2, .int s11]) (rest := []) ⟨hx, hb, hml, hown, hts⟩ (tX7_holds G l eq14) ⟨va_cnB 2 hts gX6_pass_X7_holds_n57 rfl rfl rfl (hKK.2 _ (List.mem_of_getElem? (i := 17) rfl)) hw1 (by decide +kernel) ⟨Nat.le_of_ble_eq_true rfl, Nat.le_of_ble_eq_true rfl⟩, hw2, trivial⟩ ⟨pcP_blind, pcP_pre hPc hKK⟩ rfl rfl hl.1 rfl (lv_room (Nat.le_of_ble_eq_true rfl)) dX6_pass_20 ⟨Nat.zero_le _, Nat.zero_le _⟩)) (fun r0 hr0 => ?_)
        obtain rfl := hr0
        refine lv_istore (lv' := [(5, .int q14), (4, .int q13), (0, .ref qW), (1, .int x1), (2, .int x2), (3, .int s11)]) hx hb dX6_pass_23 hl (by decide) rfl (fun ls hl => ?_)
        refine lv_iload hx hb dX6_pass_25 (lv_at hl 1 rfl) ?_
        refine lv_iconst (v := (-1)) hx hb dX6_pass_27 (by decide) ?_
        refine lv_icmp_ne (tgt := 38) hx hb dX6_pass_28 (by decide) (fun c_28 => ?_) (fun c_28 => ?_)
        · have hq := k_f c_28 hq
          refine lv_iload hx hb dX6_pass_38 (lv_at hl 1 rfl) ?_
          refine lv_iconst (v := (-1)) hx hb dX6_pass_40 (by decide) ?_
          refine lv_icmp_eq (tgt := 67) hx hb dX6_pass_41 (by decide) (fun c_41 => ?_) (fun c_41 => ?_)
          · have hq := k_t c_41 hq
            refine lv_iinc (v := (s11 + 1)) (lv' := [(3, .int (s11 + 1)), (5, .int q14), (4, .int q13), (0, .ref qW), (1, .int x1), (2, .int x2)]) hx hb dX6_pass_67 hl (k := 5) rfl rfl (by decide) rfl (fun ls hl => ?_)
            refine lv_goto (tgt := 2) hx hb dX6_pass_70 (by decide) ?_
            exact ih2 (s11 + 1) s12 t_2 ls _ _ (kl_back hq hx2) (lv_sub hl [3, 4, 5, 0] rfl) hP hD hS kk2_36 kk2_65 kk2_73
          · have hq := k_f c_41 hq
            refine lv_iload hx hb dX6_pass_44 (lv_at hl 1 rfl) ?_
            refine lv_iload_n hx hb dX6_pass_46 rfl (lv_at hl 3 rfl) ?_
            refine lv_icmp_ge (tgt := 67) hx hb dX6_pass_47 (by decide) (fun c_47 => ?_) (fun c_47 => ?_)
            · have hq := k_t c_47 hq
              refine lv_iinc (v := (s11 + 1)) (lv' := [(3, .int (s11 + 1)), (5, .int q14), (4, .int q13), (0, .ref qW), (1, .int x1), (2, .int x2)]) hx hb dX6_pass_67 hl (k := 5) rfl rfl (by decide) rfl (fun ls hl => ?_)
              refine lv_goto (tgt := 2) hx hb dX6_pass_70 (by decide) ?_
              exact ih2 (s11 + 1) s12 t_2 ls _ _ (kl_back hq hx2) (lv_sub hl [3, 4, 5, 0] rfl) hP hD hS kk2_36 kk2_65 kk2_73
            · have hq := k_f c_47 hq
              refine lv_aload_n hx hb dX6_pass_50 rfl (lv_at hl 2 rfl) ?_
              refine lv_aload_n hx hb dX6_pass_51 rfl (lv_at hl 2 rfl) ?_
              refine lv_iload_n hx hb dX6_pass_52 rfl (lv_at hl 3 rfl) ?_
              refine lv_iload_n hx hb dX6_pass_53 rfl (lv_at hl 5 rfl) ?_
              obtain ⟨q15, eq15, hq⟩ := ob hq
              have hPc := hP.sub (ws' := [(qB, .inr (0, [.ref qBT, .ref qBC, .ref qBN, .ref qBW, .ref qBL, .int bn, .int bk, .int bs])), (qBC, .inl (G.2.1, 16, .inl bC)), (qBN, .inl (G.2.1, 64, .inl bN)), (qW, .inr (6, [.ref qB, .ref qWP, .ref qWN, .ref qL0, .ref qL1]))]) [0, 1, 2, 4] rfl
              have hKc := hK
              refine vp_callSi (va_Run.run (va_runV (As := [.int x1, .int s11]) (rest := [.ref qW]) ⟨hx, hb, hml, hown, hts⟩ (tX6_placeOf G l eq15) (cwV 2 hts gX6_pass_X6_placeOf rfl rfl rfl (by decide +kernel) ⟨Nat.le_of_ble_eq_true rfl, Nat.le_of_ble_eq_true rfl⟩) ⟨pcP_blind, va_recv hKc hPc (ci := 6) (q0 := 3) rfl rfl, pcP_pre hPc hKK⟩ rfl rfl hl.1 rfl (lv_room (Nat.le_of_ble_eq_true rfl)) dX6_pass_54 ⟨Nat.zero_le _, Nat.zero_le _⟩)) (fun r0 hr0 => ?_)
              obtain rfl := hr0
              refine lv_iload hx hb dX6_pass_57 (lv_at hl 0 rfl) ?_
              obtain ⟨q16, eq16, hq⟩ := ob hq
              have hPc := hP.sub (ws' := [(qW, .inr (6, [.ref qB, .ref qWP, .ref qWN, .ref qL0, .ref qL1])), (qWP, .inl (G.2.1, 12, .inl s12))]) [4, 5] rfl
              have hKc := hK
              have hDc := hD.sub (ws' := [(qW, .inr (6, [.ref qB, .ref qWP, .ref qWN, .ref qL0, .ref qL1])), (qWP, .inl (G.2.1, 12, .inl s12))]) [4, 5] (by decide) rfl
              have hFc := va_free (wc := [(qW, .inr (6, [.ref qB, .ref qWP, .ref qWN, .ref qL0, .ref qL1])), (qWP, .inl (G.2.1, 12, .inl s12))]) hD hS hA [4, 5] rfl
              refine va_calli (va_runV (As := [.int q15, .int q14]) (rest := []) ⟨hx, hb, hml, hown, hts⟩ (tX6_take G l eq16) (cwV 2 hts gX6_pass_X6_take rfl rfl rfl (by decide +kernel) ⟨Nat.le_of_ble_eq_true rfl, Nat.le_of_ble_eq_true rfl⟩) ⟨pcW_blind, va_recv hKc hPc (ci := 6) (q0 := 0) rfl rfl, pcW_pre hPc hKK hDc⟩ rfl rfl hl.1 rfl (lv_room (Nat.le_of_ble_eq_true rfl)) dX6_pass_59 ⟨Nat.zero_le _, Nat.zero_le _⟩) hS (fun q _ h => hFc q h) hFc (fun r0 u t H1 locs ht hvm hw hB hz1 hk1 hS => ?_)
              obtain rfl := hw
              have hB := va_Pto ht hB
              obtain ⟨hP, hD⟩ := jn (ws' := [(qB, .inr (0, [.ref qBT, .ref qBC, .ref qBN, .ref qBW, .ref qBL, .int bn, .int bk, .int bs])), (qBC, .inl (G.2.1, 16, .inl bC)), (qBN, .inl (G.2.1, 64, .inl bN)), (qBW, .inl (G.2.1, 64, .inl bW)), (qW, .inr (6, [.ref qB, .ref qWP, .ref qWN, .ref qL0, .ref qL1])), (qWP, .inl (G.2.1, 12, .inl q16.2))]) hP hD hk1 hB [4, 5] rfl rfl rfl rfl
              generalize H1 = H at hP hS ⊢
              refine lv_if_ne (tgt := 67) hx hb dX6_pass_62 (by decide) (fun c_62 => ?_) (fun c_62 => ?_)
              · have hq := k_f c_62 hq
                refine lv_iinc (v := (s11 + 1)) (lv' := [(3, .int (s11 + 1)), (5, .int q14), (4, .int q13), (0, .ref qW), (1, .int x1), (2, .int x2)]) hx hb dX6_pass_67 hl (k := 5) rfl rfl (by decide) rfl (fun ls hl => ?_)
                refine lv_goto (tgt := 2) hx hb dX6_pass_70 (by decide) ?_
                exact ih2 (s11 + 1) q16.2 t_2 ls _ _ (kl_back hq hx2) (lv_sub hl [3, 4, 5, 0] rfl) hP hD hS kk2_36 kk2_65 kk2_73
              · have hq := k_t c_62 hq
                have et := kl_exit hq hx2
                subst et
                exact kk2_65 rfl ls _ _ (lv_sub hl [] rfl) hP hD hS
        · have hq := k_t c_28 hq
          refine lv_iload hx hb dX6_pass_31 (lv_at hl 0 rfl) ?_
          refine lv_if_eq (tgt := 38) hx hb dX6_pass_33 (by decide) (fun c_33 => ?_) (fun c_33 => ?_)
          · have hq := k_t c_33 hq
            refine lv_iload hx hb dX6_pass_38 (lv_at hl 1 rfl) ?_
            refine lv_iconst (v := (-1)) hx hb dX6_pass_40 (by decide) ?_
            refine lv_icmp_eq (tgt := 67) hx hb dX6_pass_41 (by decide) (fun c_41 => ?_) (fun c_41 => ?_)
            · have hq := k_t c_41 hq
              refine lv_iinc (v := (s11 + 1)) (lv' := [(3, .int (s11 + 1)), (5, .int q14), (4, .int q13), (0, .ref qW), (1, .int x1), (2, .int x2)]) hx hb dX6_pass_67 hl (k := 5) rfl rfl (by decide) rfl (fun ls hl => ?_)
              refine lv_goto (tgt := 2) hx hb dX6_pass_70 (by decide) ?_
              exact ih2 (s11 + 1) s12 t_2 ls _ _ (kl_back hq hx2) (lv_sub hl [3, 4, 5, 0] rfl) hP hD hS kk2_36 kk2_65 kk2_73
            · have hq := k_f c_41 hq
              refine lv_iload hx hb dX6_pass_44 (lv_at hl 1 rfl) ?_
              refine lv_iload_n hx hb dX6_pass_46 rfl (lv_at hl 3 rfl) ?_
              refine lv_icmp_ge (tgt := 67) hx hb dX6_pass_47 (by decide) (fun c_47 => ?_) (fun c_47 => ?_)
              · have hq := k_t c_47 hq
                refine lv_iinc (v := (s11 + 1)) (lv' := [(3, .int (s11 + 1)), (5, .int q14), (4, .int q13), (0, .ref qW), (1, .int x1), (2, .int x2)]) hx hb dX6_pass_67 hl (k := 5) rfl rfl (by decide) rfl (fun ls hl => ?_)
                refine lv_goto (tgt := 2) hx hb dX6_pass_70 (by decide) ?_
                exact ih2 (s11 + 1) s12 t_2 ls _ _ (kl_back hq hx2) (lv_sub hl [3, 4, 5, 0] rfl) hP hD hS kk2_36 kk2_65 kk2_73
              · have hq := k_f c_47 hq
                refine lv_aload_n hx hb dX6_pass_50 rfl (lv_at hl 2 rfl) ?_
                refine lv_aload_n hx hb dX6_pass_51 rfl (lv_at hl 2 rfl) ?_
                refine lv_iload_n hx hb dX6_pass_52 rfl (lv_at hl 3 rfl) ?_
                refine lv_iload_n hx hb dX6_pass_53 rfl (lv_at hl 5 rfl) ?_
                obtain ⟨q17, eq17, hq⟩ := ob hq
                have hPc := hP.sub (ws' := [(qB, .inr (0, [.ref qBT, .ref qBC, .ref qBN, .ref qBW, .ref qBL, .int bn, .int bk, .int bs])), (qBC, .inl (G.2.1, 16, .inl bC)), (qBN, .inl (G.2.1, 64, .inl bN)), (qW, .inr (6, [.ref qB, .ref qWP, .ref qWN, .ref qL0, .ref qL1]))]) [0, 1, 2, 4] rfl
                have hKc := hK
                refine vp_callSi (va_Run.run (va_runV (As := [.int x1, .int s11]) (rest := [.ref qW]) ⟨hx, hb, hml, hown, hts⟩ (tX6_placeOf G l eq17) (cwV 2 hts gX6_pass_X6_placeOf rfl rfl rfl (by decide +kernel) ⟨Nat.le_of_ble_eq_true rfl, Nat.le_of_ble_eq_true rfl⟩) ⟨pcP_blind, va_recv hKc hPc (ci := 6) (q0 := 3) rfl rfl, pcP_pre hPc hKK⟩ rfl rfl hl.1 rfl (lv_room (Nat.le_of_ble_eq_true rfl)) dX6_pass_54 ⟨Nat.zero_le _, Nat.zero_le _⟩)) (fun r0 hr0 => ?_)
                obtain rfl := hr0
                refine lv_iload hx hb dX6_pass_57 (lv_at hl 0 rfl) ?_
                obtain ⟨q18, eq18, hq⟩ := ob hq
                have hPc := hP.sub (ws' := [(qW, .inr (6, [.ref qB, .ref qWP, .ref qWN, .ref qL0, .ref qL1])), (qWP, .inl (G.2.1, 12, .inl s12))]) [4, 5] rfl
                have hKc := hK
                have hDc := hD.sub (ws' := [(qW, .inr (6, [.ref qB, .ref qWP, .ref qWN, .ref qL0, .ref qL1])), (qWP, .inl (G.2.1, 12, .inl s12))]) [4, 5] (by decide) rfl
                have hFc := va_free (wc := [(qW, .inr (6, [.ref qB, .ref qWP, .ref qWN, .ref qL0, .ref qL1])), (qWP, .inl (G.2.1, 12, .inl s12))]) hD hS hA [4, 5] rfl
                refine va_calli (va_runV (As := [.int q17, .int q14]) (rest := []) ⟨hx, hb, hml, hown, hts⟩ (tX6_take G l eq18) (cwV 2 hts gX6_pass_X6_take rfl rfl rfl (by decide +kernel) ⟨Nat.le_of_ble_eq_true rfl, Nat.le_of_ble_eq_true rfl⟩) ⟨pcW_blind, va_recv hKc hPc (ci := 6) (q0 := 0) rfl rfl, pcW_pre hPc hKK hDc⟩ rfl rfl hl.1 rfl (lv_room (Nat.le_of_ble_eq_true rfl)) dX6_pass_59 ⟨Nat.zero_le _, Nat.zero_le _⟩) hS (fun q _ h => hFc q h) hFc (fun r0 u t H1 locs ht hvm hw hB hz1 hk1 hS => ?_)
                obtain rfl := hw
                have hB := va_Pto ht hB
                obtain ⟨hP, hD⟩ := jn (ws' := [(qB, .inr (0, [.ref qBT, .ref qBC, .ref qBN, .ref qBW, .ref qBL, .int bn, .int bk, .int bs])), (qBC, .inl (G.2.1, 16, .inl bC)), (qBN, .inl (G.2.1, 64, .inl bN)), (qBW, .inl (G.2.1, 64, .inl bW)), (qW, .inr (6, [.ref qB, .ref qWP, .ref qWN, .ref qL0, .ref qL1])), (qWP, .inl (G.2.1, 12, .inl q18.2))]) hP hD hk1 hB [4, 5] rfl rfl rfl rfl
                generalize H1 = H at hP hS ⊢
                refine lv_if_ne (tgt := 67) hx hb dX6_pass_62 (by decide) (fun c_62 => ?_) (fun c_62 => ?_)
                · have hq := k_f c_62 hq
                  refine lv_iinc (v := (s11 + 1)) (lv' := [(3, .int (s11 + 1)), (5, .int q14), (4, .int q13), (0, .ref qW), (1, .int x1), (2, .int x2)]) hx hb dX6_pass_67 hl (k := 5) rfl rfl (by decide) rfl (fun ls hl => ?_)
                  refine lv_goto (tgt := 2) hx hb dX6_pass_70 (by decide) ?_
                  exact ih2 (s11 + 1) q18.2 t_2 ls _ _ (kl_back hq hx2) (lv_sub hl [3, 4, 5, 0] rfl) hP hD hS kk2_36 kk2_65 kk2_73
                · have hq := k_t c_62 hq
                  have et := kl_exit hq hx2
                  subst et
                  exact kk2_65 rfl ls _ _ (lv_sub hl [] rfl) hP hD hS
          · have hq := k_f c_33 hq
            have et := kl_exit hq hx2
            subst et
            exact kk2_36 rfl ls _ _ (lv_sub hl [] rfl) hP hD hS
  obtain ⟨q19, eq19, hq⟩ := ob hq
  refine L2 F 0 wP q19 ls _ _ (eq19) (lv_sub hl [1, 2, 3, 0] rfl) hP hD hS (fun he ls H locs hl hP hD hS => ?_) (fun he ls H locs hl hP hD hS => ?_) (fun he ls H locs hl hP hD hS => ?_)
  · have hq := k_t he hq
    refine lv_iconst (v := 0) hx hb dX6_pass_36 (by decide) ?_
    obtain rfl := Option.some.inj hq
    rw [hQ]
    exact W.zret hx hb hr rfl (fun t ht hW => ⟨⟨_, (), rfl, rfl, va_Pat ht hP⟩, hS.F ht⟩) hS.2.2 dX6_pass_37
  · have hq := k_f (show ¬ q19.1 = 0 by rw [he]; decide) hq
    have hq := k_t he hq
    refine lv_iconst (v := 0) hx hb dX6_pass_65 (by decide) ?_
    obtain rfl := Option.some.inj hq
    rw [hQ]
    exact W.zret hx hb hr rfl (fun t ht hW => ⟨⟨_, (), rfl, rfl, va_Pat ht hP⟩, hS.F ht⟩) hS.2.2 dX6_pass_66
  · have hq := k_f (show ¬ q19.1 = 0 by rw [he]; decide) hq
    have hq := k_f (show ¬ q19.1 = 1 by rw [he]; decide) hq
    refine lv_iconst (v := 0) hx hb dX6_pass_73 (by decide) ?_
    refine lv_istore_n (lv' := [(3, .int 0), (0, .ref qW), (1, .int x1), (2, .int x2)]) hx hb dX6_pass_74 rfl hl (by decide) rfl (fun ls hl => ?_)
    have L75 : ∀ (n : Nat) (s32 : Int32) (s33 : Nat → Int32) (t_75 : Nat → Int32) (ls : Array Slot) (H : Heap) (locs : List Loc), kloop n (fun s_ => kX6_pass_s75 F bC bN bW x1 x2 s_.1 s_.2) (s32, s33) = some t_75 → lv_has ls 6 [(0, .ref qW), (1, .int x1), (2, .int x2), (3, .int s32)] → va_P G.1 vwCl [(qB, .inr (0, [.ref qBT, .ref qBC, .ref qBN, .ref qBW, .ref qBL, .int bn, .int bk, .int bs])), (qBC, .inl (G.2.1, 16, .inl bC)), (qBN, .inl (G.2.1, 64, .inl bN)), (qBW, .inl (G.2.1, 64, .inl bW)), (qW, .inr (6, [.ref qB, .ref qWP, .ref qWN, .ref qL0, .ref qL1])), (qWP, .inl (G.2.1, 12, .inl s33))] H → va_D A [(qB, .inr (0, [.ref qBT, .ref qBC, .ref qBN, .ref qBW, .ref qBL, .int bn, .int bk, .int bs])), (qBC, .inl (G.2.1, 16, .inl bC)), (qBN, .inl (G.2.1, 64, .inl bN)), (qBW, .inl (G.2.1, 64, .inl bW)), (qW, .inr (6, [.ref qB, .ref qWP, .ref qWN, .ref qL0, .ref qL1])), (qWP, .inl (G.2.1, 12, .inl s33))] → va_S A s.heap H locs → (∀ (ls : Array Slot) (H : Heap) (locs : List Loc), lv_has ls 6 [(0, .ref qW), (1, .int x1)] → va_P G.1 vwCl [(qB, .inr (0, [.ref qBT, .ref qBC, .ref qBN, .ref qBW, .ref qBL, .int bn, .int bk, .int bs])), (qBC, .inl (G.2.1, 16, .inl bC)), (qBN, .inl (G.2.1, 64, .inl bN)), (qBW, .inl (G.2.1, 64, .inl bW)), (qW, .inr (6, [.ref qB, .ref qWP, .ref qWN, .ref qL0, .ref qL1])), (qWP, .inl (G.2.1, 12, .inl t_75))] H → va_D A [(qB, .inr (0, [.ref qBT, .ref qBC, .ref qBN, .ref qBW, .ref qBL, .int bn, .int bk, .int bs])), (qBC, .inl (G.2.1, 16, .inl bC)), (qBN, .inl (G.2.1, 64, .inl bN)), (qBW, .inl (G.2.1, 64, .inl bW)), (qW, .inr (6, [.ref qB, .ref qWP, .ref qWN, .ref qL0, .ref qL1])), (qWP, .inl (G.2.1, 12, .inl t_75))] → va_S A s.heap H locs → W p l e (headSpec wsX6_pass rmX6_pass).room s m ([.ref qW, .int x1, .int x2] : List Value).toArray below meth c H locs 0 0 Q (F0 m 114 ls [])) → W p l e (headSpec wsX6_pass rmX6_pass).room s m ([.ref qW, .int x1, .int x2] : List Value).toArray below meth c H locs 0 0 Q (F0 m 75 ls []) := by
      intro n
      induction n with
      | zero => 
        intro s32 s33 t_75 ls H locs hq hl hP hD hS kk75_114
        exact absurd hq kl_0
      | succ n ih75 =>
        intro s32 s33 t_75 ls H locs hq hl hP hD hS kk75_114
        obtain ⟨y_75, hq, hx75⟩ := kl_s hq
        have hq : kX6_pass_s75 F bC bN bW x1 x2 s32 s33 = some y_75 := hq
        unfold kX6_pass_s75 at hq
        refine lv_iload_n hx hb dX6_pass_75 rfl (lv_at hl 3 rfl) ?_
        refine lv_iconst (v := 3) hx hb dX6_pass_76 (by decide) ?_
        refine lv_icmp_gt (tgt := 114) hx hb dX6_pass_77 (by decide) (fun c_77 => ?_) (fun c_77 => ?_)
        · have hq := k_t c_77 hq
          have et := kl_exit hq hx75
          subst et
          exact kk75_114 ls _ _ (lv_sub hl [0, 1] rfl) hP hD hS
        · have hq := k_f c_77 hq
          refine lv_aload_n hx hb dX6_pass_80 rfl (lv_at hl 0 rfl) ?_
          refine va_get (D := G.1) (ci := 6) (v := .ref qB) (C := RX6) (T := TX6) (N := 5) hx hb hts hi6 hown hK hP 4 rfl rfl 0 (by decide) hw0 (fun _ h9 => h9) rfl dX6_pass_81 ?_
          refine lv_iload_n hx hb dX6_pass_84 rfl (lv_at hl 1 rfl) ?_
          refine lv_iload_n hx hb dX6_pass_85 rfl (lv_at hl 3 rfl) ?_
          obtain ⟨q34, eq34, hq⟩ := ob hq
          have hPc := hP.sub (ws' := [(qB, .inr (0, [.ref qBT, .ref qBC, .ref qBN, .ref qBW, .ref qBL, .int bn, .int bk, .int bs])), (qBW, .inl (G.2.1, 64, .inl bW))]) [0, 3] rfl
          have hKc := hK
          refine vp_callSi (va_Run.run (va_runV (As := [.int x1, .int s32]) (rest := []) ⟨hx, hb, hml, hown, hts⟩ (tX0_across G l eq34) (cwV 2 hts gX6_pass_X0_across rfl rfl rfl (by decide +kernel) ⟨Nat.le_of_ble_eq_true rfl, Nat.le_of_ble_eq_true rfl⟩) ⟨pcP_blind, va_recv hKc hPc (ci := 0) (q0 := 0) rfl rfl, pcP_pre hPc hKK⟩ rfl rfl hl.1 rfl (lv_room (Nat.le_of_ble_eq_true rfl)) dX6_pass_86 ⟨Nat.zero_le _, Nat.zero_le _⟩)) (fun r0 hr0 => ?_)
          obtain rfl := hr0
          refine lv_iload_n hx hb dX6_pass_89 rfl (lv_at hl 1 rfl) ?_
          refine lv_icmp_le (tgt := 108) hx hb dX6_pass_90 (by decide) (fun c_90 => ?_) (fun c_90 => ?_)
          · have hq := k_t c_90 hq
            refine lv_iinc (v := (s32 + 1)) (lv' := [(3, .int (s32 + 1)), (0, .ref qW), (1, .int x1), (2, .int x2)]) hx hb dX6_pass_108 hl (k := 3) rfl rfl (by decide) rfl (fun ls hl => ?_)
            refine lv_goto (tgt := 75) hx hb dX6_pass_111 (by decide) ?_
            exact ih75 (s32 + 1) s33 t_75 ls _ _ (kl_back hq hx75) (lv_sub hl [1, 2, 3, 0] rfl) hP hD hS kk75_114
          · have hq := k_f c_90 hq
            refine lv_aload_n hx hb dX6_pass_93 rfl (lv_at hl 0 rfl) ?_
            refine lv_aload_n hx hb dX6_pass_94 rfl (lv_at hl 0 rfl) ?_
            refine lv_iload_n hx hb dX6_pass_95 rfl (lv_at hl 1 rfl) ?_
            refine lv_iload_n hx hb dX6_pass_96 rfl (lv_at hl 3 rfl) ?_
            obtain ⟨q39, eq39, hq⟩ := ob hq
            have hPc := hP.sub (ws' := [(qB, .inr (0, [.ref qBT, .ref qBC, .ref qBN, .ref qBW, .ref qBL, .int bn, .int bk, .int bs])), (qBC, .inl (G.2.1, 16, .inl bC)), (qBN, .inl (G.2.1, 64, .inl bN)), (qW, .inr (6, [.ref qB, .ref qWP, .ref qWN, .ref qL0, .ref qL1]))]) [0, 1, 2, 4] rfl
            have hKc := hK
            refine vp_callSi (va_Run.run (va_runV (As := [.int x1, .int s32]) (rest := [.ref qW]) ⟨hx, hb, hml, hown, hts⟩ (tX6_placeOf G l eq39) (cwV 2 hts gX6_pass_X6_placeOf rfl rfl rfl (by decide +kernel) ⟨Nat.le_of_ble_eq_true rfl, Nat.le_of_ble_eq_true rfl⟩) ⟨pcP_blind, va_recv hKc hPc (ci := 6) (q0 := 3) rfl rfl, pcP_pre hPc hKK⟩ rfl rfl hl.1 rfl (lv_room (Nat.le_of_ble_eq_true rfl)) dX6_pass_97 ⟨Nat.zero_le _, Nat.zero_le _⟩)) (fun r0 hr0 => ?_)
            obtain rfl := hr0
            refine lv_iload_n hx hb dX6_pass_100 rfl (lv_at hl 2 rfl) ?_
            refine lv_iload_n hx hb dX6_pass_101 rfl (lv_at hl 3 rfl) ?_
            obtain ⟨q40, eq40, hq⟩ := ob hq
            have hPc := hP.sub (ws' := []) [] rfl
            refine vp_callSi (va_Run.run (va_runSN (As := [.int x2, .int s32]) (rest := [.int q39, .ref qW]) ⟨hx, hb, hml, hown, hts⟩ (tX7_holds G l eq40) ⟨va_cnB 2 hts gX6_pass_X7_holds_n57 rfl rfl rfl (hKK.2 _ (List.mem_of_getElem? (i := 17) rfl)) hw1 (by decide +kernel) ⟨Nat.le_of_ble_eq_true rfl, Nat.le_of_ble_eq_true rfl⟩, hw2, trivial⟩ ⟨pcP_blind, pcP_pre hPc hKK⟩ rfl rfl hl.1 rfl (lv_room (Nat.le_of_ble_eq_true rfl)) dX6_pass_102 ⟨Nat.zero_le _, Nat.zero_le _⟩)) (fun r0 hr0 => ?_)
            obtain rfl := hr0
            obtain ⟨q41, eq41, hq⟩ := ob hq
            have hPc := hP.sub (ws' := [(qW, .inr (6, [.ref qB, .ref qWP, .ref qWN, .ref qL0, .ref qL1])), (qWP, .inl (G.2.1, 12, .inl s33))]) [4, 5] rfl
            have hKc := hK
            have hDc := hD.sub (ws' := [(qW, .inr (6, [.ref qB, .ref qWP, .ref qWN, .ref qL0, .ref qL1])), (qWP, .inl (G.2.1, 12, .inl s33))]) [4, 5] (by decide) rfl
            have hFc := va_free (wc := [(qW, .inr (6, [.ref qB, .ref qWP, .ref qWN, .ref qL0, .ref qL1])), (qWP, .inl (G.2.1, 12, .inl s33))]) hD hS hA [4, 5] rfl
            refine va_callv (va_runV (As := [.int q39, .int q40]) (rest := []) ⟨hx, hb, hml, hown, hts⟩ (tX6_put G l eq41) (cwV 2 hts gX6_pass_X6_put rfl rfl rfl (by decide +kernel) ⟨Nat.le_of_ble_eq_true rfl, Nat.le_of_ble_eq_true rfl⟩) ⟨pcW_blind, va_recv hKc hPc (ci := 6) (q0 := 0) rfl rfl, pcW_pre hPc hKK hDc⟩ rfl rfl hl.1 rfl (lv_room (Nat.le_of_ble_eq_true rfl)) dX6_pass_105 ⟨Nat.zero_le _, Nat.zero_le _⟩) hS (fun q _ h => hFc q h) hFc (fun u t H1 locs ht hvm hw hB hz1 hk1 hS => ?_)
            have hB := va_Pto ht hB
            obtain ⟨hP, hD⟩ := jn (ws' := [(qB, .inr (0, [.ref qBT, .ref qBC, .ref qBN, .ref qBW, .ref qBL, .int bn, .int bk, .int bs])), (qBC, .inl (G.2.1, 16, .inl bC)), (qBN, .inl (G.2.1, 64, .inl bN)), (qBW, .inl (G.2.1, 64, .inl bW)), (qW, .inr (6, [.ref qB, .ref qWP, .ref qWN, .ref qL0, .ref qL1])), (qWP, .inl (G.2.1, 12, .inl q41))]) hP hD hk1 hB [4, 5] rfl rfl rfl rfl
            generalize H1 = H at hP hS ⊢
            refine lv_iinc (v := (s32 + 1)) (lv' := [(3, .int (s32 + 1)), (0, .ref qW), (1, .int x1), (2, .int x2)]) hx hb dX6_pass_108 hl (k := 3) rfl rfl (by decide) rfl (fun ls hl => ?_)
            refine lv_goto (tgt := 75) hx hb dX6_pass_111 (by decide) ?_
            exact ih75 (s32 + 1) q41 t_75 ls _ _ (kl_back hq hx75) (lv_sub hl [1, 2, 3, 0] rfl) hP hD hS kk75_114
    obtain ⟨q42, eq42, hq⟩ := ob hq
    refine L75 F 0 q19.2 q42 ls _ _ (eq42) (lv_sub hl [1, 2, 3, 0] rfl) hP hD hS (fun ls H locs hl hP hD hS => ?_)
    · refine lv_iload_n hx hb dX6_pass_114 rfl (lv_at hl 1 rfl) ?_
      refine lv_aload_n hx hb dX6_pass_115 rfl (lv_at hl 0 rfl) ?_
      refine va_get (D := G.1) (ci := 6) (v := .ref qB) (C := RX6) (T := TX6) (N := 5) hx hb hts hi6 hown hK hP 4 rfl rfl 0 (by decide) hw0 (fun _ h9 => h9) rfl dX6_pass_116 ?_
      obtain ⟨q43, eq43, hq⟩ := ob hq
      have hPc := hP.sub (ws' := [(qB, .inr (0, [.ref qBT, .ref qBC, .ref qBN, .ref qBW, .ref qBL, .int bn, .int bk, .int bs]))]) [0] rfl
      have hKc := hK
      refine vp_callSi (va_Run.run (va_runV (As := []) (rest := [.int x1]) ⟨hx, hb, hml, hown, hts⟩ (tX0_count G l eq43) (cwV 0 hts gX6_pass_X0_count rfl rfl rfl (by decide +kernel) ⟨Nat.le_of_ble_eq_true rfl, Nat.le_of_ble_eq_true rfl⟩) ⟨pcP_blind, va_recv hKc hPc (ci := 0) (q0 := 0) rfl rfl, pcP_pre hPc hKK⟩ rfl rfl hl.1 rfl (lv_room (Nat.le_of_ble_eq_true rfl)) dX6_pass_119 ⟨Nat.zero_le _, Nat.zero_le _⟩)) (fun r0 hr0 => ?_)
      obtain rfl := hr0
      refine lv_iconst (v := 1) hx hb dX6_pass_122 (by decide) ?_
      refine lv_isub hx hb dX6_pass_123 ?_
      refine lv_icmp_eq (tgt := 134) hx hb dX6_pass_124 (by decide) (fun c_124 => ?_) (fun c_124 => ?_)
      · have hq := k_t c_124 hq
        refine lv_iconst (v := 1) hx hb dX6_pass_134 (by decide) ?_
        refine lv_goto (tgt := 139) hx hb dX6_pass_135 (by decide) ?_
        obtain rfl := Option.some.inj hq
        rw [hQ]
        exact W.zret hx hb hr rfl (fun t ht hW => ⟨⟨_, (), rfl, rfl, va_Pat ht hP⟩, hS.F ht⟩) hS.2.2 dX6_pass_139
      · have hq := k_f c_124 hq
        refine lv_aload_n hx hb dX6_pass_127 rfl (lv_at hl 0 rfl) ?_
        obtain ⟨q46, eq46, hq⟩ := ob hq
        have hPc := hP.sub (ws' := [(qW, .inr (6, [.ref qB, .ref qWP, .ref qWN, .ref qL0, .ref qL1])), (qWP, .inl (G.2.1, 12, .inl q42))]) [4, 5] rfl
        have hKc := hK
        refine vp_callSi (va_Run.run (va_runV (As := []) (rest := []) ⟨hx, hb, hml, hown, hts⟩ (tX6_goesOn G l eq46) (cwV 0 hts gX6_pass_X6_goesOn rfl rfl rfl (by decide +kernel) ⟨Nat.le_of_ble_eq_true rfl, Nat.le_of_ble_eq_true rfl⟩) ⟨pcP_blind, va_recv hKc hPc (ci := 6) (q0 := 0) rfl rfl, pcP_pre hPc hKK⟩ rfl rfl hl.1 rfl (lv_room (Nat.le_of_ble_eq_true rfl)) dX6_pass_128 ⟨Nat.zero_le _, Nat.zero_le _⟩)) (fun r0 hr0 => ?_)
        obtain rfl := hr0
        refine lv_if_eq (tgt := 138) hx hb dX6_pass_131 (by decide) (fun c_131 => ?_) (fun c_131 => ?_)
        · have hq := k_t c_131 hq
          refine lv_iconst (v := 0) hx hb dX6_pass_138 (by decide) ?_
          obtain rfl := Option.some.inj hq
          rw [hQ]
          exact W.zret hx hb hr rfl (fun t ht hW => ⟨⟨_, (), rfl, rfl, va_Pat ht hP⟩, hS.F ht⟩) hS.2.2 dX6_pass_139
        · have hq := k_f c_131 hq
          refine lv_iconst (v := 1) hx hb dX6_pass_134 (by decide) ?_
          refine lv_goto (tgt := 139) hx hb dX6_pass_135 (by decide) ?_
          obtain rfl := Option.some.inj hq
          rw [hQ]
          exact W.zret hx hb hr rfl (fun t ht hW => ⟨⟨_, (), rfl, rfl, va_Pat ht hP⟩, hS.F ht⟩) hS.2.2 dX6_pass_139
