/-! the law's own methods: draw, turned, sides, undoes (laid by wip/p26/lawm.py) -/
theorem tb_out5 {x : Int32} (h0 : ¬ x = 0) (h1 : ¬ x = 1) (h2 : ¬ x = 2) (h3 : ¬ x = 3) (h4 : ¬ x = 4) (h5 : ¬ x = 5) : x.toInt < 0 ∨ 5 < x.toInt := by
  have key : ∀ k : Nat, k < 6 → x.toInt ≠ (k : Int) := by
    intro k hk e
    have e2 : x = nI k := Int32.toInt_inj.mp (e.trans (nI_toInt (show k < 2 ^ 31 by omega)).symm)
    have h : k = 0 ∨ k = 1 ∨ k = 2 ∨ k = 3 ∨ k = 4 ∨ k = 5 := by omega
    rcases h with rfl | rfl | rfl | rfl | rfl | rfl
    · exact h0 e2
    · exact h1 e2
    · exact h2 e2
    · exact h3 e2
    · exact h4 e2
    · exact h5 e2
  have k0 := key 0 (by decide)
  have k1 := key 1 (by decide)
  have k2 := key 2 (by decide)
  have k3 := key 3 (by decide)
  have k4 := key 4 (by decide)
  have k5 := key 5 (by decide)
  omega
def pcD (b L : Nat) (xs : Nat → Int32) (av : List Value) : Array Value → State → Prop := va_Pc av (fun U => va_X b L xs U U.heap)
theorem pcD_blind {b L : Nat} {xs : Nat → Int32} {av : List Value} : FrameBlind (pcD b L xs av) := fun _ U g mk q => ⟨q.1, va_X.moved (u := U) (U := U.calling g mk _) (Vm.Alike.refl U.vm) q.2⟩
theorem pcD_pre {b L : Nat} {xs : Nat → Int32} {av : List Value} {s : State} {H : Heap} {A : Nat → Prop} {locs : List Loc} (hX : va_X b L xs s s.heap) (hbl : b < s.heap.size) (hbA : ¬ A b) (hS : va_S A s.heap H locs) : ∀ U : State, U.heap = H → s.WarmedH U.vm → pcD b L xs av av.toArray U := fun U hU hW => ⟨rfl, by show va_X b L xs U U.heap; rw [hU]; exact (hX.kept (hS.2.1 b hbl hbA)).moved hW.alike⟩
abbrev rmL_draw : Room := { frames := 0, cells := 0, slots := 0, locals := 0 }
set_option maxHeartbeats 4000000 in
set_option maxRecDepth 100000 in
theorem tL_draw (l : Launch) {b L j : Nat} {xs : Nat → Int32} (hj : j < L) (hL : L ≤ 260) : Met l yL_draw wsL_draw rmL_draw (pcD b L xs [.ref b, .int (nI j)]) (vp_Si (fun x => xs j &&& 2147483647 = x)) 0 0 (fun _ => False) := by
  refine Met.ofW (cc := cL_draw) (maxL := 2) (ret := (some .int)) (by decide) rfl ?_
  intro p e s m args below meth c s₁ B hml hv
  obtain ⟨rfl, hX⟩ := hv
  have hx := B.exec
  have hb := B.bytes
  have hr := B.returns
  have hts := atoms_spec (ws := wsL_draw) B.pre
  have hown : s.vm.findClass RL = some m.cls := findClass_of_methodNamed B.named
  have hl := lv_entry ([.ref b, .int (nI j)] : List Value) (n := 2) (Nat.le_of_ble_eq_true rfl)
  rw [lg_entry_eq]
  generalize (lg_sl ([.ref b, .int (nI j)] : List Value) ++ List.replicate (2 - (lg_sl ([.ref b, .int (nI j)] : List Value)).length) Slot.unset).toArray = ls at hl ⊢
  have hl : lv_has ls 2 [(0, .ref b), (1, .int (nI j))] := hl
  have hw0 : (Cond.constant RL 7 (2147483647)).before #[Value.ref b, Value.int (nI j)] s = true := hts _ (by decide +kernel)
  have hbl : b < s.heap.size := by
    obtain ⟨scr, h1, -⟩ := hX
    exact (Array.getElem?_eq_some_iff.mp h1).1
  have hbA : ¬ (fun _ : Nat => False) b := id
  have hS : va_S (fun _ : Nat => False) s.heap s.heap [] := va_S.rf
  refine lv_iload_n hx hb dL_draw_0 rfl (lv_at hl 1 rfl) ?_
  refine lv_aload_n hx hb dL_draw_1 rfl (lv_at hl 0 rfl) ?_
  refine va_slen hx hb hX hbl hbA hS dL_draw_2 ?_
  refine lv_icmp_ge (tgt := 15) hx hb dL_draw_3 (by decide) (fun c_3 => ?_) (fun c_3 => ?_)
  · exact absurd (show nI L ≤ nI j from c_3) (nI_ge hj (by omega))
  · refine lv_aload_n hx hb dL_draw_6 rfl (lv_at hl 0 rfl) ?_
    refine lv_iload_n hx hb dL_draw_7 rfl (lv_at hl 1 rfl) ?_
    refine va_sld hx hb hX hbl hbA hS (vp_in_nI hj (by omega)) dL_draw_8 ?_
    refine lv_ldc (v := 2147483647) hx hb hown hw0 dL_draw_9 ?_
    refine lv_iand hx hb dL_draw_11 ?_
    refine lv_goto (tgt := 24) hx hb dL_draw_12 (by decide) ?_
    rw [nI_clamp (show j < 2 ^ 31 by omega)]
    exact W.iret hx hb hr (fun t ht hW => ⟨_, rfl, rfl, ht⟩) (fun _ h => absurd h List.not_mem_nil) dL_draw_24
abbrev rmL_turned : Room := { frames := 0, cells := 0, slots := 0, locals := 0 }
set_option maxHeartbeats 40000000 in
set_option maxRecDepth 100000 in
theorem tL_turned (G : GG) (l : Launch) {x0 : Int32} {F : Nat} {r : Int32} (hq : kL_turned F x0 = some r) : Met l yL_turned wsL_turned rmL_turned (pcP G [] [.int x0]) (vp_Si (fun x => r = x)) 0 0 (fun _ => False) := by
  refine Met.ofW (cc := cL_turned) (maxL := 1) (ret := (some .int)) (by decide) rfl ?_
  intro p e s m args below meth c s₁ B hml hv
  obtain ⟨rfl, hP, hKK⟩ := hv
  have hK := hKK.1
  have hx := B.exec
  have hb := B.bytes
  have hr := B.returns
  have hts := atoms_spec (ws := wsL_turned) B.pre
  have hown : s.vm.findClass RL = some m.cls := findClass_of_methodNamed B.named
  have hlocks := B.notSynchronized
  have hl := lv_entry ([.int x0] : List Value) (n := 1) (Nat.le_of_ble_eq_true rfl)
  rw [lg_entry_eq]
  generalize (lg_sl ([.int x0] : List Value) ++ List.replicate (1 - (lg_sl ([.int x0] : List Value)).length) Slot.unset).toArray = ls at hl ⊢
  have hl : lv_has ls 1 [(0, .int x0)] := hl
  refine wq (fun Q hQ => ?_)
  unfold kL_turned at hq
  refine lv_iload_n hx hb dL_turned_0 rfl (lv_at hl 0 rfl) ?_
  refine lv_iconst (v := 1) hx hb dL_turned_1 (by decide) ?_
  refine lv_ishl hx hb dL_turned_2 ?_
  refine lv_bipush (v := 15) hx hb dL_turned_3 (by decide) ?_
  refine lv_iand hx hb dL_turned_5 ?_
  refine lv_iload_n hx hb dL_turned_6 rfl (lv_at hl 0 rfl) ?_
  refine lv_iconst (v := 3) hx hb dL_turned_7 (by decide) ?_
  refine lv_ishr hx hb dL_turned_8 ?_
  refine lv_ior hx hb dL_turned_9 ?_
  obtain rfl := Option.some.inj hq
  rw [hQ]
  exact W.iret hx hb hr (fun t ht hW => ⟨_, rfl, rfl, ht⟩) (fun _ h => absurd h List.not_mem_nil) dL_turned_10

abbrev rmL_sides : Room := { frames := 0, cells := 0, slots := 0, locals := 0 }
set_option maxHeartbeats 40000000 in
set_option maxRecDepth 100000 in
theorem tL_sides (G : GG) (l : Launch) {x0 : Int32} {F : Nat} {r : Int32} (hq : kL_sides F x0 = some r) : Met l yL_sides wsL_sides rmL_sides (pcP G [] [.int x0]) (vp_Si (fun x => r = x)) 0 0 (fun _ => False) := by
  refine Met.ofW (cc := cL_sides) (maxL := 1) (ret := (some .int)) (by decide) rfl ?_
  intro p e s m args below meth c s₁ B hml hv
  obtain ⟨rfl, hP, hKK⟩ := hv
  have hK := hKK.1
  have hx := B.exec
  have hb := B.bytes
  have hr := B.returns
  have hts := atoms_spec (ws := wsL_sides) B.pre
  have hown : s.vm.findClass RL = some m.cls := findClass_of_methodNamed B.named
  have hlocks := B.notSynchronized
  have hl := lv_entry ([.int x0] : List Value) (n := 1) (Nat.le_of_ble_eq_true rfl)
  rw [lg_entry_eq]
  generalize (lg_sl ([.int x0] : List Value) ++ List.replicate (1 - (lg_sl ([.int x0] : List Value)).length) Slot.unset).toArray = ls at hl ⊢
  have hl : lv_has ls 1 [(0, .int x0)] := hl
  refine wq (fun Q hQ => ?_)
  unfold kL_sides at hq
  refine lv_iload_n hx hb dL_sides_0 rfl (lv_at hl 0 rfl) ?_
  refine lv_iconst (v := 1) hx hb dL_sides_1 (by decide) ?_
  refine lv_iand hx hb dL_sides_2 ?_
  refine lv_iload_n hx hb dL_sides_3 rfl (lv_at hl 0 rfl) ?_
  refine lv_iconst (v := 1) hx hb dL_sides_4 (by decide) ?_
  refine lv_ishr hx hb dL_sides_5 ?_
  refine lv_iconst (v := 1) hx hb dL_sides_6 (by decide) ?_
  refine lv_iand hx hb dL_sides_7 ?_
  refine lv_iadd hx hb dL_sides_8 ?_
  refine lv_iload_n hx hb dL_sides_9 rfl (lv_at hl 0 rfl) ?_
  refine lv_iconst (v := 2) hx hb dL_sides_10 (by decide) ?_
  refine lv_ishr hx hb dL_sides_11 ?_
  refine lv_iconst (v := 1) hx hb dL_sides_12 (by decide) ?_
  refine lv_iand hx hb dL_sides_13 ?_
  refine lv_iadd hx hb dL_sides_14 ?_
  refine lv_iload_n hx hb dL_sides_15 rfl (lv_at hl 0 rfl) ?_
  refine lv_iconst (v := 3) hx hb dL_sides_16 (by decide) ?_
  refine lv_ishr hx hb dL_sides_17 ?_
  refine lv_iconst (v := 1) hx hb dL_sides_18 (by decide) ?_
  refine lv_iand hx hb dL_sides_19 ?_
  refine lv_iadd hx hb dL_sides_20 ?_
  obtain rfl := Option.some.inj hq
  rw [hQ]
  exact W.iret hx hb hr (fun t ht hW => ⟨_, rfl, rfl, ht⟩) (fun _ h => absurd h List.not_mem_nil) dL_sides_21

abbrev rmL_undoes : Room := { frames := 4, cells := 0, slots := 0, locals := 86 }
set_option maxHeartbeats 40000000 in
set_option maxRecDepth 100000 in
theorem tL_undoes (G : GG) (l : Launch) {qX qB qH qK qV qS qW qBT qBC qBN qBW qBL qHM qTT : Nat} {bn : Int32} {bk : Int32} {bs : Int32} {bT : Nat → Int32} {hd : Int32} {hk : Int32} {hM : Nat → Int32} {tT : Nat → Int32} {x2 : Int32} {sz : Nat} {F : Nat} {r : Int32 × (Nat → Int32) × Int32 × (Nat → Int32)} (hq : kL_undoes F bn bT hd hk hM tT x2 = some r) : Met l yL_undoes wsL_undoes rmL_undoes (pcW G [(qX, .inr (7, [.ref qB, .ref qH, .ref qK, .ref qV, .ref qS, .ref qW])), (qB, .inr (0, [.ref qBT, .ref qBC, .ref qBN, .ref qBW, .ref qBL, .int bn, .int bk, .int bs])), (qBT, .inl (G.2.1, 16, .inl bT)), (qH, .inr (2, [.ref qHM, .int hd, .int hk])), (qHM, .inl (G.2.1, 512, .inl hM)), (qTT, .inl (G.2.1, 64, .inl tT))] sz [.ref qX, .ref qTT, .int x2]) (qcI G r.1 [(qX, .inr (7, [.ref qB, .ref qH, .ref qK, .ref qV, .ref qS, .ref qW])), (qB, .inr (0, [.ref qBT, .ref qBC, .ref qBN, .ref qBW, .ref qBL, .int bn, .int bk, .int bs])), (qBT, .inl (G.2.1, 16, .inl r.2.1)), (qH, .inr (2, [.ref qHM, .int r.2.2.1, .int hk])), (qHM, .inl (G.2.1, 512, .inl hM)), (qTT, .inl (G.2.1, 64, .inl r.2.2.2))] (va_A [(qX, .inr (7, [.ref qB, .ref qH, .ref qK, .ref qV, .ref qS, .ref qW])), (qB, .inr (0, [.ref qBT, .ref qBC, .ref qBN, .ref qBW, .ref qBL, .int bn, .int bk, .int bs])), (qBT, .inl (G.2.1, 16, .inl bT)), (qH, .inr (2, [.ref qHM, .int hd, .int hk])), (qHM, .inl (G.2.1, 512, .inl hM)), (qTT, .inl (G.2.1, 64, .inl tT))] sz)) 0 0 (va_A [(qX, .inr (7, [.ref qB, .ref qH, .ref qK, .ref qV, .ref qS, .ref qW])), (qB, .inr (0, [.ref qBT, .ref qBC, .ref qBN, .ref qBW, .ref qBL, .int bn, .int bk, .int bs])), (qBT, .inl (G.2.1, 16, .inl bT)), (qH, .inr (2, [.ref qHM, .int hd, .int hk])), (qHM, .inl (G.2.1, 512, .inl hM)), (qTT, .inl (G.2.1, 64, .inl tT))] sz) := by
  refine Met.ofW (cc := cL_undoes) (maxL := 4) (ret := (some .boolean)) (by decide) rfl ?_
  intro p e s m args below meth c s₁ B hml hv
  obtain ⟨rfl, hsz, hP, hKK, hD0⟩ := hv
  have hK := hKK.1
  have hx := B.exec
  have hb := B.bytes
  have hr := B.returns
  have hts := atoms_spec (ws := wsL_undoes) B.pre
  have hown : s.vm.findClass RL = some m.cls := findClass_of_methodNamed B.named
  have hlocks := B.notSynchronized
  subst hsz
  have hD := hD0.self (sz := s.heap.size)
  generalize hAe : va_A [(qX, .inr (7, [.ref qB, .ref qH, .ref qK, .ref qV, .ref qS, .ref qW])), (qB, .inr (0, [.ref qBT, .ref qBC, .ref qBN, .ref qBW, .ref qBL, .int bn, .int bk, .int bs])), (qBT, .inl (G.2.1, 16, .inl bT)), (qH, .inr (2, [.ref qHM, .int hd, .int hk])), (qHM, .inl (G.2.1, 512, .inl hM)), (qTT, .inl (G.2.1, 64, .inl tT))] s.heap.size = A at hD ⊢
  have hA : ∀ q : Nat, s.heap.size ≤ q → A q := fun q h => by rw [← hAe]; exact Or.inr h
  have hS : va_S A s.heap s.heap [] := va_S.rf
  have hl := lv_entry ([.ref qX, .ref qTT, .int x2] : List Value) (n := 4) (Nat.le_of_ble_eq_true rfl)
  rw [lg_entry_eq]
  generalize (lg_sl ([.ref qX, .ref qTT, .int x2] : List Value) ++ List.replicate (4 - (lg_sl ([.ref qX, .ref qTT, .int x2] : List Value)).length) Slot.unset).toArray = ls at hl ⊢
  have hl : lv_has ls 4 [(0, .ref qX), (1, .ref qTT), (2, .int x2)] := hl
  refine wq (fun Q hQ => ?_)
  unfold kL_undoes at hq
  refine lv_iload_n hx hb dL_undoes_0 rfl (lv_at hl 2 rfl) ?_
  refine lv_if_eq (tgt := 14) hx hb dL_undoes_1 (by decide) (fun c_1 => ?_) (fun c_1 => ?_)
  · have hq := k_t c_1 hq
    refine lv_aload_n hx hb dL_undoes_14 rfl (lv_at hl 1 rfl) ?_
    refine lv_bipush (v := 62) hx hb dL_undoes_15 (by decide) ?_
    obtain ⟨hg, hq⟩ := k_g hq
    refine va_iald hx hb hK hP 5 0 rfl rfl (ix_in hg) dL_undoes_17 ?_
    refine lv_aload_n hx hb dL_undoes_18 rfl (lv_at hl 1 rfl) ?_
    refine lv_bipush (v := 63) hx hb dL_undoes_19 (by decide) ?_
    obtain ⟨hg, hq⟩ := k_g hq
    refine va_iald hx hb hK hP 5 0 rfl rfl (ix_in hg) dL_undoes_21 ?_
    refine lv_icmp_ne (tgt := 42) hx hb dL_undoes_22 (by decide) (fun c_22 => ?_) (fun c_22 => ?_)
    · have hq := k_f c_22 hq
      refine lv_iload_n hx hb dL_undoes_42 rfl (lv_at hl 2 rfl) ?_
      refine lv_if_eq (tgt := 107) hx hb dL_undoes_43 (by decide) (fun c_43 => ?_) (fun c_43 => ?_)
      · have hq := k_t c_43 hq
        refine lv_aload_n hx hb dL_undoes_107 rfl (lv_at hl 1 rfl) ?_
        refine lv_bipush (v := 32) hx hb dL_undoes_108 (by decide) ?_
        refine lv_aload_n hx hb dL_undoes_110 rfl (lv_at hl 1 rfl) ?_
        refine lv_bipush (v := 62) hx hb dL_undoes_111 (by decide) ?_
        obtain ⟨hg, hq⟩ := k_g hq
        refine va_iald hx hb hK hP 5 0 rfl rfl (ix_in hg) dL_undoes_113 ?_
        refine lv_iadd hx hb dL_undoes_114 ?_
        obtain ⟨hg, hq⟩ := k_g hq
        refine va_iald hx hb hK hP 5 0 rfl rfl (ix_in hg) dL_undoes_115 ?_
        refine lv_istore_n (lv' := [(3, .int (tT (32 + (tT (62 : Int32).toNatClampNeg)).toNatClampNeg)), (0, .ref qX), (1, .ref qTT), (2, .int x2)]) hx hb dL_undoes_116 rfl hl (by decide) rfl (fun ls hl => ?_)
        obtain ⟨y1, ey1, hq⟩ := ob hq
        have ey1 := Option.some.inj ey1
        have hl : lv_has ls 4 [(3, .int y1), (0, .ref qX), (1, .ref qTT), (2, .int x2)] := ey1 ▸ hl
        refine lv_aload_n hx hb dL_undoes_117 rfl (lv_at hl 2 rfl) ?_
        refine lv_bipush (v := 62) hx hb dL_undoes_118 (by decide) ?_
        refine lv_dup2_11 hx hb dL_undoes_120 rfl rfl ?_
        obtain ⟨hg, hq⟩ := k_g hq
        refine va_iald hx hb hK hP 5 0 rfl rfl (ix_in hg) dL_undoes_121 ?_
        refine lv_iconst (v := 1) hx hb dL_undoes_122 (by decide) ?_
        refine lv_iadd hx hb dL_undoes_123 ?_
        obtain ⟨hg, hq⟩ := k_g hq
        refine va_iast hx hb hK hP hD hS 5 0 rfl rfl (ix_in hg) dL_undoes_124 (fun H locs hP hD hS => ?_)
        have hP : va_P G.1 vwCl [(qX, .inr (7, [.ref qB, .ref qH, .ref qK, .ref qV, .ref qS, .ref qW])), (qB, .inr (0, [.ref qBT, .ref qBC, .ref qBN, .ref qBW, .ref qBL, .int bn, .int bk, .int bs])), (qBT, .inl (G.2.1, 16, .inl bT)), (qH, .inr (2, [.ref qHM, .int hd, .int hk])), (qHM, .inl (G.2.1, 512, .inl hM)), (qTT, .inl (G.2.1, 64, .inl (upd tT (62 : Int32).toNatClampNeg ((tT (62 : Int32).toNatClampNeg) + 1))))] H := hP
        have hD : va_D A [(qX, .inr (7, [.ref qB, .ref qH, .ref qK, .ref qV, .ref qS, .ref qW])), (qB, .inr (0, [.ref qBT, .ref qBC, .ref qBN, .ref qBW, .ref qBL, .int bn, .int bk, .int bs])), (qBT, .inl (G.2.1, 16, .inl bT)), (qH, .inr (2, [.ref qHM, .int hd, .int hk])), (qHM, .inl (G.2.1, 512, .inl hM)), (qTT, .inl (G.2.1, 64, .inl (upd tT (62 : Int32).toNatClampNeg ((tT (62 : Int32).toNatClampNeg) + 1))))] := hD
        obtain ⟨y2, ey2, hq⟩ := ob hq
        have ey2 := Option.some.inj ey2
        have hP : va_P G.1 vwCl [(qX, .inr (7, [.ref qB, .ref qH, .ref qK, .ref qV, .ref qS, .ref qW])), (qB, .inr (0, [.ref qBT, .ref qBC, .ref qBN, .ref qBW, .ref qBL, .int bn, .int bk, .int bs])), (qBT, .inl (G.2.1, 16, .inl bT)), (qH, .inr (2, [.ref qHM, .int hd, .int hk])), (qHM, .inl (G.2.1, 512, .inl hM)), (qTT, .inl (G.2.1, 64, .inl y2))] H := ey2 ▸ hP
        have hD : va_D A [(qX, .inr (7, [.ref qB, .ref qH, .ref qK, .ref qV, .ref qS, .ref qW])), (qB, .inr (0, [.ref qBT, .ref qBC, .ref qBN, .ref qBW, .ref qBL, .int bn, .int bk, .int bs])), (qBT, .inl (G.2.1, 16, .inl bT)), (qH, .inr (2, [.ref qHM, .int hd, .int hk])), (qHM, .inl (G.2.1, 512, .inl hM)), (qTT, .inl (G.2.1, 64, .inl y2))] := ey2 ▸ hD
        refine lv_aload_n hx hb dL_undoes_125 rfl (lv_at hl 2 rfl) ?_
        refine lv_iload_n hx hb dL_undoes_126 rfl (lv_at hl 0 rfl) ?_
        refine lv_aload_n hx hb dL_undoes_127 rfl (lv_at hl 2 rfl) ?_
        refine lv_iload_n hx hb dL_undoes_128 rfl (lv_at hl 0 rfl) ?_
        obtain ⟨hg, hq⟩ := k_g hq
        refine va_iald hx hb hK hP 5 0 rfl rfl (ix_in hg) dL_undoes_129 ?_
        obtain ⟨q3, eq3, hq⟩ := ob hq
        have hPc := hP.sub (ws' := []) [] rfl
        refine vp_callSi (va_Run.run (va_runS (As := [.int (y2 y1.toNatClampNeg)]) (rest := [.int y1, .ref qTT]) ⟨hx, hb, hml, hown, hts⟩ (tL_turned G l eq3) (va_cwS 1 hts gL_undoes_L_turned rfl rfl rfl (by decide +kernel) ⟨Nat.le_of_ble_eq_true rfl, Nat.le_of_ble_eq_true rfl⟩) ⟨pcP_blind, pcP_pre hPc hKK⟩ rfl rfl hl.1 rfl (lv_room (Nat.le_of_ble_eq_true rfl)) dL_undoes_130 ⟨Nat.zero_le _, Nat.zero_le _⟩)) (fun r0 hr0 => ?_)
        obtain rfl := hr0
        obtain ⟨hg, hq⟩ := k_g hq
        refine va_iast hx hb hK hP hD hS 5 0 rfl rfl (ix_in hg) dL_undoes_133 (fun H locs hP hD hS => ?_)
        have hP : va_P G.1 vwCl [(qX, .inr (7, [.ref qB, .ref qH, .ref qK, .ref qV, .ref qS, .ref qW])), (qB, .inr (0, [.ref qBT, .ref qBC, .ref qBN, .ref qBW, .ref qBL, .int bn, .int bk, .int bs])), (qBT, .inl (G.2.1, 16, .inl bT)), (qH, .inr (2, [.ref qHM, .int hd, .int hk])), (qHM, .inl (G.2.1, 512, .inl hM)), (qTT, .inl (G.2.1, 64, .inl (upd y2 y1.toNatClampNeg q3)))] H := hP
        have hD : va_D A [(qX, .inr (7, [.ref qB, .ref qH, .ref qK, .ref qV, .ref qS, .ref qW])), (qB, .inr (0, [.ref qBT, .ref qBC, .ref qBN, .ref qBW, .ref qBL, .int bn, .int bk, .int bs])), (qBT, .inl (G.2.1, 16, .inl bT)), (qH, .inr (2, [.ref qHM, .int hd, .int hk])), (qHM, .inl (G.2.1, 512, .inl hM)), (qTT, .inl (G.2.1, 64, .inl (upd y2 y1.toNatClampNeg q3)))] := hD
        obtain ⟨y4, ey4, hq⟩ := ob hq
        have ey4 := Option.some.inj ey4
        have hP : va_P G.1 vwCl [(qX, .inr (7, [.ref qB, .ref qH, .ref qK, .ref qV, .ref qS, .ref qW])), (qB, .inr (0, [.ref qBT, .ref qBC, .ref qBN, .ref qBW, .ref qBL, .int bn, .int bk, .int bs])), (qBT, .inl (G.2.1, 16, .inl bT)), (qH, .inr (2, [.ref qHM, .int hd, .int hk])), (qHM, .inl (G.2.1, 512, .inl hM)), (qTT, .inl (G.2.1, 64, .inl y4))] H := ey4 ▸ hP
        have hD : va_D A [(qX, .inr (7, [.ref qB, .ref qH, .ref qK, .ref qV, .ref qS, .ref qW])), (qB, .inr (0, [.ref qBT, .ref qBC, .ref qBN, .ref qBW, .ref qBL, .int bn, .int bk, .int bs])), (qBT, .inl (G.2.1, 16, .inl bT)), (qH, .inr (2, [.ref qHM, .int hd, .int hk])), (qHM, .inl (G.2.1, 512, .inl hM)), (qTT, .inl (G.2.1, 64, .inl y4))] := ey4 ▸ hD
        refine lv_aload_n hx hb dL_undoes_134 rfl (lv_at hl 1 rfl) ?_
        obtain ⟨q5, eq5, hq⟩ := ob hq
        have hPc := hP.sub (ws' := [(qX, .inr (7, [.ref qB, .ref qH, .ref qK, .ref qV, .ref qS, .ref qW])), (qB, .inr (0, [.ref qBT, .ref qBC, .ref qBN, .ref qBW, .ref qBL, .int bn, .int bk, .int bs])), (qBT, .inl (G.2.1, 16, .inl bT)), (qH, .inr (2, [.ref qHM, .int hd, .int hk])), (qHM, .inl (G.2.1, 512, .inl hM))]) [0, 1, 2, 3, 4] rfl
        have hKc := hK
        have hDc := hD.sub (ws' := [(qX, .inr (7, [.ref qB, .ref qH, .ref qK, .ref qV, .ref qS, .ref qW])), (qB, .inr (0, [.ref qBT, .ref qBC, .ref qBN, .ref qBW, .ref qBL, .int bn, .int bk, .int bs])), (qBT, .inl (G.2.1, 16, .inl bT)), (qH, .inr (2, [.ref qHM, .int hd, .int hk])), (qHM, .inl (G.2.1, 512, .inl hM))]) [0, 1, 2, 3, 4] (by decide) rfl
        have hFc := va_free (wc := [(qX, .inr (7, [.ref qB, .ref qH, .ref qK, .ref qV, .ref qS, .ref qW])), (qB, .inr (0, [.ref qBT, .ref qBC, .ref qBN, .ref qBW, .ref qBL, .int bn, .int bk, .int bs])), (qBT, .inl (G.2.1, 16, .inl bT)), (qH, .inr (2, [.ref qHM, .int hd, .int hk])), (qHM, .inl (G.2.1, 512, .inl hM))]) hD hS hA [0, 1, 2, 3, 4] rfl
        refine va_calli (va_runV (As := []) (rest := []) ⟨hx, hb, hml, hown, hts⟩ (tX7_redo G l eq5) (cwV 0 hts gL_undoes_X7_redo rfl rfl rfl (by decide +kernel) ⟨Nat.le_of_ble_eq_true rfl, Nat.le_of_ble_eq_true rfl⟩) ⟨pcW_blind, va_recv hKc hPc (ci := 7) (q0 := 0) rfl rfl, pcW_pre hPc hKK hDc⟩ rfl rfl hl.1 rfl (lv_room (Nat.le_of_ble_eq_true rfl)) dL_undoes_135 ⟨Nat.zero_le _, Nat.zero_le _⟩) hS (fun q _ h => hFc q h) hFc (fun r0 u t H1 locs ht hvm hw hB hz1 hk1 hS => ?_)
        obtain rfl := hw
        have hB := va_Pto ht hB
        obtain ⟨hP, hD⟩ := jn (ws' := [(qX, .inr (7, [.ref qB, .ref qH, .ref qK, .ref qV, .ref qS, .ref qW])), (qB, .inr (0, [.ref qBT, .ref qBC, .ref qBN, .ref qBW, .ref qBL, .int bn, .int bk, .int bs])), (qBT, .inl (G.2.1, 16, .inl q5.2.1)), (qH, .inr (2, [.ref qHM, .int q5.2.2, .int hk])), (qHM, .inl (G.2.1, 512, .inl hM)), (qTT, .inl (G.2.1, 64, .inl y4))]) hP hD hk1 hB [0, 1, 2, 3, 4] rfl rfl rfl rfl
        generalize H1 = H at hP hS ⊢
        refine lv_aload_n hx hb dL_undoes_138 rfl (lv_at hl 2 rfl) ?_
        refine lv_bipush (v := 62) hx hb dL_undoes_139 (by decide) ?_
        obtain ⟨hg, hq⟩ := k_g hq
        refine va_iald hx hb hK hP 5 0 rfl rfl (ix_in hg) dL_undoes_141 ?_
        refine lv_icmp_ne (tgt := 160) hx hb dL_undoes_142 (by decide) (fun c_142 => ?_) (fun c_142 => ?_)
        · have hq := k_f c_142 hq
          refine lv_iconst (v := 0) hx hb dL_undoes_160 (by decide) ?_
          obtain rfl := Option.some.inj hq
          rw [hQ]
          exact W.zret hx hb hr rfl (fun t ht hW => ⟨⟨_, (), rfl, rfl, va_Pat ht hP⟩, hS.F ht⟩) hS.2.2 dL_undoes_161
        · have hq := k_t c_142 hq
          refine lv_aload_n hx hb dL_undoes_145 rfl (lv_at hl 1 rfl) ?_
          refine lv_iload_n hx hb dL_undoes_146 rfl (lv_at hl 0 rfl) ?_
          obtain ⟨q8, eq8, hq⟩ := ob hq
          have hPc := hP.sub (ws' := [(qX, .inr (7, [.ref qB, .ref qH, .ref qK, .ref qV, .ref qS, .ref qW])), (qB, .inr (0, [.ref qBT, .ref qBC, .ref qBN, .ref qBW, .ref qBL, .int bn, .int bk, .int bs])), (qBT, .inl (G.2.1, 16, .inl q5.2.1))]) [0, 1, 2] rfl
          have hKc := hK
          have hDc := hD.sub (ws' := [(qX, .inr (7, [.ref qB, .ref qH, .ref qK, .ref qV, .ref qS, .ref qW])), (qB, .inr (0, [.ref qBT, .ref qBC, .ref qBN, .ref qBW, .ref qBL, .int bn, .int bk, .int bs])), (qBT, .inl (G.2.1, 16, .inl q5.2.1))]) [0, 1, 2] (by decide) rfl
          have hFc := va_free (wc := [(qX, .inr (7, [.ref qB, .ref qH, .ref qK, .ref qV, .ref qS, .ref qW])), (qB, .inr (0, [.ref qBT, .ref qBC, .ref qBN, .ref qBW, .ref qBL, .int bn, .int bk, .int bs])), (qBT, .inl (G.2.1, 16, .inl q5.2.1))]) hD hS hA [0, 1, 2] rfl
          refine va_calli (va_runV (As := [.int y1]) (rest := []) ⟨hx, hb, hml, hown, hts⟩ (tX7_tile G l eq8) (cwV 1 hts gL_undoes_X7_tile rfl rfl rfl (by decide +kernel) ⟨Nat.le_of_ble_eq_true rfl, Nat.le_of_ble_eq_true rfl⟩) ⟨pcW_blind, va_recv hKc hPc (ci := 7) (q0 := 0) rfl rfl, pcW_pre hPc hKK hDc⟩ rfl rfl hl.1 rfl (lv_room (Nat.le_of_ble_eq_true rfl)) dL_undoes_147 ⟨Nat.zero_le _, Nat.zero_le _⟩) hS (fun q _ h => hFc q h) hFc (fun r0 u t H1 locs ht hvm hw hB hz1 hk1 hS => ?_)
          obtain rfl := hw
          have hB := va_Pto ht hB
          obtain ⟨hP, hD⟩ := jn (ws' := [(qX, .inr (7, [.ref qB, .ref qH, .ref qK, .ref qV, .ref qS, .ref qW])), (qB, .inr (0, [.ref qBT, .ref qBC, .ref qBN, .ref qBW, .ref qBL, .int bn, .int bk, .int bs])), (qBT, .inl (G.2.1, 16, .inl q5.2.1)), (qH, .inr (2, [.ref qHM, .int q5.2.2, .int hk])), (qHM, .inl (G.2.1, 512, .inl hM)), (qTT, .inl (G.2.1, 64, .inl y4))]) hP hD hk1 hB [0, 1, 2] rfl rfl rfl rfl
          generalize H1 = H at hP hS ⊢
          refine lv_aload_n hx hb dL_undoes_150 rfl (lv_at hl 2 rfl) ?_
          refine lv_iload_n hx hb dL_undoes_151 rfl (lv_at hl 0 rfl) ?_
          obtain ⟨hg, hq⟩ := k_g hq
          refine va_iald hx hb hK hP 5 0 rfl rfl (ix_in hg) dL_undoes_152 ?_
          refine lv_icmp_ne (tgt := 160) hx hb dL_undoes_153 (by decide) (fun c_153 => ?_) (fun c_153 => ?_)
          · have hq := k_f c_153 hq
            refine lv_iconst (v := 0) hx hb dL_undoes_160 (by decide) ?_
            obtain rfl := Option.some.inj hq
            rw [hQ]
            exact W.zret hx hb hr rfl (fun t ht hW => ⟨⟨_, (), rfl, rfl, va_Pat ht hP⟩, hS.F ht⟩) hS.2.2 dL_undoes_161
          · have hq := k_t c_153 hq
            refine lv_iconst (v := 1) hx hb dL_undoes_156 (by decide) ?_
            refine lv_goto (tgt := 161) hx hb dL_undoes_157 (by decide) ?_
            obtain rfl := Option.some.inj hq
            rw [hQ]
            exact W.zret hx hb hr rfl (fun t ht hW => ⟨⟨_, (), rfl, rfl, va_Pat ht hP⟩, hS.F ht⟩) hS.2.2 dL_undoes_161
      · have hq := k_f c_43 hq
        refine lv_aload_n hx hb dL_undoes_46 rfl (lv_at hl 1 rfl) ?_
        refine lv_bipush (v := 62) hx hb dL_undoes_47 (by decide) ?_
        refine lv_dup2_11 hx hb dL_undoes_49 rfl rfl ?_
        obtain ⟨hg, hq⟩ := k_g hq
        refine va_iald hx hb hK hP 5 0 rfl rfl (ix_in hg) dL_undoes_50 ?_
        refine lv_iconst (v := 1) hx hb dL_undoes_51 (by decide) ?_
        refine lv_isub hx hb dL_undoes_52 ?_
        obtain ⟨hg, hq⟩ := k_g hq
        refine va_iast hx hb hK hP hD hS 5 0 rfl rfl (ix_in hg) dL_undoes_53 (fun H locs hP hD hS => ?_)
        have hP : va_P G.1 vwCl [(qX, .inr (7, [.ref qB, .ref qH, .ref qK, .ref qV, .ref qS, .ref qW])), (qB, .inr (0, [.ref qBT, .ref qBC, .ref qBN, .ref qBW, .ref qBL, .int bn, .int bk, .int bs])), (qBT, .inl (G.2.1, 16, .inl bT)), (qH, .inr (2, [.ref qHM, .int hd, .int hk])), (qHM, .inl (G.2.1, 512, .inl hM)), (qTT, .inl (G.2.1, 64, .inl (upd tT (62 : Int32).toNatClampNeg ((tT (62 : Int32).toNatClampNeg) - 1))))] H := hP
        have hD : va_D A [(qX, .inr (7, [.ref qB, .ref qH, .ref qK, .ref qV, .ref qS, .ref qW])), (qB, .inr (0, [.ref qBT, .ref qBC, .ref qBN, .ref qBW, .ref qBL, .int bn, .int bk, .int bs])), (qBT, .inl (G.2.1, 16, .inl bT)), (qH, .inr (2, [.ref qHM, .int hd, .int hk])), (qHM, .inl (G.2.1, 512, .inl hM)), (qTT, .inl (G.2.1, 64, .inl (upd tT (62 : Int32).toNatClampNeg ((tT (62 : Int32).toNatClampNeg) - 1))))] := hD
        obtain ⟨y10, ey10, hq⟩ := ob hq
        have ey10 := Option.some.inj ey10
        have hP : va_P G.1 vwCl [(qX, .inr (7, [.ref qB, .ref qH, .ref qK, .ref qV, .ref qS, .ref qW])), (qB, .inr (0, [.ref qBT, .ref qBC, .ref qBN, .ref qBW, .ref qBL, .int bn, .int bk, .int bs])), (qBT, .inl (G.2.1, 16, .inl bT)), (qH, .inr (2, [.ref qHM, .int hd, .int hk])), (qHM, .inl (G.2.1, 512, .inl hM)), (qTT, .inl (G.2.1, 64, .inl y10))] H := ey10 ▸ hP
        have hD : va_D A [(qX, .inr (7, [.ref qB, .ref qH, .ref qK, .ref qV, .ref qS, .ref qW])), (qB, .inr (0, [.ref qBT, .ref qBC, .ref qBN, .ref qBW, .ref qBL, .int bn, .int bk, .int bs])), (qBT, .inl (G.2.1, 16, .inl bT)), (qH, .inr (2, [.ref qHM, .int hd, .int hk])), (qHM, .inl (G.2.1, 512, .inl hM)), (qTT, .inl (G.2.1, 64, .inl y10))] := ey10 ▸ hD
        refine lv_aload_n hx hb dL_undoes_54 rfl (lv_at hl 1 rfl) ?_
        refine lv_bipush (v := 32) hx hb dL_undoes_55 (by decide) ?_
        refine lv_aload_n hx hb dL_undoes_57 rfl (lv_at hl 1 rfl) ?_
        refine lv_bipush (v := 62) hx hb dL_undoes_58 (by decide) ?_
        obtain ⟨hg, hq⟩ := k_g hq
        refine va_iald hx hb hK hP 5 0 rfl rfl (ix_in hg) dL_undoes_60 ?_
        refine lv_iadd hx hb dL_undoes_61 ?_
        obtain ⟨hg, hq⟩ := k_g hq
        refine va_iald hx hb hK hP 5 0 rfl rfl (ix_in hg) dL_undoes_62 ?_
        refine lv_istore_n (lv' := [(3, .int (y10 (32 + (y10 (62 : Int32).toNatClampNeg)).toNatClampNeg)), (0, .ref qX), (1, .ref qTT), (2, .int x2)]) hx hb dL_undoes_63 rfl hl (by decide) rfl (fun ls hl => ?_)
        obtain ⟨y11, ey11, hq⟩ := ob hq
        have ey11 := Option.some.inj ey11
        have hl : lv_has ls 4 [(3, .int y11), (0, .ref qX), (1, .ref qTT), (2, .int x2)] := ey11 ▸ hl
        refine lv_aload_n hx hb dL_undoes_64 rfl (lv_at hl 2 rfl) ?_
        refine lv_iload_n hx hb dL_undoes_65 rfl (lv_at hl 0 rfl) ?_
        refine lv_aload_n hx hb dL_undoes_66 rfl (lv_at hl 2 rfl) ?_
        refine lv_iload_n hx hb dL_undoes_67 rfl (lv_at hl 0 rfl) ?_
        obtain ⟨hg, hq⟩ := k_g hq
        refine va_iald hx hb hK hP 5 0 rfl rfl (ix_in hg) dL_undoes_68 ?_
        obtain ⟨q12, eq12, hq⟩ := ob hq
        have hPc := hP.sub (ws' := []) [] rfl
        refine vp_callSi (va_Run.run (va_runS (As := [.int (y10 y11.toNatClampNeg)]) (rest := [.int y11, .ref qTT]) ⟨hx, hb, hml, hown, hts⟩ (tL_turned G l eq12) (va_cwS 1 hts gL_undoes_L_turned rfl rfl rfl (by decide +kernel) ⟨Nat.le_of_ble_eq_true rfl, Nat.le_of_ble_eq_true rfl⟩) ⟨pcP_blind, pcP_pre hPc hKK⟩ rfl rfl hl.1 rfl (lv_room (Nat.le_of_ble_eq_true rfl)) dL_undoes_69 ⟨Nat.zero_le _, Nat.zero_le _⟩)) (fun r0 hr0 => ?_)
        obtain rfl := hr0
        obtain ⟨q13, eq13, hq⟩ := ob hq
        have hPc := hP.sub (ws' := []) [] rfl
        refine vp_callSi (va_Run.run (va_runS (As := [.int q12]) (rest := [.int y11, .ref qTT]) ⟨hx, hb, hml, hown, hts⟩ (tL_turned G l eq13) (va_cwS 1 hts gL_undoes_L_turned rfl rfl rfl (by decide +kernel) ⟨Nat.le_of_ble_eq_true rfl, Nat.le_of_ble_eq_true rfl⟩) ⟨pcP_blind, pcP_pre hPc hKK⟩ rfl rfl hl.1 rfl (lv_room (Nat.le_of_ble_eq_true rfl)) dL_undoes_72 ⟨Nat.zero_le _, Nat.zero_le _⟩)) (fun r0 hr0 => ?_)
        obtain rfl := hr0
        obtain ⟨q14, eq14, hq⟩ := ob hq
        have hPc := hP.sub (ws' := []) [] rfl
        refine vp_callSi (va_Run.run (va_runS (As := [.int q13]) (rest := [.int y11, .ref qTT]) ⟨hx, hb, hml, hown, hts⟩ (tL_turned G l eq14) (va_cwS 1 hts gL_undoes_L_turned rfl rfl rfl (by decide +kernel) ⟨Nat.le_of_ble_eq_true rfl, Nat.le_of_ble_eq_true rfl⟩) ⟨pcP_blind, pcP_pre hPc hKK⟩ rfl rfl hl.1 rfl (lv_room (Nat.le_of_ble_eq_true rfl)) dL_undoes_75 ⟨Nat.zero_le _, Nat.zero_le _⟩)) (fun r0 hr0 => ?_)
        obtain rfl := hr0
        obtain ⟨hg, hq⟩ := k_g hq
        refine va_iast hx hb hK hP hD hS 5 0 rfl rfl (ix_in hg) dL_undoes_78 (fun H locs hP hD hS => ?_)
        have hP : va_P G.1 vwCl [(qX, .inr (7, [.ref qB, .ref qH, .ref qK, .ref qV, .ref qS, .ref qW])), (qB, .inr (0, [.ref qBT, .ref qBC, .ref qBN, .ref qBW, .ref qBL, .int bn, .int bk, .int bs])), (qBT, .inl (G.2.1, 16, .inl bT)), (qH, .inr (2, [.ref qHM, .int hd, .int hk])), (qHM, .inl (G.2.1, 512, .inl hM)), (qTT, .inl (G.2.1, 64, .inl (upd y10 y11.toNatClampNeg q14)))] H := hP
        have hD : va_D A [(qX, .inr (7, [.ref qB, .ref qH, .ref qK, .ref qV, .ref qS, .ref qW])), (qB, .inr (0, [.ref qBT, .ref qBC, .ref qBN, .ref qBW, .ref qBL, .int bn, .int bk, .int bs])), (qBT, .inl (G.2.1, 16, .inl bT)), (qH, .inr (2, [.ref qHM, .int hd, .int hk])), (qHM, .inl (G.2.1, 512, .inl hM)), (qTT, .inl (G.2.1, 64, .inl (upd y10 y11.toNatClampNeg q14)))] := hD
        obtain ⟨y15, ey15, hq⟩ := ob hq
        have ey15 := Option.some.inj ey15
        have hP : va_P G.1 vwCl [(qX, .inr (7, [.ref qB, .ref qH, .ref qK, .ref qV, .ref qS, .ref qW])), (qB, .inr (0, [.ref qBT, .ref qBC, .ref qBN, .ref qBW, .ref qBL, .int bn, .int bk, .int bs])), (qBT, .inl (G.2.1, 16, .inl bT)), (qH, .inr (2, [.ref qHM, .int hd, .int hk])), (qHM, .inl (G.2.1, 512, .inl hM)), (qTT, .inl (G.2.1, 64, .inl y15))] H := ey15 ▸ hP
        have hD : va_D A [(qX, .inr (7, [.ref qB, .ref qH, .ref qK, .ref qV, .ref qS, .ref qW])), (qB, .inr (0, [.ref qBT, .ref qBC, .ref qBN, .ref qBW, .ref qBL, .int bn, .int bk, .int bs])), (qBT, .inl (G.2.1, 16, .inl bT)), (qH, .inr (2, [.ref qHM, .int hd, .int hk])), (qHM, .inl (G.2.1, 512, .inl hM)), (qTT, .inl (G.2.1, 64, .inl y15))] := ey15 ▸ hD
        refine lv_aload_n hx hb dL_undoes_79 rfl (lv_at hl 1 rfl) ?_
        obtain ⟨q16, eq16, hq⟩ := ob hq
        have hPc := hP.sub (ws' := [(qX, .inr (7, [.ref qB, .ref qH, .ref qK, .ref qV, .ref qS, .ref qW])), (qB, .inr (0, [.ref qBT, .ref qBC, .ref qBN, .ref qBW, .ref qBL, .int bn, .int bk, .int bs])), (qBT, .inl (G.2.1, 16, .inl bT)), (qH, .inr (2, [.ref qHM, .int hd, .int hk])), (qHM, .inl (G.2.1, 512, .inl hM))]) [0, 1, 2, 3, 4] rfl
        have hKc := hK
        have hDc := hD.sub (ws' := [(qX, .inr (7, [.ref qB, .ref qH, .ref qK, .ref qV, .ref qS, .ref qW])), (qB, .inr (0, [.ref qBT, .ref qBC, .ref qBN, .ref qBW, .ref qBL, .int bn, .int bk, .int bs])), (qBT, .inl (G.2.1, 16, .inl bT)), (qH, .inr (2, [.ref qHM, .int hd, .int hk])), (qHM, .inl (G.2.1, 512, .inl hM))]) [0, 1, 2, 3, 4] (by decide) rfl
        have hFc := va_free (wc := [(qX, .inr (7, [.ref qB, .ref qH, .ref qK, .ref qV, .ref qS, .ref qW])), (qB, .inr (0, [.ref qBT, .ref qBC, .ref qBN, .ref qBW, .ref qBL, .int bn, .int bk, .int bs])), (qBT, .inl (G.2.1, 16, .inl bT)), (qH, .inr (2, [.ref qHM, .int hd, .int hk])), (qHM, .inl (G.2.1, 512, .inl hM))]) hD hS hA [0, 1, 2, 3, 4] rfl
        refine va_calli (va_runV (As := []) (rest := []) ⟨hx, hb, hml, hown, hts⟩ (tX7_undo G l eq16) (cwV 0 hts gL_undoes_X7_undo rfl rfl rfl (by decide +kernel) ⟨Nat.le_of_ble_eq_true rfl, Nat.le_of_ble_eq_true rfl⟩) ⟨pcW_blind, va_recv hKc hPc (ci := 7) (q0 := 0) rfl rfl, pcW_pre hPc hKK hDc⟩ rfl rfl hl.1 rfl (lv_room (Nat.le_of_ble_eq_true rfl)) dL_undoes_80 ⟨Nat.zero_le _, Nat.zero_le _⟩) hS (fun q _ h => hFc q h) hFc (fun r0 u t H1 locs ht hvm hw hB hz1 hk1 hS => ?_)
        obtain rfl := hw
        have hB := va_Pto ht hB
        obtain ⟨hP, hD⟩ := jn (ws' := [(qX, .inr (7, [.ref qB, .ref qH, .ref qK, .ref qV, .ref qS, .ref qW])), (qB, .inr (0, [.ref qBT, .ref qBC, .ref qBN, .ref qBW, .ref qBL, .int bn, .int bk, .int bs])), (qBT, .inl (G.2.1, 16, .inl q16.2.1)), (qH, .inr (2, [.ref qHM, .int q16.2.2, .int hk])), (qHM, .inl (G.2.1, 512, .inl hM)), (qTT, .inl (G.2.1, 64, .inl y15))]) hP hD hk1 hB [0, 1, 2, 3, 4] rfl rfl rfl rfl
        generalize H1 = H at hP hS ⊢
        refine lv_aload_n hx hb dL_undoes_83 rfl (lv_at hl 2 rfl) ?_
        refine lv_bipush (v := 62) hx hb dL_undoes_84 (by decide) ?_
        obtain ⟨hg, hq⟩ := k_g hq
        refine va_iald hx hb hK hP 5 0 rfl rfl (ix_in hg) dL_undoes_86 ?_
        refine lv_icmp_ne (tgt := 105) hx hb dL_undoes_87 (by decide) (fun c_87 => ?_) (fun c_87 => ?_)
        · have hq := k_f c_87 hq
          refine lv_iconst (v := 0) hx hb dL_undoes_105 (by decide) ?_
          obtain rfl := Option.some.inj hq
          rw [hQ]
          exact W.zret hx hb hr rfl (fun t ht hW => ⟨⟨_, (), rfl, rfl, va_Pat ht hP⟩, hS.F ht⟩) hS.2.2 dL_undoes_106
        · have hq := k_t c_87 hq
          refine lv_aload_n hx hb dL_undoes_90 rfl (lv_at hl 1 rfl) ?_
          refine lv_iload_n hx hb dL_undoes_91 rfl (lv_at hl 0 rfl) ?_
          obtain ⟨q19, eq19, hq⟩ := ob hq
          have hPc := hP.sub (ws' := [(qX, .inr (7, [.ref qB, .ref qH, .ref qK, .ref qV, .ref qS, .ref qW])), (qB, .inr (0, [.ref qBT, .ref qBC, .ref qBN, .ref qBW, .ref qBL, .int bn, .int bk, .int bs])), (qBT, .inl (G.2.1, 16, .inl q16.2.1))]) [0, 1, 2] rfl
          have hKc := hK
          have hDc := hD.sub (ws' := [(qX, .inr (7, [.ref qB, .ref qH, .ref qK, .ref qV, .ref qS, .ref qW])), (qB, .inr (0, [.ref qBT, .ref qBC, .ref qBN, .ref qBW, .ref qBL, .int bn, .int bk, .int bs])), (qBT, .inl (G.2.1, 16, .inl q16.2.1))]) [0, 1, 2] (by decide) rfl
          have hFc := va_free (wc := [(qX, .inr (7, [.ref qB, .ref qH, .ref qK, .ref qV, .ref qS, .ref qW])), (qB, .inr (0, [.ref qBT, .ref qBC, .ref qBN, .ref qBW, .ref qBL, .int bn, .int bk, .int bs])), (qBT, .inl (G.2.1, 16, .inl q16.2.1))]) hD hS hA [0, 1, 2] rfl
          refine va_calli (va_runV (As := [.int y11]) (rest := []) ⟨hx, hb, hml, hown, hts⟩ (tX7_tile G l eq19) (cwV 1 hts gL_undoes_X7_tile rfl rfl rfl (by decide +kernel) ⟨Nat.le_of_ble_eq_true rfl, Nat.le_of_ble_eq_true rfl⟩) ⟨pcW_blind, va_recv hKc hPc (ci := 7) (q0 := 0) rfl rfl, pcW_pre hPc hKK hDc⟩ rfl rfl hl.1 rfl (lv_room (Nat.le_of_ble_eq_true rfl)) dL_undoes_92 ⟨Nat.zero_le _, Nat.zero_le _⟩) hS (fun q _ h => hFc q h) hFc (fun r0 u t H1 locs ht hvm hw hB hz1 hk1 hS => ?_)
          obtain rfl := hw
          have hB := va_Pto ht hB
          obtain ⟨hP, hD⟩ := jn (ws' := [(qX, .inr (7, [.ref qB, .ref qH, .ref qK, .ref qV, .ref qS, .ref qW])), (qB, .inr (0, [.ref qBT, .ref qBC, .ref qBN, .ref qBW, .ref qBL, .int bn, .int bk, .int bs])), (qBT, .inl (G.2.1, 16, .inl q16.2.1)), (qH, .inr (2, [.ref qHM, .int q16.2.2, .int hk])), (qHM, .inl (G.2.1, 512, .inl hM)), (qTT, .inl (G.2.1, 64, .inl y15))]) hP hD hk1 hB [0, 1, 2] rfl rfl rfl rfl
          generalize H1 = H at hP hS ⊢
          refine lv_aload_n hx hb dL_undoes_95 rfl (lv_at hl 2 rfl) ?_
          refine lv_iload_n hx hb dL_undoes_96 rfl (lv_at hl 0 rfl) ?_
          obtain ⟨hg, hq⟩ := k_g hq
          refine va_iald hx hb hK hP 5 0 rfl rfl (ix_in hg) dL_undoes_97 ?_
          refine lv_icmp_ne (tgt := 105) hx hb dL_undoes_98 (by decide) (fun c_98 => ?_) (fun c_98 => ?_)
          · have hq := k_f c_98 hq
            refine lv_iconst (v := 0) hx hb dL_undoes_105 (by decide) ?_
            obtain rfl := Option.some.inj hq
            rw [hQ]
            exact W.zret hx hb hr rfl (fun t ht hW => ⟨⟨_, (), rfl, rfl, va_Pat ht hP⟩, hS.F ht⟩) hS.2.2 dL_undoes_106
          · have hq := k_t c_98 hq
            refine lv_iconst (v := 1) hx hb dL_undoes_101 (by decide) ?_
            refine lv_goto (tgt := 106) hx hb dL_undoes_102 (by decide) ?_
            obtain rfl := Option.some.inj hq
            rw [hQ]
            exact W.zret hx hb hr rfl (fun t ht hW => ⟨⟨_, (), rfl, rfl, va_Pat ht hP⟩, hS.F ht⟩) hS.2.2 dL_undoes_106
    · have hq := k_t c_22 hq
      refine lv_aload_n hx hb dL_undoes_25 rfl (lv_at hl 0 rfl) ?_
      obtain ⟨q21, eq21, hq⟩ := ob hq
      have hPc := hP.sub (ws' := [(qX, .inr (7, [.ref qB, .ref qH, .ref qK, .ref qV, .ref qS, .ref qW])), (qH, .inr (2, [.ref qHM, .int hd, .int hk]))]) [0, 3] rfl
      have hKc := hK
      refine vp_callSi (va_Run.run (va_runV (As := []) (rest := []) ⟨hx, hb, hml, hown, hts⟩ (tX7_moves G l eq21) (cwV 0 hts gL_undoes_X7_moves rfl rfl rfl (by decide +kernel) ⟨Nat.le_of_ble_eq_true rfl, Nat.le_of_ble_eq_true rfl⟩) ⟨pcP_blind, va_recv hKc hPc (ci := 7) (q0 := 0) rfl rfl, pcP_pre hPc hKK⟩ rfl rfl hl.1 rfl (lv_room (Nat.le_of_ble_eq_true rfl)) dL_undoes_26 ⟨Nat.zero_le _, Nat.zero_le _⟩)) (fun r0 hr0 => ?_)
      obtain rfl := hr0
      refine lv_aload_n hx hb dL_undoes_29 rfl (lv_at hl 1 rfl) ?_
      refine lv_bipush (v := 62) hx hb dL_undoes_30 (by decide) ?_
      obtain ⟨hg, hq⟩ := k_g hq
      refine va_iald hx hb hK hP 5 0 rfl rfl (ix_in hg) dL_undoes_32 ?_
      refine lv_icmp_ne (tgt := 40) hx hb dL_undoes_33 (by decide) (fun c_33 => ?_) (fun c_33 => ?_)
      · have hq := k_f c_33 hq
        refine lv_iconst (v := 0) hx hb dL_undoes_40 (by decide) ?_
        obtain rfl := Option.some.inj hq
        rw [hQ]
        exact W.zret hx hb hr rfl (fun t ht hW => ⟨⟨_, (), rfl, rfl, va_Pat ht hP⟩, hS.F ht⟩) hS.2.2 dL_undoes_41
      · have hq := k_t c_33 hq
        refine lv_iconst (v := 1) hx hb dL_undoes_36 (by decide) ?_
        refine lv_goto (tgt := 41) hx hb dL_undoes_37 (by decide) ?_
        obtain rfl := Option.some.inj hq
        rw [hQ]
        exact W.zret hx hb hr rfl (fun t ht hW => ⟨⟨_, (), rfl, rfl, va_Pat ht hP⟩, hS.F ht⟩) hS.2.2 dL_undoes_41
  · have hq := k_f c_1 hq
    refine lv_aload_n hx hb dL_undoes_4 rfl (lv_at hl 1 rfl) ?_
    refine lv_bipush (v := 62) hx hb dL_undoes_5 (by decide) ?_
    obtain ⟨hg, hq⟩ := k_g hq
    refine va_iald hx hb hK hP 5 0 rfl rfl (ix_in hg) dL_undoes_7 ?_
    refine lv_if_ne (tgt := 42) hx hb dL_undoes_8 (by decide) (fun c_8 => ?_) (fun c_8 => ?_)
    · have hq := k_f c_8 hq
      refine lv_iload_n hx hb dL_undoes_42 rfl (lv_at hl 2 rfl) ?_
      refine lv_if_eq (tgt := 107) hx hb dL_undoes_43 (by decide) (fun c_43 => ?_) (fun c_43 => ?_)
      · have hq := k_t c_43 hq
        refine lv_aload_n hx hb dL_undoes_107 rfl (lv_at hl 1 rfl) ?_
        refine lv_bipush (v := 32) hx hb dL_undoes_108 (by decide) ?_
        refine lv_aload_n hx hb dL_undoes_110 rfl (lv_at hl 1 rfl) ?_
        refine lv_bipush (v := 62) hx hb dL_undoes_111 (by decide) ?_
        obtain ⟨hg, hq⟩ := k_g hq
        refine va_iald hx hb hK hP 5 0 rfl rfl (ix_in hg) dL_undoes_113 ?_
        refine lv_iadd hx hb dL_undoes_114 ?_
        obtain ⟨hg, hq⟩ := k_g hq
        refine va_iald hx hb hK hP 5 0 rfl rfl (ix_in hg) dL_undoes_115 ?_
        refine lv_istore_n (lv' := [(3, .int (tT (32 + (tT (62 : Int32).toNatClampNeg)).toNatClampNeg)), (0, .ref qX), (1, .ref qTT), (2, .int x2)]) hx hb dL_undoes_116 rfl hl (by decide) rfl (fun ls hl => ?_)
        obtain ⟨y23, ey23, hq⟩ := ob hq
        have ey23 := Option.some.inj ey23
        have hl : lv_has ls 4 [(3, .int y23), (0, .ref qX), (1, .ref qTT), (2, .int x2)] := ey23 ▸ hl
        refine lv_aload_n hx hb dL_undoes_117 rfl (lv_at hl 2 rfl) ?_
        refine lv_bipush (v := 62) hx hb dL_undoes_118 (by decide) ?_
        refine lv_dup2_11 hx hb dL_undoes_120 rfl rfl ?_
        obtain ⟨hg, hq⟩ := k_g hq
        refine va_iald hx hb hK hP 5 0 rfl rfl (ix_in hg) dL_undoes_121 ?_
        refine lv_iconst (v := 1) hx hb dL_undoes_122 (by decide) ?_
        refine lv_iadd hx hb dL_undoes_123 ?_
        obtain ⟨hg, hq⟩ := k_g hq
        refine va_iast hx hb hK hP hD hS 5 0 rfl rfl (ix_in hg) dL_undoes_124 (fun H locs hP hD hS => ?_)
        have hP : va_P G.1 vwCl [(qX, .inr (7, [.ref qB, .ref qH, .ref qK, .ref qV, .ref qS, .ref qW])), (qB, .inr (0, [.ref qBT, .ref qBC, .ref qBN, .ref qBW, .ref qBL, .int bn, .int bk, .int bs])), (qBT, .inl (G.2.1, 16, .inl bT)), (qH, .inr (2, [.ref qHM, .int hd, .int hk])), (qHM, .inl (G.2.1, 512, .inl hM)), (qTT, .inl (G.2.1, 64, .inl (upd tT (62 : Int32).toNatClampNeg ((tT (62 : Int32).toNatClampNeg) + 1))))] H := hP
        have hD : va_D A [(qX, .inr (7, [.ref qB, .ref qH, .ref qK, .ref qV, .ref qS, .ref qW])), (qB, .inr (0, [.ref qBT, .ref qBC, .ref qBN, .ref qBW, .ref qBL, .int bn, .int bk, .int bs])), (qBT, .inl (G.2.1, 16, .inl bT)), (qH, .inr (2, [.ref qHM, .int hd, .int hk])), (qHM, .inl (G.2.1, 512, .inl hM)), (qTT, .inl (G.2.1, 64, .inl (upd tT (62 : Int32).toNatClampNeg ((tT (62 : Int32).toNatClampNeg) + 1))))] := hD
        obtain ⟨y24, ey24, hq⟩ := ob hq
        have ey24 := Option.some.inj ey24
        have hP : va_P G.1 vwCl [(qX, .inr (7, [.ref qB, .ref qH, .ref qK, .ref qV, .ref qS, .ref qW])), (qB, .inr (0, [.ref qBT, .ref qBC, .ref qBN, .ref qBW, .ref qBL, .int bn, .int bk, .int bs])), (qBT, .inl (G.2.1, 16, .inl bT)), (qH, .inr (2, [.ref qHM, .int hd, .int hk])), (qHM, .inl (G.2.1, 512, .inl hM)), (qTT, .inl (G.2.1, 64, .inl y24))] H := ey24 ▸ hP
        have hD : va_D A [(qX, .inr (7, [.ref qB, .ref qH, .ref qK, .ref qV, .ref qS, .ref qW])), (qB, .inr (0, [.ref qBT, .ref qBC, .ref qBN, .ref qBW, .ref qBL, .int bn, .int bk, .int bs])), (qBT, .inl (G.2.1, 16, .inl bT)), (qH, .inr (2, [.ref qHM, .int hd, .int hk])), (qHM, .inl (G.2.1, 512, .inl hM)), (qTT, .inl (G.2.1, 64, .inl y24))] := ey24 ▸ hD
        refine lv_aload_n hx hb dL_undoes_125 rfl (lv_at hl 2 rfl) ?_
        refine lv_iload_n hx hb dL_undoes_126 rfl (lv_at hl 0 rfl) ?_
        refine lv_aload_n hx hb dL_undoes_127 rfl (lv_at hl 2 rfl) ?_
        refine lv_iload_n hx hb dL_undoes_128 rfl (lv_at hl 0 rfl) ?_
        obtain ⟨hg, hq⟩ := k_g hq
        refine va_iald hx hb hK hP 5 0 rfl rfl (ix_in hg) dL_undoes_129 ?_
        obtain ⟨q25, eq25, hq⟩ := ob hq
        have hPc := hP.sub (ws' := []) [] rfl
        refine vp_callSi (va_Run.run (va_runS (As := [.int (y24 y23.toNatClampNeg)]) (rest := [.int y23, .ref qTT]) ⟨hx, hb, hml, hown, hts⟩ (tL_turned G l eq25) (va_cwS 1 hts gL_undoes_L_turned rfl rfl rfl (by decide +kernel) ⟨Nat.le_of_ble_eq_true rfl, Nat.le_of_ble_eq_true rfl⟩) ⟨pcP_blind, pcP_pre hPc hKK⟩ rfl rfl hl.1 rfl (lv_room (Nat.le_of_ble_eq_true rfl)) dL_undoes_130 ⟨Nat.zero_le _, Nat.zero_le _⟩)) (fun r0 hr0 => ?_)
        obtain rfl := hr0
        obtain ⟨hg, hq⟩ := k_g hq
        refine va_iast hx hb hK hP hD hS 5 0 rfl rfl (ix_in hg) dL_undoes_133 (fun H locs hP hD hS => ?_)
        have hP : va_P G.1 vwCl [(qX, .inr (7, [.ref qB, .ref qH, .ref qK, .ref qV, .ref qS, .ref qW])), (qB, .inr (0, [.ref qBT, .ref qBC, .ref qBN, .ref qBW, .ref qBL, .int bn, .int bk, .int bs])), (qBT, .inl (G.2.1, 16, .inl bT)), (qH, .inr (2, [.ref qHM, .int hd, .int hk])), (qHM, .inl (G.2.1, 512, .inl hM)), (qTT, .inl (G.2.1, 64, .inl (upd y24 y23.toNatClampNeg q25)))] H := hP
        have hD : va_D A [(qX, .inr (7, [.ref qB, .ref qH, .ref qK, .ref qV, .ref qS, .ref qW])), (qB, .inr (0, [.ref qBT, .ref qBC, .ref qBN, .ref qBW, .ref qBL, .int bn, .int bk, .int bs])), (qBT, .inl (G.2.1, 16, .inl bT)), (qH, .inr (2, [.ref qHM, .int hd, .int hk])), (qHM, .inl (G.2.1, 512, .inl hM)), (qTT, .inl (G.2.1, 64, .inl (upd y24 y23.toNatClampNeg q25)))] := hD
        obtain ⟨y26, ey26, hq⟩ := ob hq
        have ey26 := Option.some.inj ey26
        have hP : va_P G.1 vwCl [(qX, .inr (7, [.ref qB, .ref qH, .ref qK, .ref qV, .ref qS, .ref qW])), (qB, .inr (0, [.ref qBT, .ref qBC, .ref qBN, .ref qBW, .ref qBL, .int bn, .int bk, .int bs])), (qBT, .inl (G.2.1, 16, .inl bT)), (qH, .inr (2, [.ref qHM, .int hd, .int hk])), (qHM, .inl (G.2.1, 512, .inl hM)), (qTT, .inl (G.2.1, 64, .inl y26))] H := ey26 ▸ hP
        have hD : va_D A [(qX, .inr (7, [.ref qB, .ref qH, .ref qK, .ref qV, .ref qS, .ref qW])), (qB, .inr (0, [.ref qBT, .ref qBC, .ref qBN, .ref qBW, .ref qBL, .int bn, .int bk, .int bs])), (qBT, .inl (G.2.1, 16, .inl bT)), (qH, .inr (2, [.ref qHM, .int hd, .int hk])), (qHM, .inl (G.2.1, 512, .inl hM)), (qTT, .inl (G.2.1, 64, .inl y26))] := ey26 ▸ hD
        refine lv_aload_n hx hb dL_undoes_134 rfl (lv_at hl 1 rfl) ?_
        obtain ⟨q27, eq27, hq⟩ := ob hq
        have hPc := hP.sub (ws' := [(qX, .inr (7, [.ref qB, .ref qH, .ref qK, .ref qV, .ref qS, .ref qW])), (qB, .inr (0, [.ref qBT, .ref qBC, .ref qBN, .ref qBW, .ref qBL, .int bn, .int bk, .int bs])), (qBT, .inl (G.2.1, 16, .inl bT)), (qH, .inr (2, [.ref qHM, .int hd, .int hk])), (qHM, .inl (G.2.1, 512, .inl hM))]) [0, 1, 2, 3, 4] rfl
        have hKc := hK
        have hDc := hD.sub (ws' := [(qX, .inr (7, [.ref qB, .ref qH, .ref qK, .ref qV, .ref qS, .ref qW])), (qB, .inr (0, [.ref qBT, .ref qBC, .ref qBN, .ref qBW, .ref qBL, .int bn, .int bk, .int bs])), (qBT, .inl (G.2.1, 16, .inl bT)), (qH, .inr (2, [.ref qHM, .int hd, .int hk])), (qHM, .inl (G.2.1, 512, .inl hM))]) [0, 1, 2, 3, 4] (by decide) rfl
        have hFc := va_free (wc := [(qX, .inr (7, [.ref qB, .ref qH, .ref qK, .ref qV, .ref qS, .ref qW])), (qB, .inr (0, [.ref qBT, .ref qBC, .ref qBN, .ref qBW, .ref qBL, .int bn, .int bk, .int bs])), (qBT, .inl (G.2.1, 16, .inl bT)), (qH, .inr (2, [.ref qHM, .int hd, .int hk])), (qHM, .inl (G.2.1, 512, .inl hM))]) hD hS hA [0, 1, 2, 3, 4] rfl
        refine va_calli (va_runV (As := []) (rest := []) ⟨hx, hb, hml, hown, hts⟩ (tX7_redo G l eq27) (cwV 0 hts gL_undoes_X7_redo rfl rfl rfl (by decide +kernel) ⟨Nat.le_of_ble_eq_true rfl, Nat.le_of_ble_eq_true rfl⟩) ⟨pcW_blind, va_recv hKc hPc (ci := 7) (q0 := 0) rfl rfl, pcW_pre hPc hKK hDc⟩ rfl rfl hl.1 rfl (lv_room (Nat.le_of_ble_eq_true rfl)) dL_undoes_135 ⟨Nat.zero_le _, Nat.zero_le _⟩) hS (fun q _ h => hFc q h) hFc (fun r0 u t H1 locs ht hvm hw hB hz1 hk1 hS => ?_)
        obtain rfl := hw
        have hB := va_Pto ht hB
        obtain ⟨hP, hD⟩ := jn (ws' := [(qX, .inr (7, [.ref qB, .ref qH, .ref qK, .ref qV, .ref qS, .ref qW])), (qB, .inr (0, [.ref qBT, .ref qBC, .ref qBN, .ref qBW, .ref qBL, .int bn, .int bk, .int bs])), (qBT, .inl (G.2.1, 16, .inl q27.2.1)), (qH, .inr (2, [.ref qHM, .int q27.2.2, .int hk])), (qHM, .inl (G.2.1, 512, .inl hM)), (qTT, .inl (G.2.1, 64, .inl y26))]) hP hD hk1 hB [0, 1, 2, 3, 4] rfl rfl rfl rfl
        generalize H1 = H at hP hS ⊢
        refine lv_aload_n hx hb dL_undoes_138 rfl (lv_at hl 2 rfl) ?_
        refine lv_bipush (v := 62) hx hb dL_undoes_139 (by decide) ?_
        obtain ⟨hg, hq⟩ := k_g hq
        refine va_iald hx hb hK hP 5 0 rfl rfl (ix_in hg) dL_undoes_141 ?_
        refine lv_icmp_ne (tgt := 160) hx hb dL_undoes_142 (by decide) (fun c_142 => ?_) (fun c_142 => ?_)
        · have hq := k_f c_142 hq
          refine lv_iconst (v := 0) hx hb dL_undoes_160 (by decide) ?_
          obtain rfl := Option.some.inj hq
          rw [hQ]
          exact W.zret hx hb hr rfl (fun t ht hW => ⟨⟨_, (), rfl, rfl, va_Pat ht hP⟩, hS.F ht⟩) hS.2.2 dL_undoes_161
        · have hq := k_t c_142 hq
          refine lv_aload_n hx hb dL_undoes_145 rfl (lv_at hl 1 rfl) ?_
          refine lv_iload_n hx hb dL_undoes_146 rfl (lv_at hl 0 rfl) ?_
          obtain ⟨q30, eq30, hq⟩ := ob hq
          have hPc := hP.sub (ws' := [(qX, .inr (7, [.ref qB, .ref qH, .ref qK, .ref qV, .ref qS, .ref qW])), (qB, .inr (0, [.ref qBT, .ref qBC, .ref qBN, .ref qBW, .ref qBL, .int bn, .int bk, .int bs])), (qBT, .inl (G.2.1, 16, .inl q27.2.1))]) [0, 1, 2] rfl
          have hKc := hK
          have hDc := hD.sub (ws' := [(qX, .inr (7, [.ref qB, .ref qH, .ref qK, .ref qV, .ref qS, .ref qW])), (qB, .inr (0, [.ref qBT, .ref qBC, .ref qBN, .ref qBW, .ref qBL, .int bn, .int bk, .int bs])), (qBT, .inl (G.2.1, 16, .inl q27.2.1))]) [0, 1, 2] (by decide) rfl
          have hFc := va_free (wc := [(qX, .inr (7, [.ref qB, .ref qH, .ref qK, .ref qV, .ref qS, .ref qW])), (qB, .inr (0, [.ref qBT, .ref qBC, .ref qBN, .ref qBW, .ref qBL, .int bn, .int bk, .int bs])), (qBT, .inl (G.2.1, 16, .inl q27.2.1))]) hD hS hA [0, 1, 2] rfl
          refine va_calli (va_runV (As := [.int y23]) (rest := []) ⟨hx, hb, hml, hown, hts⟩ (tX7_tile G l eq30) (cwV 1 hts gL_undoes_X7_tile rfl rfl rfl (by decide +kernel) ⟨Nat.le_of_ble_eq_true rfl, Nat.le_of_ble_eq_true rfl⟩) ⟨pcW_blind, va_recv hKc hPc (ci := 7) (q0 := 0) rfl rfl, pcW_pre hPc hKK hDc⟩ rfl rfl hl.1 rfl (lv_room (Nat.le_of_ble_eq_true rfl)) dL_undoes_147 ⟨Nat.zero_le _, Nat.zero_le _⟩) hS (fun q _ h => hFc q h) hFc (fun r0 u t H1 locs ht hvm hw hB hz1 hk1 hS => ?_)
          obtain rfl := hw
          have hB := va_Pto ht hB
          obtain ⟨hP, hD⟩ := jn (ws' := [(qX, .inr (7, [.ref qB, .ref qH, .ref qK, .ref qV, .ref qS, .ref qW])), (qB, .inr (0, [.ref qBT, .ref qBC, .ref qBN, .ref qBW, .ref qBL, .int bn, .int bk, .int bs])), (qBT, .inl (G.2.1, 16, .inl q27.2.1)), (qH, .inr (2, [.ref qHM, .int q27.2.2, .int hk])), (qHM, .inl (G.2.1, 512, .inl hM)), (qTT, .inl (G.2.1, 64, .inl y26))]) hP hD hk1 hB [0, 1, 2] rfl rfl rfl rfl
          generalize H1 = H at hP hS ⊢
          refine lv_aload_n hx hb dL_undoes_150 rfl (lv_at hl 2 rfl) ?_
          refine lv_iload_n hx hb dL_undoes_151 rfl (lv_at hl 0 rfl) ?_
          obtain ⟨hg, hq⟩ := k_g hq
          refine va_iald hx hb hK hP 5 0 rfl rfl (ix_in hg) dL_undoes_152 ?_
          refine lv_icmp_ne (tgt := 160) hx hb dL_undoes_153 (by decide) (fun c_153 => ?_) (fun c_153 => ?_)
          · have hq := k_f c_153 hq
            refine lv_iconst (v := 0) hx hb dL_undoes_160 (by decide) ?_
            obtain rfl := Option.some.inj hq
            rw [hQ]
            exact W.zret hx hb hr rfl (fun t ht hW => ⟨⟨_, (), rfl, rfl, va_Pat ht hP⟩, hS.F ht⟩) hS.2.2 dL_undoes_161
          · have hq := k_t c_153 hq
            refine lv_iconst (v := 1) hx hb dL_undoes_156 (by decide) ?_
            refine lv_goto (tgt := 161) hx hb dL_undoes_157 (by decide) ?_
            obtain rfl := Option.some.inj hq
            rw [hQ]
            exact W.zret hx hb hr rfl (fun t ht hW => ⟨⟨_, (), rfl, rfl, va_Pat ht hP⟩, hS.F ht⟩) hS.2.2 dL_undoes_161
      · have hq := k_f c_43 hq
        refine lv_aload_n hx hb dL_undoes_46 rfl (lv_at hl 1 rfl) ?_
        refine lv_bipush (v := 62) hx hb dL_undoes_47 (by decide) ?_
        refine lv_dup2_11 hx hb dL_undoes_49 rfl rfl ?_
        obtain ⟨hg, hq⟩ := k_g hq
        refine va_iald hx hb hK hP 5 0 rfl rfl (ix_in hg) dL_undoes_50 ?_
        refine lv_iconst (v := 1) hx hb dL_undoes_51 (by decide) ?_
        refine lv_isub hx hb dL_undoes_52 ?_
        obtain ⟨hg, hq⟩ := k_g hq
        refine va_iast hx hb hK hP hD hS 5 0 rfl rfl (ix_in hg) dL_undoes_53 (fun H locs hP hD hS => ?_)
        have hP : va_P G.1 vwCl [(qX, .inr (7, [.ref qB, .ref qH, .ref qK, .ref qV, .ref qS, .ref qW])), (qB, .inr (0, [.ref qBT, .ref qBC, .ref qBN, .ref qBW, .ref qBL, .int bn, .int bk, .int bs])), (qBT, .inl (G.2.1, 16, .inl bT)), (qH, .inr (2, [.ref qHM, .int hd, .int hk])), (qHM, .inl (G.2.1, 512, .inl hM)), (qTT, .inl (G.2.1, 64, .inl (upd tT (62 : Int32).toNatClampNeg ((tT (62 : Int32).toNatClampNeg) - 1))))] H := hP
        have hD : va_D A [(qX, .inr (7, [.ref qB, .ref qH, .ref qK, .ref qV, .ref qS, .ref qW])), (qB, .inr (0, [.ref qBT, .ref qBC, .ref qBN, .ref qBW, .ref qBL, .int bn, .int bk, .int bs])), (qBT, .inl (G.2.1, 16, .inl bT)), (qH, .inr (2, [.ref qHM, .int hd, .int hk])), (qHM, .inl (G.2.1, 512, .inl hM)), (qTT, .inl (G.2.1, 64, .inl (upd tT (62 : Int32).toNatClampNeg ((tT (62 : Int32).toNatClampNeg) - 1))))] := hD
        obtain ⟨y32, ey32, hq⟩ := ob hq
        have ey32 := Option.some.inj ey32
        have hP : va_P G.1 vwCl [(qX, .inr (7, [.ref qB, .ref qH, .ref qK, .ref qV, .ref qS, .ref qW])), (qB, .inr (0, [.ref qBT, .ref qBC, .ref qBN, .ref qBW, .ref qBL, .int bn, .int bk, .int bs])), (qBT, .inl (G.2.1, 16, .inl bT)), (qH, .inr (2, [.ref qHM, .int hd, .int hk])), (qHM, .inl (G.2.1, 512, .inl hM)), (qTT, .inl (G.2.1, 64, .inl y32))] H := ey32 ▸ hP
        have hD : va_D A [(qX, .inr (7, [.ref qB, .ref qH, .ref qK, .ref qV, .ref qS, .ref qW])), (qB, .inr (0, [.ref qBT, .ref qBC, .ref qBN, .ref qBW, .ref qBL, .int bn, .int bk, .int bs])), (qBT, .inl (G.2.1, 16, .inl bT)), (qH, .inr (2, [.ref qHM, .int hd, .int hk])), (qHM, .inl (G.2.1, 512, .inl hM)), (qTT, .inl (G.2.1, 64, .inl y32))] := ey32 ▸ hD
        refine lv_aload_n hx hb dL_undoes_54 rfl (lv_at hl 1 rfl) ?_
        refine lv_bipush (v := 32) hx hb dL_undoes_55 (by decide) ?_
        refine lv_aload_n hx hb dL_undoes_57 rfl (lv_at hl 1 rfl) ?_
        refine lv_bipush (v := 62) hx hb dL_undoes_58 (by decide) ?_
        obtain ⟨hg, hq⟩ := k_g hq
        refine va_iald hx hb hK hP 5 0 rfl rfl (ix_in hg) dL_undoes_60 ?_
        refine lv_iadd hx hb dL_undoes_61 ?_
        obtain ⟨hg, hq⟩ := k_g hq
        refine va_iald hx hb hK hP 5 0 rfl rfl (ix_in hg) dL_undoes_62 ?_
        refine lv_istore_n (lv' := [(3, .int (y32 (32 + (y32 (62 : Int32).toNatClampNeg)).toNatClampNeg)), (0, .ref qX), (1, .ref qTT), (2, .int x2)]) hx hb dL_undoes_63 rfl hl (by decide) rfl (fun ls hl => ?_)
        obtain ⟨y33, ey33, hq⟩ := ob hq
        have ey33 := Option.some.inj ey33
        have hl : lv_has ls 4 [(3, .int y33), (0, .ref qX), (1, .ref qTT), (2, .int x2)] := ey33 ▸ hl
        refine lv_aload_n hx hb dL_undoes_64 rfl (lv_at hl 2 rfl) ?_
        refine lv_iload_n hx hb dL_undoes_65 rfl (lv_at hl 0 rfl) ?_
        refine lv_aload_n hx hb dL_undoes_66 rfl (lv_at hl 2 rfl) ?_
        refine lv_iload_n hx hb dL_undoes_67 rfl (lv_at hl 0 rfl) ?_
        obtain ⟨hg, hq⟩ := k_g hq
        refine va_iald hx hb hK hP 5 0 rfl rfl (ix_in hg) dL_undoes_68 ?_
        obtain ⟨q34, eq34, hq⟩ := ob hq
        have hPc := hP.sub (ws' := []) [] rfl
        refine vp_callSi (va_Run.run (va_runS (As := [.int (y32 y33.toNatClampNeg)]) (rest := [.int y33, .ref qTT]) ⟨hx, hb, hml, hown, hts⟩ (tL_turned G l eq34) (va_cwS 1 hts gL_undoes_L_turned rfl rfl rfl (by decide +kernel) ⟨Nat.le_of_ble_eq_true rfl, Nat.le_of_ble_eq_true rfl⟩) ⟨pcP_blind, pcP_pre hPc hKK⟩ rfl rfl hl.1 rfl (lv_room (Nat.le_of_ble_eq_true rfl)) dL_undoes_69 ⟨Nat.zero_le _, Nat.zero_le _⟩)) (fun r0 hr0 => ?_)
        obtain rfl := hr0
        obtain ⟨q35, eq35, hq⟩ := ob hq
        have hPc := hP.sub (ws' := []) [] rfl
        refine vp_callSi (va_Run.run (va_runS (As := [.int q34]) (rest := [.int y33, .ref qTT]) ⟨hx, hb, hml, hown, hts⟩ (tL_turned G l eq35) (va_cwS 1 hts gL_undoes_L_turned rfl rfl rfl (by decide +kernel) ⟨Nat.le_of_ble_eq_true rfl, Nat.le_of_ble_eq_true rfl⟩) ⟨pcP_blind, pcP_pre hPc hKK⟩ rfl rfl hl.1 rfl (lv_room (Nat.le_of_ble_eq_true rfl)) dL_undoes_72 ⟨Nat.zero_le _, Nat.zero_le _⟩)) (fun r0 hr0 => ?_)
        obtain rfl := hr0
        obtain ⟨q36, eq36, hq⟩ := ob hq
        have hPc := hP.sub (ws' := []) [] rfl
        refine vp_callSi (va_Run.run (va_runS (As := [.int q35]) (rest := [.int y33, .ref qTT]) ⟨hx, hb, hml, hown, hts⟩ (tL_turned G l eq36) (va_cwS 1 hts gL_undoes_L_turned rfl rfl rfl (by decide +kernel) ⟨Nat.le_of_ble_eq_true rfl, Nat.le_of_ble_eq_true rfl⟩) ⟨pcP_blind, pcP_pre hPc hKK⟩ rfl rfl hl.1 rfl (lv_room (Nat.le_of_ble_eq_true rfl)) dL_undoes_75 ⟨Nat.zero_le _, Nat.zero_le _⟩)) (fun r0 hr0 => ?_)
        obtain rfl := hr0
        obtain ⟨hg, hq⟩ := k_g hq
        refine va_iast hx hb hK hP hD hS 5 0 rfl rfl (ix_in hg) dL_undoes_78 (fun H locs hP hD hS => ?_)
        have hP : va_P G.1 vwCl [(qX, .inr (7, [.ref qB, .ref qH, .ref qK, .ref qV, .ref qS, .ref qW])), (qB, .inr (0, [.ref qBT, .ref qBC, .ref qBN, .ref qBW, .ref qBL, .int bn, .int bk, .int bs])), (qBT, .inl (G.2.1, 16, .inl bT)), (qH, .inr (2, [.ref qHM, .int hd, .int hk])), (qHM, .inl (G.2.1, 512, .inl hM)), (qTT, .inl (G.2.1, 64, .inl (upd y32 y33.toNatClampNeg q36)))] H := hP
        have hD : va_D A [(qX, .inr (7, [.ref qB, .ref qH, .ref qK, .ref qV, .ref qS, .ref qW])), (qB, .inr (0, [.ref qBT, .ref qBC, .ref qBN, .ref qBW, .ref qBL, .int bn, .int bk, .int bs])), (qBT, .inl (G.2.1, 16, .inl bT)), (qH, .inr (2, [.ref qHM, .int hd, .int hk])), (qHM, .inl (G.2.1, 512, .inl hM)), (qTT, .inl (G.2.1, 64, .inl (upd y32 y33.toNatClampNeg q36)))] := hD
        obtain ⟨y37, ey37, hq⟩ := ob hq
        have ey37 := Option.some.inj ey37
        have hP : va_P G.1 vwCl [(qX, .inr (7, [.ref qB, .ref qH, .ref qK, .ref qV, .ref qS, .ref qW])), (qB, .inr (0, [.ref qBT, .ref qBC, .ref qBN, .ref qBW, .ref qBL, .int bn, .int bk, .int bs])), (qBT, .inl (G.2.1, 16, .inl bT)), (qH, .inr (2, [.ref qHM, .int hd, .int hk])), (qHM, .inl (G.2.1, 512, .inl hM)), (qTT, .inl (G.2.1, 64, .inl y37))] H := ey37 ▸ hP
        have hD : va_D A [(qX, .inr (7, [.ref qB, .ref qH, .ref qK, .ref qV, .ref qS, .ref qW])), (qB, .inr (0, [.ref qBT, .ref qBC, .ref qBN, .ref qBW, .ref qBL, .int bn, .int bk, .int bs])), (qBT, .inl (G.2.1, 16, .inl bT)), (qH, .inr (2, [.ref qHM, .int hd, .int hk])), (qHM, .inl (G.2.1, 512, .inl hM)), (qTT, .inl (G.2.1, 64, .inl y37))] := ey37 ▸ hD
        refine lv_aload_n hx hb dL_undoes_79 rfl (lv_at hl 1 rfl) ?_
        obtain ⟨q38, eq38, hq⟩ := ob hq
        have hPc := hP.sub (ws' := [(qX, .inr (7, [.ref qB, .ref qH, .ref qK, .ref qV, .ref qS, .ref qW])), (qB, .inr (0, [.ref qBT, .ref qBC, .ref qBN, .ref qBW, .ref qBL, .int bn, .int bk, .int bs])), (qBT, .inl (G.2.1, 16, .inl bT)), (qH, .inr (2, [.ref qHM, .int hd, .int hk])), (qHM, .inl (G.2.1, 512, .inl hM))]) [0, 1, 2, 3, 4] rfl
        have hKc := hK
        have hDc := hD.sub (ws' := [(qX, .inr (7, [.ref qB, .ref qH, .ref qK, .ref qV, .ref qS, .ref qW])), (qB, .inr (0, [.ref qBT, .ref qBC, .ref qBN, .ref qBW, .ref qBL, .int bn, .int bk, .int bs])), (qBT, .inl (G.2.1, 16, .inl bT)), (qH, .inr (2, [.ref qHM, .int hd, .int hk])), (qHM, .inl (G.2.1, 512, .inl hM))]) [0, 1, 2, 3, 4] (by decide) rfl
        have hFc := va_free (wc := [(qX, .inr (7, [.ref qB, .ref qH, .ref qK, .ref qV, .ref qS, .ref qW])), (qB, .inr (0, [.ref qBT, .ref qBC, .ref qBN, .ref qBW, .ref qBL, .int bn, .int bk, .int bs])), (qBT, .inl (G.2.1, 16, .inl bT)), (qH, .inr (2, [.ref qHM, .int hd, .int hk])), (qHM, .inl (G.2.1, 512, .inl hM))]) hD hS hA [0, 1, 2, 3, 4] rfl
        refine va_calli (va_runV (As := []) (rest := []) ⟨hx, hb, hml, hown, hts⟩ (tX7_undo G l eq38) (cwV 0 hts gL_undoes_X7_undo rfl rfl rfl (by decide +kernel) ⟨Nat.le_of_ble_eq_true rfl, Nat.le_of_ble_eq_true rfl⟩) ⟨pcW_blind, va_recv hKc hPc (ci := 7) (q0 := 0) rfl rfl, pcW_pre hPc hKK hDc⟩ rfl rfl hl.1 rfl (lv_room (Nat.le_of_ble_eq_true rfl)) dL_undoes_80 ⟨Nat.zero_le _, Nat.zero_le _⟩) hS (fun q _ h => hFc q h) hFc (fun r0 u t H1 locs ht hvm hw hB hz1 hk1 hS => ?_)
        obtain rfl := hw
        have hB := va_Pto ht hB
        obtain ⟨hP, hD⟩ := jn (ws' := [(qX, .inr (7, [.ref qB, .ref qH, .ref qK, .ref qV, .ref qS, .ref qW])), (qB, .inr (0, [.ref qBT, .ref qBC, .ref qBN, .ref qBW, .ref qBL, .int bn, .int bk, .int bs])), (qBT, .inl (G.2.1, 16, .inl q38.2.1)), (qH, .inr (2, [.ref qHM, .int q38.2.2, .int hk])), (qHM, .inl (G.2.1, 512, .inl hM)), (qTT, .inl (G.2.1, 64, .inl y37))]) hP hD hk1 hB [0, 1, 2, 3, 4] rfl rfl rfl rfl
        generalize H1 = H at hP hS ⊢
        refine lv_aload_n hx hb dL_undoes_83 rfl (lv_at hl 2 rfl) ?_
        refine lv_bipush (v := 62) hx hb dL_undoes_84 (by decide) ?_
        obtain ⟨hg, hq⟩ := k_g hq
        refine va_iald hx hb hK hP 5 0 rfl rfl (ix_in hg) dL_undoes_86 ?_
        refine lv_icmp_ne (tgt := 105) hx hb dL_undoes_87 (by decide) (fun c_87 => ?_) (fun c_87 => ?_)
        · have hq := k_f c_87 hq
          refine lv_iconst (v := 0) hx hb dL_undoes_105 (by decide) ?_
          obtain rfl := Option.some.inj hq
          rw [hQ]
          exact W.zret hx hb hr rfl (fun t ht hW => ⟨⟨_, (), rfl, rfl, va_Pat ht hP⟩, hS.F ht⟩) hS.2.2 dL_undoes_106
        · have hq := k_t c_87 hq
          refine lv_aload_n hx hb dL_undoes_90 rfl (lv_at hl 1 rfl) ?_
          refine lv_iload_n hx hb dL_undoes_91 rfl (lv_at hl 0 rfl) ?_
          obtain ⟨q41, eq41, hq⟩ := ob hq
          have hPc := hP.sub (ws' := [(qX, .inr (7, [.ref qB, .ref qH, .ref qK, .ref qV, .ref qS, .ref qW])), (qB, .inr (0, [.ref qBT, .ref qBC, .ref qBN, .ref qBW, .ref qBL, .int bn, .int bk, .int bs])), (qBT, .inl (G.2.1, 16, .inl q38.2.1))]) [0, 1, 2] rfl
          have hKc := hK
          have hDc := hD.sub (ws' := [(qX, .inr (7, [.ref qB, .ref qH, .ref qK, .ref qV, .ref qS, .ref qW])), (qB, .inr (0, [.ref qBT, .ref qBC, .ref qBN, .ref qBW, .ref qBL, .int bn, .int bk, .int bs])), (qBT, .inl (G.2.1, 16, .inl q38.2.1))]) [0, 1, 2] (by decide) rfl
          have hFc := va_free (wc := [(qX, .inr (7, [.ref qB, .ref qH, .ref qK, .ref qV, .ref qS, .ref qW])), (qB, .inr (0, [.ref qBT, .ref qBC, .ref qBN, .ref qBW, .ref qBL, .int bn, .int bk, .int bs])), (qBT, .inl (G.2.1, 16, .inl q38.2.1))]) hD hS hA [0, 1, 2] rfl
          refine va_calli (va_runV (As := [.int y33]) (rest := []) ⟨hx, hb, hml, hown, hts⟩ (tX7_tile G l eq41) (cwV 1 hts gL_undoes_X7_tile rfl rfl rfl (by decide +kernel) ⟨Nat.le_of_ble_eq_true rfl, Nat.le_of_ble_eq_true rfl⟩) ⟨pcW_blind, va_recv hKc hPc (ci := 7) (q0 := 0) rfl rfl, pcW_pre hPc hKK hDc⟩ rfl rfl hl.1 rfl (lv_room (Nat.le_of_ble_eq_true rfl)) dL_undoes_92 ⟨Nat.zero_le _, Nat.zero_le _⟩) hS (fun q _ h => hFc q h) hFc (fun r0 u t H1 locs ht hvm hw hB hz1 hk1 hS => ?_)
          obtain rfl := hw
          have hB := va_Pto ht hB
          obtain ⟨hP, hD⟩ := jn (ws' := [(qX, .inr (7, [.ref qB, .ref qH, .ref qK, .ref qV, .ref qS, .ref qW])), (qB, .inr (0, [.ref qBT, .ref qBC, .ref qBN, .ref qBW, .ref qBL, .int bn, .int bk, .int bs])), (qBT, .inl (G.2.1, 16, .inl q38.2.1)), (qH, .inr (2, [.ref qHM, .int q38.2.2, .int hk])), (qHM, .inl (G.2.1, 512, .inl hM)), (qTT, .inl (G.2.1, 64, .inl y37))]) hP hD hk1 hB [0, 1, 2] rfl rfl rfl rfl
          generalize H1 = H at hP hS ⊢
          refine lv_aload_n hx hb dL_undoes_95 rfl (lv_at hl 2 rfl) ?_
          refine lv_iload_n hx hb dL_undoes_96 rfl (lv_at hl 0 rfl) ?_
          obtain ⟨hg, hq⟩ := k_g hq
          refine va_iald hx hb hK hP 5 0 rfl rfl (ix_in hg) dL_undoes_97 ?_
          refine lv_icmp_ne (tgt := 105) hx hb dL_undoes_98 (by decide) (fun c_98 => ?_) (fun c_98 => ?_)
          · have hq := k_f c_98 hq
            refine lv_iconst (v := 0) hx hb dL_undoes_105 (by decide) ?_
            obtain rfl := Option.some.inj hq
            rw [hQ]
            exact W.zret hx hb hr rfl (fun t ht hW => ⟨⟨_, (), rfl, rfl, va_Pat ht hP⟩, hS.F ht⟩) hS.2.2 dL_undoes_106
          · have hq := k_t c_98 hq
            refine lv_iconst (v := 1) hx hb dL_undoes_101 (by decide) ?_
            refine lv_goto (tgt := 106) hx hb dL_undoes_102 (by decide) ?_
            obtain rfl := Option.some.inj hq
            rw [hQ]
            exact W.zret hx hb hr rfl (fun t ht hW => ⟨⟨_, (), rfl, rfl, va_Pat ht hP⟩, hS.F ht⟩) hS.2.2 dL_undoes_106
    · have hq := k_t c_8 hq
      refine lv_goto (tgt := 25) hx hb dL_undoes_11 (by decide) ?_
      refine lv_aload_n hx hb dL_undoes_25 rfl (lv_at hl 0 rfl) ?_
      obtain ⟨q43, eq43, hq⟩ := ob hq
      have hPc := hP.sub (ws' := [(qX, .inr (7, [.ref qB, .ref qH, .ref qK, .ref qV, .ref qS, .ref qW])), (qH, .inr (2, [.ref qHM, .int hd, .int hk]))]) [0, 3] rfl
      have hKc := hK
      refine vp_callSi (va_Run.run (va_runV (As := []) (rest := []) ⟨hx, hb, hml, hown, hts⟩ (tX7_moves G l eq43) (cwV 0 hts gL_undoes_X7_moves rfl rfl rfl (by decide +kernel) ⟨Nat.le_of_ble_eq_true rfl, Nat.le_of_ble_eq_true rfl⟩) ⟨pcP_blind, va_recv hKc hPc (ci := 7) (q0 := 0) rfl rfl, pcP_pre hPc hKK⟩ rfl rfl hl.1 rfl (lv_room (Nat.le_of_ble_eq_true rfl)) dL_undoes_26 ⟨Nat.zero_le _, Nat.zero_le _⟩)) (fun r0 hr0 => ?_)
      obtain rfl := hr0
      refine lv_aload_n hx hb dL_undoes_29 rfl (lv_at hl 1 rfl) ?_
      refine lv_bipush (v := 62) hx hb dL_undoes_30 (by decide) ?_
      obtain ⟨hg, hq⟩ := k_g hq
      refine va_iald hx hb hK hP 5 0 rfl rfl (ix_in hg) dL_undoes_32 ?_
      refine lv_icmp_ne (tgt := 40) hx hb dL_undoes_33 (by decide) (fun c_33 => ?_) (fun c_33 => ?_)
      · have hq := k_f c_33 hq
        refine lv_iconst (v := 0) hx hb dL_undoes_40 (by decide) ?_
        obtain rfl := Option.some.inj hq
        rw [hQ]
        exact W.zret hx hb hr rfl (fun t ht hW => ⟨⟨_, (), rfl, rfl, va_Pat ht hP⟩, hS.F ht⟩) hS.2.2 dL_undoes_41
      · have hq := k_t c_33 hq
        refine lv_iconst (v := 1) hx hb dL_undoes_36 (by decide) ?_
        refine lv_goto (tgt := 41) hx hb dL_undoes_37 (by decide) ?_
        obtain rfl := Option.some.inj hq
        rw [hQ]
        exact W.zret hx hb hr rfl (fun t ht hW => ⟨⟨_, (), rfl, rfl, va_Pat ht hP⟩, hS.F ht⟩) hS.2.2 dL_undoes_41
