/-! lists of borders that grow (laid by wip/whole/lists.py) -/
def cpg (x : Int32) : Bool := decide (¬ x < 0 ∧ x.toNatClampNeg * 8 ≤ 536870912)
/-- what a growth from a to b of the one row, c to d of the other, may cost: cells, slots -/
def gC (a b : Nat) : Nat := (b - a) / 8
def gS (a b c d : Nat) : Nat := 2 * (b - a) + 2 * (d - c)
def gok (nb nw a b : Nat) : Bool := decide (16 ≤ nb ∧ 16 ≤ nw ∧ a = 2 * nb ∧ b = 2 * nw)
theorem gok_c {nb nw a b : Nat} (h : gok nb nw a b = true) : 2 ≤ gC nb a ∧ a + b ≤ gS nb a nw b := by
  obtain ⟨h1, h2, rfl, rfl⟩ := of_decide_eq_true h
  unfold gC gS
  omega
def kcpJ (n0 : Nat) (p0 : Nat → Int64) (x1 : Int32) : Option (Nat × (Nat → Int64)) :=
  if x1 = Int32.ofNat n0 then none else if cpg x1 = true then (if cpok 0 0 (if x1 < Int32.ofNat n0 then x1 else Int32.ofNat n0) n0 x1.toNatClampNeg = true then some (x1.toNatClampNeg, (va_cpy p0 (fun _ => 0) (0 : Int32).toNatClampNeg (0 : Int32).toNatClampNeg (if x1 < Int32.ofNat n0 then x1 else Int32.ofNat n0).toNatClampNeg)) else none) else none
set_option maxHeartbeats 40000000 in
set_option maxRecDepth 100000 in
theorem tJ7_copyOf_c38d5 (G : GG) (l : Launch) {qP0 sz n0 : Nat} {p0 : Nat → Int64} {x1 : Int32} {r : Nat × (Nat → Int64)} (hq : kcpJ n0 p0 x1 = some r) : Met l yJ7_copyOf_c38d5 wsJ7_copyOf_c38d5 { frames := 1, cells := 1, slots := r.1, locals := 80 } (pcW G [(qP0, .inl (G.2.2.1, n0, .inr (.inl p0)))] sz [.ref qP0, .int x1]) (va_Qr (S := Unit) (fun _ => True) (fun _ a t => va_P G.1 vwCl [(qP0, .inl (G.2.2.1, n0, .inr (.inl p0))), (a, .inl (G.2.2.1, r.1, .inr (.inl r.2)))] t.heap ∧ va_D (va_A [(qP0, .inl (G.2.2.1, n0, .inr (.inl p0)))] sz) [(qP0, .inl (G.2.2.1, n0, .inr (.inl p0))), (a, .inl (G.2.2.1, r.1, .inr (.inl r.2)))]) (va_A [(qP0, .inl (G.2.2.1, n0, .inr (.inl p0)))] sz)) 1 r.1 (va_A [(qP0, .inl (G.2.2.1, n0, .inr (.inl p0)))] sz) := by
  refine Met.ofW (cc := cJ7_copyOf_c38d5) (maxL := 3) (ret := some (.array .long)) (by decide) rfl ?_
  intro p e s m args below meth c s₁ B hml hv
  obtain ⟨rfl, hsz, hP, hKK, hD0⟩ := hv
  have hK := hKK.1
  have hx := B.exec
  have hb := B.bytes
  have hr := B.returns
  have hts := atoms_spec (ws := wsJ7_copyOf_c38d5) B.pre
  have hown : s.vm.findClass RJ7 = some m.cls := findClass_of_methodNamed B.named
  have hlocks := B.notSynchronized
  subst hsz
  have hD := hD0.self (sz := s.heap.size)
  generalize hAe : va_A [(qP0, .inl (G.2.2.1, n0, .inr (.inl p0)))] s.heap.size = A at hD ⊢
  have hA : ∀ q : Nat, s.heap.size ≤ q → A q := fun q h => by rw [← hAe]; exact Or.inr h
  have hS : va_S A s.heap s.heap [] := va_S.rf
  have hl := lv_entry ([.ref qP0, .int x1] : List Value) (n := 3) (Nat.le_of_ble_eq_true rfl)
  rw [lg_entry_eq]
  generalize (lg_sl ([.ref qP0, .int x1] : List Value) ++ List.replicate (3 - (lg_sl ([.ref qP0, .int x1] : List Value)).length) Slot.unset).toArray = ls at hl ⊢
  have hl : lv_has ls 3 [(0, .ref qP0), (1, .int x1)] := hl
  have hw0 : (Cond.arrayClass .long).before #[Value.ref qP0, Value.int x1] s = true := hts _ (by decide +kernel)
  have hw1 : (Cond.methodLink RJ7 304 Lib.Math.min.name).before #[Value.ref qP0, Value.int x1] s = true := hts _ (by decide +kernel)
  have hw2 : (Cond.static Lib.Math.min.name).before #[Value.ref qP0, Value.int x1] s = true := hts _ (by decide +kernel)
  have hw3 : (Cond.initialized "java/lang/Math").before #[Value.ref qP0, Value.int x1] s = true := hts _ (by decide +kernel)
  have hw4 : (Cond.code Lib.Math.min.name Lib.Math.min.code 2 (some .int)).before #[Value.ref qP0, Value.int x1] s = true := hts _ (by decide +kernel)
  have hw5 : (Cond.methodLink RJ7 150 arraycopyName).before #[Value.ref qP0, Value.int x1] s = true := hts _ (by decide +kernel)
  have hw6 : (Cond.native arraycopyName).before #[Value.ref qP0, Value.int x1] s = true := hts _ (by decide +kernel)
  have hw7 : (Cond.static arraycopyName).before #[Value.ref qP0, Value.int x1] s = true := hts _ (by decide +kernel)
  have hw8 : (Cond.initialized "java/lang/System").before #[Value.ref qP0, Value.int x1] s = true := hts _ (by decide +kernel)
  unfold kcpJ at hq
  by_cases hne : x1 = Int32.ofNat n0
  · rw [if_pos hne] at hq; cases hq
  have hq := k_f hne hq
  obtain ⟨hg, hq⟩ := k_g hq
  obtain ⟨hc, hq⟩ := k_g hq
  obtain rfl := Option.some.inj hq
  have hg := of_decide_eq_true hg
  refine lv_iload_n hx hb dJ7_copyOf_c38d5_0 rfl (lv_at hl 1 rfl) ?_
  refine lv_aload_n hx hb dJ7_copyOf_c38d5_1 rfl (lv_at hl 0 rfl) ?_
  refine va_alen hx hb hK hP 0 1 rfl rfl (v := Int32.ofNat n0) rfl dJ7_copyOf_c38d5_2 ?_
  refine lv_icmp_ne (tgt := 14) hx hb dJ7_copyOf_c38d5_3 (by decide) (fun _ => ?_) (fun c_3 => absurd c_3 hne)
  refine lv_iload_n hx hb dJ7_copyOf_c38d5_14 rfl (lv_at hl 1 rfl) ?_
  refine va_newa (atype := .long) (ty := .long) (a0 := (x1.toNatClampNeg, .inr (.inl (fun _ => 0)))) (N' := x1.toNatClampNeg) hx hb hw0 rfl hK hP hD hS hA (fun _ => rfl) hg.1 rfl (by show x1.toNatClampNeg * _ ≤ _; have := hg.2; simp only [componentBytes] at *; omega) (Nat.le_of_ble_eq_true rfl) (Nat.le_of_eq (Nat.zero_add _)) dJ7_copyOf_c38d5_15 (fun q cA H hK1 hP hD hS => ?_)
  obtain rfl := tyJ hK1
  have hP : va_P G.1 vwCl [(qP0, .inl (G.2.2.1, n0, .inr (.inl p0))), (q, .inl (G.2.2.1, x1.toNatClampNeg, .inr (.inl (fun _ => 0))))] H := hP
  have hD : va_D A [(qP0, .inl (G.2.2.1, n0, .inr (.inl p0))), (q, .inl (G.2.2.1, x1.toNatClampNeg, .inr (.inl (fun _ => 0))))] := hD
  refine lv_astore_n (lv' := [(2, .ref q), (0, .ref qP0), (1, .int x1)]) hx hb dJ7_copyOf_c38d5_17 rfl hl (by decide) rfl (fun ls hl => ?_)
  refine lv_aload_n hx hb dJ7_copyOf_c38d5_18 rfl (lv_at hl 1 rfl) ?_
  refine lv_iconst (v := 0) hx hb dJ7_copyOf_c38d5_19 (by decide) ?_
  refine lv_aload_n hx hb dJ7_copyOf_c38d5_20 rfl (lv_at hl 0 rfl) ?_
  refine lv_iconst (v := 0) hx hb dJ7_copyOf_c38d5_21 (by decide) ?_
  refine lv_aload_n hx hb dJ7_copyOf_c38d5_22 rfl (lv_at hl 1 rfl) ?_
  refine va_alen hx hb hK hP 0 1 rfl rfl (v := Int32.ofNat n0) rfl dJ7_copyOf_c38d5_23 ?_
  refine lv_iload_n hx hb dJ7_copyOf_c38d5_24 rfl (lv_at hl 2 rfl) ?_
  refine va_mmin hx hb (hml.trans hl.1.symm) hown hw1 hw2 hw3 hw4 (Nat.le_of_ble_eq_true rfl) (Nat.le_of_ble_eq_true rfl) (Nat.le_of_ble_eq_true rfl) (Nat.le_of_eq (Nat.zero_add _)) dJ7_copyOf_c38d5_25 ?_
  refine va_copyl hx hb (hml.trans hl.1.symm) hown hw5 hw6 hw7 hw8 hK hP hD hS 0 1 1 1 rfl rfl rfl rfl rfl (cp_1 hc) (cp_2 hc) (cp_3 hc) (cp_4 hc) (cp_5 hc) (fun _ _ => rfl) (Nat.le_of_ble_eq_true rfl) (Nat.le_of_ble_eq_true rfl) dJ7_copyOf_c38d5_28 (fun H locs hP hD hS => ?_)
  have hP : va_P G.1 vwCl [(qP0, .inl (G.2.2.1, n0, .inr (.inl p0))), (q, .inl (G.2.2.1, x1.toNatClampNeg, .inr (.inl (va_cpy p0 (fun _ => 0) (0 : Int32).toNatClampNeg (0 : Int32).toNatClampNeg (if x1 < Int32.ofNat n0 then x1 else Int32.ofNat n0).toNatClampNeg))))] H := hP
  have hD : va_D A [(qP0, .inl (G.2.2.1, n0, .inr (.inl p0))), (q, .inl (G.2.2.1, x1.toNatClampNeg, .inr (.inl (va_cpy p0 (fun _ => 0) (0 : Int32).toNatClampNeg (0 : Int32).toNatClampNeg (if x1 < Int32.ofNat n0 then x1 else Int32.ofNat n0).toNatClampNeg))))] := hD
  refine lv_aload_n hx hb dJ7_copyOf_c38d5_31 rfl (lv_at hl 0 rfl) ?_
  refine W.widen (k := 1) (n := x1.toNatClampNeg) (Nat.le_of_ble_eq_true rfl) (Nat.le_of_eq (Nat.zero_add _)) ?_
  exact W.aret hx hb hr (Or.inr ⟨_, rfl⟩) (Or.inr ⟨_, rfl⟩) (fun t ht hW => ⟨⟨(), _, rfl, trivial, va_Pat ht hP, hD⟩, hS.F ht⟩) hS.2.2 dJ7_copyOf_c38d5_32
def kcpI (n0 : Nat) (p0 : Nat → Int32) (x1 : Int32) : Option (Nat × (Nat → Int32)) :=
  if x1 = Int32.ofNat n0 then none else if cpg x1 = true then (if cpok 0 0 (if x1 < Int32.ofNat n0 then x1 else Int32.ofNat n0) n0 x1.toNatClampNeg = true then some (x1.toNatClampNeg, (va_cpy p0 (fun _ => 0) (0 : Int32).toNatClampNeg (0 : Int32).toNatClampNeg (if x1 < Int32.ofNat n0 then x1 else Int32.ofNat n0).toNatClampNeg)) else none) else none
set_option maxHeartbeats 40000000 in
set_option maxRecDepth 100000 in
theorem tJ7_copyOf_59c91 (G : GG) (l : Launch) {qP0 sz n0 : Nat} {p0 : Nat → Int32} {x1 : Int32} {r : Nat × (Nat → Int32)} (hq : kcpI n0 p0 x1 = some r) : Met l yJ7_copyOf_59c91 wsJ7_copyOf_59c91 { frames := 1, cells := 1, slots := r.1, locals := 80 } (pcW G [(qP0, .inl (G.2.1, n0, .inl p0))] sz [.ref qP0, .int x1]) (va_Qr (S := Unit) (fun _ => True) (fun _ a t => va_P G.1 vwCl [(qP0, .inl (G.2.1, n0, .inl p0)), (a, .inl (G.2.1, r.1, .inl r.2))] t.heap ∧ va_D (va_A [(qP0, .inl (G.2.1, n0, .inl p0))] sz) [(qP0, .inl (G.2.1, n0, .inl p0)), (a, .inl (G.2.1, r.1, .inl r.2))]) (va_A [(qP0, .inl (G.2.1, n0, .inl p0))] sz)) 1 r.1 (va_A [(qP0, .inl (G.2.1, n0, .inl p0))] sz) := by
  refine Met.ofW (cc := cJ7_copyOf_59c91) (maxL := 3) (ret := some (.array .int)) (by decide) rfl ?_
  intro p e s m args below meth c s₁ B hml hv
  obtain ⟨rfl, hsz, hP, hKK, hD0⟩ := hv
  have hK := hKK.1
  have hx := B.exec
  have hb := B.bytes
  have hr := B.returns
  have hts := atoms_spec (ws := wsJ7_copyOf_59c91) B.pre
  have hown : s.vm.findClass RJ7 = some m.cls := findClass_of_methodNamed B.named
  have hlocks := B.notSynchronized
  subst hsz
  have hD := hD0.self (sz := s.heap.size)
  generalize hAe : va_A [(qP0, .inl (G.2.1, n0, .inl p0))] s.heap.size = A at hD ⊢
  have hA : ∀ q : Nat, s.heap.size ≤ q → A q := fun q h => by rw [← hAe]; exact Or.inr h
  have hS : va_S A s.heap s.heap [] := va_S.rf
  have hl := lv_entry ([.ref qP0, .int x1] : List Value) (n := 3) (Nat.le_of_ble_eq_true rfl)
  rw [lg_entry_eq]
  generalize (lg_sl ([.ref qP0, .int x1] : List Value) ++ List.replicate (3 - (lg_sl ([.ref qP0, .int x1] : List Value)).length) Slot.unset).toArray = ls at hl ⊢
  have hl : lv_has ls 3 [(0, .ref qP0), (1, .int x1)] := hl
  have hw0 : (Cond.arrayClass .int).before #[Value.ref qP0, Value.int x1] s = true := hts _ (by decide +kernel)
  have hw1 : (Cond.methodLink RJ7 304 Lib.Math.min.name).before #[Value.ref qP0, Value.int x1] s = true := hts _ (by decide +kernel)
  have hw2 : (Cond.static Lib.Math.min.name).before #[Value.ref qP0, Value.int x1] s = true := hts _ (by decide +kernel)
  have hw3 : (Cond.initialized "java/lang/Math").before #[Value.ref qP0, Value.int x1] s = true := hts _ (by decide +kernel)
  have hw4 : (Cond.code Lib.Math.min.name Lib.Math.min.code 2 (some .int)).before #[Value.ref qP0, Value.int x1] s = true := hts _ (by decide +kernel)
  have hw5 : (Cond.methodLink RJ7 150 arraycopyName).before #[Value.ref qP0, Value.int x1] s = true := hts _ (by decide +kernel)
  have hw6 : (Cond.native arraycopyName).before #[Value.ref qP0, Value.int x1] s = true := hts _ (by decide +kernel)
  have hw7 : (Cond.static arraycopyName).before #[Value.ref qP0, Value.int x1] s = true := hts _ (by decide +kernel)
  have hw8 : (Cond.initialized "java/lang/System").before #[Value.ref qP0, Value.int x1] s = true := hts _ (by decide +kernel)
  unfold kcpI at hq
  by_cases hne : x1 = Int32.ofNat n0
  · rw [if_pos hne] at hq; cases hq
  have hq := k_f hne hq
  obtain ⟨hg, hq⟩ := k_g hq
  obtain ⟨hc, hq⟩ := k_g hq
  obtain rfl := Option.some.inj hq
  have hg := of_decide_eq_true hg
  refine lv_iload_n hx hb dJ7_copyOf_59c91_0 rfl (lv_at hl 1 rfl) ?_
  refine lv_aload_n hx hb dJ7_copyOf_59c91_1 rfl (lv_at hl 0 rfl) ?_
  refine va_alen hx hb hK hP 0 0 rfl rfl (v := Int32.ofNat n0) rfl dJ7_copyOf_59c91_2 ?_
  refine lv_icmp_ne (tgt := 14) hx hb dJ7_copyOf_59c91_3 (by decide) (fun _ => ?_) (fun c_3 => absurd c_3 hne)
  refine lv_iload_n hx hb dJ7_copyOf_59c91_14 rfl (lv_at hl 1 rfl) ?_
  refine va_newa (atype := .int) (ty := .int) (a0 := (x1.toNatClampNeg, .inl (fun _ => 0))) (N' := x1.toNatClampNeg) hx hb hw0 rfl hK hP hD hS hA (fun _ => rfl) hg.1 rfl (by show x1.toNatClampNeg * _ ≤ _; have := hg.2; simp only [componentBytes] at *; omega) (Nat.le_of_ble_eq_true rfl) (Nat.le_of_eq (Nat.zero_add _)) dJ7_copyOf_59c91_15 (fun q cA H hK1 hP hD hS => ?_)
  obtain rfl := tyI hK1
  have hP : va_P G.1 vwCl [(qP0, .inl (G.2.1, n0, .inl p0)), (q, .inl (G.2.1, x1.toNatClampNeg, .inl (fun _ => 0)))] H := hP
  have hD : va_D A [(qP0, .inl (G.2.1, n0, .inl p0)), (q, .inl (G.2.1, x1.toNatClampNeg, .inl (fun _ => 0)))] := hD
  refine lv_astore_n (lv' := [(2, .ref q), (0, .ref qP0), (1, .int x1)]) hx hb dJ7_copyOf_59c91_17 rfl hl (by decide) rfl (fun ls hl => ?_)
  refine lv_aload_n hx hb dJ7_copyOf_59c91_18 rfl (lv_at hl 1 rfl) ?_
  refine lv_iconst (v := 0) hx hb dJ7_copyOf_59c91_19 (by decide) ?_
  refine lv_aload_n hx hb dJ7_copyOf_59c91_20 rfl (lv_at hl 0 rfl) ?_
  refine lv_iconst (v := 0) hx hb dJ7_copyOf_59c91_21 (by decide) ?_
  refine lv_aload_n hx hb dJ7_copyOf_59c91_22 rfl (lv_at hl 1 rfl) ?_
  refine va_alen hx hb hK hP 0 0 rfl rfl (v := Int32.ofNat n0) rfl dJ7_copyOf_59c91_23 ?_
  refine lv_iload_n hx hb dJ7_copyOf_59c91_24 rfl (lv_at hl 2 rfl) ?_
  refine va_mmin hx hb (hml.trans hl.1.symm) hown hw1 hw2 hw3 hw4 (Nat.le_of_ble_eq_true rfl) (Nat.le_of_ble_eq_true rfl) (Nat.le_of_ble_eq_true rfl) (Nat.le_of_eq (Nat.zero_add _)) dJ7_copyOf_59c91_25 ?_
  refine va_copyi hx hb (hml.trans hl.1.symm) hown hw5 hw6 hw7 hw8 hK hP hD hS 0 1 0 0 rfl rfl rfl rfl rfl (cp_1 hc) (cp_2 hc) (cp_3 hc) (cp_4 hc) (cp_5 hc) (fun _ _ => rfl) (Nat.le_of_ble_eq_true rfl) (Nat.le_of_ble_eq_true rfl) dJ7_copyOf_59c91_28 (fun H locs hP hD hS => ?_)
  have hP : va_P G.1 vwCl [(qP0, .inl (G.2.1, n0, .inl p0)), (q, .inl (G.2.1, x1.toNatClampNeg, .inl (va_cpy p0 (fun _ => 0) (0 : Int32).toNatClampNeg (0 : Int32).toNatClampNeg (if x1 < Int32.ofNat n0 then x1 else Int32.ofNat n0).toNatClampNeg)))] H := hP
  have hD : va_D A [(qP0, .inl (G.2.1, n0, .inl p0)), (q, .inl (G.2.1, x1.toNatClampNeg, .inl (va_cpy p0 (fun _ => 0) (0 : Int32).toNatClampNeg (0 : Int32).toNatClampNeg (if x1 < Int32.ofNat n0 then x1 else Int32.ofNat n0).toNatClampNeg)))] := hD
  refine lv_aload_n hx hb dJ7_copyOf_59c91_31 rfl (lv_at hl 0 rfl) ?_
  refine W.widen (k := 1) (n := x1.toNatClampNeg) (Nat.le_of_ble_eq_true rfl) (Nat.le_of_eq (Nat.zero_add _)) ?_
  exact W.aret hx hb hr (Or.inr ⟨_, rfl⟩) (Or.inr ⟨_, rfl⟩) (fun t ht hW => ⟨⟨(), _, rfl, trivial, va_Pat ht hP, hD⟩, hS.F ht⟩) hS.2.2 dJ7_copyOf_59c91_32
def kX1_makeRoom (F : Nat) (lc : Int32) (nb : Nat) (lb : Nat → Int64) (nw : Nat) (lw : Nat → Int32) : Option (Nat × (Nat → Int64) × Nat × (Nat → Int32)) :=
  (if lc < (Int32.ofNat nb) then some (nb, lb, nw, lw) else (if (2 * (Int32.ofNat nb)) ≤ 0 then some (nb, lb, nw, lw) else ((kcpJ nb lb (2 * (Int32.ofNat nb))).bind fun a => ((kcpI nw lw (2 * (Int32.ofNat nb))).bind fun b => (if gok nb nw a.1 b.1 = true then some (a.1, a.2, b.1, b.2) else none)))))
set_option maxHeartbeats 40000000 in
set_option maxRecDepth 100000 in
theorem tX1_makeRoom (G : GG) (l : Launch) {qL qLb qLw sz nb nw : Nat} {lc : Int32} {lb : Nat → Int64} {lw : Nat → Int32} {F : Nat} {r : Nat × (Nat → Int64) × Nat × (Nat → Int32)} (hq : kX1_makeRoom F lc nb lb nw lw = some r) : Met l yX1_makeRoom wsX1_makeRoom { frames := 2, cells := gC nb r.1, slots := gS nb r.1 nw r.2.2.1, locals := 110 } (pcW G [(qL, .inr (1, [.ref qLb, .ref qLw, .int lc])), (qLb, .inl (G.2.2.1, nb, .inr (.inl lb))), (qLw, .inl (G.2.1, nw, .inl lw))] sz [.ref qL]) (va_Qv (S := Unit) (fun _ => True) (fun _ t => ∃ a b : Nat, va_P G.1 vwCl [(qL, .inr (1, [.ref a, .ref b, .int lc])), (a, .inl (G.2.2.1, r.1, .inr (.inl r.2.1))), (b, .inl (G.2.1, r.2.2.1, .inl r.2.2.2))] t.heap ∧ va_D (va_A [(qL, .inr (1, [.ref qLb, .ref qLw, .int lc])), (qLb, .inl (G.2.2.1, nb, .inr (.inl lb))), (qLw, .inl (G.2.1, nw, .inl lw))] sz) [(qL, .inr (1, [.ref a, .ref b, .int lc])), (a, .inl (G.2.2.1, r.1, .inr (.inl r.2.1))), (b, .inl (G.2.1, r.2.2.1, .inl r.2.2.2))]) (va_A [(qL, .inr (1, [.ref qLb, .ref qLw, .int lc])), (qLb, .inl (G.2.2.1, nb, .inr (.inl lb))), (qLw, .inl (G.2.1, nw, .inl lw))] sz)) (gC nb r.1) (gS nb r.1 nw r.2.2.1) (va_A [(qL, .inr (1, [.ref qLb, .ref qLw, .int lc])), (qLb, .inl (G.2.2.1, nb, .inr (.inl lb))), (qLw, .inl (G.2.1, nw, .inl lw))] sz) := by
  refine Met.ofW (cc := cX1_makeRoom) (maxL := 2) (ret := none) (by decide) rfl ?_
  intro p e s m args below meth c s₁ B hml hv
  obtain ⟨rfl, hsz, hP, hKK, hD0⟩ := hv
  have hK := hKK.1
  have hx := B.exec
  have hb := B.bytes
  have hr := B.returns
  have hts := atoms_spec (ws := wsX1_makeRoom) B.pre
  have hown : s.vm.findClass RX1 = some m.cls := findClass_of_methodNamed B.named
  have hlocks := B.notSynchronized
  subst hsz
  have hD := hD0.self (sz := s.heap.size)
  generalize hAe : va_A [(qL, .inr (1, [.ref qLb, .ref qLw, .int lc])), (qLb, .inl (G.2.2.1, nb, .inr (.inl lb))), (qLw, .inl (G.2.1, nw, .inl lw))] s.heap.size = A at hD ⊢
  have hA : ∀ q : Nat, s.heap.size ≤ q → A q := fun q h => by rw [← hAe]; exact Or.inr h
  have hS : va_S A s.heap s.heap [] := va_S.rf
  have hl := lv_entry ([.ref qL] : List Value) (n := 2) (Nat.le_of_ble_eq_true rfl)
  rw [lg_entry_eq]
  generalize (lg_sl ([.ref qL] : List Value) ++ List.replicate (2 - (lg_sl ([.ref qL] : List Value)).length) Slot.unset).toArray = ls at hl ⊢
  have hl : lv_has ls 2 [(0, .ref qL)] := hl
  have hi1 : ∀ w ∈ u_ws RX1 TX1 3, w ∈ wsX1_makeRoom := by decide +kernel
  have hf7 : (Cond.fieldLink RX1 7 "NetPlumber$BorderList" "borders" "[J").before #[Value.ref qL] s = true := hts _ (by decide +kernel)
  have hf13 : (Cond.fieldLink RX1 13 "NetPlumber$BorderList" "ways" "[I").before #[Value.ref qL] s = true := hts _ (by decide +kernel)
  have hf17 : (Cond.fieldLink RX1 17 "NetPlumber$BorderList" "count" "I").before #[Value.ref qL] s = true := hts _ (by decide +kernel)
  unfold kX1_makeRoom at hq
  refine lv_iconst (v := 2) hx hb dX1_makeRoom_0 (by decide) ?_
  refine lv_aload_n hx hb dX1_makeRoom_1 rfl (lv_at hl 0 rfl) ?_
  refine va_get (D := G.1) (ci := 1) (v := .ref qLb) (C := RX1) (T := TX1) (N := 3) hx hb hts hi1 hown hK hP 0 rfl rfl 0 (by decide) hf7 (fun _ h9 => h9) rfl dX1_makeRoom_2 ?_
  refine va_alen hx hb hK hP 1 1 rfl rfl (v := Int32.ofNat nb) rfl dX1_makeRoom_5 ?_
  refine lv_imul hx hb dX1_makeRoom_6 ?_
  refine lv_istore_n (lv' := [(1, .int (2 * Int32.ofNat nb)), (0, .ref qL)]) hx hb dX1_makeRoom_7 rfl hl (by decide) rfl (fun ls hl => ?_)
  refine lv_aload_n hx hb dX1_makeRoom_8 rfl (lv_at hl 1 rfl) ?_
  refine va_get (D := G.1) (ci := 1) (v := .int lc) (C := RX1) (T := TX1) (N := 3) hx hb hts hi1 hown hK hP 0 rfl rfl 2 (by decide) hf17 (fun _ h9 => h9) rfl dX1_makeRoom_9 ?_
  refine lv_aload_n hx hb dX1_makeRoom_12 rfl (lv_at hl 1 rfl) ?_
  refine va_get (D := G.1) (ci := 1) (v := .ref qLb) (C := RX1) (T := TX1) (N := 3) hx hb hts hi1 hown hK hP 0 rfl rfl 0 (by decide) hf7 (fun _ h9 => h9) rfl dX1_makeRoom_13 ?_
  refine va_alen hx hb hK hP 1 1 rfl rfl (v := Int32.ofNat nb) rfl dX1_makeRoom_16 ?_
  refine lv_icmp_lt (tgt := 48) hx hb dX1_makeRoom_17 (by decide) (fun c_17 => ?_) (fun c_17 => ?_)
  · have hq := k_t c_17 hq
    obtain rfl := Option.some.inj hq
    refine W.widen (k := gC nb nb) (n := gS nb nb nw nw) (Nat.zero_le _) (Nat.zero_le _) ?_
    exact W.vret hx hb hr (fun t ht hW => ⟨⟨(), rfl, trivial, _, _, va_Pat ht hP, hD⟩, hS.F ht⟩) hS.2.2 dX1_makeRoom_48
  · have hq := k_f c_17 hq
    refine lv_iload_n hx hb dX1_makeRoom_20 rfl (lv_at hl 0 rfl) ?_
    refine lv_if_le (tgt := 48) hx hb dX1_makeRoom_21 (by decide) (fun c_21 => ?_) (fun c_21 => ?_)
    · have hq := k_t c_21 hq
      obtain rfl := Option.some.inj hq
      refine W.widen (k := gC nb nb) (n := gS nb nb nw nw) (Nat.zero_le _) (Nat.zero_le _) ?_
      exact W.vret hx hb hr (fun t ht hW => ⟨⟨(), rfl, trivial, _, _, va_Pat ht hP, hD⟩, hS.F ht⟩) hS.2.2 dX1_makeRoom_48
    · have hq := k_f c_21 hq
      obtain ⟨a, ea, hq⟩ := ob hq
      obtain ⟨b, eb, hq⟩ := ob hq
      obtain ⟨hg, hq⟩ := k_g hq
      obtain rfl := Option.some.inj hq
      obtain ⟨g1, g2⟩ := gok_c hg
      refine lv_aload_n hx hb dX1_makeRoom_24 rfl (lv_at hl 1 rfl) ?_
      refine lv_aload_n hx hb dX1_makeRoom_25 rfl (lv_at hl 1 rfl) ?_
      refine va_get (D := G.1) (ci := 1) (v := .ref qLb) (C := RX1) (T := TX1) (N := 3) hx hb hts hi1 hown hK hP 0 rfl rfl 0 (by decide) hf7 (fun _ h9 => h9) rfl dX1_makeRoom_26 ?_
      refine lv_iload_n hx hb dX1_makeRoom_29 rfl (lv_at hl 0 rfl) ?_
      have hPc := hP.sub (ws' := [(qLb, .inl (G.2.2.1, nb, .inr (.inl lb)))]) [1] rfl
      have hDc := hD.sub (ws' := [(qLb, .inl (G.2.2.1, nb, .inr (.inl lb)))]) [1] (by decide) rfl
      have hFc := va_free (wc := [(qLb, .inl (G.2.2.1, nb, .inr (.inl lb)))]) hD hS hA [1] rfl
      refine va_callr (va_runS (As := [.ref qLb, .int (2 * Int32.ofNat nb)]) (rest := [.ref qL]) ⟨hx, hb, hml, hown, hts⟩ (tJ7_copyOf_c38d5 G l ea) (va_cwS 2 hts gX1_makeRoom_J7_copyOf_c38d5 rfl rfl rfl (by decide +kernel) ⟨Nat.le_of_ble_eq_true rfl, Nat.le_of_ble_eq_true rfl⟩) ⟨pcW_blind, pcW_pre hPc hKK hDc⟩ rfl rfl hl.1 rfl (lv_room (Nat.le_of_ble_eq_true rfl)) dX1_makeRoom_30 ⟨(by show 0 + 1 ≤ gC nb a.1; omega), (by show 0 + a.1 ≤ gS nb a.1 nw b.1; omega)⟩) hS (fun q _ h => hFc q h) hFc (fun u qa t H1 locs ht hvm hw hB hz1 hk1 hS => ?_)
      obtain ⟨hP, hD⟩ := va_join (wr := [(qL, .inr (1, [.ref qLb, .ref qLw, .int lc])), (qLw, .inl (G.2.1, nw, .inl lw))]) (w1 := [(qLb, .inl (G.2.2.1, nb, .inr (.inl lb))), (qa, .inl (G.2.2.1, a.1, .inr (.inl a.2)))]) hP hD [1] [0, 2] rfl rfl (by decide) (by decide) hk1 hFc (va_Pto ht hB.1) hB.2
      generalize H1 = H at hP hS ⊢
      have hP : va_P G.1 vwCl [(qL, .inr (1, [.ref qLb, .ref qLw, .int lc])), (qLw, .inl (G.2.1, nw, .inl lw)), (qLb, .inl (G.2.2.1, nb, .inr (.inl lb))), (qa, .inl (G.2.2.1, a.1, .inr (.inl a.2)))] H := hP
      have hD : va_D A [(qL, .inr (1, [.ref qLb, .ref qLw, .int lc])), (qLw, .inl (G.2.1, nw, .inl lw)), (qLb, .inl (G.2.2.1, nb, .inr (.inl lb))), (qa, .inl (G.2.2.1, a.1, .inr (.inl a.2)))] := hD
      refine va_put (D := G.1) (ci := 1) (v := .ref qa) (ty := .array .long) (C := RX1) (T := TX1) (N := 3) hx hb hts hi1 tyX1 tyX1_ok nmX1 hown hK hP hD hS 0 rfl rfl 0 (by decide) hf7 (fun _ h9 => h9) rfl (by decide +kernel) rfl rfl (Nat.le_of_ble_eq_true rfl) dX1_makeRoom_33 (fun H locs hP hD hS => ?_)
      have hP : va_P G.1 vwCl [(qL, .inr (1, [.ref qa, .ref qLw, .int lc])), (qLw, .inl (G.2.1, nw, .inl lw)), (qLb, .inl (G.2.2.1, nb, .inr (.inl lb))), (qa, .inl (G.2.2.1, a.1, .inr (.inl a.2)))] H := hP
      have hD : va_D A [(qL, .inr (1, [.ref qa, .ref qLw, .int lc])), (qLw, .inl (G.2.1, nw, .inl lw)), (qLb, .inl (G.2.2.1, nb, .inr (.inl lb))), (qa, .inl (G.2.2.1, a.1, .inr (.inl a.2)))] := hD
      refine lv_aload_n hx hb dX1_makeRoom_36 rfl (lv_at hl 1 rfl) ?_
      refine lv_aload_n hx hb dX1_makeRoom_37 rfl (lv_at hl 1 rfl) ?_
      refine va_get (D := G.1) (ci := 1) (v := .ref qLw) (C := RX1) (T := TX1) (N := 3) hx hb hts hi1 hown hK hP 0 rfl rfl 1 (by decide) hf13 (fun _ h9 => h9) rfl dX1_makeRoom_38 ?_
      refine lv_iload_n hx hb dX1_makeRoom_41 rfl (lv_at hl 0 rfl) ?_
      have hPc := hP.sub (ws' := [(qLw, .inl (G.2.1, nw, .inl lw))]) [1] rfl
      have hDc := hD.sub (ws' := [(qLw, .inl (G.2.1, nw, .inl lw))]) [1] (by decide) rfl
      have hFc := va_free (wc := [(qLw, .inl (G.2.1, nw, .inl lw))]) hD hS hA [1] rfl
      refine va_callr (va_runS (As := [.ref qLw, .int (2 * Int32.ofNat nb)]) (rest := [.ref qL]) ⟨hx, hb, hml, hown, hts⟩ (tJ7_copyOf_59c91 G l eb) (va_cwS 2 hts gX1_makeRoom_J7_copyOf_59c91 rfl rfl rfl (by decide +kernel) ⟨Nat.le_of_ble_eq_true rfl, Nat.le_of_ble_eq_true rfl⟩) ⟨pcW_blind, pcW_pre hPc hKK hDc⟩ rfl rfl hl.1 rfl (lv_room (Nat.le_of_ble_eq_true rfl)) dX1_makeRoom_42 ⟨(by show 0 + 1 + 1 ≤ gC nb a.1; omega), (by show 0 + a.1 + b.1 ≤ gS nb a.1 nw b.1; omega)⟩) hS (fun q _ h => hFc q h) hFc (fun u qb t H1 locs ht hvm hw hB hz1 hk1 hS => ?_)
      obtain ⟨hP, hD⟩ := va_join (wr := [(qL, .inr (1, [.ref qa, .ref qLw, .int lc])), (qLb, .inl (G.2.2.1, nb, .inr (.inl lb))), (qa, .inl (G.2.2.1, a.1, .inr (.inl a.2)))]) (w1 := [(qLw, .inl (G.2.1, nw, .inl lw)), (qb, .inl (G.2.1, b.1, .inl b.2))]) hP hD [1] [0, 2, 3] rfl rfl (by decide) (by decide) hk1 hFc (va_Pto ht hB.1) hB.2
      generalize H1 = H at hP hS ⊢
      have hP : va_P G.1 vwCl [(qL, .inr (1, [.ref qa, .ref qLw, .int lc])), (qLb, .inl (G.2.2.1, nb, .inr (.inl lb))), (qa, .inl (G.2.2.1, a.1, .inr (.inl a.2))), (qLw, .inl (G.2.1, nw, .inl lw)), (qb, .inl (G.2.1, b.1, .inl b.2))] H := hP
      have hD : va_D A [(qL, .inr (1, [.ref qa, .ref qLw, .int lc])), (qLb, .inl (G.2.2.1, nb, .inr (.inl lb))), (qa, .inl (G.2.2.1, a.1, .inr (.inl a.2))), (qLw, .inl (G.2.1, nw, .inl lw)), (qb, .inl (G.2.1, b.1, .inl b.2))] := hD
      refine va_put (D := G.1) (ci := 1) (v := .ref qb) (ty := .array .int) (C := RX1) (T := TX1) (N := 3) hx hb hts hi1 tyX1 tyX1_ok nmX1 hown hK hP hD hS 0 rfl rfl 1 (by decide) hf13 (fun _ h9 => h9) rfl (by decide +kernel) rfl rfl (Nat.le_of_ble_eq_true rfl) dX1_makeRoom_45 (fun H locs hP hD hS => ?_)
      have hP : va_P G.1 vwCl [(qL, .inr (1, [.ref qa, .ref qb, .int lc])), (qLb, .inl (G.2.2.1, nb, .inr (.inl lb))), (qa, .inl (G.2.2.1, a.1, .inr (.inl a.2))), (qLw, .inl (G.2.1, nw, .inl lw)), (qb, .inl (G.2.1, b.1, .inl b.2))] H := hP
      have hD : va_D A [(qL, .inr (1, [.ref qa, .ref qb, .int lc])), (qLb, .inl (G.2.2.1, nb, .inr (.inl lb))), (qa, .inl (G.2.2.1, a.1, .inr (.inl a.2))), (qLw, .inl (G.2.1, nw, .inl lw)), (qb, .inl (G.2.1, b.1, .inl b.2))] := hD
      have hP := hP.sub (ws' := [(qL, .inr (1, [.ref qa, .ref qb, .int lc])), (qa, .inl (G.2.2.1, a.1, .inr (.inl a.2))), (qb, .inl (G.2.1, b.1, .inl b.2))]) [0, 2, 4] rfl
      have hD := hD.sub (ws' := [(qL, .inr (1, [.ref qa, .ref qb, .int lc])), (qa, .inl (G.2.2.1, a.1, .inr (.inl a.2))), (qb, .inl (G.2.1, b.1, .inl b.2))]) [0, 2, 4] (by decide) rfl
      refine W.widen (k := gC nb a.1) (n := gS nb a.1 nw b.1) (by omega) (by omega) ?_
      exact W.vret hx hb hr (fun t ht hW => ⟨⟨(), rfl, trivial, _, _, va_Pat ht hP, hD⟩, hS.F ht⟩) hS.2.2 dX1_makeRoom_48
