/-! the law's start (laid by wip/whole/lawstart.py) -/
theorem lo_init {F : Nat} (hF : BF F) : Ex (kX0_clear F 0 0 0 (fun _ => 0) (fun _ => 0) (fun _ => 0) (fun _ => 0) 3 3 0) (fun r => ∀ hM mM : Nat → Int32, INV 0 r.1 r.2.1 r.2.2.1 r.2.2.2.1 r.2.2.2.2.1 r.2.2.2.2.2.1 r.2.2.2.2.2.2 0 0 hM 16 16 16 16 3 3 0 0 0 0 (fun _ => 0) (fun _ => 0) (fun _ => 0) mM) := by
  have h := a_clear (F := F) (w := 3) (h := 3) (g := false) (T := fun _ => 0) (bn := 0) (bk := 0) (bs := 0) (bC := fun _ => 0) (N0 := fun _ => some 0) (Y0 := fun _ => some 0) (by decide) hF.1
  obtain ⟨r, e, g1, g2, g3, g4, g5, N1, Y1, g6, g7, g8, g9⟩ := h
  have z0 : z16 (fun _ => 0) = fun _ => 0 := by
    funext q
    unfold z16
    split <;> rfl
  refine ⟨r, e, fun hM mM => ⟨3, 3, false, fun _ => 0, fun _ => 0, 0, 0, fun _ => 0, 0, 0, N1, Y1, by decide, fun _ => (by show 0 < 16; decide), fun _ => (by show 0 < 16; decide), wsy0, by decide, by decide, Nat.le_refl 0, Nat.le_refl 0, fun j hj => absurd hj (Nat.not_lt_zero j), g1, g2, g3, g4.trans (congrArg fN z0), g5, g6, g7, g8, fun c s hc hs => ?_, rfl, rfl, fun j hj => absurd hj (Nat.not_lt_zero j), ⟨rfl, by decide, by decide⟩, ⟨rfl, by decide, by decide⟩, rfl, rfl, rfl, rfl, rfl, rfl, rfl, fun j hj => rfl, fun j hj => ?_, fun j hj => absurd hj (Nat.not_lt_zero j)⟩⟩
  · rw [g9 c s hc hs]
    unfold Wyf
    rw [Nat.zero_testBit]
    rfl
  · rw [Nat.zero_testBit]
    rfl
theorem arr_of {ty : FieldType} {args : Array Value} {s : State} (h : (Cond.arrayClass ty).before args s = true) : ∃ cA : ClassId, ArrOfT s cA ty ∧ s.vm.findClass ("[" ++ ty.toString) = some cA := by
  obtain ⟨c, k, comp, h1, h2, h3⟩ := Cond.arrayClass_spec h
  exact ⟨c, fun n z => ⟨fun k h => (by cases h), k, h2, comp, h3⟩, h1⟩
theorem arr_ofA {t : FieldType} {args : Array Value} {s : State} (h : (Cond.arrayOver (.array t)).before args s = true) : ∃ cA : ClassId, ArrOfT s cA (.array t) ∧ s.vm.findClass ("[" ++ (FieldType.array t).toString) = some cA := by
  obtain ⟨comp, c, k, h0, h1, h2, h3⟩ := Cond.arrayOver_specA h
  exact ⟨c, fun n z => ⟨fun k h => (by cases h), k, h1, comp, h2⟩, h3⟩
theorem nest_in : ∀ w ∈ nestW, w ∈ lw_tbl := by decide +kernel
theorem str_in : ∀ q ∈ strS, Cond.stringRef RX7 q.1 q.2 ∈ lw_tbl := by decide +kernel
theorem cast_in : ∀ n, n < 3 → Cond.castable (exN n) (exN n) ∈ lw_tbl := by decide +kernel
theorem dec_in : ∀ w ∈ decW, w ∈ lw_tbl := by decide +kernel
theorem lo_G {b : Nat} {s : State} (hts : ∀ w ∈ lw_tbl, w.before #[Value.ref b] s = true) : ∃ G : GG, KK G s := by
  obtain ⟨c0, i0, k0⟩ := u_known (n := 8) hts wsL_in_X0 (hts (.instantiable RX0 8) (by decide +kernel))
  obtain ⟨c1, i1, k1⟩ := u_known (n := 3) hts wsL_in_X1 (hts (.instantiable RX1 3) (by decide +kernel))
  obtain ⟨c2, i2, k2⟩ := u_known (n := 3) hts wsL_in_X2 (hts (.instantiable RX2 3) (by decide +kernel))
  obtain ⟨c3, i3, k3⟩ := u_known (n := 5) hts wsL_in_X3 (hts (.instantiable RX3 5) (by decide +kernel))
  obtain ⟨c4, i4, k4⟩ := u_known (n := 8) hts wsL_in_X4 (hts (.instantiable RX4 8) (by decide +kernel))
  obtain ⟨c5, i5, k5⟩ := u_known (n := 5) hts wsL_in_X5 (hts (.instantiable RX5 5) (by decide +kernel))
  obtain ⟨c6, i6, k6⟩ := u_known (n := 5) hts wsL_in_X6 (hts (.instantiable RX6 5) (by decide +kernel))
  obtain ⟨c7, i7, k7⟩ := u_known (n := 6) hts wsL_in_X7 (hts (.instantiable RX7 6) (by decide +kernel))
  obtain ⟨c8, i8, k8⟩ := u_known (n := 19) hts wsL_in_X8 (hts (.instantiable RX8 19) (by decide +kernel))
  obtain ⟨aI, x1, x2⟩ := arr_of (hts (.arrayClass .int) (by decide +kernel))
  obtain ⟨aJ, x3, x4⟩ := arr_of (hts (.arrayClass .long) (by decide +kernel))
  obtain ⟨aZ, x5, x6⟩ := arr_of (hts (.arrayClass .boolean) (by decide +kernel))
  obtain ⟨aR, x7, x8⟩ := arr_ofA (t := .int) (hts (.arrayOver (.array .int)) (by decide +kernel))
  refine ⟨((fun c => [c0, c1, c2, c3, c4, c5, c6, c7, c8].getD c c0, fun c => [i0, i1, i2, i3, i4, i5, i6, i7, i8].getD c i0), aI, aJ, aZ, aR), ⟨fun c q hq => ?_, fun k q hk => ?_⟩, fun w hw => ?_⟩
  · match c, hq with
    | 0, hq => obtain rfl := Option.some.inj (show some (RX0, TX0, 8) = some q from hq); exact k0
    | 1, hq => obtain rfl := Option.some.inj (show some (RX1, TX1, 3) = some q from hq); exact k1
    | 2, hq => obtain rfl := Option.some.inj (show some (RX2, TX2, 3) = some q from hq); exact k2
    | 3, hq => obtain rfl := Option.some.inj (show some (RX3, TX3, 5) = some q from hq); exact k3
    | 4, hq => obtain rfl := Option.some.inj (show some (RX4, TX4, 8) = some q from hq); exact k4
    | 5, hq => obtain rfl := Option.some.inj (show some (RX5, TX5, 5) = some q from hq); exact k5
    | 6, hq => obtain rfl := Option.some.inj (show some (RX6, TX6, 5) = some q from hq); exact k6
    | 7, hq => obtain rfl := Option.some.inj (show some (RX7, TX7, 6) = some q from hq); exact k7
    | 8, hq => obtain rfl := Option.some.inj (show some (RX8, TX8, 19) = some q from hq); exact k8
    | n + 9, hq => exact absurd (show (none : Option vw_C) = some q from hq) (fun h => (by cases h))
  · match k, hk with
    | 0, hk => obtain rfl := Option.some.inj (show some (aI, FieldType.int) = some q from hk); exact ⟨x1, x2⟩
    | 1, hk => obtain rfl := Option.some.inj (show some (aJ, FieldType.long) = some q from hk); exact ⟨x3, x4⟩
    | 2, hk => obtain rfl := Option.some.inj (show some (aZ, FieldType.boolean) = some q from hk); exact ⟨x5, x6⟩
    | 3, hk => obtain rfl := Option.some.inj (show some (aR, FieldType.array .int) = some q from hk); exact ⟨x7, x8⟩
    | n + 4, hk => exact absurd (show (none : Option (ClassId × FieldType)) = some q from hk) (fun h => (by cases h))
  · have h1 := hts w (nest_in w hw)
    obtain ⟨a, i, x, h, rfl⟩ := nestW_form w hw
    exact va_Nw.of rfl h1
theorem lo_TH {b : Nat} {s : State} {G : GG} {A : Nat → Prop} (hts : ∀ w ∈ lw_tbl, w.before #[Value.ref b] s = true) (hgv : (Jvm.Cond.and given_1 narrow_1).before #[Value.ref b] s = true) (hKK : KK G s) (hA : ∀ a : Nat, a < s.heap.size → ¬ A a) : TH A s s.heap := by
  have hg := flat_of_before _ hgv
  refine ⟨vx_Zqof (hts _ (by decide +kernel)) (hts _ (by decide +kernel)) (hg _ (by decide +kernel)) hA, vx_Zqof (hts _ (by decide +kernel)) (hts _ (by decide +kernel)) (hg _ (by decide +kernel)) hA, fun q hq => ?_, fun n hn => va_Nw.of rfl (hts _ (cast_in n hn)), fun w hw => ?_⟩
  · have h1 := hts _ (str_in q hq)
    have hcur : s.vm.findClass RX7 = some (G.1.1 7) := (hKK.1.1 7 (RX7, TX7, 6) rfl).2.1
    obtain ⟨k, cf, i, a, -, -, -, -, -, hev⟩ := Cond.stringRef_spec hcur h1
    exact ⟨a, vk_R.of h1 hev⟩
  · have h1 := hts w (dec_in w hw)
    obtain ⟨x, rfl⟩ := decW_form w hw
    exact va_Nw.of rfl h1
theorem lo_NC {b : Nat} {s : State} (hgv : (Jvm.Cond.and given_1 narrow_1).before #[Value.ref b] s = true) : NC s := by
  have hg := flat_of_before _ hgv
  exact ⟨va_Nc.of (hg (.not (.castable (exN 0) (exN 1))) (by decide +kernel)), va_Nc.of (hg (.not (.castable (exN 2) (exN 1))) (by decide +kernel))⟩
