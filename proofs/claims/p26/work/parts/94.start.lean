/-! the law's start (laid by wip/p26/lawstart.py) -/
theorem arr_of {ty : FieldType} {args : Array Value} {s : State} (h : (Cond.arrayClass ty).before args s = true) : ∃ cA : ClassId, ArrOfT s cA ty ∧ s.vm.findClass ("[" ++ ty.toString) = some cA := by
  obtain ⟨c, k, comp, h1, h2, h3⟩ := Cond.arrayClass_spec h
  exact ⟨c, fun n z => ⟨fun k h => (by cases h), k, h2, comp, h3⟩, h1⟩
theorem arr_ofA {t : FieldType} {args : Array Value} {s : State} (h : (Cond.arrayOver (.array t)).before args s = true) : ∃ cA : ClassId, ArrOfT s cA (.array t) ∧ s.vm.findClass ("[" ++ (FieldType.array t).toString) = some cA := by
  obtain ⟨comp, c, k, h0, h1, h2, h3⟩ := Cond.arrayOver_specA h
  exact ⟨c, fun n z => ⟨fun k h => (by cases h), k, h1, comp, h2⟩, h3⟩
theorem nest_in : ∀ w ∈ nestW, w ∈ lw_tbl := by decide +kernel
theorem lo_G {b : Nat} {s : State} (hts : ∀ w ∈ lw_tbl, w.before #[Value.ref b] s = true) : ∃ G : GG, KK G s := by
  obtain ⟨c0, i0, k0⟩ := u_known (n := 8) hts wsL_in_X0 (hts (.instantiable RX0 8) (by decide +kernel))
  obtain ⟨c1, i1, k1⟩ := u_known (n := 3) hts wsL_in_X1 (hts (.instantiable RX1 3) (by decide +kernel))
  obtain ⟨c2, i2, k2⟩ := u_known (n := 3) hts wsL_in_X2 (hts (.instantiable RX2 3) (by decide +kernel))
  obtain ⟨c3, i3, k3⟩ := u_known (n := 5) hts wsL_in_X3 (hts (.instantiable RX3 5) (by decide +kernel))
  obtain ⟨c4, i4, k4⟩ := u_known (n := 8) hts wsL_in_X4 (hts (.instantiable RX4 8) (by decide +kernel))
  obtain ⟨c5, i5, k5⟩ := u_known (n := 5) hts wsL_in_X5 (hts (.instantiable RX5 5) (by decide +kernel))
  obtain ⟨c6, i6, k6⟩ := u_known (n := 5) hts wsL_in_X6 (hts (.instantiable RX6 5) (by decide +kernel))
  obtain ⟨c7, i7, k7⟩ := u_known (n := 6) hts wsL_in_X7 (hts (.instantiable RX7 6) (by decide +kernel))
  obtain ⟨aI, x1, x2⟩ := arr_of (hts (.arrayClass .int) (by decide +kernel))
  obtain ⟨aJ, x3, x4⟩ := arr_of (hts (.arrayClass .long) (by decide +kernel))
  obtain ⟨aZ, x5, x6⟩ := arr_of (hts (.arrayClass .byte) (by decide +kernel))
  obtain ⟨aR, x7, x8⟩ := arr_ofA (t := .int) (hts (.arrayOver (.array .int)) (by decide +kernel))
  refine ⟨((fun c => [c0, c1, c2, c3, c4, c5, c6, c7].getD c c0, fun c => [i0, i1, i2, i3, i4, i5, i6, i7].getD c i0), aI, aJ, aZ, aR), ⟨fun c q hq => ?_, fun k q hk => ?_⟩, fun w hw => ?_⟩
  · match c, hq with
    | 0, hq => obtain rfl := Option.some.inj (show some (RX0, TX0, 8) = some q from hq); exact k0
    | 1, hq => obtain rfl := Option.some.inj (show some (RX1, TX1, 3) = some q from hq); exact k1
    | 2, hq => obtain rfl := Option.some.inj (show some (RX2, TX2, 3) = some q from hq); exact k2
    | 3, hq => obtain rfl := Option.some.inj (show some (RX3, TX3, 5) = some q from hq); exact k3
    | 4, hq => obtain rfl := Option.some.inj (show some (RX4, TX4, 8) = some q from hq); exact k4
    | 5, hq => obtain rfl := Option.some.inj (show some (RX5, TX5, 5) = some q from hq); exact k5
    | 6, hq => obtain rfl := Option.some.inj (show some (RX6, TX6, 5) = some q from hq); exact k6
    | 7, hq => obtain rfl := Option.some.inj (show some (RX7, TX7, 6) = some q from hq); exact k7
    | n + 8, hq => exact absurd (show (none : Option vw_C) = some q from hq) (fun h => (by cases h))
  · match k, hk with
    | 0, hk => obtain rfl := Option.some.inj (show some (aI, FieldType.int) = some q from hk); exact ⟨x1, x2⟩
    | 1, hk => obtain rfl := Option.some.inj (show some (aJ, FieldType.long) = some q from hk); exact ⟨x3, x4⟩
    | 2, hk => obtain rfl := Option.some.inj (show some (aZ, FieldType.byte) = some q from hk); exact ⟨x5, x6⟩
    | 3, hk => obtain rfl := Option.some.inj (show some (aR, FieldType.array .int) = some q from hk); exact ⟨x7, x8⟩
    | n + 4, hk => exact absurd (show (none : Option (ClassId × FieldType)) = some q from hk) (fun h => (by cases h))
  · have h1 := hts w (nest_in w hw)
    obtain ⟨a, i, x, h, rfl⟩ := nestW_form w hw
    exact va_Nw.of rfl h1
