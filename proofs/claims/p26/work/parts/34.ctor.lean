/-! constructors (laid by wip/whole/ctor.py) -/
theorem tyI {D : va_G} {cl : List vw_C} {G : GG} {cA : ClassId} {s : State} (h : va_K D cl (tysG G ++ [(cA, .int)]) s) : G.2.1 = cA := Option.some.inj ((h.2 0 _ rfl).2.symm.trans (h.2 4 _ rfl).2)
theorem tyJ {D : va_G} {cl : List vw_C} {G : GG} {cA : ClassId} {s : State} (h : va_K D cl (tysG G ++ [(cA, .long)]) s) : G.2.2.1 = cA := Option.some.inj ((h.2 1 _ rfl).2.symm.trans (h.2 4 _ rfl).2)
theorem tyZ {D : va_G} {cl : List vw_C} {G : GG} {cA : ClassId} {s : State} (h : va_K D cl (tysG G ++ [(cA, .byte)]) s) : G.2.2.2.1 = cA := Option.some.inj ((h.2 2 _ rfl).2.symm.trans (h.2 4 _ rfl).2)
theorem tyR {D : va_G} {cl : List vw_C} {G : GG} {cA : ClassId} {s : State} (h : va_K D cl (tysG G ++ [(cA, .array .int)]) s) : G.2.2.2.2 = cA := Option.some.inj ((h.2 3 _ rfl).2.symm.trans (h.2 4 _ rfl).2)
theorem va_AOA.warm {ty : FieldType} {s U : State} (hW : s.WarmedH U.vm) (h : va_AOA ty s) : va_AOA ty U := by
  have h1 : (Cond.arrayOver (.array ty)).before #[] (s.setVm U.vm) = true := by rw [Cond.arrayOver_setVmC hW.alike]; exact h
  exact h1
def pcC (G : GG) (W : va_W) (sz : Nat) (av : List Value) : Array Value → State → Prop := va_Pc av (fun U => U.heap.size = sz ∧ va_P G.1 vwCl W U.heap ∧ KK G U ∧ va_D (fun _ => True) W ∧ va_AOA .int U)
theorem pcC_blind {G : GG} {W : va_W} {sz : Nat} {av : List Value} : FrameBlind (pcC G W sz av) := fun _ _ _ _ q => ⟨q.1, q.2.1, q.2.2.1, q.2.2.2.1.call, q.2.2.2.2.1, q.2.2.2.2.2⟩
theorem pcC_pre {G : GG} {W : va_W} {av : List Value} {s : State} {H : Heap} {A : Nat → Prop} (hP : va_P G.1 vwCl W H) (hK : KK G s) (hD : va_D A W) (hA : va_AOA .int s) : ∀ U : State, U.heap = H → s.WarmedH U.vm → pcC G W H.size av av.toArray U := fun U hU hW => ⟨rfl, by rw [hU], by rw [hU]; exact hP, hK.warm hW, hD.weaken (fun _ _ _ _ => trivial), hA.warm hW⟩
theorem mna_z (c : ClassId) : Jvm.Free.Multi.innerC c 16 (defaultValue .int) = vp_cell c (16, .inl (fun _ => 0)) := by
  show ({ cls := c, slots := Array.replicate 16 (Value.int 0), vm := .none } : Cell) = _
  rw [arrV_new]
  rfl
theorem mna_w {G : GG} {X : va_W} {r : Nat → Nat} {f : Nat → va_E} : X ++ va_pl ([] ++ (List.range 17).map r) (vr_up f ((List.range 17).map r) (.inl (G.2.1, 16, .inl (fun _ => 0)))) = X ++ rws G r (fun _ _ => 0) := by
  congr 1
  rw [List.nil_append]
  unfold va_pl rws
  rw [List.map_map]
  apply List.map_congr_left
  intro i hi
  show (r i, vr_up f ((List.range 17).map r) _ (r i)) = _
  rw [vr_up_in (List.mem_map.mpr ⟨i, hi, rfl⟩)]
abbrev rmX0_init : Room := { frames := 1, cells := 5, slots := 176, locals := 24 }
set_option maxHeartbeats 40000000 in
set_option maxRecDepth 100000 in
theorem tX0_init (G : GG) (l : Launch) {qB sz : Nat}  : Met l yX0_init wsX0_init rmX0_init (pcW G [(qB, .inr (0, [.null, .null, .null, .null, .null, .int 0, .int 0, .int 0]))] sz [.ref qB]) (va_Qv (S := Unit) (fun _ => True) (fun _ t => ∃ (q_7 q_15 q_23 q_31 q_39 : Nat), va_P G.1 vwCl [(qB, .inr (0, [.ref q_7, .ref q_15, .ref q_23, .ref q_31, .ref q_39, .int 0, .int 0, .int 0])), (q_7, .inl (G.2.1, 16, .inl (fun _ => 0))), (q_15, .inl (G.2.1, 16, .inl (fun _ => 0))), (q_23, .inl (G.2.1, 64, .inl (fun _ => 0))), (q_31, .inl (G.2.1, 64, .inl (fun _ => 0))), (q_39, .inl (G.2.1, 16, .inl (fun _ => 0)))] t.heap ∧ va_D (va_A [(qB, .inr (0, [.null, .null, .null, .null, .null, .int 0, .int 0, .int 0]))] sz) [(qB, .inr (0, [.ref q_7, .ref q_15, .ref q_23, .ref q_31, .ref q_39, .int 0, .int 0, .int 0])), (q_7, .inl (G.2.1, 16, .inl (fun _ => 0))), (q_15, .inl (G.2.1, 16, .inl (fun _ => 0))), (q_23, .inl (G.2.1, 64, .inl (fun _ => 0))), (q_31, .inl (G.2.1, 64, .inl (fun _ => 0))), (q_39, .inl (G.2.1, 16, .inl (fun _ => 0)))]) (va_A [(qB, .inr (0, [.null, .null, .null, .null, .null, .int 0, .int 0, .int 0]))] sz)) 5 176 (va_A [(qB, .inr (0, [.null, .null, .null, .null, .null, .int 0, .int 0, .int 0]))] sz) := by
  refine Met.ofW (cc := cX0_init) (maxL := 1) (ret := none) (by decide) rfl ?_
  intro p e s m args below meth c s₁ B hml hv
  obtain ⟨rfl, hsz, hP, hKK, hD0⟩ := hv
  have hK := hKK.1
  have hx := B.exec
  have hb := B.bytes
  have hr := B.returns
  have hts := atoms_spec (ws := wsX0_init) B.pre
  have hown : s.vm.findClass RX0 = some m.cls := findClass_of_methodNamed B.named
  have hlocks := B.notSynchronized
  have hin : meth.name = "<init>" := (name_of_methodNamed B.named B.method).1
  subst hsz
  have hD := hD0.self (sz := s.heap.size)
  generalize hAe : va_A [(qB, .inr (0, [.null, .null, .null, .null, .null, .int 0, .int 0, .int 0]))] s.heap.size = A at hD ⊢
  have hA : ∀ q : Nat, s.heap.size ≤ q → A q := fun q h => by rw [← hAe]; exact Or.inr h
  have hS : va_S A s.heap s.heap [] := va_S.rf
  have hl := lv_entry ([.ref qB] : List Value) (n := 1) (Nat.le_of_ble_eq_true rfl)
  rw [lg_entry_eq]
  generalize (lg_sl ([.ref qB] : List Value) ++ List.replicate (1 - (lg_sl ([.ref qB] : List Value)).length) Slot.unset).toArray = ls at hl ⊢
  have hl : lv_has ls 1 [(0, .ref qB)] := hl
  have hi0 : ∀ w ∈ u_ws RX0 TX0 8, w ∈ wsX0_init := by decide +kernel
  have hw0 : (Cond.methodLink RX0 3 objectInit).before #[Value.ref qB] s = true := hts _ (by decide +kernel)
  have hw1 : (Cond.instanceMethod objectInit).before #[Value.ref qB] s = true := hts _ (by decide +kernel)
  have hw2 : (Cond.code objectInit ⟨#[0xb1]⟩ 1 none).before #[Value.ref qB] s = true := hts _ (by decide +kernel)
  have hw3 : (Cond.arrayClass .int).before #[Value.ref qB] s = true := hts _ (by decide +kernel)
  have hw4 : (Cond.fieldLink RX0 9 "NetPlumber$Board" "tiles" "[I").before #[Value.ref qB] s = true := hts _ (by decide +kernel)
  have hw5 : (Cond.fieldLink RX0 15 "NetPlumber$Board" "columns" "[I").before #[Value.ref qB] s = true := hts _ (by decide +kernel)
  have hw6 : (Cond.fieldLink RX0 18 "NetPlumber$Board" "nexts" "[I").before #[Value.ref qB] s = true := hts _ (by decide +kernel)
  have hw7 : (Cond.fieldLink RX0 21 "NetPlumber$Board" "ways" "[I").before #[Value.ref qB] s = true := hts _ (by decide +kernel)
  have hw8 : (Cond.fieldLink RX0 24 "NetPlumber$Board" "links" "[I").before #[Value.ref qB] s = true := hts _ (by decide +kernel)
  refine wq (fun Q hQ => ?_)
  refine lv_aload_n hx hb dX0_init_0 rfl (lv_at hl 0 rfl) ?_
  refine W.objInit hx hb hown hw0 hw1 hw2 rfl (by rw [hml]; exact hl.1) rfl dX0_init_1 (Nat.le_of_ble_eq_true rfl) (Nat.le_of_ble_eq_true rfl) ?_
  refine W.eq (g2 := F0 m 4 ls []) rfl ?_
  refine lv_aload_n hx hb dX0_init_4 rfl (lv_at hl 0 rfl) ?_
  refine lv_bipush (v := 16) hx hb dX0_init_5 (by decide) ?_
  refine va_newa (atype := .int) (ty := .int) (a0 := (16, .inl (fun _ => 0))) (N' := 16) hx hb hw3 rfl hK hP hD hS hA (fun _ => rfl) (by decide) (by decide) (Nat.le_of_ble_eq_true rfl) (Nat.le_of_ble_eq_true rfl) (Nat.le_of_ble_eq_true rfl) dX0_init_7 (fun q_7 cA H hK1 hP hD hS => ?_)
  obtain rfl := tyI hK1
  have hP : va_P G.1 vwCl [(qB, .inr (0, [.null, .null, .null, .null, .null, .int 0, .int 0, .int 0])), (q_7, .inl (G.2.1, 16, .inl (fun _ => 0)))] H := hP
  have hD : va_D A [(qB, .inr (0, [.null, .null, .null, .null, .null, .int 0, .int 0, .int 0])), (q_7, .inl (G.2.1, 16, .inl (fun _ => 0)))] := hD
  refine va_putF (D := G.1) (ci := 0) (v := .ref q_7) (ty := .array .int) (C := RX0) (T := TX0) (N := 8) hx hb hts hi0 tyX0 tyX0_ok nmX0 hown hK hP hD hS 0 rfl rfl 0 (by decide) hw4 (fun _ h9 => h9) rfl hin rfl (by decide +kernel) rfl rfl (Nat.le_of_ble_eq_true rfl) dX0_init_9 (fun H locs hP hD hS => ?_)
  have hP : va_P G.1 vwCl [(qB, .inr (0, [.ref q_7, .null, .null, .null, .null, .int 0, .int 0, .int 0])), (q_7, .inl (G.2.1, 16, .inl (fun _ => 0)))] H := hP
  have hD : va_D A [(qB, .inr (0, [.ref q_7, .null, .null, .null, .null, .int 0, .int 0, .int 0])), (q_7, .inl (G.2.1, 16, .inl (fun _ => 0)))] := hD
  refine lv_aload_n hx hb dX0_init_12 rfl (lv_at hl 0 rfl) ?_
  refine lv_bipush (v := 16) hx hb dX0_init_13 (by decide) ?_
  refine va_newa (atype := .int) (ty := .int) (a0 := (16, .inl (fun _ => 0))) (N' := 16) hx hb hw3 rfl hK hP hD hS hA (fun _ => rfl) (by decide) (by decide) (Nat.le_of_ble_eq_true rfl) (Nat.le_of_ble_eq_true rfl) (Nat.le_of_ble_eq_true rfl) dX0_init_15 (fun q_15 cA H hK1 hP hD hS => ?_)
  obtain rfl := tyI hK1
  have hP : va_P G.1 vwCl [(qB, .inr (0, [.ref q_7, .null, .null, .null, .null, .int 0, .int 0, .int 0])), (q_7, .inl (G.2.1, 16, .inl (fun _ => 0))), (q_15, .inl (G.2.1, 16, .inl (fun _ => 0)))] H := hP
  have hD : va_D A [(qB, .inr (0, [.ref q_7, .null, .null, .null, .null, .int 0, .int 0, .int 0])), (q_7, .inl (G.2.1, 16, .inl (fun _ => 0))), (q_15, .inl (G.2.1, 16, .inl (fun _ => 0)))] := hD
  refine va_putF (D := G.1) (ci := 0) (v := .ref q_15) (ty := .array .int) (C := RX0) (T := TX0) (N := 8) hx hb hts hi0 tyX0 tyX0_ok nmX0 hown hK hP hD hS 0 rfl rfl 1 (by decide) hw5 (fun _ h9 => h9) rfl hin rfl (by decide +kernel) rfl rfl (Nat.le_of_ble_eq_true rfl) dX0_init_17 (fun H locs hP hD hS => ?_)
  have hP : va_P G.1 vwCl [(qB, .inr (0, [.ref q_7, .ref q_15, .null, .null, .null, .int 0, .int 0, .int 0])), (q_7, .inl (G.2.1, 16, .inl (fun _ => 0))), (q_15, .inl (G.2.1, 16, .inl (fun _ => 0)))] H := hP
  have hD : va_D A [(qB, .inr (0, [.ref q_7, .ref q_15, .null, .null, .null, .int 0, .int 0, .int 0])), (q_7, .inl (G.2.1, 16, .inl (fun _ => 0))), (q_15, .inl (G.2.1, 16, .inl (fun _ => 0)))] := hD
  refine lv_aload_n hx hb dX0_init_20 rfl (lv_at hl 0 rfl) ?_
  refine lv_bipush (v := 64) hx hb dX0_init_21 (by decide) ?_
  refine va_newa (atype := .int) (ty := .int) (a0 := (64, .inl (fun _ => 0))) (N' := 64) hx hb hw3 rfl hK hP hD hS hA (fun _ => rfl) (by decide) (by decide) (Nat.le_of_ble_eq_true rfl) (Nat.le_of_ble_eq_true rfl) (Nat.le_of_ble_eq_true rfl) dX0_init_23 (fun q_23 cA H hK1 hP hD hS => ?_)
  obtain rfl := tyI hK1
  have hP : va_P G.1 vwCl [(qB, .inr (0, [.ref q_7, .ref q_15, .null, .null, .null, .int 0, .int 0, .int 0])), (q_7, .inl (G.2.1, 16, .inl (fun _ => 0))), (q_15, .inl (G.2.1, 16, .inl (fun _ => 0))), (q_23, .inl (G.2.1, 64, .inl (fun _ => 0)))] H := hP
  have hD : va_D A [(qB, .inr (0, [.ref q_7, .ref q_15, .null, .null, .null, .int 0, .int 0, .int 0])), (q_7, .inl (G.2.1, 16, .inl (fun _ => 0))), (q_15, .inl (G.2.1, 16, .inl (fun _ => 0))), (q_23, .inl (G.2.1, 64, .inl (fun _ => 0)))] := hD
  refine va_putF (D := G.1) (ci := 0) (v := .ref q_23) (ty := .array .int) (C := RX0) (T := TX0) (N := 8) hx hb hts hi0 tyX0 tyX0_ok nmX0 hown hK hP hD hS 0 rfl rfl 2 (by decide) hw6 (fun _ h9 => h9) rfl hin rfl (by decide +kernel) rfl rfl (Nat.le_of_ble_eq_true rfl) dX0_init_25 (fun H locs hP hD hS => ?_)
  have hP : va_P G.1 vwCl [(qB, .inr (0, [.ref q_7, .ref q_15, .ref q_23, .null, .null, .int 0, .int 0, .int 0])), (q_7, .inl (G.2.1, 16, .inl (fun _ => 0))), (q_15, .inl (G.2.1, 16, .inl (fun _ => 0))), (q_23, .inl (G.2.1, 64, .inl (fun _ => 0)))] H := hP
  have hD : va_D A [(qB, .inr (0, [.ref q_7, .ref q_15, .ref q_23, .null, .null, .int 0, .int 0, .int 0])), (q_7, .inl (G.2.1, 16, .inl (fun _ => 0))), (q_15, .inl (G.2.1, 16, .inl (fun _ => 0))), (q_23, .inl (G.2.1, 64, .inl (fun _ => 0)))] := hD
  refine lv_aload_n hx hb dX0_init_28 rfl (lv_at hl 0 rfl) ?_
  refine lv_bipush (v := 64) hx hb dX0_init_29 (by decide) ?_
  refine va_newa (atype := .int) (ty := .int) (a0 := (64, .inl (fun _ => 0))) (N' := 64) hx hb hw3 rfl hK hP hD hS hA (fun _ => rfl) (by decide) (by decide) (Nat.le_of_ble_eq_true rfl) (Nat.le_of_ble_eq_true rfl) (Nat.le_of_ble_eq_true rfl) dX0_init_31 (fun q_31 cA H hK1 hP hD hS => ?_)
  obtain rfl := tyI hK1
  have hP : va_P G.1 vwCl [(qB, .inr (0, [.ref q_7, .ref q_15, .ref q_23, .null, .null, .int 0, .int 0, .int 0])), (q_7, .inl (G.2.1, 16, .inl (fun _ => 0))), (q_15, .inl (G.2.1, 16, .inl (fun _ => 0))), (q_23, .inl (G.2.1, 64, .inl (fun _ => 0))), (q_31, .inl (G.2.1, 64, .inl (fun _ => 0)))] H := hP
  have hD : va_D A [(qB, .inr (0, [.ref q_7, .ref q_15, .ref q_23, .null, .null, .int 0, .int 0, .int 0])), (q_7, .inl (G.2.1, 16, .inl (fun _ => 0))), (q_15, .inl (G.2.1, 16, .inl (fun _ => 0))), (q_23, .inl (G.2.1, 64, .inl (fun _ => 0))), (q_31, .inl (G.2.1, 64, .inl (fun _ => 0)))] := hD
  refine va_putF (D := G.1) (ci := 0) (v := .ref q_31) (ty := .array .int) (C := RX0) (T := TX0) (N := 8) hx hb hts hi0 tyX0 tyX0_ok nmX0 hown hK hP hD hS 0 rfl rfl 3 (by decide) hw7 (fun _ h9 => h9) rfl hin rfl (by decide +kernel) rfl rfl (Nat.le_of_ble_eq_true rfl) dX0_init_33 (fun H locs hP hD hS => ?_)
  have hP : va_P G.1 vwCl [(qB, .inr (0, [.ref q_7, .ref q_15, .ref q_23, .ref q_31, .null, .int 0, .int 0, .int 0])), (q_7, .inl (G.2.1, 16, .inl (fun _ => 0))), (q_15, .inl (G.2.1, 16, .inl (fun _ => 0))), (q_23, .inl (G.2.1, 64, .inl (fun _ => 0))), (q_31, .inl (G.2.1, 64, .inl (fun _ => 0)))] H := hP
  have hD : va_D A [(qB, .inr (0, [.ref q_7, .ref q_15, .ref q_23, .ref q_31, .null, .int 0, .int 0, .int 0])), (q_7, .inl (G.2.1, 16, .inl (fun _ => 0))), (q_15, .inl (G.2.1, 16, .inl (fun _ => 0))), (q_23, .inl (G.2.1, 64, .inl (fun _ => 0))), (q_31, .inl (G.2.1, 64, .inl (fun _ => 0)))] := hD
  refine lv_aload_n hx hb dX0_init_36 rfl (lv_at hl 0 rfl) ?_
  refine lv_bipush (v := 16) hx hb dX0_init_37 (by decide) ?_
  refine va_newa (atype := .int) (ty := .int) (a0 := (16, .inl (fun _ => 0))) (N' := 16) hx hb hw3 rfl hK hP hD hS hA (fun _ => rfl) (by decide) (by decide) (Nat.le_of_ble_eq_true rfl) (Nat.le_of_ble_eq_true rfl) (Nat.le_of_ble_eq_true rfl) dX0_init_39 (fun q_39 cA H hK1 hP hD hS => ?_)
  obtain rfl := tyI hK1
  have hP : va_P G.1 vwCl [(qB, .inr (0, [.ref q_7, .ref q_15, .ref q_23, .ref q_31, .null, .int 0, .int 0, .int 0])), (q_7, .inl (G.2.1, 16, .inl (fun _ => 0))), (q_15, .inl (G.2.1, 16, .inl (fun _ => 0))), (q_23, .inl (G.2.1, 64, .inl (fun _ => 0))), (q_31, .inl (G.2.1, 64, .inl (fun _ => 0))), (q_39, .inl (G.2.1, 16, .inl (fun _ => 0)))] H := hP
  have hD : va_D A [(qB, .inr (0, [.ref q_7, .ref q_15, .ref q_23, .ref q_31, .null, .int 0, .int 0, .int 0])), (q_7, .inl (G.2.1, 16, .inl (fun _ => 0))), (q_15, .inl (G.2.1, 16, .inl (fun _ => 0))), (q_23, .inl (G.2.1, 64, .inl (fun _ => 0))), (q_31, .inl (G.2.1, 64, .inl (fun _ => 0))), (q_39, .inl (G.2.1, 16, .inl (fun _ => 0)))] := hD
  refine va_putF (D := G.1) (ci := 0) (v := .ref q_39) (ty := .array .int) (C := RX0) (T := TX0) (N := 8) hx hb hts hi0 tyX0 tyX0_ok nmX0 hown hK hP hD hS 0 rfl rfl 4 (by decide) hw8 (fun _ h9 => h9) rfl hin rfl (by decide +kernel) rfl rfl (Nat.le_of_ble_eq_true rfl) dX0_init_41 (fun H locs hP hD hS => ?_)
  have hP : va_P G.1 vwCl [(qB, .inr (0, [.ref q_7, .ref q_15, .ref q_23, .ref q_31, .ref q_39, .int 0, .int 0, .int 0])), (q_7, .inl (G.2.1, 16, .inl (fun _ => 0))), (q_15, .inl (G.2.1, 16, .inl (fun _ => 0))), (q_23, .inl (G.2.1, 64, .inl (fun _ => 0))), (q_31, .inl (G.2.1, 64, .inl (fun _ => 0))), (q_39, .inl (G.2.1, 16, .inl (fun _ => 0)))] H := hP
  have hD : va_D A [(qB, .inr (0, [.ref q_7, .ref q_15, .ref q_23, .ref q_31, .ref q_39, .int 0, .int 0, .int 0])), (q_7, .inl (G.2.1, 16, .inl (fun _ => 0))), (q_15, .inl (G.2.1, 16, .inl (fun _ => 0))), (q_23, .inl (G.2.1, 64, .inl (fun _ => 0))), (q_31, .inl (G.2.1, 64, .inl (fun _ => 0))), (q_39, .inl (G.2.1, 16, .inl (fun _ => 0)))] := hD
  rw [hQ]
  exact W.vret hx hb hr (fun t ht hW => ⟨⟨(), rfl, trivial, ⟨q_7, q_15, q_23, q_31, q_39, va_Pat ht hP, hD⟩⟩, hS.F ht⟩) hS.2.2 dX0_init_44

abbrev rmX1_init : Room := { frames := 1, cells := 2, slots := 32, locals := 24 }
set_option maxHeartbeats 40000000 in
set_option maxRecDepth 100000 in
theorem tX1_init (G : GG) (l : Launch) {qL sz : Nat}  : Met l yX1_init wsX1_init rmX1_init (pcW G [(qL, .inr (1, [.null, .null, .int 0]))] sz [.ref qL]) (va_Qv (S := Unit) (fun _ => True) (fun _ t => ∃ (q_7 q_15 : Nat), va_P G.1 vwCl [(qL, .inr (1, [.ref q_7, .ref q_15, .int 0])), (q_7, .inl (G.2.2.1, 16, .inr (.inl (fun _ => 0)))), (q_15, .inl (G.2.1, 16, .inl (fun _ => 0)))] t.heap ∧ va_D (va_A [(qL, .inr (1, [.null, .null, .int 0]))] sz) [(qL, .inr (1, [.ref q_7, .ref q_15, .int 0])), (q_7, .inl (G.2.2.1, 16, .inr (.inl (fun _ => 0)))), (q_15, .inl (G.2.1, 16, .inl (fun _ => 0)))]) (va_A [(qL, .inr (1, [.null, .null, .int 0]))] sz)) 2 32 (va_A [(qL, .inr (1, [.null, .null, .int 0]))] sz) := by
  refine Met.ofW (cc := cX1_init) (maxL := 1) (ret := none) (by decide) rfl ?_
  intro p e s m args below meth c s₁ B hml hv
  obtain ⟨rfl, hsz, hP, hKK, hD0⟩ := hv
  have hK := hKK.1
  have hx := B.exec
  have hb := B.bytes
  have hr := B.returns
  have hts := atoms_spec (ws := wsX1_init) B.pre
  have hown : s.vm.findClass RX1 = some m.cls := findClass_of_methodNamed B.named
  have hlocks := B.notSynchronized
  have hin : meth.name = "<init>" := (name_of_methodNamed B.named B.method).1
  subst hsz
  have hD := hD0.self (sz := s.heap.size)
  generalize hAe : va_A [(qL, .inr (1, [.null, .null, .int 0]))] s.heap.size = A at hD ⊢
  have hA : ∀ q : Nat, s.heap.size ≤ q → A q := fun q h => by rw [← hAe]; exact Or.inr h
  have hS : va_S A s.heap s.heap [] := va_S.rf
  have hl := lv_entry ([.ref qL] : List Value) (n := 1) (Nat.le_of_ble_eq_true rfl)
  rw [lg_entry_eq]
  generalize (lg_sl ([.ref qL] : List Value) ++ List.replicate (1 - (lg_sl ([.ref qL] : List Value)).length) Slot.unset).toArray = ls at hl ⊢
  have hl : lv_has ls 1 [(0, .ref qL)] := hl
  have hi1 : ∀ w ∈ u_ws RX1 TX1 3, w ∈ wsX1_init := by decide +kernel
  have hw0 : (Cond.methodLink RX1 1 objectInit).before #[Value.ref qL] s = true := hts _ (by decide +kernel)
  have hw1 : (Cond.instanceMethod objectInit).before #[Value.ref qL] s = true := hts _ (by decide +kernel)
  have hw2 : (Cond.code objectInit ⟨#[0xb1]⟩ 1 none).before #[Value.ref qL] s = true := hts _ (by decide +kernel)
  have hw3 : (Cond.arrayClass .long).before #[Value.ref qL] s = true := hts _ (by decide +kernel)
  have hw4 : (Cond.fieldLink RX1 7 "NetPlumber$BorderList" "borders" "[J").before #[Value.ref qL] s = true := hts _ (by decide +kernel)
  have hw5 : (Cond.arrayClass .int).before #[Value.ref qL] s = true := hts _ (by decide +kernel)
  have hw6 : (Cond.fieldLink RX1 13 "NetPlumber$BorderList" "ways" "[I").before #[Value.ref qL] s = true := hts _ (by decide +kernel)
  refine wq (fun Q hQ => ?_)
  refine lv_aload_n hx hb dX1_init_0 rfl (lv_at hl 0 rfl) ?_
  refine W.objInit hx hb hown hw0 hw1 hw2 rfl (by rw [hml]; exact hl.1) rfl dX1_init_1 (Nat.le_of_ble_eq_true rfl) (Nat.le_of_ble_eq_true rfl) ?_
  refine W.eq (g2 := F0 m 4 ls []) rfl ?_
  refine lv_aload_n hx hb dX1_init_4 rfl (lv_at hl 0 rfl) ?_
  refine lv_bipush (v := 16) hx hb dX1_init_5 (by decide) ?_
  refine va_newa (atype := .long) (ty := .long) (a0 := (16, .inr (.inl (fun _ => 0)))) (N' := 16) hx hb hw3 rfl hK hP hD hS hA (fun _ => rfl) (by decide) (by decide) (Nat.le_of_ble_eq_true rfl) (Nat.le_of_ble_eq_true rfl) (Nat.le_of_ble_eq_true rfl) dX1_init_7 (fun q_7 cA H hK1 hP hD hS => ?_)
  obtain rfl := tyJ hK1
  have hP : va_P G.1 vwCl [(qL, .inr (1, [.null, .null, .int 0])), (q_7, .inl (G.2.2.1, 16, .inr (.inl (fun _ => 0))))] H := hP
  have hD : va_D A [(qL, .inr (1, [.null, .null, .int 0])), (q_7, .inl (G.2.2.1, 16, .inr (.inl (fun _ => 0))))] := hD
  refine va_put (D := G.1) (ci := 1) (v := .ref q_7) (ty := .array .long) (C := RX1) (T := TX1) (N := 3) hx hb hts hi1 tyX1 tyX1_ok nmX1 hown hK hP hD hS 0 rfl rfl 0 (by decide) hw4 (fun _ h9 => h9) rfl (by decide +kernel) rfl rfl (Nat.le_of_ble_eq_true rfl) dX1_init_9 (fun H locs hP hD hS => ?_)
  have hP : va_P G.1 vwCl [(qL, .inr (1, [.ref q_7, .null, .int 0])), (q_7, .inl (G.2.2.1, 16, .inr (.inl (fun _ => 0))))] H := hP
  have hD : va_D A [(qL, .inr (1, [.ref q_7, .null, .int 0])), (q_7, .inl (G.2.2.1, 16, .inr (.inl (fun _ => 0))))] := hD
  refine lv_aload_n hx hb dX1_init_12 rfl (lv_at hl 0 rfl) ?_
  refine lv_bipush (v := 16) hx hb dX1_init_13 (by decide) ?_
  refine va_newa (atype := .int) (ty := .int) (a0 := (16, .inl (fun _ => 0))) (N' := 16) hx hb hw5 rfl hK hP hD hS hA (fun _ => rfl) (by decide) (by decide) (Nat.le_of_ble_eq_true rfl) (Nat.le_of_ble_eq_true rfl) (Nat.le_of_ble_eq_true rfl) dX1_init_15 (fun q_15 cA H hK1 hP hD hS => ?_)
  obtain rfl := tyI hK1
  have hP : va_P G.1 vwCl [(qL, .inr (1, [.ref q_7, .null, .int 0])), (q_7, .inl (G.2.2.1, 16, .inr (.inl (fun _ => 0)))), (q_15, .inl (G.2.1, 16, .inl (fun _ => 0)))] H := hP
  have hD : va_D A [(qL, .inr (1, [.ref q_7, .null, .int 0])), (q_7, .inl (G.2.2.1, 16, .inr (.inl (fun _ => 0)))), (q_15, .inl (G.2.1, 16, .inl (fun _ => 0)))] := hD
  refine va_put (D := G.1) (ci := 1) (v := .ref q_15) (ty := .array .int) (C := RX1) (T := TX1) (N := 3) hx hb hts hi1 tyX1 tyX1_ok nmX1 hown hK hP hD hS 0 rfl rfl 1 (by decide) hw6 (fun _ h9 => h9) rfl (by decide +kernel) rfl rfl (Nat.le_of_ble_eq_true rfl) dX1_init_17 (fun H locs hP hD hS => ?_)
  have hP : va_P G.1 vwCl [(qL, .inr (1, [.ref q_7, .ref q_15, .int 0])), (q_7, .inl (G.2.2.1, 16, .inr (.inl (fun _ => 0)))), (q_15, .inl (G.2.1, 16, .inl (fun _ => 0)))] H := hP
  have hD : va_D A [(qL, .inr (1, [.ref q_7, .ref q_15, .int 0])), (q_7, .inl (G.2.2.1, 16, .inr (.inl (fun _ => 0)))), (q_15, .inl (G.2.1, 16, .inl (fun _ => 0)))] := hD
  rw [hQ]
  exact W.vret hx hb hr (fun t ht hW => ⟨⟨(), rfl, trivial, ⟨q_7, q_15, va_Pat ht hP, hD⟩⟩, hS.F ht⟩) hS.2.2 dX1_init_20

abbrev rmX2_init : Room := { frames := 1, cells := 1, slots := 512, locals := 24 }
set_option maxHeartbeats 40000000 in
set_option maxRecDepth 100000 in
theorem tX2_init (G : GG) (l : Launch) {qH sz : Nat}  : Met l yX2_init wsX2_init rmX2_init (pcW G [(qH, .inr (2, [.null, .int 0, .int 0]))] sz [.ref qH]) (va_Qv (S := Unit) (fun _ => True) (fun _ t => ∃ (q_8 : Nat), va_P G.1 vwCl [(qH, .inr (2, [.ref q_8, .int 0, .int 0])), (q_8, .inl (G.2.1, 512, .inl (fun _ => 0)))] t.heap ∧ va_D (va_A [(qH, .inr (2, [.null, .int 0, .int 0]))] sz) [(qH, .inr (2, [.ref q_8, .int 0, .int 0])), (q_8, .inl (G.2.1, 512, .inl (fun _ => 0)))]) (va_A [(qH, .inr (2, [.null, .int 0, .int 0]))] sz)) 1 512 (va_A [(qH, .inr (2, [.null, .int 0, .int 0]))] sz) := by
  refine Met.ofW (cc := cX2_init) (maxL := 1) (ret := none) (by decide) rfl ?_
  intro p e s m args below meth c s₁ B hml hv
  obtain ⟨rfl, hsz, hP, hKK, hD0⟩ := hv
  have hK := hKK.1
  have hx := B.exec
  have hb := B.bytes
  have hr := B.returns
  have hts := atoms_spec (ws := wsX2_init) B.pre
  have hown : s.vm.findClass RX2 = some m.cls := findClass_of_methodNamed B.named
  have hlocks := B.notSynchronized
  have hin : meth.name = "<init>" := (name_of_methodNamed B.named B.method).1
  subst hsz
  have hD := hD0.self (sz := s.heap.size)
  generalize hAe : va_A [(qH, .inr (2, [.null, .int 0, .int 0]))] s.heap.size = A at hD ⊢
  have hA : ∀ q : Nat, s.heap.size ≤ q → A q := fun q h => by rw [← hAe]; exact Or.inr h
  have hS : va_S A s.heap s.heap [] := va_S.rf
  have hl := lv_entry ([.ref qH] : List Value) (n := 1) (Nat.le_of_ble_eq_true rfl)
  rw [lg_entry_eq]
  generalize (lg_sl ([.ref qH] : List Value) ++ List.replicate (1 - (lg_sl ([.ref qH] : List Value)).length) Slot.unset).toArray = ls at hl ⊢
  have hl : lv_has ls 1 [(0, .ref qH)] := hl
  have hi2 : ∀ w ∈ u_ws RX2 TX2 3, w ∈ wsX2_init := by decide +kernel
  have hw0 : (Cond.methodLink RX2 3 objectInit).before #[Value.ref qH] s = true := hts _ (by decide +kernel)
  have hw1 : (Cond.instanceMethod objectInit).before #[Value.ref qH] s = true := hts _ (by decide +kernel)
  have hw2 : (Cond.code objectInit ⟨#[0xb1]⟩ 1 none).before #[Value.ref qH] s = true := hts _ (by decide +kernel)
  have hw3 : (Cond.arrayClass .int).before #[Value.ref qH] s = true := hts _ (by decide +kernel)
  have hw4 : (Cond.fieldLink RX2 11 "NetPlumber$History" "cells" "[I").before #[Value.ref qH] s = true := hts _ (by decide +kernel)
  refine wq (fun Q hQ => ?_)
  refine lv_aload_n hx hb dX2_init_0 rfl (lv_at hl 0 rfl) ?_
  refine W.objInit hx hb hown hw0 hw1 hw2 rfl (by rw [hml]; exact hl.1) rfl dX2_init_1 (Nat.le_of_ble_eq_true rfl) (Nat.le_of_ble_eq_true rfl) ?_
  refine W.eq (g2 := F0 m 4 ls []) rfl ?_
  refine lv_aload_n hx hb dX2_init_4 rfl (lv_at hl 0 rfl) ?_
  refine lv_sipush (v := 512) hx hb dX2_init_5 (by decide) ?_
  refine va_newa (atype := .int) (ty := .int) (a0 := (512, .inl (fun _ => 0))) (N' := 512) hx hb hw3 rfl hK hP hD hS hA (fun _ => rfl) (by decide) (by decide) (Nat.le_of_ble_eq_true rfl) (Nat.le_of_ble_eq_true rfl) (Nat.le_of_ble_eq_true rfl) dX2_init_8 (fun q_8 cA H hK1 hP hD hS => ?_)
  obtain rfl := tyI hK1
  have hP : va_P G.1 vwCl [(qH, .inr (2, [.null, .int 0, .int 0])), (q_8, .inl (G.2.1, 512, .inl (fun _ => 0)))] H := hP
  have hD : va_D A [(qH, .inr (2, [.null, .int 0, .int 0])), (q_8, .inl (G.2.1, 512, .inl (fun _ => 0)))] := hD
  refine va_putF (D := G.1) (ci := 2) (v := .ref q_8) (ty := .array .int) (C := RX2) (T := TX2) (N := 3) hx hb hts hi2 tyX2 tyX2_ok nmX2 hown hK hP hD hS 0 rfl rfl 0 (by decide) hw4 (fun _ h9 => h9) rfl hin rfl (by decide +kernel) rfl rfl (Nat.le_of_ble_eq_true rfl) dX2_init_10 (fun H locs hP hD hS => ?_)
  have hP : va_P G.1 vwCl [(qH, .inr (2, [.ref q_8, .int 0, .int 0])), (q_8, .inl (G.2.1, 512, .inl (fun _ => 0)))] H := hP
  have hD : va_D A [(qH, .inr (2, [.ref q_8, .int 0, .int 0])), (q_8, .inl (G.2.1, 512, .inl (fun _ => 0)))] := hD
  rw [hQ]
  exact W.vret hx hb hr (fun t ht hW => ⟨⟨(), rfl, trivial, ⟨q_8, va_Pat ht hP, hD⟩⟩, hS.F ht⟩) hS.2.2 dX2_init_13

abbrev rmX3_init : Room := { frames := 1, cells := 2, slots := 64, locals := 24 }
set_option maxHeartbeats 40000000 in
set_option maxRecDepth 100000 in
theorem tX3_init (G : GG) (l : Launch) {qK qB sz : Nat}  : Met l yX3_init wsX3_init rmX3_init (pcW G [(qK, .inr (3, [.null, .null, .null, .int 0, .int 0]))] sz [.ref qK, .ref qB]) (va_Qv (S := Unit) (fun _ => True) (fun _ t => ∃ (q_7 q_15 : Nat), va_P G.1 vwCl [(qK, .inr (3, [.ref qB, .ref q_7, .ref q_15, .int 0, .int 0])), (q_7, .inl (G.2.1, 32, .inl (fun _ => 0))), (q_15, .inl (G.2.1, 32, .inl (fun _ => 0)))] t.heap ∧ va_D (va_A [(qK, .inr (3, [.null, .null, .null, .int 0, .int 0]))] sz) [(qK, .inr (3, [.ref qB, .ref q_7, .ref q_15, .int 0, .int 0])), (q_7, .inl (G.2.1, 32, .inl (fun _ => 0))), (q_15, .inl (G.2.1, 32, .inl (fun _ => 0)))]) (va_A [(qK, .inr (3, [.null, .null, .null, .int 0, .int 0]))] sz)) 2 64 (va_A [(qK, .inr (3, [.null, .null, .null, .int 0, .int 0]))] sz) := by
  refine Met.ofW (cc := cX3_init) (maxL := 2) (ret := none) (by decide) rfl ?_
  intro p e s m args below meth c s₁ B hml hv
  obtain ⟨rfl, hsz, hP, hKK, hD0⟩ := hv
  have hK := hKK.1
  have hx := B.exec
  have hb := B.bytes
  have hr := B.returns
  have hts := atoms_spec (ws := wsX3_init) B.pre
  have hown : s.vm.findClass RX3 = some m.cls := findClass_of_methodNamed B.named
  have hlocks := B.notSynchronized
  have hin : meth.name = "<init>" := (name_of_methodNamed B.named B.method).1
  subst hsz
  have hD := hD0.self (sz := s.heap.size)
  generalize hAe : va_A [(qK, .inr (3, [.null, .null, .null, .int 0, .int 0]))] s.heap.size = A at hD ⊢
  have hA : ∀ q : Nat, s.heap.size ≤ q → A q := fun q h => by rw [← hAe]; exact Or.inr h
  have hS : va_S A s.heap s.heap [] := va_S.rf
  have hl := lv_entry ([.ref qK, .ref qB] : List Value) (n := 2) (Nat.le_of_ble_eq_true rfl)
  rw [lg_entry_eq]
  generalize (lg_sl ([.ref qK, .ref qB] : List Value) ++ List.replicate (2 - (lg_sl ([.ref qK, .ref qB] : List Value)).length) Slot.unset).toArray = ls at hl ⊢
  have hl : lv_has ls 2 [(0, .ref qK), (1, .ref qB)] := hl
  have hi3 : ∀ w ∈ u_ws RX3 TX3 5, w ∈ wsX3_init := by decide +kernel
  have hw0 : (Cond.methodLink RX3 3 objectInit).before #[Value.ref qK, Value.ref qB] s = true := hts _ (by decide +kernel)
  have hw1 : (Cond.instanceMethod objectInit).before #[Value.ref qK, Value.ref qB] s = true := hts _ (by decide +kernel)
  have hw2 : (Cond.code objectInit ⟨#[0xb1]⟩ 1 none).before #[Value.ref qK, Value.ref qB] s = true := hts _ (by decide +kernel)
  have hw3 : (Cond.arrayClass .int).before #[Value.ref qK, Value.ref qB] s = true := hts _ (by decide +kernel)
  have hw4 : (Cond.fieldLink RX3 11 "NetPlumber$Maker" "pairCells" "[I").before #[Value.ref qK, Value.ref qB] s = true := hts _ (by decide +kernel)
  have hw5 : (Cond.fieldLink RX3 15 "NetPlumber$Maker" "pairSides" "[I").before #[Value.ref qK, Value.ref qB] s = true := hts _ (by decide +kernel)
  have hw6 : (Cond.fieldLink RX3 18 "NetPlumber$Maker" "board" "LNetPlumber$Board;").before #[Value.ref qK, Value.ref qB] s = true := hts _ (by decide +kernel)
  refine wq (fun Q hQ => ?_)
  refine lv_aload_n hx hb dX3_init_0 rfl (lv_at hl 0 rfl) ?_
  refine W.objInit hx hb hown hw0 hw1 hw2 rfl (by rw [hml]; exact hl.1) rfl dX3_init_1 (Nat.le_of_ble_eq_true rfl) (Nat.le_of_ble_eq_true rfl) ?_
  refine W.eq (g2 := F0 m 4 ls []) rfl ?_
  refine lv_aload_n hx hb dX3_init_4 rfl (lv_at hl 0 rfl) ?_
  refine lv_bipush (v := 32) hx hb dX3_init_5 (by decide) ?_
  refine va_newa (atype := .int) (ty := .int) (a0 := (32, .inl (fun _ => 0))) (N' := 32) hx hb hw3 rfl hK hP hD hS hA (fun _ => rfl) (by decide) (by decide) (Nat.le_of_ble_eq_true rfl) (Nat.le_of_ble_eq_true rfl) (Nat.le_of_ble_eq_true rfl) dX3_init_7 (fun q_7 cA H hK1 hP hD hS => ?_)
  obtain rfl := tyI hK1
  have hP : va_P G.1 vwCl [(qK, .inr (3, [.null, .null, .null, .int 0, .int 0])), (q_7, .inl (G.2.1, 32, .inl (fun _ => 0)))] H := hP
  have hD : va_D A [(qK, .inr (3, [.null, .null, .null, .int 0, .int 0])), (q_7, .inl (G.2.1, 32, .inl (fun _ => 0)))] := hD
  refine va_putF (D := G.1) (ci := 3) (v := .ref q_7) (ty := .array .int) (C := RX3) (T := TX3) (N := 5) hx hb hts hi3 tyX3 tyX3_ok nmX3 hown hK hP hD hS 0 rfl rfl 1 (by decide) hw4 (fun _ h9 => h9) rfl hin rfl (by decide +kernel) rfl rfl (Nat.le_of_ble_eq_true rfl) dX3_init_9 (fun H locs hP hD hS => ?_)
  have hP : va_P G.1 vwCl [(qK, .inr (3, [.null, .ref q_7, .null, .int 0, .int 0])), (q_7, .inl (G.2.1, 32, .inl (fun _ => 0)))] H := hP
  have hD : va_D A [(qK, .inr (3, [.null, .ref q_7, .null, .int 0, .int 0])), (q_7, .inl (G.2.1, 32, .inl (fun _ => 0)))] := hD
  refine lv_aload_n hx hb dX3_init_12 rfl (lv_at hl 0 rfl) ?_
  refine lv_bipush (v := 32) hx hb dX3_init_13 (by decide) ?_
  refine va_newa (atype := .int) (ty := .int) (a0 := (32, .inl (fun _ => 0))) (N' := 32) hx hb hw3 rfl hK hP hD hS hA (fun _ => rfl) (by decide) (by decide) (Nat.le_of_ble_eq_true rfl) (Nat.le_of_ble_eq_true rfl) (Nat.le_of_ble_eq_true rfl) dX3_init_15 (fun q_15 cA H hK1 hP hD hS => ?_)
  obtain rfl := tyI hK1
  have hP : va_P G.1 vwCl [(qK, .inr (3, [.null, .ref q_7, .null, .int 0, .int 0])), (q_7, .inl (G.2.1, 32, .inl (fun _ => 0))), (q_15, .inl (G.2.1, 32, .inl (fun _ => 0)))] H := hP
  have hD : va_D A [(qK, .inr (3, [.null, .ref q_7, .null, .int 0, .int 0])), (q_7, .inl (G.2.1, 32, .inl (fun _ => 0))), (q_15, .inl (G.2.1, 32, .inl (fun _ => 0)))] := hD
  refine va_putF (D := G.1) (ci := 3) (v := .ref q_15) (ty := .array .int) (C := RX3) (T := TX3) (N := 5) hx hb hts hi3 tyX3 tyX3_ok nmX3 hown hK hP hD hS 0 rfl rfl 2 (by decide) hw5 (fun _ h9 => h9) rfl hin rfl (by decide +kernel) rfl rfl (Nat.le_of_ble_eq_true rfl) dX3_init_17 (fun H locs hP hD hS => ?_)
  have hP : va_P G.1 vwCl [(qK, .inr (3, [.null, .ref q_7, .ref q_15, .int 0, .int 0])), (q_7, .inl (G.2.1, 32, .inl (fun _ => 0))), (q_15, .inl (G.2.1, 32, .inl (fun _ => 0)))] H := hP
  have hD : va_D A [(qK, .inr (3, [.null, .ref q_7, .ref q_15, .int 0, .int 0])), (q_7, .inl (G.2.1, 32, .inl (fun _ => 0))), (q_15, .inl (G.2.1, 32, .inl (fun _ => 0)))] := hD
  refine lv_aload_n hx hb dX3_init_20 rfl (lv_at hl 0 rfl) ?_
  refine lv_aload_n hx hb dX3_init_21 rfl (lv_at hl 1 rfl) ?_
  refine va_putF (D := G.1) (ci := 3) (v := .ref qB) (ty := .object "NetPlumber$Board") (C := RX3) (T := TX3) (N := 5) hx hb hts hi3 tyX3 tyX3_ok nmX3 hown hK hP hD hS 0 rfl rfl 0 (by decide) hw6 (fun _ h9 => h9) rfl hin rfl (by decide +kernel) rfl rfl (Nat.le_of_ble_eq_true rfl) dX3_init_22 (fun H locs hP hD hS => ?_)
  have hP : va_P G.1 vwCl [(qK, .inr (3, [.ref qB, .ref q_7, .ref q_15, .int 0, .int 0])), (q_7, .inl (G.2.1, 32, .inl (fun _ => 0))), (q_15, .inl (G.2.1, 32, .inl (fun _ => 0)))] H := hP
  have hD : va_D A [(qK, .inr (3, [.ref qB, .ref q_7, .ref q_15, .int 0, .int 0])), (q_7, .inl (G.2.1, 32, .inl (fun _ => 0))), (q_15, .inl (G.2.1, 32, .inl (fun _ => 0)))] := hD
  rw [hQ]
  exact W.vret hx hb hr (fun t ht hW => ⟨⟨(), rfl, trivial, ⟨q_7, q_15, va_Pat ht hP, hD⟩⟩, hS.F ht⟩) hS.2.2 dX3_init_25

abbrev rmX4_init : Room := { frames := 1, cells := 21, slots := 337, locals := 24 }
set_option maxHeartbeats 40000000 in
set_option maxRecDepth 100000 in
theorem tX4_init (G : GG) (l : Launch) {qS qB qV sz : Nat}  : Met l yX4_init wsX4_init rmX4_init (pcC G [(qS, .inr (4, [.null, .null, .null, .null, .null, .null, .int 0, .int 0]))] sz [.ref qS, .ref qB, .ref qV]) (va_Qv (S := Unit) (fun _ => True) (fun _ t => ∃ (q_7 q_15 q_25 q_35 : Nat) (qR : Nat → Nat), va_P G.1 vwCl ([(qS, .inr (4, [.ref qB, .ref qV, .ref q_7, .ref q_15, .ref q_25, .ref q_35, .int 0, .int 0])), (q_7, .inl (G.2.1, 16, .inl (fun _ => 0))), (q_15, .inl (G.2.1, 16, .inl (fun _ => 0))), (q_25, .inl (G.2.2.2.2, 17, .inr (.inr (.inr (.inr (outR qR)))))), (q_35, .inl (G.2.1, 16, .inl (fun _ => 0)))] ++ rws G qR (fun _ _ => 0)) t.heap ∧ va_D (va_A [(qS, .inr (4, [.null, .null, .null, .null, .null, .null, .int 0, .int 0]))] sz) ([(qS, .inr (4, [.ref qB, .ref qV, .ref q_7, .ref q_15, .ref q_25, .ref q_35, .int 0, .int 0])), (q_7, .inl (G.2.1, 16, .inl (fun _ => 0))), (q_15, .inl (G.2.1, 16, .inl (fun _ => 0))), (q_25, .inl (G.2.2.2.2, 17, .inr (.inr (.inr (.inr (outR qR)))))), (q_35, .inl (G.2.1, 16, .inl (fun _ => 0)))] ++ rws G qR (fun _ _ => 0))) (va_A [(qS, .inr (4, [.null, .null, .null, .null, .null, .null, .int 0, .int 0]))] sz)) 21 337 (va_A [(qS, .inr (4, [.null, .null, .null, .null, .null, .null, .int 0, .int 0]))] sz) := by
  refine Met.ofW (cc := cX4_init) (maxL := 3) (ret := none) (by decide) rfl ?_
  intro p e s m args below meth c s₁ B hml hv
  obtain ⟨rfl, hsz, hP, hKK, hD0, hAO⟩ := hv
  have hK := hKK.1
  have hx := B.exec
  have hb := B.bytes
  have hr := B.returns
  have hts := atoms_spec (ws := wsX4_init) B.pre
  have hown : s.vm.findClass RX4 = some m.cls := findClass_of_methodNamed B.named
  have hlocks := B.notSynchronized
  have hin : meth.name = "<init>" := (name_of_methodNamed B.named B.method).1
  subst hsz
  have hD := hD0.self (sz := s.heap.size)
  generalize hAe : va_A [(qS, .inr (4, [.null, .null, .null, .null, .null, .null, .int 0, .int 0]))] s.heap.size = A at hD ⊢
  have hA : ∀ q : Nat, s.heap.size ≤ q → A q := fun q h => by rw [← hAe]; exact Or.inr h
  have hS : va_S A s.heap s.heap [] := va_S.rf
  have hl := lv_entry ([.ref qS, .ref qB, .ref qV] : List Value) (n := 3) (Nat.le_of_ble_eq_true rfl)
  rw [lg_entry_eq]
  generalize (lg_sl ([.ref qS, .ref qB, .ref qV] : List Value) ++ List.replicate (3 - (lg_sl ([.ref qS, .ref qB, .ref qV] : List Value)).length) Slot.unset).toArray = ls at hl ⊢
  have hl : lv_has ls 3 [(0, .ref qS), (1, .ref qB), (2, .ref qV)] := hl
  have hi4 : ∀ w ∈ u_ws RX4 TX4 8, w ∈ wsX4_init := by decide +kernel
  have hw0 : (Cond.methodLink RX4 3 objectInit).before #[Value.ref qS, Value.ref qB, Value.ref qV] s = true := hts _ (by decide +kernel)
  have hw1 : (Cond.instanceMethod objectInit).before #[Value.ref qS, Value.ref qB, Value.ref qV] s = true := hts _ (by decide +kernel)
  have hw2 : (Cond.code objectInit ⟨#[0xb1]⟩ 1 none).before #[Value.ref qS, Value.ref qB, Value.ref qV] s = true := hts _ (by decide +kernel)
  have hw3 : (Cond.arrayClass .int).before #[Value.ref qS, Value.ref qB, Value.ref qV] s = true := hts _ (by decide +kernel)
  have hw4 : (Cond.fieldLink RX4 9 "NetPlumber$Search" "tried" "[I").before #[Value.ref qS, Value.ref qB, Value.ref qV] s = true := hts _ (by decide +kernel)
  have hw5 : (Cond.fieldLink RX4 15 "NetPlumber$Search" "tiles" "[I").before #[Value.ref qS, Value.ref qB, Value.ref qV] s = true := hts _ (by decide +kernel)
  have hw6 : (Cond.classLink RX4 18 "[[I").before #[Value.ref qS, Value.ref qB, Value.ref qV] s = true := hts _ (by decide +kernel)
  have hw7 : (Cond.fieldLink RX4 20 "NetPlumber$Search" "parts" "[[I").before #[Value.ref qS, Value.ref qB, Value.ref qV] s = true := hts _ (by decide +kernel)
  have hw8 : (Cond.fieldLink RX4 23 "NetPlumber$Search" "firstLays" "[I").before #[Value.ref qS, Value.ref qB, Value.ref qV] s = true := hts _ (by decide +kernel)
  have hw9 : (Cond.fieldLink RX4 26 "NetPlumber$Search" "board" "LNetPlumber$Board;").before #[Value.ref qS, Value.ref qB, Value.ref qV] s = true := hts _ (by decide +kernel)
  have hw10 : (Cond.fieldLink RX4 30 "NetPlumber$Search" "sieve" "LNetPlumber$Sieve;").before #[Value.ref qS, Value.ref qB, Value.ref qV] s = true := hts _ (by decide +kernel)
  refine wq (fun Q hQ => ?_)
  refine lv_aload_n hx hb dX4_init_0 rfl (lv_at hl 0 rfl) ?_
  refine W.objInit hx hb hown hw0 hw1 hw2 rfl (by rw [hml]; exact hl.1) rfl dX4_init_1 (Nat.le_of_ble_eq_true rfl) (Nat.le_of_ble_eq_true rfl) ?_
  refine W.eq (g2 := F0 m 4 ls []) rfl ?_
  refine lv_aload_n hx hb dX4_init_4 rfl (lv_at hl 0 rfl) ?_
  refine lv_bipush (v := 16) hx hb dX4_init_5 (by decide) ?_
  refine va_newa (atype := .int) (ty := .int) (a0 := (16, .inl (fun _ => 0))) (N' := 16) hx hb hw3 rfl hK hP hD hS hA (fun _ => rfl) (by decide) (by decide) (Nat.le_of_ble_eq_true rfl) (Nat.le_of_ble_eq_true rfl) (Nat.le_of_ble_eq_true rfl) dX4_init_7 (fun q_7 cA H hK1 hP hD hS => ?_)
  obtain rfl := tyI hK1
  have hP : va_P G.1 vwCl [(qS, .inr (4, [.null, .null, .null, .null, .null, .null, .int 0, .int 0])), (q_7, .inl (G.2.1, 16, .inl (fun _ => 0)))] H := hP
  have hD : va_D A [(qS, .inr (4, [.null, .null, .null, .null, .null, .null, .int 0, .int 0])), (q_7, .inl (G.2.1, 16, .inl (fun _ => 0)))] := hD
  refine va_putF (D := G.1) (ci := 4) (v := .ref q_7) (ty := .array .int) (C := RX4) (T := TX4) (N := 8) hx hb hts hi4 tyX4 tyX4_ok nmX4 hown hK hP hD hS 0 rfl rfl 2 (by decide) hw4 (fun _ h9 => h9) rfl hin rfl (by decide +kernel) rfl rfl (Nat.le_of_ble_eq_true rfl) dX4_init_9 (fun H locs hP hD hS => ?_)
  have hP : va_P G.1 vwCl [(qS, .inr (4, [.null, .null, .ref q_7, .null, .null, .null, .int 0, .int 0])), (q_7, .inl (G.2.1, 16, .inl (fun _ => 0)))] H := hP
  have hD : va_D A [(qS, .inr (4, [.null, .null, .ref q_7, .null, .null, .null, .int 0, .int 0])), (q_7, .inl (G.2.1, 16, .inl (fun _ => 0)))] := hD
  refine lv_aload_n hx hb dX4_init_12 rfl (lv_at hl 0 rfl) ?_
  refine lv_bipush (v := 16) hx hb dX4_init_13 (by decide) ?_
  refine va_newa (atype := .int) (ty := .int) (a0 := (16, .inl (fun _ => 0))) (N' := 16) hx hb hw3 rfl hK hP hD hS hA (fun _ => rfl) (by decide) (by decide) (Nat.le_of_ble_eq_true rfl) (Nat.le_of_ble_eq_true rfl) (Nat.le_of_ble_eq_true rfl) dX4_init_15 (fun q_15 cA H hK1 hP hD hS => ?_)
  obtain rfl := tyI hK1
  have hP : va_P G.1 vwCl [(qS, .inr (4, [.null, .null, .ref q_7, .null, .null, .null, .int 0, .int 0])), (q_7, .inl (G.2.1, 16, .inl (fun _ => 0))), (q_15, .inl (G.2.1, 16, .inl (fun _ => 0)))] H := hP
  have hD : va_D A [(qS, .inr (4, [.null, .null, .ref q_7, .null, .null, .null, .int 0, .int 0])), (q_7, .inl (G.2.1, 16, .inl (fun _ => 0))), (q_15, .inl (G.2.1, 16, .inl (fun _ => 0)))] := hD
  refine va_putF (D := G.1) (ci := 4) (v := .ref q_15) (ty := .array .int) (C := RX4) (T := TX4) (N := 8) hx hb hts hi4 tyX4 tyX4_ok nmX4 hown hK hP hD hS 0 rfl rfl 3 (by decide) hw5 (fun _ h9 => h9) rfl hin rfl (by decide +kernel) rfl rfl (Nat.le_of_ble_eq_true rfl) dX4_init_17 (fun H locs hP hD hS => ?_)
  have hP : va_P G.1 vwCl [(qS, .inr (4, [.null, .null, .ref q_7, .ref q_15, .null, .null, .int 0, .int 0])), (q_7, .inl (G.2.1, 16, .inl (fun _ => 0))), (q_15, .inl (G.2.1, 16, .inl (fun _ => 0)))] H := hP
  have hD : va_D A [(qS, .inr (4, [.null, .null, .ref q_7, .ref q_15, .null, .null, .int 0, .int 0])), (q_7, .inl (G.2.1, 16, .inl (fun _ => 0))), (q_15, .inl (G.2.1, 16, .inl (fun _ => 0)))] := hD
  refine lv_aload_n hx hb dX4_init_20 rfl (lv_at hl 0 rfl) ?_
  refine lv_bipush (v := 17) hx hb dX4_init_21 (by decide) ?_
  refine lv_bipush (v := 16) hx hb dX4_init_23 (by decide) ?_
  refine va_mna (X := [(qS, .inr (4, [.null, .null, .ref q_7, .ref q_15, .null, .null, .int 0, .int 0])), (q_7, .inl (G.2.1, 16, .inl (fun _ => 0))), (q_15, .inl (G.2.1, 16, .inl (fun _ => 0)))]) (L := []) (f := fun _ => .inr (0, [])) (N' := 17) (K' := 16) (z := (16, .inl (fun _ => 0))) (ty := .int) (cy := G.2.1) hx hb hown hw6 hAO hw3 (hK.2 0 _ rfl).2 hK hP hD hS hA (by decide) (by decide) (by decide) (by decide) (Nat.le_of_ble_eq_true rfl) (Nat.le_of_ble_eq_true rfl) (Nat.le_of_ble_eq_true rfl) rfl rfl (Nat.le_of_ble_eq_true rfl) (Nat.le_of_ble_eq_true rfl) mna_z dX4_init_25 (fun q_25 qR cA H hinj hnl hK1 hP hD hS => ?_)
  obtain rfl := tyR hK1
  have hP := set_P (mna_w (G := G) (X := [(qS, .inr (4, [.null, .null, .ref q_7, .ref q_15, .null, .null, .int 0, .int 0])), (q_7, .inl (G.2.1, 16, .inl (fun _ => 0))), (q_15, .inl (G.2.1, 16, .inl (fun _ => 0))), (q_25, .inl (G.2.2.2.2, 17, .inr (.inr (.inr (.inr (outR qR))))))])) hP
  have hD := set_D (mna_w (G := G) (X := [(qS, .inr (4, [.null, .null, .ref q_7, .ref q_15, .null, .null, .int 0, .int 0])), (q_7, .inl (G.2.1, 16, .inl (fun _ => 0))), (q_15, .inl (G.2.1, 16, .inl (fun _ => 0))), (q_25, .inl (G.2.2.2.2, 17, .inr (.inr (.inr (.inr (outR qR))))))])) hD
  have hP : va_P G.1 vwCl ([(qS, .inr (4, [.null, .null, .ref q_7, .ref q_15, .null, .null, .int 0, .int 0])), (q_7, .inl (G.2.1, 16, .inl (fun _ => 0))), (q_15, .inl (G.2.1, 16, .inl (fun _ => 0))), (q_25, .inl (G.2.2.2.2, 17, .inr (.inr (.inr (.inr (outR qR))))))] ++ rws G qR (fun _ _ => 0)) H := hP
  have hD : va_D A ([(qS, .inr (4, [.null, .null, .ref q_7, .ref q_15, .null, .null, .int 0, .int 0])), (q_7, .inl (G.2.1, 16, .inl (fun _ => 0))), (q_15, .inl (G.2.1, 16, .inl (fun _ => 0))), (q_25, .inl (G.2.2.2.2, 17, .inr (.inr (.inr (.inr (outR qR))))))] ++ rws G qR (fun _ _ => 0)) := hD
  refine va_putF (D := G.1) (ci := 4) (v := .ref q_25) (ty := .array (.array .int)) (C := RX4) (T := TX4) (N := 8) hx hb hts hi4 tyX4 tyX4_ok nmX4 hown hK hP hD hS 0 rfl rfl 4 (by decide) hw7 (fun _ h9 => h9) rfl hin rfl (by decide +kernel) rfl rfl (Nat.le_of_ble_eq_true rfl) dX4_init_29 (fun H locs hP hD hS => ?_)
  have hP : va_P G.1 vwCl ([(qS, .inr (4, [.null, .null, .ref q_7, .ref q_15, .ref q_25, .null, .int 0, .int 0])), (q_7, .inl (G.2.1, 16, .inl (fun _ => 0))), (q_15, .inl (G.2.1, 16, .inl (fun _ => 0))), (q_25, .inl (G.2.2.2.2, 17, .inr (.inr (.inr (.inr (outR qR))))))] ++ rws G qR (fun _ _ => 0)) H := hP
  have hD : va_D A ([(qS, .inr (4, [.null, .null, .ref q_7, .ref q_15, .ref q_25, .null, .int 0, .int 0])), (q_7, .inl (G.2.1, 16, .inl (fun _ => 0))), (q_15, .inl (G.2.1, 16, .inl (fun _ => 0))), (q_25, .inl (G.2.2.2.2, 17, .inr (.inr (.inr (.inr (outR qR))))))] ++ rws G qR (fun _ _ => 0)) := hD
  refine lv_aload_n hx hb dX4_init_32 rfl (lv_at hl 0 rfl) ?_
  refine lv_bipush (v := 16) hx hb dX4_init_33 (by decide) ?_
  refine va_newa (atype := .int) (ty := .int) (a0 := (16, .inl (fun _ => 0))) (N' := 16) hx hb hw3 rfl hK hP hD hS hA (fun _ => rfl) (by decide) (by decide) (Nat.le_of_ble_eq_true rfl) (Nat.le_of_ble_eq_true rfl) (Nat.le_of_ble_eq_true rfl) dX4_init_35 (fun q_35 cA H hK1 hP hD hS => ?_)
  obtain rfl := tyI hK1
  have hP := va_P.swap hP
  have hD := va_D.swap hD
  have hP : va_P G.1 vwCl ([(qS, .inr (4, [.null, .null, .ref q_7, .ref q_15, .ref q_25, .null, .int 0, .int 0])), (q_7, .inl (G.2.1, 16, .inl (fun _ => 0))), (q_15, .inl (G.2.1, 16, .inl (fun _ => 0))), (q_25, .inl (G.2.2.2.2, 17, .inr (.inr (.inr (.inr (outR qR)))))), (q_35, .inl (G.2.1, 16, .inl (fun _ => 0)))] ++ rws G qR (fun _ _ => 0)) H := hP
  have hD : va_D A ([(qS, .inr (4, [.null, .null, .ref q_7, .ref q_15, .ref q_25, .null, .int 0, .int 0])), (q_7, .inl (G.2.1, 16, .inl (fun _ => 0))), (q_15, .inl (G.2.1, 16, .inl (fun _ => 0))), (q_25, .inl (G.2.2.2.2, 17, .inr (.inr (.inr (.inr (outR qR)))))), (q_35, .inl (G.2.1, 16, .inl (fun _ => 0)))] ++ rws G qR (fun _ _ => 0)) := hD
  refine va_putF (D := G.1) (ci := 4) (v := .ref q_35) (ty := .array .int) (C := RX4) (T := TX4) (N := 8) hx hb hts hi4 tyX4 tyX4_ok nmX4 hown hK hP hD hS 0 rfl rfl 5 (by decide) hw8 (fun _ h9 => h9) rfl hin rfl (by decide +kernel) rfl rfl (Nat.le_of_ble_eq_true rfl) dX4_init_37 (fun H locs hP hD hS => ?_)
  have hP : va_P G.1 vwCl ([(qS, .inr (4, [.null, .null, .ref q_7, .ref q_15, .ref q_25, .ref q_35, .int 0, .int 0])), (q_7, .inl (G.2.1, 16, .inl (fun _ => 0))), (q_15, .inl (G.2.1, 16, .inl (fun _ => 0))), (q_25, .inl (G.2.2.2.2, 17, .inr (.inr (.inr (.inr (outR qR)))))), (q_35, .inl (G.2.1, 16, .inl (fun _ => 0)))] ++ rws G qR (fun _ _ => 0)) H := hP
  have hD : va_D A ([(qS, .inr (4, [.null, .null, .ref q_7, .ref q_15, .ref q_25, .ref q_35, .int 0, .int 0])), (q_7, .inl (G.2.1, 16, .inl (fun _ => 0))), (q_15, .inl (G.2.1, 16, .inl (fun _ => 0))), (q_25, .inl (G.2.2.2.2, 17, .inr (.inr (.inr (.inr (outR qR)))))), (q_35, .inl (G.2.1, 16, .inl (fun _ => 0)))] ++ rws G qR (fun _ _ => 0)) := hD
  refine lv_aload_n hx hb dX4_init_40 rfl (lv_at hl 0 rfl) ?_
  refine lv_aload_n hx hb dX4_init_41 rfl (lv_at hl 1 rfl) ?_
  refine va_putF (D := G.1) (ci := 4) (v := .ref qB) (ty := .object "NetPlumber$Board") (C := RX4) (T := TX4) (N := 8) hx hb hts hi4 tyX4 tyX4_ok nmX4 hown hK hP hD hS 0 rfl rfl 0 (by decide) hw9 (fun _ h9 => h9) rfl hin rfl (by decide +kernel) rfl rfl (Nat.le_of_ble_eq_true rfl) dX4_init_42 (fun H locs hP hD hS => ?_)
  have hP : va_P G.1 vwCl ([(qS, .inr (4, [.ref qB, .null, .ref q_7, .ref q_15, .ref q_25, .ref q_35, .int 0, .int 0])), (q_7, .inl (G.2.1, 16, .inl (fun _ => 0))), (q_15, .inl (G.2.1, 16, .inl (fun _ => 0))), (q_25, .inl (G.2.2.2.2, 17, .inr (.inr (.inr (.inr (outR qR)))))), (q_35, .inl (G.2.1, 16, .inl (fun _ => 0)))] ++ rws G qR (fun _ _ => 0)) H := hP
  have hD : va_D A ([(qS, .inr (4, [.ref qB, .null, .ref q_7, .ref q_15, .ref q_25, .ref q_35, .int 0, .int 0])), (q_7, .inl (G.2.1, 16, .inl (fun _ => 0))), (q_15, .inl (G.2.1, 16, .inl (fun _ => 0))), (q_25, .inl (G.2.2.2.2, 17, .inr (.inr (.inr (.inr (outR qR)))))), (q_35, .inl (G.2.1, 16, .inl (fun _ => 0)))] ++ rws G qR (fun _ _ => 0)) := hD
  refine lv_aload_n hx hb dX4_init_45 rfl (lv_at hl 0 rfl) ?_
  refine lv_aload_n hx hb dX4_init_46 rfl (lv_at hl 2 rfl) ?_
  refine va_putF (D := G.1) (ci := 4) (v := .ref qV) (ty := .object "NetPlumber$Sieve") (C := RX4) (T := TX4) (N := 8) hx hb hts hi4 tyX4 tyX4_ok nmX4 hown hK hP hD hS 0 rfl rfl 1 (by decide) hw10 (fun _ h9 => h9) rfl hin rfl (by decide +kernel) rfl rfl (Nat.le_of_ble_eq_true rfl) dX4_init_47 (fun H locs hP hD hS => ?_)
  have hP : va_P G.1 vwCl ([(qS, .inr (4, [.ref qB, .ref qV, .ref q_7, .ref q_15, .ref q_25, .ref q_35, .int 0, .int 0])), (q_7, .inl (G.2.1, 16, .inl (fun _ => 0))), (q_15, .inl (G.2.1, 16, .inl (fun _ => 0))), (q_25, .inl (G.2.2.2.2, 17, .inr (.inr (.inr (.inr (outR qR)))))), (q_35, .inl (G.2.1, 16, .inl (fun _ => 0)))] ++ rws G qR (fun _ _ => 0)) H := hP
  have hD : va_D A ([(qS, .inr (4, [.ref qB, .ref qV, .ref q_7, .ref q_15, .ref q_25, .ref q_35, .int 0, .int 0])), (q_7, .inl (G.2.1, 16, .inl (fun _ => 0))), (q_15, .inl (G.2.1, 16, .inl (fun _ => 0))), (q_25, .inl (G.2.2.2.2, 17, .inr (.inr (.inr (.inr (outR qR)))))), (q_35, .inl (G.2.1, 16, .inl (fun _ => 0)))] ++ rws G qR (fun _ _ => 0)) := hD
  rw [hQ]
  exact W.vret hx hb hr (fun t ht hW => ⟨⟨(), rfl, trivial, ⟨q_7, q_15, q_25, q_35, qR, va_Pat ht hP, hD⟩⟩, hS.F ht⟩) hS.2.2 dX4_init_50

abbrev rmX5_init : Room := { frames := 1, cells := 4, slots := 64, locals := 24 }
set_option maxHeartbeats 40000000 in
set_option maxRecDepth 100000 in
theorem tX5_init (G : GG) (l : Launch) {qV qB sz : Nat}  : Met l yX5_init wsX5_init rmX5_init (pcW G [(qV, .inr (5, [.null, .null, .null, .null, .null]))] sz [.ref qV, .ref qB]) (va_Qv (S := Unit) (fun _ => True) (fun _ t => ∃ (q_7 q_15 q_23 q_31 : Nat), va_P G.1 vwCl [(qV, .inr (5, [.ref qB, .ref q_7, .ref q_15, .ref q_23, .ref q_31])), (q_7, .inl (G.2.1, 16, .inl (fun _ => 0))), (q_15, .inl (G.2.1, 16, .inl (fun _ => 0))), (q_23, .inl (G.2.1, 16, .inl (fun _ => 0))), (q_31, .inl (G.2.1, 16, .inl (fun _ => 0)))] t.heap ∧ va_D (va_A [(qV, .inr (5, [.null, .null, .null, .null, .null]))] sz) [(qV, .inr (5, [.ref qB, .ref q_7, .ref q_15, .ref q_23, .ref q_31])), (q_7, .inl (G.2.1, 16, .inl (fun _ => 0))), (q_15, .inl (G.2.1, 16, .inl (fun _ => 0))), (q_23, .inl (G.2.1, 16, .inl (fun _ => 0))), (q_31, .inl (G.2.1, 16, .inl (fun _ => 0)))]) (va_A [(qV, .inr (5, [.null, .null, .null, .null, .null]))] sz)) 4 64 (va_A [(qV, .inr (5, [.null, .null, .null, .null, .null]))] sz) := by
  refine Met.ofW (cc := cX5_init) (maxL := 2) (ret := none) (by decide) rfl ?_
  intro p e s m args below meth c s₁ B hml hv
  obtain ⟨rfl, hsz, hP, hKK, hD0⟩ := hv
  have hK := hKK.1
  have hx := B.exec
  have hb := B.bytes
  have hr := B.returns
  have hts := atoms_spec (ws := wsX5_init) B.pre
  have hown : s.vm.findClass RX5 = some m.cls := findClass_of_methodNamed B.named
  have hlocks := B.notSynchronized
  have hin : meth.name = "<init>" := (name_of_methodNamed B.named B.method).1
  subst hsz
  have hD := hD0.self (sz := s.heap.size)
  generalize hAe : va_A [(qV, .inr (5, [.null, .null, .null, .null, .null]))] s.heap.size = A at hD ⊢
  have hA : ∀ q : Nat, s.heap.size ≤ q → A q := fun q h => by rw [← hAe]; exact Or.inr h
  have hS : va_S A s.heap s.heap [] := va_S.rf
  have hl := lv_entry ([.ref qV, .ref qB] : List Value) (n := 2) (Nat.le_of_ble_eq_true rfl)
  rw [lg_entry_eq]
  generalize (lg_sl ([.ref qV, .ref qB] : List Value) ++ List.replicate (2 - (lg_sl ([.ref qV, .ref qB] : List Value)).length) Slot.unset).toArray = ls at hl ⊢
  have hl : lv_has ls 2 [(0, .ref qV), (1, .ref qB)] := hl
  have hi5 : ∀ w ∈ u_ws RX5 TX5 5, w ∈ wsX5_init := by decide +kernel
  have hw0 : (Cond.methodLink RX5 3 objectInit).before #[Value.ref qV, Value.ref qB] s = true := hts _ (by decide +kernel)
  have hw1 : (Cond.instanceMethod objectInit).before #[Value.ref qV, Value.ref qB] s = true := hts _ (by decide +kernel)
  have hw2 : (Cond.code objectInit ⟨#[0xb1]⟩ 1 none).before #[Value.ref qV, Value.ref qB] s = true := hts _ (by decide +kernel)
  have hw3 : (Cond.arrayClass .int).before #[Value.ref qV, Value.ref qB] s = true := hts _ (by decide +kernel)
  have hw4 : (Cond.fieldLink RX5 9 "NetPlumber$Sieve" "left" "[I").before #[Value.ref qV, Value.ref qB] s = true := hts _ (by decide +kernel)
  have hw5 : (Cond.fieldLink RX5 15 "NetPlumber$Sieve" "some" "[I").before #[Value.ref qV, Value.ref qB] s = true := hts _ (by decide +kernel)
  have hw6 : (Cond.fieldLink RX5 18 "NetPlumber$Sieve" "all" "[I").before #[Value.ref qV, Value.ref qB] s = true := hts _ (by decide +kernel)
  have hw7 : (Cond.fieldLink RX5 21 "NetPlumber$Sieve" "settled" "[I").before #[Value.ref qV, Value.ref qB] s = true := hts _ (by decide +kernel)
  have hw8 : (Cond.fieldLink RX5 24 "NetPlumber$Sieve" "board" "LNetPlumber$Board;").before #[Value.ref qV, Value.ref qB] s = true := hts _ (by decide +kernel)
  refine wq (fun Q hQ => ?_)
  refine lv_aload_n hx hb dX5_init_0 rfl (lv_at hl 0 rfl) ?_
  refine W.objInit hx hb hown hw0 hw1 hw2 rfl (by rw [hml]; exact hl.1) rfl dX5_init_1 (Nat.le_of_ble_eq_true rfl) (Nat.le_of_ble_eq_true rfl) ?_
  refine W.eq (g2 := F0 m 4 ls []) rfl ?_
  refine lv_aload_n hx hb dX5_init_4 rfl (lv_at hl 0 rfl) ?_
  refine lv_bipush (v := 16) hx hb dX5_init_5 (by decide) ?_
  refine va_newa (atype := .int) (ty := .int) (a0 := (16, .inl (fun _ => 0))) (N' := 16) hx hb hw3 rfl hK hP hD hS hA (fun _ => rfl) (by decide) (by decide) (Nat.le_of_ble_eq_true rfl) (Nat.le_of_ble_eq_true rfl) (Nat.le_of_ble_eq_true rfl) dX5_init_7 (fun q_7 cA H hK1 hP hD hS => ?_)
  obtain rfl := tyI hK1
  have hP : va_P G.1 vwCl [(qV, .inr (5, [.null, .null, .null, .null, .null])), (q_7, .inl (G.2.1, 16, .inl (fun _ => 0)))] H := hP
  have hD : va_D A [(qV, .inr (5, [.null, .null, .null, .null, .null])), (q_7, .inl (G.2.1, 16, .inl (fun _ => 0)))] := hD
  refine va_putF (D := G.1) (ci := 5) (v := .ref q_7) (ty := .array .int) (C := RX5) (T := TX5) (N := 5) hx hb hts hi5 tyX5 tyX5_ok nmX5 hown hK hP hD hS 0 rfl rfl 1 (by decide) hw4 (fun _ h9 => h9) rfl hin rfl (by decide +kernel) rfl rfl (Nat.le_of_ble_eq_true rfl) dX5_init_9 (fun H locs hP hD hS => ?_)
  have hP : va_P G.1 vwCl [(qV, .inr (5, [.null, .ref q_7, .null, .null, .null])), (q_7, .inl (G.2.1, 16, .inl (fun _ => 0)))] H := hP
  have hD : va_D A [(qV, .inr (5, [.null, .ref q_7, .null, .null, .null])), (q_7, .inl (G.2.1, 16, .inl (fun _ => 0)))] := hD
  refine lv_aload_n hx hb dX5_init_12 rfl (lv_at hl 0 rfl) ?_
  refine lv_bipush (v := 16) hx hb dX5_init_13 (by decide) ?_
  refine va_newa (atype := .int) (ty := .int) (a0 := (16, .inl (fun _ => 0))) (N' := 16) hx hb hw3 rfl hK hP hD hS hA (fun _ => rfl) (by decide) (by decide) (Nat.le_of_ble_eq_true rfl) (Nat.le_of_ble_eq_true rfl) (Nat.le_of_ble_eq_true rfl) dX5_init_15 (fun q_15 cA H hK1 hP hD hS => ?_)
  obtain rfl := tyI hK1
  have hP : va_P G.1 vwCl [(qV, .inr (5, [.null, .ref q_7, .null, .null, .null])), (q_7, .inl (G.2.1, 16, .inl (fun _ => 0))), (q_15, .inl (G.2.1, 16, .inl (fun _ => 0)))] H := hP
  have hD : va_D A [(qV, .inr (5, [.null, .ref q_7, .null, .null, .null])), (q_7, .inl (G.2.1, 16, .inl (fun _ => 0))), (q_15, .inl (G.2.1, 16, .inl (fun _ => 0)))] := hD
  refine va_putF (D := G.1) (ci := 5) (v := .ref q_15) (ty := .array .int) (C := RX5) (T := TX5) (N := 5) hx hb hts hi5 tyX5 tyX5_ok nmX5 hown hK hP hD hS 0 rfl rfl 2 (by decide) hw5 (fun _ h9 => h9) rfl hin rfl (by decide +kernel) rfl rfl (Nat.le_of_ble_eq_true rfl) dX5_init_17 (fun H locs hP hD hS => ?_)
  have hP : va_P G.1 vwCl [(qV, .inr (5, [.null, .ref q_7, .ref q_15, .null, .null])), (q_7, .inl (G.2.1, 16, .inl (fun _ => 0))), (q_15, .inl (G.2.1, 16, .inl (fun _ => 0)))] H := hP
  have hD : va_D A [(qV, .inr (5, [.null, .ref q_7, .ref q_15, .null, .null])), (q_7, .inl (G.2.1, 16, .inl (fun _ => 0))), (q_15, .inl (G.2.1, 16, .inl (fun _ => 0)))] := hD
  refine lv_aload_n hx hb dX5_init_20 rfl (lv_at hl 0 rfl) ?_
  refine lv_bipush (v := 16) hx hb dX5_init_21 (by decide) ?_
  refine va_newa (atype := .int) (ty := .int) (a0 := (16, .inl (fun _ => 0))) (N' := 16) hx hb hw3 rfl hK hP hD hS hA (fun _ => rfl) (by decide) (by decide) (Nat.le_of_ble_eq_true rfl) (Nat.le_of_ble_eq_true rfl) (Nat.le_of_ble_eq_true rfl) dX5_init_23 (fun q_23 cA H hK1 hP hD hS => ?_)
  obtain rfl := tyI hK1
  have hP : va_P G.1 vwCl [(qV, .inr (5, [.null, .ref q_7, .ref q_15, .null, .null])), (q_7, .inl (G.2.1, 16, .inl (fun _ => 0))), (q_15, .inl (G.2.1, 16, .inl (fun _ => 0))), (q_23, .inl (G.2.1, 16, .inl (fun _ => 0)))] H := hP
  have hD : va_D A [(qV, .inr (5, [.null, .ref q_7, .ref q_15, .null, .null])), (q_7, .inl (G.2.1, 16, .inl (fun _ => 0))), (q_15, .inl (G.2.1, 16, .inl (fun _ => 0))), (q_23, .inl (G.2.1, 16, .inl (fun _ => 0)))] := hD
  refine va_putF (D := G.1) (ci := 5) (v := .ref q_23) (ty := .array .int) (C := RX5) (T := TX5) (N := 5) hx hb hts hi5 tyX5 tyX5_ok nmX5 hown hK hP hD hS 0 rfl rfl 3 (by decide) hw6 (fun _ h9 => h9) rfl hin rfl (by decide +kernel) rfl rfl (Nat.le_of_ble_eq_true rfl) dX5_init_25 (fun H locs hP hD hS => ?_)
  have hP : va_P G.1 vwCl [(qV, .inr (5, [.null, .ref q_7, .ref q_15, .ref q_23, .null])), (q_7, .inl (G.2.1, 16, .inl (fun _ => 0))), (q_15, .inl (G.2.1, 16, .inl (fun _ => 0))), (q_23, .inl (G.2.1, 16, .inl (fun _ => 0)))] H := hP
  have hD : va_D A [(qV, .inr (5, [.null, .ref q_7, .ref q_15, .ref q_23, .null])), (q_7, .inl (G.2.1, 16, .inl (fun _ => 0))), (q_15, .inl (G.2.1, 16, .inl (fun _ => 0))), (q_23, .inl (G.2.1, 16, .inl (fun _ => 0)))] := hD
  refine lv_aload_n hx hb dX5_init_28 rfl (lv_at hl 0 rfl) ?_
  refine lv_bipush (v := 16) hx hb dX5_init_29 (by decide) ?_
  refine va_newa (atype := .int) (ty := .int) (a0 := (16, .inl (fun _ => 0))) (N' := 16) hx hb hw3 rfl hK hP hD hS hA (fun _ => rfl) (by decide) (by decide) (Nat.le_of_ble_eq_true rfl) (Nat.le_of_ble_eq_true rfl) (Nat.le_of_ble_eq_true rfl) dX5_init_31 (fun q_31 cA H hK1 hP hD hS => ?_)
  obtain rfl := tyI hK1
  have hP : va_P G.1 vwCl [(qV, .inr (5, [.null, .ref q_7, .ref q_15, .ref q_23, .null])), (q_7, .inl (G.2.1, 16, .inl (fun _ => 0))), (q_15, .inl (G.2.1, 16, .inl (fun _ => 0))), (q_23, .inl (G.2.1, 16, .inl (fun _ => 0))), (q_31, .inl (G.2.1, 16, .inl (fun _ => 0)))] H := hP
  have hD : va_D A [(qV, .inr (5, [.null, .ref q_7, .ref q_15, .ref q_23, .null])), (q_7, .inl (G.2.1, 16, .inl (fun _ => 0))), (q_15, .inl (G.2.1, 16, .inl (fun _ => 0))), (q_23, .inl (G.2.1, 16, .inl (fun _ => 0))), (q_31, .inl (G.2.1, 16, .inl (fun _ => 0)))] := hD
  refine va_putF (D := G.1) (ci := 5) (v := .ref q_31) (ty := .array .int) (C := RX5) (T := TX5) (N := 5) hx hb hts hi5 tyX5 tyX5_ok nmX5 hown hK hP hD hS 0 rfl rfl 4 (by decide) hw7 (fun _ h9 => h9) rfl hin rfl (by decide +kernel) rfl rfl (Nat.le_of_ble_eq_true rfl) dX5_init_33 (fun H locs hP hD hS => ?_)
  have hP : va_P G.1 vwCl [(qV, .inr (5, [.null, .ref q_7, .ref q_15, .ref q_23, .ref q_31])), (q_7, .inl (G.2.1, 16, .inl (fun _ => 0))), (q_15, .inl (G.2.1, 16, .inl (fun _ => 0))), (q_23, .inl (G.2.1, 16, .inl (fun _ => 0))), (q_31, .inl (G.2.1, 16, .inl (fun _ => 0)))] H := hP
  have hD : va_D A [(qV, .inr (5, [.null, .ref q_7, .ref q_15, .ref q_23, .ref q_31])), (q_7, .inl (G.2.1, 16, .inl (fun _ => 0))), (q_15, .inl (G.2.1, 16, .inl (fun _ => 0))), (q_23, .inl (G.2.1, 16, .inl (fun _ => 0))), (q_31, .inl (G.2.1, 16, .inl (fun _ => 0)))] := hD
  refine lv_aload_n hx hb dX5_init_36 rfl (lv_at hl 0 rfl) ?_
  refine lv_aload_n hx hb dX5_init_37 rfl (lv_at hl 1 rfl) ?_
  refine va_putF (D := G.1) (ci := 5) (v := .ref qB) (ty := .object "NetPlumber$Board") (C := RX5) (T := TX5) (N := 5) hx hb hts hi5 tyX5 tyX5_ok nmX5 hown hK hP hD hS 0 rfl rfl 0 (by decide) hw8 (fun _ h9 => h9) rfl hin rfl (by decide +kernel) rfl rfl (Nat.le_of_ble_eq_true rfl) dX5_init_38 (fun H locs hP hD hS => ?_)
  have hP : va_P G.1 vwCl [(qV, .inr (5, [.ref qB, .ref q_7, .ref q_15, .ref q_23, .ref q_31])), (q_7, .inl (G.2.1, 16, .inl (fun _ => 0))), (q_15, .inl (G.2.1, 16, .inl (fun _ => 0))), (q_23, .inl (G.2.1, 16, .inl (fun _ => 0))), (q_31, .inl (G.2.1, 16, .inl (fun _ => 0)))] H := hP
  have hD : va_D A [(qV, .inr (5, [.ref qB, .ref q_7, .ref q_15, .ref q_23, .ref q_31])), (q_7, .inl (G.2.1, 16, .inl (fun _ => 0))), (q_15, .inl (G.2.1, 16, .inl (fun _ => 0))), (q_23, .inl (G.2.1, 16, .inl (fun _ => 0))), (q_31, .inl (G.2.1, 16, .inl (fun _ => 0)))] := hD
  rw [hQ]
  exact W.vret hx hb hr (fun t ht hW => ⟨⟨(), rfl, trivial, ⟨q_7, q_15, q_23, q_31, va_Pat ht hP, hD⟩⟩, hS.F ht⟩) hS.2.2 dX5_init_41

abbrev rmX6_init : Room := { frames := 2, cells := 8, slots := 98, locals := 44 }
set_option maxHeartbeats 40000000 in
set_option maxRecDepth 100000 in
theorem tX6_init (G : GG) (l : Launch) {qW qB sz : Nat}  : Met l yX6_init wsX6_init rmX6_init (pcW G [(qW, .inr (6, [.null, .null, .null, .null, .null]))] sz [.ref qW, .ref qB]) (va_Qv (S := Unit) (fun _ => True) (fun _ t => ∃ (q_7 q_15 q_21 q25_q_7 q25_q_15 q_32 q36_q_7 q36_q_15 : Nat), va_P G.1 vwCl [(qW, .inr (6, [.ref qB, .ref q_7, .ref q_15, .ref q_21, .ref q_32])), (q_7, .inl (G.2.1, 12, .inl (fun _ => 0))), (q_15, .inl (G.2.1, 16, .inl (fun _ => 0))), (q_21, .inr (1, [.ref q25_q_7, .ref q25_q_15, .int 0])), (q25_q_7, .inl (G.2.2.1, 16, .inr (.inl (fun _ => 0)))), (q25_q_15, .inl (G.2.1, 16, .inl (fun _ => 0))), (q_32, .inr (1, [.ref q36_q_7, .ref q36_q_15, .int 0])), (q36_q_7, .inl (G.2.2.1, 16, .inr (.inl (fun _ => 0)))), (q36_q_15, .inl (G.2.1, 16, .inl (fun _ => 0)))] t.heap ∧ va_D (va_A [(qW, .inr (6, [.null, .null, .null, .null, .null]))] sz) [(qW, .inr (6, [.ref qB, .ref q_7, .ref q_15, .ref q_21, .ref q_32])), (q_7, .inl (G.2.1, 12, .inl (fun _ => 0))), (q_15, .inl (G.2.1, 16, .inl (fun _ => 0))), (q_21, .inr (1, [.ref q25_q_7, .ref q25_q_15, .int 0])), (q25_q_7, .inl (G.2.2.1, 16, .inr (.inl (fun _ => 0)))), (q25_q_15, .inl (G.2.1, 16, .inl (fun _ => 0))), (q_32, .inr (1, [.ref q36_q_7, .ref q36_q_15, .int 0])), (q36_q_7, .inl (G.2.2.1, 16, .inr (.inl (fun _ => 0)))), (q36_q_15, .inl (G.2.1, 16, .inl (fun _ => 0)))]) (va_A [(qW, .inr (6, [.null, .null, .null, .null, .null]))] sz)) 8 98 (va_A [(qW, .inr (6, [.null, .null, .null, .null, .null]))] sz) := by
  refine Met.ofW (cc := cX6_init) (maxL := 2) (ret := none) (by decide) rfl ?_
  intro p e s m args below meth c s₁ B hml hv
  obtain ⟨rfl, hsz, hP, hKK, hD0⟩ := hv
  have hK := hKK.1
  have hx := B.exec
  have hb := B.bytes
  have hr := B.returns
  have hts := atoms_spec (ws := wsX6_init) B.pre
  have hown : s.vm.findClass RX6 = some m.cls := findClass_of_methodNamed B.named
  have hlocks := B.notSynchronized
  have hin : meth.name = "<init>" := (name_of_methodNamed B.named B.method).1
  subst hsz
  have hD := hD0.self (sz := s.heap.size)
  generalize hAe : va_A [(qW, .inr (6, [.null, .null, .null, .null, .null]))] s.heap.size = A at hD ⊢
  have hA : ∀ q : Nat, s.heap.size ≤ q → A q := fun q h => by rw [← hAe]; exact Or.inr h
  have hS : va_S A s.heap s.heap [] := va_S.rf
  have hl := lv_entry ([.ref qW, .ref qB] : List Value) (n := 2) (Nat.le_of_ble_eq_true rfl)
  rw [lg_entry_eq]
  generalize (lg_sl ([.ref qW, .ref qB] : List Value) ++ List.replicate (2 - (lg_sl ([.ref qW, .ref qB] : List Value)).length) Slot.unset).toArray = ls at hl ⊢
  have hl : lv_has ls 2 [(0, .ref qW), (1, .ref qB)] := hl
  have hi1 : ∀ w ∈ u_ws RX1 TX1 3, w ∈ wsX6_init := by decide +kernel
  have hi6 : ∀ w ∈ u_ws RX6 TX6 5, w ∈ wsX6_init := by decide +kernel
  have hw0 : (Cond.methodLink RX6 5 objectInit).before #[Value.ref qW, Value.ref qB] s = true := hts _ (by decide +kernel)
  have hw1 : (Cond.instanceMethod objectInit).before #[Value.ref qW, Value.ref qB] s = true := hts _ (by decide +kernel)
  have hw2 : (Cond.code objectInit ⟨#[0xb1]⟩ 1 none).before #[Value.ref qW, Value.ref qB] s = true := hts _ (by decide +kernel)
  have hw3 : (Cond.arrayClass .int).before #[Value.ref qW, Value.ref qB] s = true := hts _ (by decide +kernel)
  have hw4 : (Cond.fieldLink RX6 11 "NetPlumber$Sweep" "places" "[I").before #[Value.ref qW, Value.ref qB] s = true := hts _ (by decide +kernel)
  have hw5 : (Cond.fieldLink RX6 15 "NetPlumber$Sweep" "names" "[I").before #[Value.ref qW, Value.ref qB] s = true := hts _ (by decide +kernel)
  have hw6 : (Cond.classLink RX6 18 RX1).before #[Value.ref qW, Value.ref qB] s = true := hts _ (by decide +kernel)
  have hw7 : (Cond.instantiable RX1 3).before #[Value.ref qW, Value.ref qB] s = true := hts _ (by decide +kernel)
  have hw8 : (Cond.initialized RX1).before #[Value.ref qW, Value.ref qB] s = true := hts _ (by decide +kernel)
  have hw9 : (Cond.instanceMethod yX1_init).before #[Value.ref qW, Value.ref qB] s = true := hts _ (by decide +kernel)
  have hw10 : (Cond.fieldLink RX6 21 "NetPlumber$Sweep" "before" "LNetPlumber$BorderList;").before #[Value.ref qW, Value.ref qB] s = true := hts _ (by decide +kernel)
  have hw11 : (Cond.fieldLink RX6 25 "NetPlumber$Sweep" "after" "LNetPlumber$BorderList;").before #[Value.ref qW, Value.ref qB] s = true := hts _ (by decide +kernel)
  have hw12 : (Cond.fieldLink RX6 28 "NetPlumber$Sweep" "board" "LNetPlumber$Board;").before #[Value.ref qW, Value.ref qB] s = true := hts _ (by decide +kernel)
  refine wq (fun Q hQ => ?_)
  refine lv_aload_n hx hb dX6_init_0 rfl (lv_at hl 0 rfl) ?_
  refine W.objInit hx hb hown hw0 hw1 hw2 rfl (by rw [hml]; exact hl.1) rfl dX6_init_1 (Nat.le_of_ble_eq_true rfl) (Nat.le_of_ble_eq_true rfl) ?_
  refine W.eq (g2 := F0 m 4 ls []) rfl ?_
  refine lv_aload_n hx hb dX6_init_4 rfl (lv_at hl 0 rfl) ?_
  refine lv_bipush (v := 12) hx hb dX6_init_5 (by decide) ?_
  refine va_newa (atype := .int) (ty := .int) (a0 := (12, .inl (fun _ => 0))) (N' := 12) hx hb hw3 rfl hK hP hD hS hA (fun _ => rfl) (by decide) (by decide) (Nat.le_of_ble_eq_true rfl) (Nat.le_of_ble_eq_true rfl) (Nat.le_of_ble_eq_true rfl) dX6_init_7 (fun q_7 cA H hK1 hP hD hS => ?_)
  obtain rfl := tyI hK1
  have hP : va_P G.1 vwCl [(qW, .inr (6, [.null, .null, .null, .null, .null])), (q_7, .inl (G.2.1, 12, .inl (fun _ => 0)))] H := hP
  have hD : va_D A [(qW, .inr (6, [.null, .null, .null, .null, .null])), (q_7, .inl (G.2.1, 12, .inl (fun _ => 0)))] := hD
  refine va_putF (D := G.1) (ci := 6) (v := .ref q_7) (ty := .array .int) (C := RX6) (T := TX6) (N := 5) hx hb hts hi6 tyX6 tyX6_ok nmX6 hown hK hP hD hS 0 rfl rfl 1 (by decide) hw4 (fun _ h9 => h9) rfl hin rfl (by decide +kernel) rfl rfl (Nat.le_of_ble_eq_true rfl) dX6_init_9 (fun H locs hP hD hS => ?_)
  have hP : va_P G.1 vwCl [(qW, .inr (6, [.null, .ref q_7, .null, .null, .null])), (q_7, .inl (G.2.1, 12, .inl (fun _ => 0)))] H := hP
  have hD : va_D A [(qW, .inr (6, [.null, .ref q_7, .null, .null, .null])), (q_7, .inl (G.2.1, 12, .inl (fun _ => 0)))] := hD
  refine lv_aload_n hx hb dX6_init_12 rfl (lv_at hl 0 rfl) ?_
  refine lv_bipush (v := 16) hx hb dX6_init_13 (by decide) ?_
  refine va_newa (atype := .int) (ty := .int) (a0 := (16, .inl (fun _ => 0))) (N' := 16) hx hb hw3 rfl hK hP hD hS hA (fun _ => rfl) (by decide) (by decide) (Nat.le_of_ble_eq_true rfl) (Nat.le_of_ble_eq_true rfl) (Nat.le_of_ble_eq_true rfl) dX6_init_15 (fun q_15 cA H hK1 hP hD hS => ?_)
  obtain rfl := tyI hK1
  have hP : va_P G.1 vwCl [(qW, .inr (6, [.null, .ref q_7, .null, .null, .null])), (q_7, .inl (G.2.1, 12, .inl (fun _ => 0))), (q_15, .inl (G.2.1, 16, .inl (fun _ => 0)))] H := hP
  have hD : va_D A [(qW, .inr (6, [.null, .ref q_7, .null, .null, .null])), (q_7, .inl (G.2.1, 12, .inl (fun _ => 0))), (q_15, .inl (G.2.1, 16, .inl (fun _ => 0)))] := hD
  refine va_putF (D := G.1) (ci := 6) (v := .ref q_15) (ty := .array .int) (C := RX6) (T := TX6) (N := 5) hx hb hts hi6 tyX6 tyX6_ok nmX6 hown hK hP hD hS 0 rfl rfl 2 (by decide) hw5 (fun _ h9 => h9) rfl hin rfl (by decide +kernel) rfl rfl (Nat.le_of_ble_eq_true rfl) dX6_init_17 (fun H locs hP hD hS => ?_)
  have hP : va_P G.1 vwCl [(qW, .inr (6, [.null, .ref q_7, .ref q_15, .null, .null])), (q_7, .inl (G.2.1, 12, .inl (fun _ => 0))), (q_15, .inl (G.2.1, 16, .inl (fun _ => 0)))] H := hP
  have hD : va_D A [(qW, .inr (6, [.null, .ref q_7, .ref q_15, .null, .null])), (q_7, .inl (G.2.1, 12, .inl (fun _ => 0))), (q_15, .inl (G.2.1, 16, .inl (fun _ => 0)))] := hD
  refine lv_aload_n hx hb dX6_init_20 rfl (lv_at hl 0 rfl) ?_
  refine va_new (ci := 1) (fs := [.null, .null, .int 0]) (C := RX1) (T := TX1) (N := 3) hx hb hts hi1 tyX1 tyX1_ok hown hw6 hw7 hw8 hK hP hD hS hA rfl (fun j hj => by rcases (show j = 0 ∨ j = 1 ∨ j = 2 by omega) with rfl | rfl | rfl <;> rfl) (Nat.le_of_ble_eq_true rfl) (Nat.le_of_ble_eq_true rfl) dX6_init_21 (fun q_21 H hP hD hS => ?_)
  have hP : va_P G.1 vwCl [(qW, .inr (6, [.null, .ref q_7, .ref q_15, .null, .null])), (q_7, .inl (G.2.1, 12, .inl (fun _ => 0))), (q_15, .inl (G.2.1, 16, .inl (fun _ => 0))), (q_21, .inr (1, [.null, .null, .int 0]))] H := hP
  have hD : va_D A [(qW, .inr (6, [.null, .ref q_7, .ref q_15, .null, .null])), (q_7, .inl (G.2.1, 12, .inl (fun _ => 0))), (q_15, .inl (G.2.1, 16, .inl (fun _ => 0))), (q_21, .inr (1, [.null, .null, .int 0]))] := hD
  refine lv_dup hx hb dX6_init_24 rfl ?_
  have hPc := hP.sub (ws' := [(q_21, .inr (1, [.null, .null, .int 0]))]) [3] rfl
  have hDc := hD.sub (ws' := [(q_21, .inr (1, [.null, .null, .int 0]))]) [3] (by decide) rfl
  have hFc := va_free (wc := [(q_21, .inr (1, [.null, .null, .int 0]))]) hD hS hA [3] rfl
  refine va_callv (va_runIN (As := []) (rest := [.ref q_21, .ref qW]) ⟨hx, hb, hml, hown, hts⟩ (tX1_init G l) ⟨va_cnB 0 hts gX6_init_X1_init_n20 rfl rfl rfl (hKK.2 _ (List.mem_of_getElem? (i := 2) rfl)) hw8 (by decide +kernel) ⟨Nat.le_of_ble_eq_true rfl, Nat.le_of_ble_eq_true rfl⟩, rfl, hw9⟩ ⟨pcW_blind, pcW_pre hPc hKK hDc⟩ rfl rfl hl.1 rfl (lv_room (Nat.le_of_ble_eq_true rfl)) dX6_init_25 ⟨Nat.le_of_ble_eq_true rfl, Nat.le_of_ble_eq_true rfl⟩) hS (fun q _ h => hFc q h) hFc (fun u t H1 locs ht hvm hw hB hz1 hk1 hS => ?_)
  obtain ⟨q25_q_7, q25_q_15, hB, hBD⟩ := hB
  have hB := va_Pto ht hB
  obtain ⟨hP, hD⟩ := va_join (wr := [(qW, .inr (6, [.null, .ref q_7, .ref q_15, .null, .null])), (q_7, .inl (G.2.1, 12, .inl (fun _ => 0))), (q_15, .inl (G.2.1, 16, .inl (fun _ => 0)))]) (w1 := [(q_21, .inr (1, [.ref q25_q_7, .ref q25_q_15, .int 0])), (q25_q_7, .inl (G.2.2.1, 16, .inr (.inl (fun _ => 0)))), (q25_q_15, .inl (G.2.1, 16, .inl (fun _ => 0)))]) hP hD [3] [0, 1, 2] rfl rfl (by decide) (by decide) hk1 hFc hB hBD
  generalize H1 = H at hP hS ⊢
  have hP : va_P G.1 vwCl [(qW, .inr (6, [.null, .ref q_7, .ref q_15, .null, .null])), (q_7, .inl (G.2.1, 12, .inl (fun _ => 0))), (q_15, .inl (G.2.1, 16, .inl (fun _ => 0))), (q_21, .inr (1, [.ref q25_q_7, .ref q25_q_15, .int 0])), (q25_q_7, .inl (G.2.2.1, 16, .inr (.inl (fun _ => 0)))), (q25_q_15, .inl (G.2.1, 16, .inl (fun _ => 0)))] H := hP
  have hD : va_D A [(qW, .inr (6, [.null, .ref q_7, .ref q_15, .null, .null])), (q_7, .inl (G.2.1, 12, .inl (fun _ => 0))), (q_15, .inl (G.2.1, 16, .inl (fun _ => 0))), (q_21, .inr (1, [.ref q25_q_7, .ref q25_q_15, .int 0])), (q25_q_7, .inl (G.2.2.1, 16, .inr (.inl (fun _ => 0)))), (q25_q_15, .inl (G.2.1, 16, .inl (fun _ => 0)))] := hD
  refine va_put (D := G.1) (ci := 6) (v := .ref q_21) (ty := .object "NetPlumber$BorderList") (C := RX6) (T := TX6) (N := 5) hx hb hts hi6 tyX6 tyX6_ok nmX6 hown hK hP hD hS 0 rfl rfl 3 (by decide) hw10 (fun _ h9 => h9) rfl (by decide +kernel) rfl rfl (Nat.le_of_ble_eq_true rfl) dX6_init_28 (fun H locs hP hD hS => ?_)
  have hP : va_P G.1 vwCl [(qW, .inr (6, [.null, .ref q_7, .ref q_15, .ref q_21, .null])), (q_7, .inl (G.2.1, 12, .inl (fun _ => 0))), (q_15, .inl (G.2.1, 16, .inl (fun _ => 0))), (q_21, .inr (1, [.ref q25_q_7, .ref q25_q_15, .int 0])), (q25_q_7, .inl (G.2.2.1, 16, .inr (.inl (fun _ => 0)))), (q25_q_15, .inl (G.2.1, 16, .inl (fun _ => 0)))] H := hP
  have hD : va_D A [(qW, .inr (6, [.null, .ref q_7, .ref q_15, .ref q_21, .null])), (q_7, .inl (G.2.1, 12, .inl (fun _ => 0))), (q_15, .inl (G.2.1, 16, .inl (fun _ => 0))), (q_21, .inr (1, [.ref q25_q_7, .ref q25_q_15, .int 0])), (q25_q_7, .inl (G.2.2.1, 16, .inr (.inl (fun _ => 0)))), (q25_q_15, .inl (G.2.1, 16, .inl (fun _ => 0)))] := hD
  refine lv_aload_n hx hb dX6_init_31 rfl (lv_at hl 0 rfl) ?_
  refine va_new (ci := 1) (fs := [.null, .null, .int 0]) (C := RX1) (T := TX1) (N := 3) hx hb hts hi1 tyX1 tyX1_ok hown hw6 hw7 hw8 hK hP hD hS hA rfl (fun j hj => by rcases (show j = 0 ∨ j = 1 ∨ j = 2 by omega) with rfl | rfl | rfl <;> rfl) (Nat.le_of_ble_eq_true rfl) (Nat.le_of_ble_eq_true rfl) dX6_init_32 (fun q_32 H hP hD hS => ?_)
  have hP : va_P G.1 vwCl [(qW, .inr (6, [.null, .ref q_7, .ref q_15, .ref q_21, .null])), (q_7, .inl (G.2.1, 12, .inl (fun _ => 0))), (q_15, .inl (G.2.1, 16, .inl (fun _ => 0))), (q_21, .inr (1, [.ref q25_q_7, .ref q25_q_15, .int 0])), (q25_q_7, .inl (G.2.2.1, 16, .inr (.inl (fun _ => 0)))), (q25_q_15, .inl (G.2.1, 16, .inl (fun _ => 0))), (q_32, .inr (1, [.null, .null, .int 0]))] H := hP
  have hD : va_D A [(qW, .inr (6, [.null, .ref q_7, .ref q_15, .ref q_21, .null])), (q_7, .inl (G.2.1, 12, .inl (fun _ => 0))), (q_15, .inl (G.2.1, 16, .inl (fun _ => 0))), (q_21, .inr (1, [.ref q25_q_7, .ref q25_q_15, .int 0])), (q25_q_7, .inl (G.2.2.1, 16, .inr (.inl (fun _ => 0)))), (q25_q_15, .inl (G.2.1, 16, .inl (fun _ => 0))), (q_32, .inr (1, [.null, .null, .int 0]))] := hD
  refine lv_dup hx hb dX6_init_35 rfl ?_
  have hPc := hP.sub (ws' := [(q_32, .inr (1, [.null, .null, .int 0]))]) [6] rfl
  have hDc := hD.sub (ws' := [(q_32, .inr (1, [.null, .null, .int 0]))]) [6] (by decide) rfl
  have hFc := va_free (wc := [(q_32, .inr (1, [.null, .null, .int 0]))]) hD hS hA [6] rfl
  refine va_callv (va_runIN (As := []) (rest := [.ref q_32, .ref qW]) ⟨hx, hb, hml, hown, hts⟩ (tX1_init G l) ⟨va_cnB 0 hts gX6_init_X1_init_n20 rfl rfl rfl (hKK.2 _ (List.mem_of_getElem? (i := 2) rfl)) hw8 (by decide +kernel) ⟨Nat.le_of_ble_eq_true rfl, Nat.le_of_ble_eq_true rfl⟩, rfl, hw9⟩ ⟨pcW_blind, pcW_pre hPc hKK hDc⟩ rfl rfl hl.1 rfl (lv_room (Nat.le_of_ble_eq_true rfl)) dX6_init_36 ⟨Nat.le_of_ble_eq_true rfl, Nat.le_of_ble_eq_true rfl⟩) hS (fun q _ h => hFc q h) hFc (fun u t H1 locs ht hvm hw hB hz1 hk1 hS => ?_)
  obtain ⟨q36_q_7, q36_q_15, hB, hBD⟩ := hB
  have hB := va_Pto ht hB
  obtain ⟨hP, hD⟩ := va_join (wr := [(qW, .inr (6, [.null, .ref q_7, .ref q_15, .ref q_21, .null])), (q_7, .inl (G.2.1, 12, .inl (fun _ => 0))), (q_15, .inl (G.2.1, 16, .inl (fun _ => 0))), (q_21, .inr (1, [.ref q25_q_7, .ref q25_q_15, .int 0])), (q25_q_7, .inl (G.2.2.1, 16, .inr (.inl (fun _ => 0)))), (q25_q_15, .inl (G.2.1, 16, .inl (fun _ => 0)))]) (w1 := [(q_32, .inr (1, [.ref q36_q_7, .ref q36_q_15, .int 0])), (q36_q_7, .inl (G.2.2.1, 16, .inr (.inl (fun _ => 0)))), (q36_q_15, .inl (G.2.1, 16, .inl (fun _ => 0)))]) hP hD [6] [0, 1, 2, 3, 4, 5] rfl rfl (by decide) (by decide) hk1 hFc hB hBD
  generalize H1 = H at hP hS ⊢
  have hP : va_P G.1 vwCl [(qW, .inr (6, [.null, .ref q_7, .ref q_15, .ref q_21, .null])), (q_7, .inl (G.2.1, 12, .inl (fun _ => 0))), (q_15, .inl (G.2.1, 16, .inl (fun _ => 0))), (q_21, .inr (1, [.ref q25_q_7, .ref q25_q_15, .int 0])), (q25_q_7, .inl (G.2.2.1, 16, .inr (.inl (fun _ => 0)))), (q25_q_15, .inl (G.2.1, 16, .inl (fun _ => 0))), (q_32, .inr (1, [.ref q36_q_7, .ref q36_q_15, .int 0])), (q36_q_7, .inl (G.2.2.1, 16, .inr (.inl (fun _ => 0)))), (q36_q_15, .inl (G.2.1, 16, .inl (fun _ => 0)))] H := hP
  have hD : va_D A [(qW, .inr (6, [.null, .ref q_7, .ref q_15, .ref q_21, .null])), (q_7, .inl (G.2.1, 12, .inl (fun _ => 0))), (q_15, .inl (G.2.1, 16, .inl (fun _ => 0))), (q_21, .inr (1, [.ref q25_q_7, .ref q25_q_15, .int 0])), (q25_q_7, .inl (G.2.2.1, 16, .inr (.inl (fun _ => 0)))), (q25_q_15, .inl (G.2.1, 16, .inl (fun _ => 0))), (q_32, .inr (1, [.ref q36_q_7, .ref q36_q_15, .int 0])), (q36_q_7, .inl (G.2.2.1, 16, .inr (.inl (fun _ => 0)))), (q36_q_15, .inl (G.2.1, 16, .inl (fun _ => 0)))] := hD
  refine va_put (D := G.1) (ci := 6) (v := .ref q_32) (ty := .object "NetPlumber$BorderList") (C := RX6) (T := TX6) (N := 5) hx hb hts hi6 tyX6 tyX6_ok nmX6 hown hK hP hD hS 0 rfl rfl 4 (by decide) hw11 (fun _ h9 => h9) rfl (by decide +kernel) rfl rfl (Nat.le_of_ble_eq_true rfl) dX6_init_39 (fun H locs hP hD hS => ?_)
  have hP : va_P G.1 vwCl [(qW, .inr (6, [.null, .ref q_7, .ref q_15, .ref q_21, .ref q_32])), (q_7, .inl (G.2.1, 12, .inl (fun _ => 0))), (q_15, .inl (G.2.1, 16, .inl (fun _ => 0))), (q_21, .inr (1, [.ref q25_q_7, .ref q25_q_15, .int 0])), (q25_q_7, .inl (G.2.2.1, 16, .inr (.inl (fun _ => 0)))), (q25_q_15, .inl (G.2.1, 16, .inl (fun _ => 0))), (q_32, .inr (1, [.ref q36_q_7, .ref q36_q_15, .int 0])), (q36_q_7, .inl (G.2.2.1, 16, .inr (.inl (fun _ => 0)))), (q36_q_15, .inl (G.2.1, 16, .inl (fun _ => 0)))] H := hP
  have hD : va_D A [(qW, .inr (6, [.null, .ref q_7, .ref q_15, .ref q_21, .ref q_32])), (q_7, .inl (G.2.1, 12, .inl (fun _ => 0))), (q_15, .inl (G.2.1, 16, .inl (fun _ => 0))), (q_21, .inr (1, [.ref q25_q_7, .ref q25_q_15, .int 0])), (q25_q_7, .inl (G.2.2.1, 16, .inr (.inl (fun _ => 0)))), (q25_q_15, .inl (G.2.1, 16, .inl (fun _ => 0))), (q_32, .inr (1, [.ref q36_q_7, .ref q36_q_15, .int 0])), (q36_q_7, .inl (G.2.2.1, 16, .inr (.inl (fun _ => 0)))), (q36_q_15, .inl (G.2.1, 16, .inl (fun _ => 0)))] := hD
  refine lv_aload_n hx hb dX6_init_42 rfl (lv_at hl 0 rfl) ?_
  refine lv_aload_n hx hb dX6_init_43 rfl (lv_at hl 1 rfl) ?_
  refine va_putF (D := G.1) (ci := 6) (v := .ref qB) (ty := .object "NetPlumber$Board") (C := RX6) (T := TX6) (N := 5) hx hb hts hi6 tyX6 tyX6_ok nmX6 hown hK hP hD hS 0 rfl rfl 0 (by decide) hw12 (fun _ h9 => h9) rfl hin rfl (by decide +kernel) rfl rfl (Nat.le_of_ble_eq_true rfl) dX6_init_44 (fun H locs hP hD hS => ?_)
  have hP : va_P G.1 vwCl [(qW, .inr (6, [.ref qB, .ref q_7, .ref q_15, .ref q_21, .ref q_32])), (q_7, .inl (G.2.1, 12, .inl (fun _ => 0))), (q_15, .inl (G.2.1, 16, .inl (fun _ => 0))), (q_21, .inr (1, [.ref q25_q_7, .ref q25_q_15, .int 0])), (q25_q_7, .inl (G.2.2.1, 16, .inr (.inl (fun _ => 0)))), (q25_q_15, .inl (G.2.1, 16, .inl (fun _ => 0))), (q_32, .inr (1, [.ref q36_q_7, .ref q36_q_15, .int 0])), (q36_q_7, .inl (G.2.2.1, 16, .inr (.inl (fun _ => 0)))), (q36_q_15, .inl (G.2.1, 16, .inl (fun _ => 0)))] H := hP
  have hD : va_D A [(qW, .inr (6, [.ref qB, .ref q_7, .ref q_15, .ref q_21, .ref q_32])), (q_7, .inl (G.2.1, 12, .inl (fun _ => 0))), (q_15, .inl (G.2.1, 16, .inl (fun _ => 0))), (q_21, .inr (1, [.ref q25_q_7, .ref q25_q_15, .int 0])), (q25_q_7, .inl (G.2.2.1, 16, .inr (.inl (fun _ => 0)))), (q25_q_15, .inl (G.2.1, 16, .inl (fun _ => 0))), (q_32, .inr (1, [.ref q36_q_7, .ref q36_q_15, .int 0])), (q36_q_7, .inl (G.2.2.1, 16, .inr (.inl (fun _ => 0)))), (q36_q_15, .inl (G.2.1, 16, .inl (fun _ => 0)))] := hD
  rw [hQ]
  exact W.vret hx hb hr (fun t ht hW => ⟨⟨(), rfl, trivial, ⟨q_7, q_15, q_21, q25_q_7, q25_q_15, q_32, q36_q_7, q36_q_15, va_Pat ht hP, hD⟩⟩, hS.F ht⟩) hS.2.2 dX6_init_47

abbrev rmX7_init : Room := { frames := 3, cells := 47, slots := 1285, locals := 106 }
set_option maxHeartbeats 40000000 in
set_option maxRecDepth 100000 in
theorem tX7_init (G : GG) (l : Launch) {qX sz : Nat} {F : Nat} {r : Int32 × Int32 × Int32 × (Nat → Int32) × (Nat → Int32) × (Nat → Int32) × (Nat → Int32)} (hq : kX0_clear F 0 0 0 (fun _ => 0) (fun _ => 0) (fun _ => 0) (fun _ => 0) 3 3 0 = some r) : Met l yX7_init wsX7_init rmX7_init (pcC G [(qX, .inr (7, [.null, .null, .null, .null, .null, .null]))] sz [.ref qX]) (va_Qv (S := Unit) (fun _ => True) (fun _ t => ∃ (q_5 q9_q_7 q9_q_15 q9_q_23 q9_q_31 q9_q_39 q_16 q20_q_8 q_27 q35_q_7 q35_q_15 q_42 q50_q_7 q50_q_15 q50_q_23 q50_q_31 q_57 q69_q_7 q69_q_15 q69_q_25 q69_q_35 q_76 q84_q_7 q84_q_15 q84_q_21 q84_q25_q_7 q84_q25_q_15 q84_q_32 q84_q36_q_7 q84_q36_q_15 : Nat) (qR : Nat → Nat), va_P G.1 vwCl ([(qX, .inr (7, [.ref q_5, .ref q_16, .ref q_27, .ref q_42, .ref q_57, .ref q_76])), (q_5, .inr (0, [.ref q9_q_7, .ref q9_q_15, .ref q9_q_23, .ref q9_q_31, .ref q9_q_39, .int r.1, .int r.2.1, .int r.2.2.1])), (q9_q_7, .inl (G.2.1, 16, .inl r.2.2.2.1)), (q9_q_15, .inl (G.2.1, 16, .inl r.2.2.2.2.1)), (q9_q_23, .inl (G.2.1, 64, .inl r.2.2.2.2.2.1)), (q9_q_31, .inl (G.2.1, 64, .inl r.2.2.2.2.2.2)), (q9_q_39, .inl (G.2.1, 16, .inl (fun _ => 0))), (q_16, .inr (2, [.ref q20_q_8, .int 0, .int 0])), (q20_q_8, .inl (G.2.1, 512, .inl (fun _ => 0))), (q_27, .inr (3, [.ref q_5, .ref q35_q_7, .ref q35_q_15, .int 0, .int 0])), (q35_q_7, .inl (G.2.1, 32, .inl (fun _ => 0))), (q35_q_15, .inl (G.2.1, 32, .inl (fun _ => 0))), (q_42, .inr (5, [.ref q_5, .ref q50_q_7, .ref q50_q_15, .ref q50_q_23, .ref q50_q_31])), (q50_q_7, .inl (G.2.1, 16, .inl (fun _ => 0))), (q50_q_15, .inl (G.2.1, 16, .inl (fun _ => 0))), (q50_q_23, .inl (G.2.1, 16, .inl (fun _ => 0))), (q50_q_31, .inl (G.2.1, 16, .inl (fun _ => 0))), (q_57, .inr (4, [.ref q_5, .ref q_42, .ref q69_q_7, .ref q69_q_15, .ref q69_q_25, .ref q69_q_35, .int 0, .int 0])), (q69_q_7, .inl (G.2.1, 16, .inl (fun _ => 0))), (q69_q_15, .inl (G.2.1, 16, .inl (fun _ => 0))), (q69_q_25, .inl (G.2.2.2.2, 17, .inr (.inr (.inr (.inr (outR qR)))))), (q69_q_35, .inl (G.2.1, 16, .inl (fun _ => 0))), (q_76, .inr (6, [.ref q_5, .ref q84_q_7, .ref q84_q_15, .ref q84_q_21, .ref q84_q_32])), (q84_q_7, .inl (G.2.1, 12, .inl (fun _ => 0))), (q84_q_15, .inl (G.2.1, 16, .inl (fun _ => 0))), (q84_q_21, .inr (1, [.ref q84_q25_q_7, .ref q84_q25_q_15, .int 0])), (q84_q25_q_7, .inl (G.2.2.1, 16, .inr (.inl (fun _ => 0)))), (q84_q25_q_15, .inl (G.2.1, 16, .inl (fun _ => 0))), (q84_q_32, .inr (1, [.ref q84_q36_q_7, .ref q84_q36_q_15, .int 0])), (q84_q36_q_7, .inl (G.2.2.1, 16, .inr (.inl (fun _ => 0)))), (q84_q36_q_15, .inl (G.2.1, 16, .inl (fun _ => 0)))] ++ rws G qR (fun _ _ => 0)) t.heap ∧ va_D (va_A [(qX, .inr (7, [.null, .null, .null, .null, .null, .null]))] sz) ([(qX, .inr (7, [.ref q_5, .ref q_16, .ref q_27, .ref q_42, .ref q_57, .ref q_76])), (q_5, .inr (0, [.ref q9_q_7, .ref q9_q_15, .ref q9_q_23, .ref q9_q_31, .ref q9_q_39, .int r.1, .int r.2.1, .int r.2.2.1])), (q9_q_7, .inl (G.2.1, 16, .inl r.2.2.2.1)), (q9_q_15, .inl (G.2.1, 16, .inl r.2.2.2.2.1)), (q9_q_23, .inl (G.2.1, 64, .inl r.2.2.2.2.2.1)), (q9_q_31, .inl (G.2.1, 64, .inl r.2.2.2.2.2.2)), (q9_q_39, .inl (G.2.1, 16, .inl (fun _ => 0))), (q_16, .inr (2, [.ref q20_q_8, .int 0, .int 0])), (q20_q_8, .inl (G.2.1, 512, .inl (fun _ => 0))), (q_27, .inr (3, [.ref q_5, .ref q35_q_7, .ref q35_q_15, .int 0, .int 0])), (q35_q_7, .inl (G.2.1, 32, .inl (fun _ => 0))), (q35_q_15, .inl (G.2.1, 32, .inl (fun _ => 0))), (q_42, .inr (5, [.ref q_5, .ref q50_q_7, .ref q50_q_15, .ref q50_q_23, .ref q50_q_31])), (q50_q_7, .inl (G.2.1, 16, .inl (fun _ => 0))), (q50_q_15, .inl (G.2.1, 16, .inl (fun _ => 0))), (q50_q_23, .inl (G.2.1, 16, .inl (fun _ => 0))), (q50_q_31, .inl (G.2.1, 16, .inl (fun _ => 0))), (q_57, .inr (4, [.ref q_5, .ref q_42, .ref q69_q_7, .ref q69_q_15, .ref q69_q_25, .ref q69_q_35, .int 0, .int 0])), (q69_q_7, .inl (G.2.1, 16, .inl (fun _ => 0))), (q69_q_15, .inl (G.2.1, 16, .inl (fun _ => 0))), (q69_q_25, .inl (G.2.2.2.2, 17, .inr (.inr (.inr (.inr (outR qR)))))), (q69_q_35, .inl (G.2.1, 16, .inl (fun _ => 0))), (q_76, .inr (6, [.ref q_5, .ref q84_q_7, .ref q84_q_15, .ref q84_q_21, .ref q84_q_32])), (q84_q_7, .inl (G.2.1, 12, .inl (fun _ => 0))), (q84_q_15, .inl (G.2.1, 16, .inl (fun _ => 0))), (q84_q_21, .inr (1, [.ref q84_q25_q_7, .ref q84_q25_q_15, .int 0])), (q84_q25_q_7, .inl (G.2.2.1, 16, .inr (.inl (fun _ => 0)))), (q84_q25_q_15, .inl (G.2.1, 16, .inl (fun _ => 0))), (q84_q_32, .inr (1, [.ref q84_q36_q_7, .ref q84_q36_q_15, .int 0])), (q84_q36_q_7, .inl (G.2.2.1, 16, .inr (.inl (fun _ => 0)))), (q84_q36_q_15, .inl (G.2.1, 16, .inl (fun _ => 0)))] ++ rws G qR (fun _ _ => 0))) (va_A [(qX, .inr (7, [.null, .null, .null, .null, .null, .null]))] sz)) 47 1285 (va_A [(qX, .inr (7, [.null, .null, .null, .null, .null, .null]))] sz) := by
  refine Met.ofW (cc := cX7_init) (maxL := 1) (ret := none) (by decide) rfl ?_
  intro p e s m args below meth c s₁ B hml hv
  obtain ⟨rfl, hsz, hP, hKK, hD0, hAO⟩ := hv
  have hK := hKK.1
  have hx := B.exec
  have hb := B.bytes
  have hr := B.returns
  have hts := atoms_spec (ws := wsX7_init) B.pre
  have hown : s.vm.findClass RX7 = some m.cls := findClass_of_methodNamed B.named
  have hlocks := B.notSynchronized
  have hin : meth.name = "<init>" := (name_of_methodNamed B.named B.method).1
  subst hsz
  have hD := hD0.self (sz := s.heap.size)
  generalize hAe : va_A [(qX, .inr (7, [.null, .null, .null, .null, .null, .null]))] s.heap.size = A at hD ⊢
  have hA : ∀ q : Nat, s.heap.size ≤ q → A q := fun q h => by rw [← hAe]; exact Or.inr h
  have hS : va_S A s.heap s.heap [] := va_S.rf
  have hl := lv_entry ([.ref qX] : List Value) (n := 1) (Nat.le_of_ble_eq_true rfl)
  rw [lg_entry_eq]
  generalize (lg_sl ([.ref qX] : List Value) ++ List.replicate (1 - (lg_sl ([.ref qX] : List Value)).length) Slot.unset).toArray = ls at hl ⊢
  have hl : lv_has ls 1 [(0, .ref qX)] := hl
  have hi0 : ∀ w ∈ u_ws RX0 TX0 8, w ∈ wsX7_init := by decide +kernel
  have hi2 : ∀ w ∈ u_ws RX2 TX2 3, w ∈ wsX7_init := by decide +kernel
  have hi3 : ∀ w ∈ u_ws RX3 TX3 5, w ∈ wsX7_init := by decide +kernel
  have hi4 : ∀ w ∈ u_ws RX4 TX4 8, w ∈ wsX7_init := by decide +kernel
  have hi5 : ∀ w ∈ u_ws RX5 TX5 5, w ∈ wsX7_init := by decide +kernel
  have hi6 : ∀ w ∈ u_ws RX6 TX6 5, w ∈ wsX7_init := by decide +kernel
  have hi7 : ∀ w ∈ u_ws RX7 TX7 6, w ∈ wsX7_init := by decide +kernel
  have hw0 : (Cond.methodLink RX7 1 objectInit).before #[Value.ref qX] s = true := hts _ (by decide +kernel)
  have hw1 : (Cond.instanceMethod objectInit).before #[Value.ref qX] s = true := hts _ (by decide +kernel)
  have hw2 : (Cond.code objectInit ⟨#[0xb1]⟩ 1 none).before #[Value.ref qX] s = true := hts _ (by decide +kernel)
  have hw3 : (Cond.classLink RX7 7 RX0).before #[Value.ref qX] s = true := hts _ (by decide +kernel)
  have hw4 : (Cond.instantiable RX0 8).before #[Value.ref qX] s = true := hts _ (by decide +kernel)
  have hw5 : (Cond.initialized RX0).before #[Value.ref qX] s = true := hts _ (by decide +kernel)
  have hw6 : (Cond.instanceMethod yX0_init).before #[Value.ref qX] s = true := hts _ (by decide +kernel)
  have hw7 : (Cond.fieldLink RX7 10 "NetPlumber" "board" "LNetPlumber$Board;").before #[Value.ref qX] s = true := hts _ (by decide +kernel)
  have hw8 : (Cond.classLink RX7 16 RX2).before #[Value.ref qX] s = true := hts _ (by decide +kernel)
  have hw9 : (Cond.instantiable RX2 3).before #[Value.ref qX] s = true := hts _ (by decide +kernel)
  have hw10 : (Cond.initialized RX2).before #[Value.ref qX] s = true := hts _ (by decide +kernel)
  have hw11 : (Cond.instanceMethod yX2_init).before #[Value.ref qX] s = true := hts _ (by decide +kernel)
  have hw12 : (Cond.fieldLink RX7 19 "NetPlumber" "history" "LNetPlumber$History;").before #[Value.ref qX] s = true := hts _ (by decide +kernel)
  have hw13 : (Cond.classLink RX7 23 RX3).before #[Value.ref qX] s = true := hts _ (by decide +kernel)
  have hw14 : (Cond.instantiable RX3 5).before #[Value.ref qX] s = true := hts _ (by decide +kernel)
  have hw15 : (Cond.initialized RX3).before #[Value.ref qX] s = true := hts _ (by decide +kernel)
  have hw16 : (Cond.instanceMethod yX3_init).before #[Value.ref qX] s = true := hts _ (by decide +kernel)
  have hw17 : (Cond.methodLink RX7 25 yX3_init).before #[Value.ref qX] s = true := hts _ (by decide +kernel)
  have hw18 : (Cond.fieldLink RX7 28 "NetPlumber" "maker" "LNetPlumber$Maker;").before #[Value.ref qX] s = true := hts _ (by decide +kernel)
  have hw19 : (Cond.classLink RX7 32 RX5).before #[Value.ref qX] s = true := hts _ (by decide +kernel)
  have hw20 : (Cond.instantiable RX5 5).before #[Value.ref qX] s = true := hts _ (by decide +kernel)
  have hw21 : (Cond.initialized RX5).before #[Value.ref qX] s = true := hts _ (by decide +kernel)
  have hw22 : (Cond.instanceMethod yX5_init).before #[Value.ref qX] s = true := hts _ (by decide +kernel)
  have hw23 : (Cond.methodLink RX7 34 yX5_init).before #[Value.ref qX] s = true := hts _ (by decide +kernel)
  have hw24 : (Cond.fieldLink RX7 35 "NetPlumber" "sieve" "LNetPlumber$Sieve;").before #[Value.ref qX] s = true := hts _ (by decide +kernel)
  have hw25 : (Cond.classLink RX7 39 RX4).before #[Value.ref qX] s = true := hts _ (by decide +kernel)
  have hw26 : (Cond.instantiable RX4 8).before #[Value.ref qX] s = true := hts _ (by decide +kernel)
  have hw27 : (Cond.initialized RX4).before #[Value.ref qX] s = true := hts _ (by decide +kernel)
  have hw28 : (Cond.instanceMethod yX4_init).before #[Value.ref qX] s = true := hts _ (by decide +kernel)
  have hw29 : (Cond.methodLink RX7 41 yX4_init).before #[Value.ref qX] s = true := hts _ (by decide +kernel)
  have hw30 : (Cond.fieldLink RX7 44 "NetPlumber" "search" "LNetPlumber$Search;").before #[Value.ref qX] s = true := hts _ (by decide +kernel)
  have hw31 : (Cond.classLink RX7 48 RX6).before #[Value.ref qX] s = true := hts _ (by decide +kernel)
  have hw32 : (Cond.instantiable RX6 5).before #[Value.ref qX] s = true := hts _ (by decide +kernel)
  have hw33 : (Cond.initialized RX6).before #[Value.ref qX] s = true := hts _ (by decide +kernel)
  have hw34 : (Cond.instanceMethod yX6_init).before #[Value.ref qX] s = true := hts _ (by decide +kernel)
  have hw35 : (Cond.methodLink RX7 50 yX6_init).before #[Value.ref qX] s = true := hts _ (by decide +kernel)
  have hw36 : (Cond.fieldLink RX7 51 "NetPlumber" "sweep" "LNetPlumber$Sweep;").before #[Value.ref qX] s = true := hts _ (by decide +kernel)
  refine wq (fun Q hQ => ?_)
  refine lv_aload_n hx hb dX7_init_0 rfl (lv_at hl 0 rfl) ?_
  refine W.objInit hx hb hown hw0 hw1 hw2 rfl (by rw [hml]; exact hl.1) rfl dX7_init_1 (Nat.le_of_ble_eq_true rfl) (Nat.le_of_ble_eq_true rfl) ?_
  refine W.eq (g2 := F0 m 4 ls []) rfl ?_
  refine lv_aload_n hx hb dX7_init_4 rfl (lv_at hl 0 rfl) ?_
  refine va_new (ci := 0) (fs := [.null, .null, .null, .null, .null, .int 0, .int 0, .int 0]) (C := RX0) (T := TX0) (N := 8) hx hb hts hi0 tyX0 tyX0_ok hown hw3 hw4 hw5 hK hP hD hS hA rfl (fun j hj => by rcases (show j = 0 ∨ j = 1 ∨ j = 2 ∨ j = 3 ∨ j = 4 ∨ j = 5 ∨ j = 6 ∨ j = 7 by omega) with rfl | rfl | rfl | rfl | rfl | rfl | rfl | rfl <;> rfl) (Nat.le_of_ble_eq_true rfl) (Nat.le_of_ble_eq_true rfl) dX7_init_5 (fun q_5 H hP hD hS => ?_)
  have hP : va_P G.1 vwCl [(qX, .inr (7, [.null, .null, .null, .null, .null, .null])), (q_5, .inr (0, [.null, .null, .null, .null, .null, .int 0, .int 0, .int 0]))] H := hP
  have hD : va_D A [(qX, .inr (7, [.null, .null, .null, .null, .null, .null])), (q_5, .inr (0, [.null, .null, .null, .null, .null, .int 0, .int 0, .int 0]))] := hD
  refine lv_dup hx hb dX7_init_8 rfl ?_
  have hPc := hP.sub (ws' := [(q_5, .inr (0, [.null, .null, .null, .null, .null, .int 0, .int 0, .int 0]))]) [1] rfl
  have hDc := hD.sub (ws' := [(q_5, .inr (0, [.null, .null, .null, .null, .null, .int 0, .int 0, .int 0]))]) [1] (by decide) rfl
  have hFc := va_free (wc := [(q_5, .inr (0, [.null, .null, .null, .null, .null, .int 0, .int 0, .int 0]))]) hD hS hA [1] rfl
  refine va_callv (va_runIN (As := []) (rest := [.ref q_5, .ref qX]) ⟨hx, hb, hml, hown, hts⟩ (tX0_init G l) ⟨va_cnB 0 hts gX7_init_X0_init_n9 rfl rfl rfl (hKK.2 _ (List.mem_of_getElem? (i := 0) rfl)) hw5 (by decide +kernel) ⟨Nat.le_of_ble_eq_true rfl, Nat.le_of_ble_eq_true rfl⟩, rfl, hw6⟩ ⟨pcW_blind, pcW_pre hPc hKK hDc⟩ rfl rfl hl.1 rfl (lv_room (Nat.le_of_ble_eq_true rfl)) dX7_init_9 ⟨Nat.le_of_ble_eq_true rfl, Nat.le_of_ble_eq_true rfl⟩) hS (fun q _ h => hFc q h) hFc (fun u t H1 locs ht hvm hw hB hz1 hk1 hS => ?_)
  obtain ⟨q9_q_7, q9_q_15, q9_q_23, q9_q_31, q9_q_39, hB, hBD⟩ := hB
  have hB := va_Pto ht hB
  obtain ⟨hP, hD⟩ := va_join (wr := [(qX, .inr (7, [.null, .null, .null, .null, .null, .null]))]) (w1 := [(q_5, .inr (0, [.ref q9_q_7, .ref q9_q_15, .ref q9_q_23, .ref q9_q_31, .ref q9_q_39, .int 0, .int 0, .int 0])), (q9_q_7, .inl (G.2.1, 16, .inl (fun _ => 0))), (q9_q_15, .inl (G.2.1, 16, .inl (fun _ => 0))), (q9_q_23, .inl (G.2.1, 64, .inl (fun _ => 0))), (q9_q_31, .inl (G.2.1, 64, .inl (fun _ => 0))), (q9_q_39, .inl (G.2.1, 16, .inl (fun _ => 0)))]) hP hD [1] [0] rfl rfl (by decide) (by decide) hk1 hFc hB hBD
  generalize H1 = H at hP hS ⊢
  have hP : va_P G.1 vwCl [(qX, .inr (7, [.null, .null, .null, .null, .null, .null])), (q_5, .inr (0, [.ref q9_q_7, .ref q9_q_15, .ref q9_q_23, .ref q9_q_31, .ref q9_q_39, .int 0, .int 0, .int 0])), (q9_q_7, .inl (G.2.1, 16, .inl (fun _ => 0))), (q9_q_15, .inl (G.2.1, 16, .inl (fun _ => 0))), (q9_q_23, .inl (G.2.1, 64, .inl (fun _ => 0))), (q9_q_31, .inl (G.2.1, 64, .inl (fun _ => 0))), (q9_q_39, .inl (G.2.1, 16, .inl (fun _ => 0)))] H := hP
  have hD : va_D A [(qX, .inr (7, [.null, .null, .null, .null, .null, .null])), (q_5, .inr (0, [.ref q9_q_7, .ref q9_q_15, .ref q9_q_23, .ref q9_q_31, .ref q9_q_39, .int 0, .int 0, .int 0])), (q9_q_7, .inl (G.2.1, 16, .inl (fun _ => 0))), (q9_q_15, .inl (G.2.1, 16, .inl (fun _ => 0))), (q9_q_23, .inl (G.2.1, 64, .inl (fun _ => 0))), (q9_q_31, .inl (G.2.1, 64, .inl (fun _ => 0))), (q9_q_39, .inl (G.2.1, 16, .inl (fun _ => 0)))] := hD
  refine va_putF (D := G.1) (ci := 7) (v := .ref q_5) (ty := .object "NetPlumber$Board") (C := RX7) (T := TX7) (N := 6) hx hb hts hi7 tyX7 tyX7_ok nmX7 hown hK hP hD hS 0 rfl rfl 0 (by decide) hw7 (fun _ h9 => h9) rfl hin rfl (by decide +kernel) rfl rfl (Nat.le_of_ble_eq_true rfl) dX7_init_12 (fun H locs hP hD hS => ?_)
  have hP : va_P G.1 vwCl [(qX, .inr (7, [.ref q_5, .null, .null, .null, .null, .null])), (q_5, .inr (0, [.ref q9_q_7, .ref q9_q_15, .ref q9_q_23, .ref q9_q_31, .ref q9_q_39, .int 0, .int 0, .int 0])), (q9_q_7, .inl (G.2.1, 16, .inl (fun _ => 0))), (q9_q_15, .inl (G.2.1, 16, .inl (fun _ => 0))), (q9_q_23, .inl (G.2.1, 64, .inl (fun _ => 0))), (q9_q_31, .inl (G.2.1, 64, .inl (fun _ => 0))), (q9_q_39, .inl (G.2.1, 16, .inl (fun _ => 0)))] H := hP
  have hD : va_D A [(qX, .inr (7, [.ref q_5, .null, .null, .null, .null, .null])), (q_5, .inr (0, [.ref q9_q_7, .ref q9_q_15, .ref q9_q_23, .ref q9_q_31, .ref q9_q_39, .int 0, .int 0, .int 0])), (q9_q_7, .inl (G.2.1, 16, .inl (fun _ => 0))), (q9_q_15, .inl (G.2.1, 16, .inl (fun _ => 0))), (q9_q_23, .inl (G.2.1, 64, .inl (fun _ => 0))), (q9_q_31, .inl (G.2.1, 64, .inl (fun _ => 0))), (q9_q_39, .inl (G.2.1, 16, .inl (fun _ => 0)))] := hD
  refine lv_aload_n hx hb dX7_init_15 rfl (lv_at hl 0 rfl) ?_
  refine va_new (ci := 2) (fs := [.null, .int 0, .int 0]) (C := RX2) (T := TX2) (N := 3) hx hb hts hi2 tyX2 tyX2_ok hown hw8 hw9 hw10 hK hP hD hS hA rfl (fun j hj => by rcases (show j = 0 ∨ j = 1 ∨ j = 2 by omega) with rfl | rfl | rfl <;> rfl) (Nat.le_of_ble_eq_true rfl) (Nat.le_of_ble_eq_true rfl) dX7_init_16 (fun q_16 H hP hD hS => ?_)
  have hP : va_P G.1 vwCl [(qX, .inr (7, [.ref q_5, .null, .null, .null, .null, .null])), (q_5, .inr (0, [.ref q9_q_7, .ref q9_q_15, .ref q9_q_23, .ref q9_q_31, .ref q9_q_39, .int 0, .int 0, .int 0])), (q9_q_7, .inl (G.2.1, 16, .inl (fun _ => 0))), (q9_q_15, .inl (G.2.1, 16, .inl (fun _ => 0))), (q9_q_23, .inl (G.2.1, 64, .inl (fun _ => 0))), (q9_q_31, .inl (G.2.1, 64, .inl (fun _ => 0))), (q9_q_39, .inl (G.2.1, 16, .inl (fun _ => 0))), (q_16, .inr (2, [.null, .int 0, .int 0]))] H := hP
  have hD : va_D A [(qX, .inr (7, [.ref q_5, .null, .null, .null, .null, .null])), (q_5, .inr (0, [.ref q9_q_7, .ref q9_q_15, .ref q9_q_23, .ref q9_q_31, .ref q9_q_39, .int 0, .int 0, .int 0])), (q9_q_7, .inl (G.2.1, 16, .inl (fun _ => 0))), (q9_q_15, .inl (G.2.1, 16, .inl (fun _ => 0))), (q9_q_23, .inl (G.2.1, 64, .inl (fun _ => 0))), (q9_q_31, .inl (G.2.1, 64, .inl (fun _ => 0))), (q9_q_39, .inl (G.2.1, 16, .inl (fun _ => 0))), (q_16, .inr (2, [.null, .int 0, .int 0]))] := hD
  refine lv_dup hx hb dX7_init_19 rfl ?_
  have hPc := hP.sub (ws' := [(q_16, .inr (2, [.null, .int 0, .int 0]))]) [7] rfl
  have hDc := hD.sub (ws' := [(q_16, .inr (2, [.null, .int 0, .int 0]))]) [7] (by decide) rfl
  have hFc := va_free (wc := [(q_16, .inr (2, [.null, .int 0, .int 0]))]) hD hS hA [7] rfl
  refine va_callv (va_runIN (As := []) (rest := [.ref q_16, .ref qX]) ⟨hx, hb, hml, hown, hts⟩ (tX2_init G l) ⟨va_cnB 0 hts gX7_init_X2_init_n18 rfl rfl rfl (hKK.2 _ (List.mem_of_getElem? (i := 1) rfl)) hw10 (by decide +kernel) ⟨Nat.le_of_ble_eq_true rfl, Nat.le_of_ble_eq_true rfl⟩, rfl, hw11⟩ ⟨pcW_blind, pcW_pre hPc hKK hDc⟩ rfl rfl hl.1 rfl (lv_room (Nat.le_of_ble_eq_true rfl)) dX7_init_20 ⟨Nat.le_of_ble_eq_true rfl, Nat.le_of_ble_eq_true rfl⟩) hS (fun q _ h => hFc q h) hFc (fun u t H1 locs ht hvm hw hB hz1 hk1 hS => ?_)
  obtain ⟨q20_q_8, hB, hBD⟩ := hB
  have hB := va_Pto ht hB
  obtain ⟨hP, hD⟩ := va_join (wr := [(qX, .inr (7, [.ref q_5, .null, .null, .null, .null, .null])), (q_5, .inr (0, [.ref q9_q_7, .ref q9_q_15, .ref q9_q_23, .ref q9_q_31, .ref q9_q_39, .int 0, .int 0, .int 0])), (q9_q_7, .inl (G.2.1, 16, .inl (fun _ => 0))), (q9_q_15, .inl (G.2.1, 16, .inl (fun _ => 0))), (q9_q_23, .inl (G.2.1, 64, .inl (fun _ => 0))), (q9_q_31, .inl (G.2.1, 64, .inl (fun _ => 0))), (q9_q_39, .inl (G.2.1, 16, .inl (fun _ => 0)))]) (w1 := [(q_16, .inr (2, [.ref q20_q_8, .int 0, .int 0])), (q20_q_8, .inl (G.2.1, 512, .inl (fun _ => 0)))]) hP hD [7] [0, 1, 2, 3, 4, 5, 6] rfl rfl (by decide) (by decide) hk1 hFc hB hBD
  generalize H1 = H at hP hS ⊢
  have hP : va_P G.1 vwCl [(qX, .inr (7, [.ref q_5, .null, .null, .null, .null, .null])), (q_5, .inr (0, [.ref q9_q_7, .ref q9_q_15, .ref q9_q_23, .ref q9_q_31, .ref q9_q_39, .int 0, .int 0, .int 0])), (q9_q_7, .inl (G.2.1, 16, .inl (fun _ => 0))), (q9_q_15, .inl (G.2.1, 16, .inl (fun _ => 0))), (q9_q_23, .inl (G.2.1, 64, .inl (fun _ => 0))), (q9_q_31, .inl (G.2.1, 64, .inl (fun _ => 0))), (q9_q_39, .inl (G.2.1, 16, .inl (fun _ => 0))), (q_16, .inr (2, [.ref q20_q_8, .int 0, .int 0])), (q20_q_8, .inl (G.2.1, 512, .inl (fun _ => 0)))] H := hP
  have hD : va_D A [(qX, .inr (7, [.ref q_5, .null, .null, .null, .null, .null])), (q_5, .inr (0, [.ref q9_q_7, .ref q9_q_15, .ref q9_q_23, .ref q9_q_31, .ref q9_q_39, .int 0, .int 0, .int 0])), (q9_q_7, .inl (G.2.1, 16, .inl (fun _ => 0))), (q9_q_15, .inl (G.2.1, 16, .inl (fun _ => 0))), (q9_q_23, .inl (G.2.1, 64, .inl (fun _ => 0))), (q9_q_31, .inl (G.2.1, 64, .inl (fun _ => 0))), (q9_q_39, .inl (G.2.1, 16, .inl (fun _ => 0))), (q_16, .inr (2, [.ref q20_q_8, .int 0, .int 0])), (q20_q_8, .inl (G.2.1, 512, .inl (fun _ => 0)))] := hD
  refine va_putF (D := G.1) (ci := 7) (v := .ref q_16) (ty := .object "NetPlumber$History") (C := RX7) (T := TX7) (N := 6) hx hb hts hi7 tyX7 tyX7_ok nmX7 hown hK hP hD hS 0 rfl rfl 1 (by decide) hw12 (fun _ h9 => h9) rfl hin rfl (by decide +kernel) rfl rfl (Nat.le_of_ble_eq_true rfl) dX7_init_23 (fun H locs hP hD hS => ?_)
  have hP : va_P G.1 vwCl [(qX, .inr (7, [.ref q_5, .ref q_16, .null, .null, .null, .null])), (q_5, .inr (0, [.ref q9_q_7, .ref q9_q_15, .ref q9_q_23, .ref q9_q_31, .ref q9_q_39, .int 0, .int 0, .int 0])), (q9_q_7, .inl (G.2.1, 16, .inl (fun _ => 0))), (q9_q_15, .inl (G.2.1, 16, .inl (fun _ => 0))), (q9_q_23, .inl (G.2.1, 64, .inl (fun _ => 0))), (q9_q_31, .inl (G.2.1, 64, .inl (fun _ => 0))), (q9_q_39, .inl (G.2.1, 16, .inl (fun _ => 0))), (q_16, .inr (2, [.ref q20_q_8, .int 0, .int 0])), (q20_q_8, .inl (G.2.1, 512, .inl (fun _ => 0)))] H := hP
  have hD : va_D A [(qX, .inr (7, [.ref q_5, .ref q_16, .null, .null, .null, .null])), (q_5, .inr (0, [.ref q9_q_7, .ref q9_q_15, .ref q9_q_23, .ref q9_q_31, .ref q9_q_39, .int 0, .int 0, .int 0])), (q9_q_7, .inl (G.2.1, 16, .inl (fun _ => 0))), (q9_q_15, .inl (G.2.1, 16, .inl (fun _ => 0))), (q9_q_23, .inl (G.2.1, 64, .inl (fun _ => 0))), (q9_q_31, .inl (G.2.1, 64, .inl (fun _ => 0))), (q9_q_39, .inl (G.2.1, 16, .inl (fun _ => 0))), (q_16, .inr (2, [.ref q20_q_8, .int 0, .int 0])), (q20_q_8, .inl (G.2.1, 512, .inl (fun _ => 0)))] := hD
  refine lv_aload_n hx hb dX7_init_26 rfl (lv_at hl 0 rfl) ?_
  refine va_new (ci := 3) (fs := [.null, .null, .null, .int 0, .int 0]) (C := RX3) (T := TX3) (N := 5) hx hb hts hi3 tyX3 tyX3_ok hown hw13 hw14 hw15 hK hP hD hS hA rfl (fun j hj => by rcases (show j = 0 ∨ j = 1 ∨ j = 2 ∨ j = 3 ∨ j = 4 by omega) with rfl | rfl | rfl | rfl | rfl <;> rfl) (Nat.le_of_ble_eq_true rfl) (Nat.le_of_ble_eq_true rfl) dX7_init_27 (fun q_27 H hP hD hS => ?_)
  have hP : va_P G.1 vwCl [(qX, .inr (7, [.ref q_5, .ref q_16, .null, .null, .null, .null])), (q_5, .inr (0, [.ref q9_q_7, .ref q9_q_15, .ref q9_q_23, .ref q9_q_31, .ref q9_q_39, .int 0, .int 0, .int 0])), (q9_q_7, .inl (G.2.1, 16, .inl (fun _ => 0))), (q9_q_15, .inl (G.2.1, 16, .inl (fun _ => 0))), (q9_q_23, .inl (G.2.1, 64, .inl (fun _ => 0))), (q9_q_31, .inl (G.2.1, 64, .inl (fun _ => 0))), (q9_q_39, .inl (G.2.1, 16, .inl (fun _ => 0))), (q_16, .inr (2, [.ref q20_q_8, .int 0, .int 0])), (q20_q_8, .inl (G.2.1, 512, .inl (fun _ => 0))), (q_27, .inr (3, [.null, .null, .null, .int 0, .int 0]))] H := hP
  have hD : va_D A [(qX, .inr (7, [.ref q_5, .ref q_16, .null, .null, .null, .null])), (q_5, .inr (0, [.ref q9_q_7, .ref q9_q_15, .ref q9_q_23, .ref q9_q_31, .ref q9_q_39, .int 0, .int 0, .int 0])), (q9_q_7, .inl (G.2.1, 16, .inl (fun _ => 0))), (q9_q_15, .inl (G.2.1, 16, .inl (fun _ => 0))), (q9_q_23, .inl (G.2.1, 64, .inl (fun _ => 0))), (q9_q_31, .inl (G.2.1, 64, .inl (fun _ => 0))), (q9_q_39, .inl (G.2.1, 16, .inl (fun _ => 0))), (q_16, .inr (2, [.ref q20_q_8, .int 0, .int 0])), (q20_q_8, .inl (G.2.1, 512, .inl (fun _ => 0))), (q_27, .inr (3, [.null, .null, .null, .int 0, .int 0]))] := hD
  refine lv_dup hx hb dX7_init_30 rfl ?_
  refine lv_aload_n hx hb dX7_init_31 rfl (lv_at hl 0 rfl) ?_
  refine va_get (D := G.1) (ci := 7) (v := .ref q_5) (C := RX7) (T := TX7) (N := 6) hx hb hts hi7 hown hK hP 0 rfl rfl 0 (by decide) hw7 (fun _ h9 => h9) rfl dX7_init_32 ?_
  have hPc := hP.sub (ws' := [(q_27, .inr (3, [.null, .null, .null, .int 0, .int 0]))]) [9] rfl
  have hDc := hD.sub (ws' := [(q_27, .inr (3, [.null, .null, .null, .int 0, .int 0]))]) [9] (by decide) rfl
  have hFc := va_free (wc := [(q_27, .inr (3, [.null, .null, .null, .int 0, .int 0]))]) hD hS hA [9] rfl
  refine va_callv (va_runI (As := [.ref q_5]) (rest := [.ref q_27, .ref qX]) ⟨hx, hb, hml, hown, hts⟩ (tX3_init G l) (cwI 1 hts gX7_init_X3_init rfl rfl rfl hw15 hw17 hw16 rfl (by decide +kernel) ⟨Nat.le_of_ble_eq_true rfl, Nat.le_of_ble_eq_true rfl⟩) ⟨pcW_blind, pcW_pre hPc hKK hDc⟩ rfl rfl hl.1 rfl (lv_room (Nat.le_of_ble_eq_true rfl)) dX7_init_35 ⟨Nat.le_of_ble_eq_true rfl, Nat.le_of_ble_eq_true rfl⟩) hS (fun q _ h => hFc q h) hFc (fun u t H1 locs ht hvm hw hB hz1 hk1 hS => ?_)
  obtain ⟨q35_q_7, q35_q_15, hB, hBD⟩ := hB
  have hB := va_Pto ht hB
  obtain ⟨hP, hD⟩ := va_join (wr := [(qX, .inr (7, [.ref q_5, .ref q_16, .null, .null, .null, .null])), (q_5, .inr (0, [.ref q9_q_7, .ref q9_q_15, .ref q9_q_23, .ref q9_q_31, .ref q9_q_39, .int 0, .int 0, .int 0])), (q9_q_7, .inl (G.2.1, 16, .inl (fun _ => 0))), (q9_q_15, .inl (G.2.1, 16, .inl (fun _ => 0))), (q9_q_23, .inl (G.2.1, 64, .inl (fun _ => 0))), (q9_q_31, .inl (G.2.1, 64, .inl (fun _ => 0))), (q9_q_39, .inl (G.2.1, 16, .inl (fun _ => 0))), (q_16, .inr (2, [.ref q20_q_8, .int 0, .int 0])), (q20_q_8, .inl (G.2.1, 512, .inl (fun _ => 0)))]) (w1 := [(q_27, .inr (3, [.ref q_5, .ref q35_q_7, .ref q35_q_15, .int 0, .int 0])), (q35_q_7, .inl (G.2.1, 32, .inl (fun _ => 0))), (q35_q_15, .inl (G.2.1, 32, .inl (fun _ => 0)))]) hP hD [9] [0, 1, 2, 3, 4, 5, 6, 7, 8] rfl rfl (by decide) (by decide) hk1 hFc hB hBD
  generalize H1 = H at hP hS ⊢
  have hP : va_P G.1 vwCl [(qX, .inr (7, [.ref q_5, .ref q_16, .null, .null, .null, .null])), (q_5, .inr (0, [.ref q9_q_7, .ref q9_q_15, .ref q9_q_23, .ref q9_q_31, .ref q9_q_39, .int 0, .int 0, .int 0])), (q9_q_7, .inl (G.2.1, 16, .inl (fun _ => 0))), (q9_q_15, .inl (G.2.1, 16, .inl (fun _ => 0))), (q9_q_23, .inl (G.2.1, 64, .inl (fun _ => 0))), (q9_q_31, .inl (G.2.1, 64, .inl (fun _ => 0))), (q9_q_39, .inl (G.2.1, 16, .inl (fun _ => 0))), (q_16, .inr (2, [.ref q20_q_8, .int 0, .int 0])), (q20_q_8, .inl (G.2.1, 512, .inl (fun _ => 0))), (q_27, .inr (3, [.ref q_5, .ref q35_q_7, .ref q35_q_15, .int 0, .int 0])), (q35_q_7, .inl (G.2.1, 32, .inl (fun _ => 0))), (q35_q_15, .inl (G.2.1, 32, .inl (fun _ => 0)))] H := hP
  have hD : va_D A [(qX, .inr (7, [.ref q_5, .ref q_16, .null, .null, .null, .null])), (q_5, .inr (0, [.ref q9_q_7, .ref q9_q_15, .ref q9_q_23, .ref q9_q_31, .ref q9_q_39, .int 0, .int 0, .int 0])), (q9_q_7, .inl (G.2.1, 16, .inl (fun _ => 0))), (q9_q_15, .inl (G.2.1, 16, .inl (fun _ => 0))), (q9_q_23, .inl (G.2.1, 64, .inl (fun _ => 0))), (q9_q_31, .inl (G.2.1, 64, .inl (fun _ => 0))), (q9_q_39, .inl (G.2.1, 16, .inl (fun _ => 0))), (q_16, .inr (2, [.ref q20_q_8, .int 0, .int 0])), (q20_q_8, .inl (G.2.1, 512, .inl (fun _ => 0))), (q_27, .inr (3, [.ref q_5, .ref q35_q_7, .ref q35_q_15, .int 0, .int 0])), (q35_q_7, .inl (G.2.1, 32, .inl (fun _ => 0))), (q35_q_15, .inl (G.2.1, 32, .inl (fun _ => 0)))] := hD
  refine va_putF (D := G.1) (ci := 7) (v := .ref q_27) (ty := .object "NetPlumber$Maker") (C := RX7) (T := TX7) (N := 6) hx hb hts hi7 tyX7 tyX7_ok nmX7 hown hK hP hD hS 0 rfl rfl 2 (by decide) hw18 (fun _ h9 => h9) rfl hin rfl (by decide +kernel) rfl rfl (Nat.le_of_ble_eq_true rfl) dX7_init_38 (fun H locs hP hD hS => ?_)
  have hP : va_P G.1 vwCl [(qX, .inr (7, [.ref q_5, .ref q_16, .ref q_27, .null, .null, .null])), (q_5, .inr (0, [.ref q9_q_7, .ref q9_q_15, .ref q9_q_23, .ref q9_q_31, .ref q9_q_39, .int 0, .int 0, .int 0])), (q9_q_7, .inl (G.2.1, 16, .inl (fun _ => 0))), (q9_q_15, .inl (G.2.1, 16, .inl (fun _ => 0))), (q9_q_23, .inl (G.2.1, 64, .inl (fun _ => 0))), (q9_q_31, .inl (G.2.1, 64, .inl (fun _ => 0))), (q9_q_39, .inl (G.2.1, 16, .inl (fun _ => 0))), (q_16, .inr (2, [.ref q20_q_8, .int 0, .int 0])), (q20_q_8, .inl (G.2.1, 512, .inl (fun _ => 0))), (q_27, .inr (3, [.ref q_5, .ref q35_q_7, .ref q35_q_15, .int 0, .int 0])), (q35_q_7, .inl (G.2.1, 32, .inl (fun _ => 0))), (q35_q_15, .inl (G.2.1, 32, .inl (fun _ => 0)))] H := hP
  have hD : va_D A [(qX, .inr (7, [.ref q_5, .ref q_16, .ref q_27, .null, .null, .null])), (q_5, .inr (0, [.ref q9_q_7, .ref q9_q_15, .ref q9_q_23, .ref q9_q_31, .ref q9_q_39, .int 0, .int 0, .int 0])), (q9_q_7, .inl (G.2.1, 16, .inl (fun _ => 0))), (q9_q_15, .inl (G.2.1, 16, .inl (fun _ => 0))), (q9_q_23, .inl (G.2.1, 64, .inl (fun _ => 0))), (q9_q_31, .inl (G.2.1, 64, .inl (fun _ => 0))), (q9_q_39, .inl (G.2.1, 16, .inl (fun _ => 0))), (q_16, .inr (2, [.ref q20_q_8, .int 0, .int 0])), (q20_q_8, .inl (G.2.1, 512, .inl (fun _ => 0))), (q_27, .inr (3, [.ref q_5, .ref q35_q_7, .ref q35_q_15, .int 0, .int 0])), (q35_q_7, .inl (G.2.1, 32, .inl (fun _ => 0))), (q35_q_15, .inl (G.2.1, 32, .inl (fun _ => 0)))] := hD
  refine lv_aload_n hx hb dX7_init_41 rfl (lv_at hl 0 rfl) ?_
  refine va_new (ci := 5) (fs := [.null, .null, .null, .null, .null]) (C := RX5) (T := TX5) (N := 5) hx hb hts hi5 tyX5 tyX5_ok hown hw19 hw20 hw21 hK hP hD hS hA rfl (fun j hj => by rcases (show j = 0 ∨ j = 1 ∨ j = 2 ∨ j = 3 ∨ j = 4 by omega) with rfl | rfl | rfl | rfl | rfl <;> rfl) (Nat.le_of_ble_eq_true rfl) (Nat.le_of_ble_eq_true rfl) dX7_init_42 (fun q_42 H hP hD hS => ?_)
  have hP : va_P G.1 vwCl [(qX, .inr (7, [.ref q_5, .ref q_16, .ref q_27, .null, .null, .null])), (q_5, .inr (0, [.ref q9_q_7, .ref q9_q_15, .ref q9_q_23, .ref q9_q_31, .ref q9_q_39, .int 0, .int 0, .int 0])), (q9_q_7, .inl (G.2.1, 16, .inl (fun _ => 0))), (q9_q_15, .inl (G.2.1, 16, .inl (fun _ => 0))), (q9_q_23, .inl (G.2.1, 64, .inl (fun _ => 0))), (q9_q_31, .inl (G.2.1, 64, .inl (fun _ => 0))), (q9_q_39, .inl (G.2.1, 16, .inl (fun _ => 0))), (q_16, .inr (2, [.ref q20_q_8, .int 0, .int 0])), (q20_q_8, .inl (G.2.1, 512, .inl (fun _ => 0))), (q_27, .inr (3, [.ref q_5, .ref q35_q_7, .ref q35_q_15, .int 0, .int 0])), (q35_q_7, .inl (G.2.1, 32, .inl (fun _ => 0))), (q35_q_15, .inl (G.2.1, 32, .inl (fun _ => 0))), (q_42, .inr (5, [.null, .null, .null, .null, .null]))] H := hP
  have hD : va_D A [(qX, .inr (7, [.ref q_5, .ref q_16, .ref q_27, .null, .null, .null])), (q_5, .inr (0, [.ref q9_q_7, .ref q9_q_15, .ref q9_q_23, .ref q9_q_31, .ref q9_q_39, .int 0, .int 0, .int 0])), (q9_q_7, .inl (G.2.1, 16, .inl (fun _ => 0))), (q9_q_15, .inl (G.2.1, 16, .inl (fun _ => 0))), (q9_q_23, .inl (G.2.1, 64, .inl (fun _ => 0))), (q9_q_31, .inl (G.2.1, 64, .inl (fun _ => 0))), (q9_q_39, .inl (G.2.1, 16, .inl (fun _ => 0))), (q_16, .inr (2, [.ref q20_q_8, .int 0, .int 0])), (q20_q_8, .inl (G.2.1, 512, .inl (fun _ => 0))), (q_27, .inr (3, [.ref q_5, .ref q35_q_7, .ref q35_q_15, .int 0, .int 0])), (q35_q_7, .inl (G.2.1, 32, .inl (fun _ => 0))), (q35_q_15, .inl (G.2.1, 32, .inl (fun _ => 0))), (q_42, .inr (5, [.null, .null, .null, .null, .null]))] := hD
  refine lv_dup hx hb dX7_init_45 rfl ?_
  refine lv_aload_n hx hb dX7_init_46 rfl (lv_at hl 0 rfl) ?_
  refine va_get (D := G.1) (ci := 7) (v := .ref q_5) (C := RX7) (T := TX7) (N := 6) hx hb hts hi7 hown hK hP 0 rfl rfl 0 (by decide) hw7 (fun _ h9 => h9) rfl dX7_init_47 ?_
  have hPc := hP.sub (ws' := [(q_42, .inr (5, [.null, .null, .null, .null, .null]))]) [12] rfl
  have hDc := hD.sub (ws' := [(q_42, .inr (5, [.null, .null, .null, .null, .null]))]) [12] (by decide) rfl
  have hFc := va_free (wc := [(q_42, .inr (5, [.null, .null, .null, .null, .null]))]) hD hS hA [12] rfl
  refine va_callv (va_runI (As := [.ref q_5]) (rest := [.ref q_42, .ref qX]) ⟨hx, hb, hml, hown, hts⟩ (tX5_init G l) (cwI 1 hts gX7_init_X5_init rfl rfl rfl hw21 hw23 hw22 rfl (by decide +kernel) ⟨Nat.le_of_ble_eq_true rfl, Nat.le_of_ble_eq_true rfl⟩) ⟨pcW_blind, pcW_pre hPc hKK hDc⟩ rfl rfl hl.1 rfl (lv_room (Nat.le_of_ble_eq_true rfl)) dX7_init_50 ⟨Nat.le_of_ble_eq_true rfl, Nat.le_of_ble_eq_true rfl⟩) hS (fun q _ h => hFc q h) hFc (fun u t H1 locs ht hvm hw hB hz1 hk1 hS => ?_)
  obtain ⟨q50_q_7, q50_q_15, q50_q_23, q50_q_31, hB, hBD⟩ := hB
  have hB := va_Pto ht hB
  obtain ⟨hP, hD⟩ := va_join (wr := [(qX, .inr (7, [.ref q_5, .ref q_16, .ref q_27, .null, .null, .null])), (q_5, .inr (0, [.ref q9_q_7, .ref q9_q_15, .ref q9_q_23, .ref q9_q_31, .ref q9_q_39, .int 0, .int 0, .int 0])), (q9_q_7, .inl (G.2.1, 16, .inl (fun _ => 0))), (q9_q_15, .inl (G.2.1, 16, .inl (fun _ => 0))), (q9_q_23, .inl (G.2.1, 64, .inl (fun _ => 0))), (q9_q_31, .inl (G.2.1, 64, .inl (fun _ => 0))), (q9_q_39, .inl (G.2.1, 16, .inl (fun _ => 0))), (q_16, .inr (2, [.ref q20_q_8, .int 0, .int 0])), (q20_q_8, .inl (G.2.1, 512, .inl (fun _ => 0))), (q_27, .inr (3, [.ref q_5, .ref q35_q_7, .ref q35_q_15, .int 0, .int 0])), (q35_q_7, .inl (G.2.1, 32, .inl (fun _ => 0))), (q35_q_15, .inl (G.2.1, 32, .inl (fun _ => 0)))]) (w1 := [(q_42, .inr (5, [.ref q_5, .ref q50_q_7, .ref q50_q_15, .ref q50_q_23, .ref q50_q_31])), (q50_q_7, .inl (G.2.1, 16, .inl (fun _ => 0))), (q50_q_15, .inl (G.2.1, 16, .inl (fun _ => 0))), (q50_q_23, .inl (G.2.1, 16, .inl (fun _ => 0))), (q50_q_31, .inl (G.2.1, 16, .inl (fun _ => 0)))]) hP hD [12] [0, 1, 2, 3, 4, 5, 6, 7, 8, 9, 10, 11] rfl rfl (by decide) (by decide) hk1 hFc hB hBD
  generalize H1 = H at hP hS ⊢
  have hP : va_P G.1 vwCl [(qX, .inr (7, [.ref q_5, .ref q_16, .ref q_27, .null, .null, .null])), (q_5, .inr (0, [.ref q9_q_7, .ref q9_q_15, .ref q9_q_23, .ref q9_q_31, .ref q9_q_39, .int 0, .int 0, .int 0])), (q9_q_7, .inl (G.2.1, 16, .inl (fun _ => 0))), (q9_q_15, .inl (G.2.1, 16, .inl (fun _ => 0))), (q9_q_23, .inl (G.2.1, 64, .inl (fun _ => 0))), (q9_q_31, .inl (G.2.1, 64, .inl (fun _ => 0))), (q9_q_39, .inl (G.2.1, 16, .inl (fun _ => 0))), (q_16, .inr (2, [.ref q20_q_8, .int 0, .int 0])), (q20_q_8, .inl (G.2.1, 512, .inl (fun _ => 0))), (q_27, .inr (3, [.ref q_5, .ref q35_q_7, .ref q35_q_15, .int 0, .int 0])), (q35_q_7, .inl (G.2.1, 32, .inl (fun _ => 0))), (q35_q_15, .inl (G.2.1, 32, .inl (fun _ => 0))), (q_42, .inr (5, [.ref q_5, .ref q50_q_7, .ref q50_q_15, .ref q50_q_23, .ref q50_q_31])), (q50_q_7, .inl (G.2.1, 16, .inl (fun _ => 0))), (q50_q_15, .inl (G.2.1, 16, .inl (fun _ => 0))), (q50_q_23, .inl (G.2.1, 16, .inl (fun _ => 0))), (q50_q_31, .inl (G.2.1, 16, .inl (fun _ => 0)))] H := hP
  have hD : va_D A [(qX, .inr (7, [.ref q_5, .ref q_16, .ref q_27, .null, .null, .null])), (q_5, .inr (0, [.ref q9_q_7, .ref q9_q_15, .ref q9_q_23, .ref q9_q_31, .ref q9_q_39, .int 0, .int 0, .int 0])), (q9_q_7, .inl (G.2.1, 16, .inl (fun _ => 0))), (q9_q_15, .inl (G.2.1, 16, .inl (fun _ => 0))), (q9_q_23, .inl (G.2.1, 64, .inl (fun _ => 0))), (q9_q_31, .inl (G.2.1, 64, .inl (fun _ => 0))), (q9_q_39, .inl (G.2.1, 16, .inl (fun _ => 0))), (q_16, .inr (2, [.ref q20_q_8, .int 0, .int 0])), (q20_q_8, .inl (G.2.1, 512, .inl (fun _ => 0))), (q_27, .inr (3, [.ref q_5, .ref q35_q_7, .ref q35_q_15, .int 0, .int 0])), (q35_q_7, .inl (G.2.1, 32, .inl (fun _ => 0))), (q35_q_15, .inl (G.2.1, 32, .inl (fun _ => 0))), (q_42, .inr (5, [.ref q_5, .ref q50_q_7, .ref q50_q_15, .ref q50_q_23, .ref q50_q_31])), (q50_q_7, .inl (G.2.1, 16, .inl (fun _ => 0))), (q50_q_15, .inl (G.2.1, 16, .inl (fun _ => 0))), (q50_q_23, .inl (G.2.1, 16, .inl (fun _ => 0))), (q50_q_31, .inl (G.2.1, 16, .inl (fun _ => 0)))] := hD
  refine va_putF (D := G.1) (ci := 7) (v := .ref q_42) (ty := .object "NetPlumber$Sieve") (C := RX7) (T := TX7) (N := 6) hx hb hts hi7 tyX7 tyX7_ok nmX7 hown hK hP hD hS 0 rfl rfl 3 (by decide) hw24 (fun _ h9 => h9) rfl hin rfl (by decide +kernel) rfl rfl (Nat.le_of_ble_eq_true rfl) dX7_init_53 (fun H locs hP hD hS => ?_)
  have hP : va_P G.1 vwCl [(qX, .inr (7, [.ref q_5, .ref q_16, .ref q_27, .ref q_42, .null, .null])), (q_5, .inr (0, [.ref q9_q_7, .ref q9_q_15, .ref q9_q_23, .ref q9_q_31, .ref q9_q_39, .int 0, .int 0, .int 0])), (q9_q_7, .inl (G.2.1, 16, .inl (fun _ => 0))), (q9_q_15, .inl (G.2.1, 16, .inl (fun _ => 0))), (q9_q_23, .inl (G.2.1, 64, .inl (fun _ => 0))), (q9_q_31, .inl (G.2.1, 64, .inl (fun _ => 0))), (q9_q_39, .inl (G.2.1, 16, .inl (fun _ => 0))), (q_16, .inr (2, [.ref q20_q_8, .int 0, .int 0])), (q20_q_8, .inl (G.2.1, 512, .inl (fun _ => 0))), (q_27, .inr (3, [.ref q_5, .ref q35_q_7, .ref q35_q_15, .int 0, .int 0])), (q35_q_7, .inl (G.2.1, 32, .inl (fun _ => 0))), (q35_q_15, .inl (G.2.1, 32, .inl (fun _ => 0))), (q_42, .inr (5, [.ref q_5, .ref q50_q_7, .ref q50_q_15, .ref q50_q_23, .ref q50_q_31])), (q50_q_7, .inl (G.2.1, 16, .inl (fun _ => 0))), (q50_q_15, .inl (G.2.1, 16, .inl (fun _ => 0))), (q50_q_23, .inl (G.2.1, 16, .inl (fun _ => 0))), (q50_q_31, .inl (G.2.1, 16, .inl (fun _ => 0)))] H := hP
  have hD : va_D A [(qX, .inr (7, [.ref q_5, .ref q_16, .ref q_27, .ref q_42, .null, .null])), (q_5, .inr (0, [.ref q9_q_7, .ref q9_q_15, .ref q9_q_23, .ref q9_q_31, .ref q9_q_39, .int 0, .int 0, .int 0])), (q9_q_7, .inl (G.2.1, 16, .inl (fun _ => 0))), (q9_q_15, .inl (G.2.1, 16, .inl (fun _ => 0))), (q9_q_23, .inl (G.2.1, 64, .inl (fun _ => 0))), (q9_q_31, .inl (G.2.1, 64, .inl (fun _ => 0))), (q9_q_39, .inl (G.2.1, 16, .inl (fun _ => 0))), (q_16, .inr (2, [.ref q20_q_8, .int 0, .int 0])), (q20_q_8, .inl (G.2.1, 512, .inl (fun _ => 0))), (q_27, .inr (3, [.ref q_5, .ref q35_q_7, .ref q35_q_15, .int 0, .int 0])), (q35_q_7, .inl (G.2.1, 32, .inl (fun _ => 0))), (q35_q_15, .inl (G.2.1, 32, .inl (fun _ => 0))), (q_42, .inr (5, [.ref q_5, .ref q50_q_7, .ref q50_q_15, .ref q50_q_23, .ref q50_q_31])), (q50_q_7, .inl (G.2.1, 16, .inl (fun _ => 0))), (q50_q_15, .inl (G.2.1, 16, .inl (fun _ => 0))), (q50_q_23, .inl (G.2.1, 16, .inl (fun _ => 0))), (q50_q_31, .inl (G.2.1, 16, .inl (fun _ => 0)))] := hD
  refine lv_aload_n hx hb dX7_init_56 rfl (lv_at hl 0 rfl) ?_
  refine va_new (ci := 4) (fs := [.null, .null, .null, .null, .null, .null, .int 0, .int 0]) (C := RX4) (T := TX4) (N := 8) hx hb hts hi4 tyX4 tyX4_ok hown hw25 hw26 hw27 hK hP hD hS hA rfl (fun j hj => by rcases (show j = 0 ∨ j = 1 ∨ j = 2 ∨ j = 3 ∨ j = 4 ∨ j = 5 ∨ j = 6 ∨ j = 7 by omega) with rfl | rfl | rfl | rfl | rfl | rfl | rfl | rfl <;> rfl) (Nat.le_of_ble_eq_true rfl) (Nat.le_of_ble_eq_true rfl) dX7_init_57 (fun q_57 H hP hD hS => ?_)
  have hP : va_P G.1 vwCl [(qX, .inr (7, [.ref q_5, .ref q_16, .ref q_27, .ref q_42, .null, .null])), (q_5, .inr (0, [.ref q9_q_7, .ref q9_q_15, .ref q9_q_23, .ref q9_q_31, .ref q9_q_39, .int 0, .int 0, .int 0])), (q9_q_7, .inl (G.2.1, 16, .inl (fun _ => 0))), (q9_q_15, .inl (G.2.1, 16, .inl (fun _ => 0))), (q9_q_23, .inl (G.2.1, 64, .inl (fun _ => 0))), (q9_q_31, .inl (G.2.1, 64, .inl (fun _ => 0))), (q9_q_39, .inl (G.2.1, 16, .inl (fun _ => 0))), (q_16, .inr (2, [.ref q20_q_8, .int 0, .int 0])), (q20_q_8, .inl (G.2.1, 512, .inl (fun _ => 0))), (q_27, .inr (3, [.ref q_5, .ref q35_q_7, .ref q35_q_15, .int 0, .int 0])), (q35_q_7, .inl (G.2.1, 32, .inl (fun _ => 0))), (q35_q_15, .inl (G.2.1, 32, .inl (fun _ => 0))), (q_42, .inr (5, [.ref q_5, .ref q50_q_7, .ref q50_q_15, .ref q50_q_23, .ref q50_q_31])), (q50_q_7, .inl (G.2.1, 16, .inl (fun _ => 0))), (q50_q_15, .inl (G.2.1, 16, .inl (fun _ => 0))), (q50_q_23, .inl (G.2.1, 16, .inl (fun _ => 0))), (q50_q_31, .inl (G.2.1, 16, .inl (fun _ => 0))), (q_57, .inr (4, [.null, .null, .null, .null, .null, .null, .int 0, .int 0]))] H := hP
  have hD : va_D A [(qX, .inr (7, [.ref q_5, .ref q_16, .ref q_27, .ref q_42, .null, .null])), (q_5, .inr (0, [.ref q9_q_7, .ref q9_q_15, .ref q9_q_23, .ref q9_q_31, .ref q9_q_39, .int 0, .int 0, .int 0])), (q9_q_7, .inl (G.2.1, 16, .inl (fun _ => 0))), (q9_q_15, .inl (G.2.1, 16, .inl (fun _ => 0))), (q9_q_23, .inl (G.2.1, 64, .inl (fun _ => 0))), (q9_q_31, .inl (G.2.1, 64, .inl (fun _ => 0))), (q9_q_39, .inl (G.2.1, 16, .inl (fun _ => 0))), (q_16, .inr (2, [.ref q20_q_8, .int 0, .int 0])), (q20_q_8, .inl (G.2.1, 512, .inl (fun _ => 0))), (q_27, .inr (3, [.ref q_5, .ref q35_q_7, .ref q35_q_15, .int 0, .int 0])), (q35_q_7, .inl (G.2.1, 32, .inl (fun _ => 0))), (q35_q_15, .inl (G.2.1, 32, .inl (fun _ => 0))), (q_42, .inr (5, [.ref q_5, .ref q50_q_7, .ref q50_q_15, .ref q50_q_23, .ref q50_q_31])), (q50_q_7, .inl (G.2.1, 16, .inl (fun _ => 0))), (q50_q_15, .inl (G.2.1, 16, .inl (fun _ => 0))), (q50_q_23, .inl (G.2.1, 16, .inl (fun _ => 0))), (q50_q_31, .inl (G.2.1, 16, .inl (fun _ => 0))), (q_57, .inr (4, [.null, .null, .null, .null, .null, .null, .int 0, .int 0]))] := hD
  refine lv_dup hx hb dX7_init_60 rfl ?_
  refine lv_aload_n hx hb dX7_init_61 rfl (lv_at hl 0 rfl) ?_
  refine va_get (D := G.1) (ci := 7) (v := .ref q_5) (C := RX7) (T := TX7) (N := 6) hx hb hts hi7 hown hK hP 0 rfl rfl 0 (by decide) hw7 (fun _ h9 => h9) rfl dX7_init_62 ?_
  refine lv_aload_n hx hb dX7_init_65 rfl (lv_at hl 0 rfl) ?_
  refine va_get (D := G.1) (ci := 7) (v := .ref q_42) (C := RX7) (T := TX7) (N := 6) hx hb hts hi7 hown hK hP 0 rfl rfl 3 (by decide) hw24 (fun _ h9 => h9) rfl dX7_init_66 ?_
  have hPc := hP.sub (ws' := [(q_57, .inr (4, [.null, .null, .null, .null, .null, .null, .int 0, .int 0]))]) [17] rfl
  have hDc := hD.sub (ws' := [(q_57, .inr (4, [.null, .null, .null, .null, .null, .null, .int 0, .int 0]))]) [17] (by decide) rfl
  have hFc := va_free (wc := [(q_57, .inr (4, [.null, .null, .null, .null, .null, .null, .int 0, .int 0]))]) hD hS hA [17] rfl
  refine va_callv (va_runI (As := [.ref q_5, .ref q_42]) (rest := [.ref q_57, .ref qX]) ⟨hx, hb, hml, hown, hts⟩ (tX4_init G l) (cwI 2 hts gX7_init_X4_init rfl rfl rfl hw27 hw29 hw28 rfl (by decide +kernel) ⟨Nat.le_of_ble_eq_true rfl, Nat.le_of_ble_eq_true rfl⟩) ⟨pcC_blind, pcC_pre hPc hKK hDc hAO⟩ rfl rfl hl.1 rfl (lv_room (Nat.le_of_ble_eq_true rfl)) dX7_init_69 ⟨Nat.le_of_ble_eq_true rfl, Nat.le_of_ble_eq_true rfl⟩) hS (fun q _ h => hFc q h) hFc (fun u t H1 locs ht hvm hw hB hz1 hk1 hS => ?_)
  obtain ⟨q69_q_7, q69_q_15, q69_q_25, q69_q_35, qR, hB, hBD⟩ := hB
  have hB := va_Pto ht hB
  obtain ⟨hP, hD⟩ := va_join (wr := [(qX, .inr (7, [.ref q_5, .ref q_16, .ref q_27, .ref q_42, .null, .null])), (q_5, .inr (0, [.ref q9_q_7, .ref q9_q_15, .ref q9_q_23, .ref q9_q_31, .ref q9_q_39, .int 0, .int 0, .int 0])), (q9_q_7, .inl (G.2.1, 16, .inl (fun _ => 0))), (q9_q_15, .inl (G.2.1, 16, .inl (fun _ => 0))), (q9_q_23, .inl (G.2.1, 64, .inl (fun _ => 0))), (q9_q_31, .inl (G.2.1, 64, .inl (fun _ => 0))), (q9_q_39, .inl (G.2.1, 16, .inl (fun _ => 0))), (q_16, .inr (2, [.ref q20_q_8, .int 0, .int 0])), (q20_q_8, .inl (G.2.1, 512, .inl (fun _ => 0))), (q_27, .inr (3, [.ref q_5, .ref q35_q_7, .ref q35_q_15, .int 0, .int 0])), (q35_q_7, .inl (G.2.1, 32, .inl (fun _ => 0))), (q35_q_15, .inl (G.2.1, 32, .inl (fun _ => 0))), (q_42, .inr (5, [.ref q_5, .ref q50_q_7, .ref q50_q_15, .ref q50_q_23, .ref q50_q_31])), (q50_q_7, .inl (G.2.1, 16, .inl (fun _ => 0))), (q50_q_15, .inl (G.2.1, 16, .inl (fun _ => 0))), (q50_q_23, .inl (G.2.1, 16, .inl (fun _ => 0))), (q50_q_31, .inl (G.2.1, 16, .inl (fun _ => 0)))]) (w1 := ([(q_57, .inr (4, [.ref q_5, .ref q_42, .ref q69_q_7, .ref q69_q_15, .ref q69_q_25, .ref q69_q_35, .int 0, .int 0])), (q69_q_7, .inl (G.2.1, 16, .inl (fun _ => 0))), (q69_q_15, .inl (G.2.1, 16, .inl (fun _ => 0))), (q69_q_25, .inl (G.2.2.2.2, 17, .inr (.inr (.inr (.inr (outR qR)))))), (q69_q_35, .inl (G.2.1, 16, .inl (fun _ => 0)))] ++ rws G qR (fun _ _ => 0))) hP hD [17] [0, 1, 2, 3, 4, 5, 6, 7, 8, 9, 10, 11, 12, 13, 14, 15, 16] rfl rfl (by decide) (by decide) hk1 hFc hB hBD
  have hP := set_P (List.append_assoc _ _ _).symm hP
  have hD := set_D (List.append_assoc _ _ _).symm hD
  generalize H1 = H at hP hS ⊢
  have hP : va_P G.1 vwCl ([(qX, .inr (7, [.ref q_5, .ref q_16, .ref q_27, .ref q_42, .null, .null])), (q_5, .inr (0, [.ref q9_q_7, .ref q9_q_15, .ref q9_q_23, .ref q9_q_31, .ref q9_q_39, .int 0, .int 0, .int 0])), (q9_q_7, .inl (G.2.1, 16, .inl (fun _ => 0))), (q9_q_15, .inl (G.2.1, 16, .inl (fun _ => 0))), (q9_q_23, .inl (G.2.1, 64, .inl (fun _ => 0))), (q9_q_31, .inl (G.2.1, 64, .inl (fun _ => 0))), (q9_q_39, .inl (G.2.1, 16, .inl (fun _ => 0))), (q_16, .inr (2, [.ref q20_q_8, .int 0, .int 0])), (q20_q_8, .inl (G.2.1, 512, .inl (fun _ => 0))), (q_27, .inr (3, [.ref q_5, .ref q35_q_7, .ref q35_q_15, .int 0, .int 0])), (q35_q_7, .inl (G.2.1, 32, .inl (fun _ => 0))), (q35_q_15, .inl (G.2.1, 32, .inl (fun _ => 0))), (q_42, .inr (5, [.ref q_5, .ref q50_q_7, .ref q50_q_15, .ref q50_q_23, .ref q50_q_31])), (q50_q_7, .inl (G.2.1, 16, .inl (fun _ => 0))), (q50_q_15, .inl (G.2.1, 16, .inl (fun _ => 0))), (q50_q_23, .inl (G.2.1, 16, .inl (fun _ => 0))), (q50_q_31, .inl (G.2.1, 16, .inl (fun _ => 0))), (q_57, .inr (4, [.ref q_5, .ref q_42, .ref q69_q_7, .ref q69_q_15, .ref q69_q_25, .ref q69_q_35, .int 0, .int 0])), (q69_q_7, .inl (G.2.1, 16, .inl (fun _ => 0))), (q69_q_15, .inl (G.2.1, 16, .inl (fun _ => 0))), (q69_q_25, .inl (G.2.2.2.2, 17, .inr (.inr (.inr (.inr (outR qR)))))), (q69_q_35, .inl (G.2.1, 16, .inl (fun _ => 0)))] ++ rws G qR (fun _ _ => 0)) H := hP
  have hD : va_D A ([(qX, .inr (7, [.ref q_5, .ref q_16, .ref q_27, .ref q_42, .null, .null])), (q_5, .inr (0, [.ref q9_q_7, .ref q9_q_15, .ref q9_q_23, .ref q9_q_31, .ref q9_q_39, .int 0, .int 0, .int 0])), (q9_q_7, .inl (G.2.1, 16, .inl (fun _ => 0))), (q9_q_15, .inl (G.2.1, 16, .inl (fun _ => 0))), (q9_q_23, .inl (G.2.1, 64, .inl (fun _ => 0))), (q9_q_31, .inl (G.2.1, 64, .inl (fun _ => 0))), (q9_q_39, .inl (G.2.1, 16, .inl (fun _ => 0))), (q_16, .inr (2, [.ref q20_q_8, .int 0, .int 0])), (q20_q_8, .inl (G.2.1, 512, .inl (fun _ => 0))), (q_27, .inr (3, [.ref q_5, .ref q35_q_7, .ref q35_q_15, .int 0, .int 0])), (q35_q_7, .inl (G.2.1, 32, .inl (fun _ => 0))), (q35_q_15, .inl (G.2.1, 32, .inl (fun _ => 0))), (q_42, .inr (5, [.ref q_5, .ref q50_q_7, .ref q50_q_15, .ref q50_q_23, .ref q50_q_31])), (q50_q_7, .inl (G.2.1, 16, .inl (fun _ => 0))), (q50_q_15, .inl (G.2.1, 16, .inl (fun _ => 0))), (q50_q_23, .inl (G.2.1, 16, .inl (fun _ => 0))), (q50_q_31, .inl (G.2.1, 16, .inl (fun _ => 0))), (q_57, .inr (4, [.ref q_5, .ref q_42, .ref q69_q_7, .ref q69_q_15, .ref q69_q_25, .ref q69_q_35, .int 0, .int 0])), (q69_q_7, .inl (G.2.1, 16, .inl (fun _ => 0))), (q69_q_15, .inl (G.2.1, 16, .inl (fun _ => 0))), (q69_q_25, .inl (G.2.2.2.2, 17, .inr (.inr (.inr (.inr (outR qR)))))), (q69_q_35, .inl (G.2.1, 16, .inl (fun _ => 0)))] ++ rws G qR (fun _ _ => 0)) := hD
  refine va_putF (D := G.1) (ci := 7) (v := .ref q_57) (ty := .object "NetPlumber$Search") (C := RX7) (T := TX7) (N := 6) hx hb hts hi7 tyX7 tyX7_ok nmX7 hown hK hP hD hS 0 rfl rfl 4 (by decide) hw30 (fun _ h9 => h9) rfl hin rfl (by decide +kernel) rfl rfl (Nat.le_of_ble_eq_true rfl) dX7_init_72 (fun H locs hP hD hS => ?_)
  have hP : va_P G.1 vwCl ([(qX, .inr (7, [.ref q_5, .ref q_16, .ref q_27, .ref q_42, .ref q_57, .null])), (q_5, .inr (0, [.ref q9_q_7, .ref q9_q_15, .ref q9_q_23, .ref q9_q_31, .ref q9_q_39, .int 0, .int 0, .int 0])), (q9_q_7, .inl (G.2.1, 16, .inl (fun _ => 0))), (q9_q_15, .inl (G.2.1, 16, .inl (fun _ => 0))), (q9_q_23, .inl (G.2.1, 64, .inl (fun _ => 0))), (q9_q_31, .inl (G.2.1, 64, .inl (fun _ => 0))), (q9_q_39, .inl (G.2.1, 16, .inl (fun _ => 0))), (q_16, .inr (2, [.ref q20_q_8, .int 0, .int 0])), (q20_q_8, .inl (G.2.1, 512, .inl (fun _ => 0))), (q_27, .inr (3, [.ref q_5, .ref q35_q_7, .ref q35_q_15, .int 0, .int 0])), (q35_q_7, .inl (G.2.1, 32, .inl (fun _ => 0))), (q35_q_15, .inl (G.2.1, 32, .inl (fun _ => 0))), (q_42, .inr (5, [.ref q_5, .ref q50_q_7, .ref q50_q_15, .ref q50_q_23, .ref q50_q_31])), (q50_q_7, .inl (G.2.1, 16, .inl (fun _ => 0))), (q50_q_15, .inl (G.2.1, 16, .inl (fun _ => 0))), (q50_q_23, .inl (G.2.1, 16, .inl (fun _ => 0))), (q50_q_31, .inl (G.2.1, 16, .inl (fun _ => 0))), (q_57, .inr (4, [.ref q_5, .ref q_42, .ref q69_q_7, .ref q69_q_15, .ref q69_q_25, .ref q69_q_35, .int 0, .int 0])), (q69_q_7, .inl (G.2.1, 16, .inl (fun _ => 0))), (q69_q_15, .inl (G.2.1, 16, .inl (fun _ => 0))), (q69_q_25, .inl (G.2.2.2.2, 17, .inr (.inr (.inr (.inr (outR qR)))))), (q69_q_35, .inl (G.2.1, 16, .inl (fun _ => 0)))] ++ rws G qR (fun _ _ => 0)) H := hP
  have hD : va_D A ([(qX, .inr (7, [.ref q_5, .ref q_16, .ref q_27, .ref q_42, .ref q_57, .null])), (q_5, .inr (0, [.ref q9_q_7, .ref q9_q_15, .ref q9_q_23, .ref q9_q_31, .ref q9_q_39, .int 0, .int 0, .int 0])), (q9_q_7, .inl (G.2.1, 16, .inl (fun _ => 0))), (q9_q_15, .inl (G.2.1, 16, .inl (fun _ => 0))), (q9_q_23, .inl (G.2.1, 64, .inl (fun _ => 0))), (q9_q_31, .inl (G.2.1, 64, .inl (fun _ => 0))), (q9_q_39, .inl (G.2.1, 16, .inl (fun _ => 0))), (q_16, .inr (2, [.ref q20_q_8, .int 0, .int 0])), (q20_q_8, .inl (G.2.1, 512, .inl (fun _ => 0))), (q_27, .inr (3, [.ref q_5, .ref q35_q_7, .ref q35_q_15, .int 0, .int 0])), (q35_q_7, .inl (G.2.1, 32, .inl (fun _ => 0))), (q35_q_15, .inl (G.2.1, 32, .inl (fun _ => 0))), (q_42, .inr (5, [.ref q_5, .ref q50_q_7, .ref q50_q_15, .ref q50_q_23, .ref q50_q_31])), (q50_q_7, .inl (G.2.1, 16, .inl (fun _ => 0))), (q50_q_15, .inl (G.2.1, 16, .inl (fun _ => 0))), (q50_q_23, .inl (G.2.1, 16, .inl (fun _ => 0))), (q50_q_31, .inl (G.2.1, 16, .inl (fun _ => 0))), (q_57, .inr (4, [.ref q_5, .ref q_42, .ref q69_q_7, .ref q69_q_15, .ref q69_q_25, .ref q69_q_35, .int 0, .int 0])), (q69_q_7, .inl (G.2.1, 16, .inl (fun _ => 0))), (q69_q_15, .inl (G.2.1, 16, .inl (fun _ => 0))), (q69_q_25, .inl (G.2.2.2.2, 17, .inr (.inr (.inr (.inr (outR qR)))))), (q69_q_35, .inl (G.2.1, 16, .inl (fun _ => 0)))] ++ rws G qR (fun _ _ => 0)) := hD
  refine lv_aload_n hx hb dX7_init_75 rfl (lv_at hl 0 rfl) ?_
  refine va_new (ci := 6) (fs := [.null, .null, .null, .null, .null]) (C := RX6) (T := TX6) (N := 5) hx hb hts hi6 tyX6 tyX6_ok hown hw31 hw32 hw33 hK hP hD hS hA rfl (fun j hj => by rcases (show j = 0 ∨ j = 1 ∨ j = 2 ∨ j = 3 ∨ j = 4 by omega) with rfl | rfl | rfl | rfl | rfl <;> rfl) (Nat.le_of_ble_eq_true rfl) (Nat.le_of_ble_eq_true rfl) dX7_init_76 (fun q_76 H hP hD hS => ?_)
  have hP := va_P.swap hP
  have hD := va_D.swap hD
  have hP : va_P G.1 vwCl ([(qX, .inr (7, [.ref q_5, .ref q_16, .ref q_27, .ref q_42, .ref q_57, .null])), (q_5, .inr (0, [.ref q9_q_7, .ref q9_q_15, .ref q9_q_23, .ref q9_q_31, .ref q9_q_39, .int 0, .int 0, .int 0])), (q9_q_7, .inl (G.2.1, 16, .inl (fun _ => 0))), (q9_q_15, .inl (G.2.1, 16, .inl (fun _ => 0))), (q9_q_23, .inl (G.2.1, 64, .inl (fun _ => 0))), (q9_q_31, .inl (G.2.1, 64, .inl (fun _ => 0))), (q9_q_39, .inl (G.2.1, 16, .inl (fun _ => 0))), (q_16, .inr (2, [.ref q20_q_8, .int 0, .int 0])), (q20_q_8, .inl (G.2.1, 512, .inl (fun _ => 0))), (q_27, .inr (3, [.ref q_5, .ref q35_q_7, .ref q35_q_15, .int 0, .int 0])), (q35_q_7, .inl (G.2.1, 32, .inl (fun _ => 0))), (q35_q_15, .inl (G.2.1, 32, .inl (fun _ => 0))), (q_42, .inr (5, [.ref q_5, .ref q50_q_7, .ref q50_q_15, .ref q50_q_23, .ref q50_q_31])), (q50_q_7, .inl (G.2.1, 16, .inl (fun _ => 0))), (q50_q_15, .inl (G.2.1, 16, .inl (fun _ => 0))), (q50_q_23, .inl (G.2.1, 16, .inl (fun _ => 0))), (q50_q_31, .inl (G.2.1, 16, .inl (fun _ => 0))), (q_57, .inr (4, [.ref q_5, .ref q_42, .ref q69_q_7, .ref q69_q_15, .ref q69_q_25, .ref q69_q_35, .int 0, .int 0])), (q69_q_7, .inl (G.2.1, 16, .inl (fun _ => 0))), (q69_q_15, .inl (G.2.1, 16, .inl (fun _ => 0))), (q69_q_25, .inl (G.2.2.2.2, 17, .inr (.inr (.inr (.inr (outR qR)))))), (q69_q_35, .inl (G.2.1, 16, .inl (fun _ => 0))), (q_76, .inr (6, [.null, .null, .null, .null, .null]))] ++ rws G qR (fun _ _ => 0)) H := hP
  have hD : va_D A ([(qX, .inr (7, [.ref q_5, .ref q_16, .ref q_27, .ref q_42, .ref q_57, .null])), (q_5, .inr (0, [.ref q9_q_7, .ref q9_q_15, .ref q9_q_23, .ref q9_q_31, .ref q9_q_39, .int 0, .int 0, .int 0])), (q9_q_7, .inl (G.2.1, 16, .inl (fun _ => 0))), (q9_q_15, .inl (G.2.1, 16, .inl (fun _ => 0))), (q9_q_23, .inl (G.2.1, 64, .inl (fun _ => 0))), (q9_q_31, .inl (G.2.1, 64, .inl (fun _ => 0))), (q9_q_39, .inl (G.2.1, 16, .inl (fun _ => 0))), (q_16, .inr (2, [.ref q20_q_8, .int 0, .int 0])), (q20_q_8, .inl (G.2.1, 512, .inl (fun _ => 0))), (q_27, .inr (3, [.ref q_5, .ref q35_q_7, .ref q35_q_15, .int 0, .int 0])), (q35_q_7, .inl (G.2.1, 32, .inl (fun _ => 0))), (q35_q_15, .inl (G.2.1, 32, .inl (fun _ => 0))), (q_42, .inr (5, [.ref q_5, .ref q50_q_7, .ref q50_q_15, .ref q50_q_23, .ref q50_q_31])), (q50_q_7, .inl (G.2.1, 16, .inl (fun _ => 0))), (q50_q_15, .inl (G.2.1, 16, .inl (fun _ => 0))), (q50_q_23, .inl (G.2.1, 16, .inl (fun _ => 0))), (q50_q_31, .inl (G.2.1, 16, .inl (fun _ => 0))), (q_57, .inr (4, [.ref q_5, .ref q_42, .ref q69_q_7, .ref q69_q_15, .ref q69_q_25, .ref q69_q_35, .int 0, .int 0])), (q69_q_7, .inl (G.2.1, 16, .inl (fun _ => 0))), (q69_q_15, .inl (G.2.1, 16, .inl (fun _ => 0))), (q69_q_25, .inl (G.2.2.2.2, 17, .inr (.inr (.inr (.inr (outR qR)))))), (q69_q_35, .inl (G.2.1, 16, .inl (fun _ => 0))), (q_76, .inr (6, [.null, .null, .null, .null, .null]))] ++ rws G qR (fun _ _ => 0)) := hD
  refine lv_dup hx hb dX7_init_79 rfl ?_
  refine lv_aload_n hx hb dX7_init_80 rfl (lv_at hl 0 rfl) ?_
  refine va_get (D := G.1) (ci := 7) (v := .ref q_5) (C := RX7) (T := TX7) (N := 6) hx hb hts hi7 hown hK hP 0 rfl rfl 0 (by decide) hw7 (fun _ h9 => h9) rfl dX7_init_81 ?_
  have hPc := hP.sub (ws' := [(q_76, .inr (6, [.null, .null, .null, .null, .null]))]) [22] rfl
  have hDc := hD.sub (ws' := [(q_76, .inr (6, [.null, .null, .null, .null, .null]))]) [22] (by decide) rfl
  have hFc := va_free (wc := [(q_76, .inr (6, [.null, .null, .null, .null, .null]))]) hD hS hA [22] rfl
  refine va_callv (va_runI (As := [.ref q_5]) (rest := [.ref q_76, .ref qX]) ⟨hx, hb, hml, hown, hts⟩ (tX6_init G l) (cwI 1 hts gX7_init_X6_init rfl rfl rfl hw33 hw35 hw34 rfl (by decide +kernel) ⟨Nat.le_of_ble_eq_true rfl, Nat.le_of_ble_eq_true rfl⟩) ⟨pcW_blind, pcW_pre hPc hKK hDc⟩ rfl rfl hl.1 rfl (lv_room (Nat.le_of_ble_eq_true rfl)) dX7_init_84 ⟨Nat.le_of_ble_eq_true rfl, Nat.le_of_ble_eq_true rfl⟩) hS (fun q _ h => hFc q h) hFc (fun u t H1 locs ht hvm hw hB hz1 hk1 hS => ?_)
  obtain ⟨q84_q_7, q84_q_15, q84_q_21, q84_q25_q_7, q84_q25_q_15, q84_q_32, q84_q36_q_7, q84_q36_q_15, hB, hBD⟩ := hB
  have hB := va_Pto ht hB
  obtain ⟨hP, hD⟩ := va_joinQ (X := [(qX, .inr (7, [.ref q_5, .ref q_16, .ref q_27, .ref q_42, .ref q_57, .null])), (q_5, .inr (0, [.ref q9_q_7, .ref q9_q_15, .ref q9_q_23, .ref q9_q_31, .ref q9_q_39, .int 0, .int 0, .int 0])), (q9_q_7, .inl (G.2.1, 16, .inl (fun _ => 0))), (q9_q_15, .inl (G.2.1, 16, .inl (fun _ => 0))), (q9_q_23, .inl (G.2.1, 64, .inl (fun _ => 0))), (q9_q_31, .inl (G.2.1, 64, .inl (fun _ => 0))), (q9_q_39, .inl (G.2.1, 16, .inl (fun _ => 0))), (q_16, .inr (2, [.ref q20_q_8, .int 0, .int 0])), (q20_q_8, .inl (G.2.1, 512, .inl (fun _ => 0))), (q_27, .inr (3, [.ref q_5, .ref q35_q_7, .ref q35_q_15, .int 0, .int 0])), (q35_q_7, .inl (G.2.1, 32, .inl (fun _ => 0))), (q35_q_15, .inl (G.2.1, 32, .inl (fun _ => 0))), (q_42, .inr (5, [.ref q_5, .ref q50_q_7, .ref q50_q_15, .ref q50_q_23, .ref q50_q_31])), (q50_q_7, .inl (G.2.1, 16, .inl (fun _ => 0))), (q50_q_15, .inl (G.2.1, 16, .inl (fun _ => 0))), (q50_q_23, .inl (G.2.1, 16, .inl (fun _ => 0))), (q50_q_31, .inl (G.2.1, 16, .inl (fun _ => 0))), (q_57, .inr (4, [.ref q_5, .ref q_42, .ref q69_q_7, .ref q69_q_15, .ref q69_q_25, .ref q69_q_35, .int 0, .int 0])), (q69_q_7, .inl (G.2.1, 16, .inl (fun _ => 0))), (q69_q_15, .inl (G.2.1, 16, .inl (fun _ => 0))), (q69_q_25, .inl (G.2.2.2.2, 17, .inr (.inr (.inr (.inr (outR qR)))))), (q69_q_35, .inl (G.2.1, 16, .inl (fun _ => 0))), (q_76, .inr (6, [.null, .null, .null, .null, .null]))]) (wr := [(qX, .inr (7, [.ref q_5, .ref q_16, .ref q_27, .ref q_42, .ref q_57, .null])), (q_5, .inr (0, [.ref q9_q_7, .ref q9_q_15, .ref q9_q_23, .ref q9_q_31, .ref q9_q_39, .int 0, .int 0, .int 0])), (q9_q_7, .inl (G.2.1, 16, .inl (fun _ => 0))), (q9_q_15, .inl (G.2.1, 16, .inl (fun _ => 0))), (q9_q_23, .inl (G.2.1, 64, .inl (fun _ => 0))), (q9_q_31, .inl (G.2.1, 64, .inl (fun _ => 0))), (q9_q_39, .inl (G.2.1, 16, .inl (fun _ => 0))), (q_16, .inr (2, [.ref q20_q_8, .int 0, .int 0])), (q20_q_8, .inl (G.2.1, 512, .inl (fun _ => 0))), (q_27, .inr (3, [.ref q_5, .ref q35_q_7, .ref q35_q_15, .int 0, .int 0])), (q35_q_7, .inl (G.2.1, 32, .inl (fun _ => 0))), (q35_q_15, .inl (G.2.1, 32, .inl (fun _ => 0))), (q_42, .inr (5, [.ref q_5, .ref q50_q_7, .ref q50_q_15, .ref q50_q_23, .ref q50_q_31])), (q50_q_7, .inl (G.2.1, 16, .inl (fun _ => 0))), (q50_q_15, .inl (G.2.1, 16, .inl (fun _ => 0))), (q50_q_23, .inl (G.2.1, 16, .inl (fun _ => 0))), (q50_q_31, .inl (G.2.1, 16, .inl (fun _ => 0))), (q_57, .inr (4, [.ref q_5, .ref q_42, .ref q69_q_7, .ref q69_q_15, .ref q69_q_25, .ref q69_q_35, .int 0, .int 0])), (q69_q_7, .inl (G.2.1, 16, .inl (fun _ => 0))), (q69_q_15, .inl (G.2.1, 16, .inl (fun _ => 0))), (q69_q_25, .inl (G.2.2.2.2, 17, .inr (.inr (.inr (.inr (outR qR)))))), (q69_q_35, .inl (G.2.1, 16, .inl (fun _ => 0)))]) (w1 := [(q_76, .inr (6, [.ref q_5, .ref q84_q_7, .ref q84_q_15, .ref q84_q_21, .ref q84_q_32])), (q84_q_7, .inl (G.2.1, 12, .inl (fun _ => 0))), (q84_q_15, .inl (G.2.1, 16, .inl (fun _ => 0))), (q84_q_21, .inr (1, [.ref q84_q25_q_7, .ref q84_q25_q_15, .int 0])), (q84_q25_q_7, .inl (G.2.2.1, 16, .inr (.inl (fun _ => 0)))), (q84_q25_q_15, .inl (G.2.1, 16, .inl (fun _ => 0))), (q84_q_32, .inr (1, [.ref q84_q36_q_7, .ref q84_q36_q_15, .int 0])), (q84_q36_q_7, .inl (G.2.2.1, 16, .inr (.inl (fun _ => 0)))), (q84_q36_q_15, .inl (G.2.1, 16, .inl (fun _ => 0)))]) hP hD [22] [0, 1, 2, 3, 4, 5, 6, 7, 8, 9, 10, 11, 12, 13, 14, 15, 16, 17, 18, 19, 20, 21] rfl rfl (by decide) (by decide) hk1 hFc hB hBD
  generalize H1 = H at hP hS ⊢
  have hP : va_P G.1 vwCl ([(qX, .inr (7, [.ref q_5, .ref q_16, .ref q_27, .ref q_42, .ref q_57, .null])), (q_5, .inr (0, [.ref q9_q_7, .ref q9_q_15, .ref q9_q_23, .ref q9_q_31, .ref q9_q_39, .int 0, .int 0, .int 0])), (q9_q_7, .inl (G.2.1, 16, .inl (fun _ => 0))), (q9_q_15, .inl (G.2.1, 16, .inl (fun _ => 0))), (q9_q_23, .inl (G.2.1, 64, .inl (fun _ => 0))), (q9_q_31, .inl (G.2.1, 64, .inl (fun _ => 0))), (q9_q_39, .inl (G.2.1, 16, .inl (fun _ => 0))), (q_16, .inr (2, [.ref q20_q_8, .int 0, .int 0])), (q20_q_8, .inl (G.2.1, 512, .inl (fun _ => 0))), (q_27, .inr (3, [.ref q_5, .ref q35_q_7, .ref q35_q_15, .int 0, .int 0])), (q35_q_7, .inl (G.2.1, 32, .inl (fun _ => 0))), (q35_q_15, .inl (G.2.1, 32, .inl (fun _ => 0))), (q_42, .inr (5, [.ref q_5, .ref q50_q_7, .ref q50_q_15, .ref q50_q_23, .ref q50_q_31])), (q50_q_7, .inl (G.2.1, 16, .inl (fun _ => 0))), (q50_q_15, .inl (G.2.1, 16, .inl (fun _ => 0))), (q50_q_23, .inl (G.2.1, 16, .inl (fun _ => 0))), (q50_q_31, .inl (G.2.1, 16, .inl (fun _ => 0))), (q_57, .inr (4, [.ref q_5, .ref q_42, .ref q69_q_7, .ref q69_q_15, .ref q69_q_25, .ref q69_q_35, .int 0, .int 0])), (q69_q_7, .inl (G.2.1, 16, .inl (fun _ => 0))), (q69_q_15, .inl (G.2.1, 16, .inl (fun _ => 0))), (q69_q_25, .inl (G.2.2.2.2, 17, .inr (.inr (.inr (.inr (outR qR)))))), (q69_q_35, .inl (G.2.1, 16, .inl (fun _ => 0))), (q_76, .inr (6, [.ref q_5, .ref q84_q_7, .ref q84_q_15, .ref q84_q_21, .ref q84_q_32])), (q84_q_7, .inl (G.2.1, 12, .inl (fun _ => 0))), (q84_q_15, .inl (G.2.1, 16, .inl (fun _ => 0))), (q84_q_21, .inr (1, [.ref q84_q25_q_7, .ref q84_q25_q_15, .int 0])), (q84_q25_q_7, .inl (G.2.2.1, 16, .inr (.inl (fun _ => 0)))), (q84_q25_q_15, .inl (G.2.1, 16, .inl (fun _ => 0))), (q84_q_32, .inr (1, [.ref q84_q36_q_7, .ref q84_q36_q_15, .int 0])), (q84_q36_q_7, .inl (G.2.2.1, 16, .inr (.inl (fun _ => 0)))), (q84_q36_q_15, .inl (G.2.1, 16, .inl (fun _ => 0)))] ++ rws G qR (fun _ _ => 0)) H := hP
  have hD : va_D A ([(qX, .inr (7, [.ref q_5, .ref q_16, .ref q_27, .ref q_42, .ref q_57, .null])), (q_5, .inr (0, [.ref q9_q_7, .ref q9_q_15, .ref q9_q_23, .ref q9_q_31, .ref q9_q_39, .int 0, .int 0, .int 0])), (q9_q_7, .inl (G.2.1, 16, .inl (fun _ => 0))), (q9_q_15, .inl (G.2.1, 16, .inl (fun _ => 0))), (q9_q_23, .inl (G.2.1, 64, .inl (fun _ => 0))), (q9_q_31, .inl (G.2.1, 64, .inl (fun _ => 0))), (q9_q_39, .inl (G.2.1, 16, .inl (fun _ => 0))), (q_16, .inr (2, [.ref q20_q_8, .int 0, .int 0])), (q20_q_8, .inl (G.2.1, 512, .inl (fun _ => 0))), (q_27, .inr (3, [.ref q_5, .ref q35_q_7, .ref q35_q_15, .int 0, .int 0])), (q35_q_7, .inl (G.2.1, 32, .inl (fun _ => 0))), (q35_q_15, .inl (G.2.1, 32, .inl (fun _ => 0))), (q_42, .inr (5, [.ref q_5, .ref q50_q_7, .ref q50_q_15, .ref q50_q_23, .ref q50_q_31])), (q50_q_7, .inl (G.2.1, 16, .inl (fun _ => 0))), (q50_q_15, .inl (G.2.1, 16, .inl (fun _ => 0))), (q50_q_23, .inl (G.2.1, 16, .inl (fun _ => 0))), (q50_q_31, .inl (G.2.1, 16, .inl (fun _ => 0))), (q_57, .inr (4, [.ref q_5, .ref q_42, .ref q69_q_7, .ref q69_q_15, .ref q69_q_25, .ref q69_q_35, .int 0, .int 0])), (q69_q_7, .inl (G.2.1, 16, .inl (fun _ => 0))), (q69_q_15, .inl (G.2.1, 16, .inl (fun _ => 0))), (q69_q_25, .inl (G.2.2.2.2, 17, .inr (.inr (.inr (.inr (outR qR)))))), (q69_q_35, .inl (G.2.1, 16, .inl (fun _ => 0))), (q_76, .inr (6, [.ref q_5, .ref q84_q_7, .ref q84_q_15, .ref q84_q_21, .ref q84_q_32])), (q84_q_7, .inl (G.2.1, 12, .inl (fun _ => 0))), (q84_q_15, .inl (G.2.1, 16, .inl (fun _ => 0))), (q84_q_21, .inr (1, [.ref q84_q25_q_7, .ref q84_q25_q_15, .int 0])), (q84_q25_q_7, .inl (G.2.2.1, 16, .inr (.inl (fun _ => 0)))), (q84_q25_q_15, .inl (G.2.1, 16, .inl (fun _ => 0))), (q84_q_32, .inr (1, [.ref q84_q36_q_7, .ref q84_q36_q_15, .int 0])), (q84_q36_q_7, .inl (G.2.2.1, 16, .inr (.inl (fun _ => 0)))), (q84_q36_q_15, .inl (G.2.1, 16, .inl (fun _ => 0)))] ++ rws G qR (fun _ _ => 0)) := hD
  refine va_putF (D := G.1) (ci := 7) (v := .ref q_76) (ty := .object "NetPlumber$Sweep") (C := RX7) (T := TX7) (N := 6) hx hb hts hi7 tyX7 tyX7_ok nmX7 hown hK hP hD hS 0 rfl rfl 5 (by decide) hw36 (fun _ h9 => h9) rfl hin rfl (by decide +kernel) rfl rfl (Nat.le_of_ble_eq_true rfl) dX7_init_87 (fun H locs hP hD hS => ?_)
  have hP : va_P G.1 vwCl ([(qX, .inr (7, [.ref q_5, .ref q_16, .ref q_27, .ref q_42, .ref q_57, .ref q_76])), (q_5, .inr (0, [.ref q9_q_7, .ref q9_q_15, .ref q9_q_23, .ref q9_q_31, .ref q9_q_39, .int 0, .int 0, .int 0])), (q9_q_7, .inl (G.2.1, 16, .inl (fun _ => 0))), (q9_q_15, .inl (G.2.1, 16, .inl (fun _ => 0))), (q9_q_23, .inl (G.2.1, 64, .inl (fun _ => 0))), (q9_q_31, .inl (G.2.1, 64, .inl (fun _ => 0))), (q9_q_39, .inl (G.2.1, 16, .inl (fun _ => 0))), (q_16, .inr (2, [.ref q20_q_8, .int 0, .int 0])), (q20_q_8, .inl (G.2.1, 512, .inl (fun _ => 0))), (q_27, .inr (3, [.ref q_5, .ref q35_q_7, .ref q35_q_15, .int 0, .int 0])), (q35_q_7, .inl (G.2.1, 32, .inl (fun _ => 0))), (q35_q_15, .inl (G.2.1, 32, .inl (fun _ => 0))), (q_42, .inr (5, [.ref q_5, .ref q50_q_7, .ref q50_q_15, .ref q50_q_23, .ref q50_q_31])), (q50_q_7, .inl (G.2.1, 16, .inl (fun _ => 0))), (q50_q_15, .inl (G.2.1, 16, .inl (fun _ => 0))), (q50_q_23, .inl (G.2.1, 16, .inl (fun _ => 0))), (q50_q_31, .inl (G.2.1, 16, .inl (fun _ => 0))), (q_57, .inr (4, [.ref q_5, .ref q_42, .ref q69_q_7, .ref q69_q_15, .ref q69_q_25, .ref q69_q_35, .int 0, .int 0])), (q69_q_7, .inl (G.2.1, 16, .inl (fun _ => 0))), (q69_q_15, .inl (G.2.1, 16, .inl (fun _ => 0))), (q69_q_25, .inl (G.2.2.2.2, 17, .inr (.inr (.inr (.inr (outR qR)))))), (q69_q_35, .inl (G.2.1, 16, .inl (fun _ => 0))), (q_76, .inr (6, [.ref q_5, .ref q84_q_7, .ref q84_q_15, .ref q84_q_21, .ref q84_q_32])), (q84_q_7, .inl (G.2.1, 12, .inl (fun _ => 0))), (q84_q_15, .inl (G.2.1, 16, .inl (fun _ => 0))), (q84_q_21, .inr (1, [.ref q84_q25_q_7, .ref q84_q25_q_15, .int 0])), (q84_q25_q_7, .inl (G.2.2.1, 16, .inr (.inl (fun _ => 0)))), (q84_q25_q_15, .inl (G.2.1, 16, .inl (fun _ => 0))), (q84_q_32, .inr (1, [.ref q84_q36_q_7, .ref q84_q36_q_15, .int 0])), (q84_q36_q_7, .inl (G.2.2.1, 16, .inr (.inl (fun _ => 0)))), (q84_q36_q_15, .inl (G.2.1, 16, .inl (fun _ => 0)))] ++ rws G qR (fun _ _ => 0)) H := hP
  have hD : va_D A ([(qX, .inr (7, [.ref q_5, .ref q_16, .ref q_27, .ref q_42, .ref q_57, .ref q_76])), (q_5, .inr (0, [.ref q9_q_7, .ref q9_q_15, .ref q9_q_23, .ref q9_q_31, .ref q9_q_39, .int 0, .int 0, .int 0])), (q9_q_7, .inl (G.2.1, 16, .inl (fun _ => 0))), (q9_q_15, .inl (G.2.1, 16, .inl (fun _ => 0))), (q9_q_23, .inl (G.2.1, 64, .inl (fun _ => 0))), (q9_q_31, .inl (G.2.1, 64, .inl (fun _ => 0))), (q9_q_39, .inl (G.2.1, 16, .inl (fun _ => 0))), (q_16, .inr (2, [.ref q20_q_8, .int 0, .int 0])), (q20_q_8, .inl (G.2.1, 512, .inl (fun _ => 0))), (q_27, .inr (3, [.ref q_5, .ref q35_q_7, .ref q35_q_15, .int 0, .int 0])), (q35_q_7, .inl (G.2.1, 32, .inl (fun _ => 0))), (q35_q_15, .inl (G.2.1, 32, .inl (fun _ => 0))), (q_42, .inr (5, [.ref q_5, .ref q50_q_7, .ref q50_q_15, .ref q50_q_23, .ref q50_q_31])), (q50_q_7, .inl (G.2.1, 16, .inl (fun _ => 0))), (q50_q_15, .inl (G.2.1, 16, .inl (fun _ => 0))), (q50_q_23, .inl (G.2.1, 16, .inl (fun _ => 0))), (q50_q_31, .inl (G.2.1, 16, .inl (fun _ => 0))), (q_57, .inr (4, [.ref q_5, .ref q_42, .ref q69_q_7, .ref q69_q_15, .ref q69_q_25, .ref q69_q_35, .int 0, .int 0])), (q69_q_7, .inl (G.2.1, 16, .inl (fun _ => 0))), (q69_q_15, .inl (G.2.1, 16, .inl (fun _ => 0))), (q69_q_25, .inl (G.2.2.2.2, 17, .inr (.inr (.inr (.inr (outR qR)))))), (q69_q_35, .inl (G.2.1, 16, .inl (fun _ => 0))), (q_76, .inr (6, [.ref q_5, .ref q84_q_7, .ref q84_q_15, .ref q84_q_21, .ref q84_q_32])), (q84_q_7, .inl (G.2.1, 12, .inl (fun _ => 0))), (q84_q_15, .inl (G.2.1, 16, .inl (fun _ => 0))), (q84_q_21, .inr (1, [.ref q84_q25_q_7, .ref q84_q25_q_15, .int 0])), (q84_q25_q_7, .inl (G.2.2.1, 16, .inr (.inl (fun _ => 0)))), (q84_q25_q_15, .inl (G.2.1, 16, .inl (fun _ => 0))), (q84_q_32, .inr (1, [.ref q84_q36_q_7, .ref q84_q36_q_15, .int 0])), (q84_q36_q_7, .inl (G.2.2.1, 16, .inr (.inl (fun _ => 0)))), (q84_q36_q_15, .inl (G.2.1, 16, .inl (fun _ => 0)))] ++ rws G qR (fun _ _ => 0)) := hD
  refine lv_aload_n hx hb dX7_init_90 rfl (lv_at hl 0 rfl) ?_
  refine va_get (D := G.1) (ci := 7) (v := .ref q_5) (C := RX7) (T := TX7) (N := 6) hx hb hts hi7 hown hK hP 0 rfl rfl 0 (by decide) hw7 (fun _ h9 => h9) rfl dX7_init_91 ?_
  refine lv_iconst (v := 3) hx hb dX7_init_94 (by decide) ?_
  refine lv_iconst (v := 3) hx hb dX7_init_95 (by decide) ?_
  refine lv_iconst (v := 0) hx hb dX7_init_96 (by decide) ?_
  have hPc := hP.sub (ws' := [(q_5, .inr (0, [.ref q9_q_7, .ref q9_q_15, .ref q9_q_23, .ref q9_q_31, .ref q9_q_39, .int 0, .int 0, .int 0])), (q9_q_7, .inl (G.2.1, 16, .inl (fun _ => 0))), (q9_q_15, .inl (G.2.1, 16, .inl (fun _ => 0))), (q9_q_23, .inl (G.2.1, 64, .inl (fun _ => 0))), (q9_q_31, .inl (G.2.1, 64, .inl (fun _ => 0)))]) [1, 2, 3, 4, 5] rfl
  have hDc := hD.sub (ws' := [(q_5, .inr (0, [.ref q9_q_7, .ref q9_q_15, .ref q9_q_23, .ref q9_q_31, .ref q9_q_39, .int 0, .int 0, .int 0])), (q9_q_7, .inl (G.2.1, 16, .inl (fun _ => 0))), (q9_q_15, .inl (G.2.1, 16, .inl (fun _ => 0))), (q9_q_23, .inl (G.2.1, 64, .inl (fun _ => 0))), (q9_q_31, .inl (G.2.1, 64, .inl (fun _ => 0)))]) [1, 2, 3, 4, 5] (by decide) rfl
  have hFc := va_free (wc := [(q_5, .inr (0, [.ref q9_q_7, .ref q9_q_15, .ref q9_q_23, .ref q9_q_31, .ref q9_q_39, .int 0, .int 0, .int 0])), (q9_q_7, .inl (G.2.1, 16, .inl (fun _ => 0))), (q9_q_15, .inl (G.2.1, 16, .inl (fun _ => 0))), (q9_q_23, .inl (G.2.1, 64, .inl (fun _ => 0))), (q9_q_31, .inl (G.2.1, 64, .inl (fun _ => 0)))]) hD hS hA [1, 2, 3, 4, 5] rfl
  have hKc := hK
  refine va_callv (va_runV (As := [.int 3, .int 3, .int 0]) (rest := []) ⟨hx, hb, hml, hown, hts⟩ (tX0_clear G l hq) (cwV 3 hts gX7_init_X0_clear rfl rfl rfl (by decide +kernel) ⟨Nat.le_of_ble_eq_true rfl, Nat.le_of_ble_eq_true rfl⟩) ⟨pcW_blind, va_recv hKc hPc (ci := 0) (q0 := 0) rfl rfl, pcW_pre hPc hKK hDc⟩ rfl rfl hl.1 rfl (lv_room (Nat.le_of_ble_eq_true rfl)) dX7_init_97 ⟨Nat.le_of_ble_eq_true rfl, Nat.le_of_ble_eq_true rfl⟩) hS (fun q _ h => hFc q h) hFc (fun u t H1 locs ht hvm hw hB hz1 hk1 hS => ?_)
  have hB := va_Pto ht hB
  obtain ⟨hP, hD⟩ := jnL (X' := [(qX, .inr (7, [.ref q_5, .ref q_16, .ref q_27, .ref q_42, .ref q_57, .ref q_76])), (q_5, .inr (0, [.ref q9_q_7, .ref q9_q_15, .ref q9_q_23, .ref q9_q_31, .ref q9_q_39, .int r.1, .int r.2.1, .int r.2.2.1])), (q9_q_7, .inl (G.2.1, 16, .inl r.2.2.2.1)), (q9_q_15, .inl (G.2.1, 16, .inl r.2.2.2.2.1)), (q9_q_23, .inl (G.2.1, 64, .inl r.2.2.2.2.2.1)), (q9_q_31, .inl (G.2.1, 64, .inl r.2.2.2.2.2.2)), (q9_q_39, .inl (G.2.1, 16, .inl (fun _ => 0))), (q_16, .inr (2, [.ref q20_q_8, .int 0, .int 0])), (q20_q_8, .inl (G.2.1, 512, .inl (fun _ => 0))), (q_27, .inr (3, [.ref q_5, .ref q35_q_7, .ref q35_q_15, .int 0, .int 0])), (q35_q_7, .inl (G.2.1, 32, .inl (fun _ => 0))), (q35_q_15, .inl (G.2.1, 32, .inl (fun _ => 0))), (q_42, .inr (5, [.ref q_5, .ref q50_q_7, .ref q50_q_15, .ref q50_q_23, .ref q50_q_31])), (q50_q_7, .inl (G.2.1, 16, .inl (fun _ => 0))), (q50_q_15, .inl (G.2.1, 16, .inl (fun _ => 0))), (q50_q_23, .inl (G.2.1, 16, .inl (fun _ => 0))), (q50_q_31, .inl (G.2.1, 16, .inl (fun _ => 0))), (q_57, .inr (4, [.ref q_5, .ref q_42, .ref q69_q_7, .ref q69_q_15, .ref q69_q_25, .ref q69_q_35, .int 0, .int 0])), (q69_q_7, .inl (G.2.1, 16, .inl (fun _ => 0))), (q69_q_15, .inl (G.2.1, 16, .inl (fun _ => 0))), (q69_q_25, .inl (G.2.2.2.2, 17, .inr (.inr (.inr (.inr (outR qR)))))), (q69_q_35, .inl (G.2.1, 16, .inl (fun _ => 0))), (q_76, .inr (6, [.ref q_5, .ref q84_q_7, .ref q84_q_15, .ref q84_q_21, .ref q84_q_32])), (q84_q_7, .inl (G.2.1, 12, .inl (fun _ => 0))), (q84_q_15, .inl (G.2.1, 16, .inl (fun _ => 0))), (q84_q_21, .inr (1, [.ref q84_q25_q_7, .ref q84_q25_q_15, .int 0])), (q84_q25_q_7, .inl (G.2.2.1, 16, .inr (.inl (fun _ => 0)))), (q84_q25_q_15, .inl (G.2.1, 16, .inl (fun _ => 0))), (q84_q_32, .inr (1, [.ref q84_q36_q_7, .ref q84_q36_q_15, .int 0])), (q84_q36_q_7, .inl (G.2.2.1, 16, .inr (.inl (fun _ => 0)))), (q84_q36_q_15, .inl (G.2.1, 16, .inl (fun _ => 0)))]) hP hD hk1 hB [1, 2, 3, 4, 5] rfl rfl rfl rfl
  generalize H1 = H at hP hS ⊢
  have hP : va_P G.1 vwCl ([(qX, .inr (7, [.ref q_5, .ref q_16, .ref q_27, .ref q_42, .ref q_57, .ref q_76])), (q_5, .inr (0, [.ref q9_q_7, .ref q9_q_15, .ref q9_q_23, .ref q9_q_31, .ref q9_q_39, .int r.1, .int r.2.1, .int r.2.2.1])), (q9_q_7, .inl (G.2.1, 16, .inl r.2.2.2.1)), (q9_q_15, .inl (G.2.1, 16, .inl r.2.2.2.2.1)), (q9_q_23, .inl (G.2.1, 64, .inl r.2.2.2.2.2.1)), (q9_q_31, .inl (G.2.1, 64, .inl r.2.2.2.2.2.2)), (q9_q_39, .inl (G.2.1, 16, .inl (fun _ => 0))), (q_16, .inr (2, [.ref q20_q_8, .int 0, .int 0])), (q20_q_8, .inl (G.2.1, 512, .inl (fun _ => 0))), (q_27, .inr (3, [.ref q_5, .ref q35_q_7, .ref q35_q_15, .int 0, .int 0])), (q35_q_7, .inl (G.2.1, 32, .inl (fun _ => 0))), (q35_q_15, .inl (G.2.1, 32, .inl (fun _ => 0))), (q_42, .inr (5, [.ref q_5, .ref q50_q_7, .ref q50_q_15, .ref q50_q_23, .ref q50_q_31])), (q50_q_7, .inl (G.2.1, 16, .inl (fun _ => 0))), (q50_q_15, .inl (G.2.1, 16, .inl (fun _ => 0))), (q50_q_23, .inl (G.2.1, 16, .inl (fun _ => 0))), (q50_q_31, .inl (G.2.1, 16, .inl (fun _ => 0))), (q_57, .inr (4, [.ref q_5, .ref q_42, .ref q69_q_7, .ref q69_q_15, .ref q69_q_25, .ref q69_q_35, .int 0, .int 0])), (q69_q_7, .inl (G.2.1, 16, .inl (fun _ => 0))), (q69_q_15, .inl (G.2.1, 16, .inl (fun _ => 0))), (q69_q_25, .inl (G.2.2.2.2, 17, .inr (.inr (.inr (.inr (outR qR)))))), (q69_q_35, .inl (G.2.1, 16, .inl (fun _ => 0))), (q_76, .inr (6, [.ref q_5, .ref q84_q_7, .ref q84_q_15, .ref q84_q_21, .ref q84_q_32])), (q84_q_7, .inl (G.2.1, 12, .inl (fun _ => 0))), (q84_q_15, .inl (G.2.1, 16, .inl (fun _ => 0))), (q84_q_21, .inr (1, [.ref q84_q25_q_7, .ref q84_q25_q_15, .int 0])), (q84_q25_q_7, .inl (G.2.2.1, 16, .inr (.inl (fun _ => 0)))), (q84_q25_q_15, .inl (G.2.1, 16, .inl (fun _ => 0))), (q84_q_32, .inr (1, [.ref q84_q36_q_7, .ref q84_q36_q_15, .int 0])), (q84_q36_q_7, .inl (G.2.2.1, 16, .inr (.inl (fun _ => 0)))), (q84_q36_q_15, .inl (G.2.1, 16, .inl (fun _ => 0)))] ++ rws G qR (fun _ _ => 0)) H := hP
  have hD : va_D A ([(qX, .inr (7, [.ref q_5, .ref q_16, .ref q_27, .ref q_42, .ref q_57, .ref q_76])), (q_5, .inr (0, [.ref q9_q_7, .ref q9_q_15, .ref q9_q_23, .ref q9_q_31, .ref q9_q_39, .int r.1, .int r.2.1, .int r.2.2.1])), (q9_q_7, .inl (G.2.1, 16, .inl r.2.2.2.1)), (q9_q_15, .inl (G.2.1, 16, .inl r.2.2.2.2.1)), (q9_q_23, .inl (G.2.1, 64, .inl r.2.2.2.2.2.1)), (q9_q_31, .inl (G.2.1, 64, .inl r.2.2.2.2.2.2)), (q9_q_39, .inl (G.2.1, 16, .inl (fun _ => 0))), (q_16, .inr (2, [.ref q20_q_8, .int 0, .int 0])), (q20_q_8, .inl (G.2.1, 512, .inl (fun _ => 0))), (q_27, .inr (3, [.ref q_5, .ref q35_q_7, .ref q35_q_15, .int 0, .int 0])), (q35_q_7, .inl (G.2.1, 32, .inl (fun _ => 0))), (q35_q_15, .inl (G.2.1, 32, .inl (fun _ => 0))), (q_42, .inr (5, [.ref q_5, .ref q50_q_7, .ref q50_q_15, .ref q50_q_23, .ref q50_q_31])), (q50_q_7, .inl (G.2.1, 16, .inl (fun _ => 0))), (q50_q_15, .inl (G.2.1, 16, .inl (fun _ => 0))), (q50_q_23, .inl (G.2.1, 16, .inl (fun _ => 0))), (q50_q_31, .inl (G.2.1, 16, .inl (fun _ => 0))), (q_57, .inr (4, [.ref q_5, .ref q_42, .ref q69_q_7, .ref q69_q_15, .ref q69_q_25, .ref q69_q_35, .int 0, .int 0])), (q69_q_7, .inl (G.2.1, 16, .inl (fun _ => 0))), (q69_q_15, .inl (G.2.1, 16, .inl (fun _ => 0))), (q69_q_25, .inl (G.2.2.2.2, 17, .inr (.inr (.inr (.inr (outR qR)))))), (q69_q_35, .inl (G.2.1, 16, .inl (fun _ => 0))), (q_76, .inr (6, [.ref q_5, .ref q84_q_7, .ref q84_q_15, .ref q84_q_21, .ref q84_q_32])), (q84_q_7, .inl (G.2.1, 12, .inl (fun _ => 0))), (q84_q_15, .inl (G.2.1, 16, .inl (fun _ => 0))), (q84_q_21, .inr (1, [.ref q84_q25_q_7, .ref q84_q25_q_15, .int 0])), (q84_q25_q_7, .inl (G.2.2.1, 16, .inr (.inl (fun _ => 0)))), (q84_q25_q_15, .inl (G.2.1, 16, .inl (fun _ => 0))), (q84_q_32, .inr (1, [.ref q84_q36_q_7, .ref q84_q36_q_15, .int 0])), (q84_q36_q_7, .inl (G.2.2.1, 16, .inr (.inl (fun _ => 0)))), (q84_q36_q_15, .inl (G.2.1, 16, .inl (fun _ => 0)))] ++ rws G qR (fun _ _ => 0)) := hD
  rw [hQ]
  have hP := hP.part (cx := [(qX, .inr (7, [.ref q_5, .ref q_16, .ref q_27, .ref q_42, .ref q_57, .ref q_76])), (q_5, .inr (0, [.ref q9_q_7, .ref q9_q_15, .ref q9_q_23, .ref q9_q_31, .ref q9_q_39, .int r.1, .int r.2.1, .int r.2.2.1])), (q9_q_7, .inl (G.2.1, 16, .inl r.2.2.2.1)), (q9_q_15, .inl (G.2.1, 16, .inl r.2.2.2.2.1)), (q9_q_23, .inl (G.2.1, 64, .inl r.2.2.2.2.2.1)), (q9_q_31, .inl (G.2.1, 64, .inl r.2.2.2.2.2.2)), (q9_q_39, .inl (G.2.1, 16, .inl (fun _ => 0))), (q_16, .inr (2, [.ref q20_q_8, .int 0, .int 0])), (q20_q_8, .inl (G.2.1, 512, .inl (fun _ => 0))), (q_27, .inr (3, [.ref q_5, .ref q35_q_7, .ref q35_q_15, .int 0, .int 0])), (q35_q_7, .inl (G.2.1, 32, .inl (fun _ => 0))), (q35_q_15, .inl (G.2.1, 32, .inl (fun _ => 0))), (q_42, .inr (5, [.ref q_5, .ref q50_q_7, .ref q50_q_15, .ref q50_q_23, .ref q50_q_31])), (q50_q_7, .inl (G.2.1, 16, .inl (fun _ => 0))), (q50_q_15, .inl (G.2.1, 16, .inl (fun _ => 0))), (q50_q_23, .inl (G.2.1, 16, .inl (fun _ => 0))), (q50_q_31, .inl (G.2.1, 16, .inl (fun _ => 0))), (q_57, .inr (4, [.ref q_5, .ref q_42, .ref q69_q_7, .ref q69_q_15, .ref q69_q_25, .ref q69_q_35, .int 0, .int 0])), (q69_q_7, .inl (G.2.1, 16, .inl (fun _ => 0))), (q69_q_15, .inl (G.2.1, 16, .inl (fun _ => 0))), (q69_q_25, .inl (G.2.2.2.2, 17, .inr (.inr (.inr (.inr (outR qR)))))), (q69_q_35, .inl (G.2.1, 16, .inl (fun _ => 0))), (q_76, .inr (6, [.ref q_5, .ref q84_q_7, .ref q84_q_15, .ref q84_q_21, .ref q84_q_32])), (q84_q_7, .inl (G.2.1, 12, .inl (fun _ => 0))), (q84_q_15, .inl (G.2.1, 16, .inl (fun _ => 0))), (q84_q_21, .inr (1, [.ref q84_q25_q_7, .ref q84_q25_q_15, .int 0])), (q84_q25_q_7, .inl (G.2.2.1, 16, .inr (.inl (fun _ => 0)))), (q84_q25_q_15, .inl (G.2.1, 16, .inl (fun _ => 0))), (q84_q_32, .inr (1, [.ref q84_q36_q_7, .ref q84_q36_q_15, .int 0])), (q84_q36_q_7, .inl (G.2.2.1, 16, .inr (.inl (fun _ => 0)))), (q84_q36_q_15, .inl (G.2.1, 16, .inl (fun _ => 0)))]) [0, 1, 2, 3, 4, 5, 6, 7, 8, 9, 10, 11, 12, 13, 14, 15, 16, 17, 18, 19, 20, 21, 22, 23, 24, 25, 26, 27, 28, 29, 30] rfl
  have hD := hD.part (cx := [(qX, .inr (7, [.ref q_5, .ref q_16, .ref q_27, .ref q_42, .ref q_57, .ref q_76])), (q_5, .inr (0, [.ref q9_q_7, .ref q9_q_15, .ref q9_q_23, .ref q9_q_31, .ref q9_q_39, .int r.1, .int r.2.1, .int r.2.2.1])), (q9_q_7, .inl (G.2.1, 16, .inl r.2.2.2.1)), (q9_q_15, .inl (G.2.1, 16, .inl r.2.2.2.2.1)), (q9_q_23, .inl (G.2.1, 64, .inl r.2.2.2.2.2.1)), (q9_q_31, .inl (G.2.1, 64, .inl r.2.2.2.2.2.2)), (q9_q_39, .inl (G.2.1, 16, .inl (fun _ => 0))), (q_16, .inr (2, [.ref q20_q_8, .int 0, .int 0])), (q20_q_8, .inl (G.2.1, 512, .inl (fun _ => 0))), (q_27, .inr (3, [.ref q_5, .ref q35_q_7, .ref q35_q_15, .int 0, .int 0])), (q35_q_7, .inl (G.2.1, 32, .inl (fun _ => 0))), (q35_q_15, .inl (G.2.1, 32, .inl (fun _ => 0))), (q_42, .inr (5, [.ref q_5, .ref q50_q_7, .ref q50_q_15, .ref q50_q_23, .ref q50_q_31])), (q50_q_7, .inl (G.2.1, 16, .inl (fun _ => 0))), (q50_q_15, .inl (G.2.1, 16, .inl (fun _ => 0))), (q50_q_23, .inl (G.2.1, 16, .inl (fun _ => 0))), (q50_q_31, .inl (G.2.1, 16, .inl (fun _ => 0))), (q_57, .inr (4, [.ref q_5, .ref q_42, .ref q69_q_7, .ref q69_q_15, .ref q69_q_25, .ref q69_q_35, .int 0, .int 0])), (q69_q_7, .inl (G.2.1, 16, .inl (fun _ => 0))), (q69_q_15, .inl (G.2.1, 16, .inl (fun _ => 0))), (q69_q_25, .inl (G.2.2.2.2, 17, .inr (.inr (.inr (.inr (outR qR)))))), (q69_q_35, .inl (G.2.1, 16, .inl (fun _ => 0))), (q_76, .inr (6, [.ref q_5, .ref q84_q_7, .ref q84_q_15, .ref q84_q_21, .ref q84_q_32])), (q84_q_7, .inl (G.2.1, 12, .inl (fun _ => 0))), (q84_q_15, .inl (G.2.1, 16, .inl (fun _ => 0))), (q84_q_21, .inr (1, [.ref q84_q25_q_7, .ref q84_q25_q_15, .int 0])), (q84_q25_q_7, .inl (G.2.2.1, 16, .inr (.inl (fun _ => 0)))), (q84_q25_q_15, .inl (G.2.1, 16, .inl (fun _ => 0))), (q84_q_32, .inr (1, [.ref q84_q36_q_7, .ref q84_q36_q_15, .int 0])), (q84_q36_q_7, .inl (G.2.2.1, 16, .inr (.inl (fun _ => 0)))), (q84_q36_q_15, .inl (G.2.1, 16, .inl (fun _ => 0)))]) [0, 1, 2, 3, 4, 5, 6, 7, 8, 9, 10, 11, 12, 13, 14, 15, 16, 17, 18, 19, 20, 21, 22, 23, 24, 25, 26, 27, 28, 29, 30] (by decide) rfl
  exact W.vret hx hb hr (fun t ht hW => ⟨⟨(), rfl, trivial, ⟨q_5, q9_q_7, q9_q_15, q9_q_23, q9_q_31, q9_q_39, q_16, q20_q_8, q_27, q35_q_7, q35_q_15, q_42, q50_q_7, q50_q_15, q50_q_23, q50_q_31, q_57, q69_q_7, q69_q_15, q69_q_25, q69_q_35, q_76, q84_q_7, q84_q_15, q84_q_21, q84_q25_q_7, q84_q25_q_15, q84_q_32, q84_q36_q_7, q84_q36_q_15, qR, va_Pat ht hP, hD⟩⟩, hS.F ht⟩) hS.2.2 dX7_init_100
