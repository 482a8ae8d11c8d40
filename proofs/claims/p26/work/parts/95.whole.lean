/-! THE CLAIM OUT OF ONE WALK OF THE LAW'S BODY. Your part is whole_start (and what it stands on); all else here is the same for every law, but numbers. -/
def R_law : String := "NetPlumberLaw"
def lw_P (b : Addr) (xs : List Int32) (args : Array Value) (s : State) : Prop := args = #[.ref b] ∧ s.IntsAt b xs ∧ xs.length ≤ 260 ∧ (Jvm.Cond.and given_1 narrow_1).before args s = true
def lw_Q (_ : Array Value) (s : State) (o : Outcome) (t : State) : Prop := o = .returned (some (.int 1)) ∧ Framed s o t [] 600104 7301313
def lw_Z (below : List Frame) (a : Array Value) (s : State) : State → Prop := fun t => ∃ o, t.status = .running ∧ Ended t below o ∧ lw_Q a s o t
/-- the law's own end, with 1 on the stack, nothing written that was there before, its room as the claim has it -/
theorem lw_ret {p : Program} {l : Launch} {e : Env} {s : State} {m : MethodId} {below : List Frame} {meth : Method} {c : Code} {b : Nat} (hx : p.tables.exec = Jvm.exec) (hb : c.code = code) (hr : meth.sig.returnType = ret) (hlocks : meth.locks = false) {pc : Nat} {H : Heap} {ls : Array Slot} (hdg : decode code pc = .ok (.ireturn, 1)) : W p l e room_1 s m #[Value.ref b] below meth c H [] 600104 7301313 (lw_Z below #[Value.ref b] s) (F0 m pc ls [.int 1]) := by
  intro T hT X
  obtain ⟨fs, hret, hrun, hended, hW, hframe⟩ := X.leave (v := some (.int 1)) (hlocks := hlocks) (fun h => by rw [hr] at h; cases h)
  have hmeth' : T.vm.method? m = some meth := X.method'
  refine ⟨T.setFrames fs, ?_, .returned (some (.int 1)), hrun, hended, rfl, ⟨_, rfl⟩, hW, hframe⟩
  jvm_step X.here [X.here.top, hx, hb, hdg, hmeth', hr, ret, narrow_b1]
  (try refine ⟨rfl, ?_⟩); (try refine ⟨rfl, ?_⟩)
  first | (intro acts; rw [hret _ acts rfl rfl rfl]) | rw [hret _ _ rfl rfl rfl]
  exact Steps.refl _
/-- what holds at the law's entry: the machine, the code, the tables' words (any of lw_tbl by 'hts w (by decide +kernel)'), the script of L ints xs at the cell b, what the Statement gives of the start (any of its parts by flat_of_before) -/
def lw_At (p : Program) (s : State) (m : MethodId) (meth : Method) (c : Code) (b L : Nat) (xs : Nat → Int32) : Prop :=
  p.tables.exec = Jvm.exec ∧ c.code = code ∧ meth.sig.returnType = ret ∧ c.maxLocals = 7 ∧ s.vm.findClass R_law = some m.cls ∧ (∀ w ∈ lw_tbl, w.before #[Value.ref b] s = true) ∧ va_X b L xs s s.heap ∧ b < s.heap.size ∧ meth.locks = false ∧ (Jvm.Cond.and given_1 narrow_1).before #[Value.ref b] s = true
set_option maxHeartbeats 40000000 in
set_option maxRecDepth 100000 in
theorem whole_start {p : Program} {e : Env} {s : State} {m : MethodId} {below : List Frame} {meth : Method} {c : Code} (l : Launch) (hflags : l.flags = flags0) {b L : Nat} {xs : Nat → Int32} (hL : L ≤ 260) (C0 : lw_At p s m meth c b L xs) : W p l e room_1 s m #[Value.ref b] below meth c s.heap [] 0 0 (lw_Z below #[Value.ref b] s) (entryFrame m ([Value.ref b] : List Value).toArray 7) := by
  obtain ⟨hx, hb, hr, hml, hown, hts, hX, hbl, hlocks, hgv⟩ := C0
  have hb : c.code = cL_law := hb
  have hown : s.vm.findClass RL = some m.cls := hown
  obtain ⟨G, hKK⟩ := lo_G hts
  obtain ⟨F, hF⟩ := BF_ex
  obtain ⟨r, hq, hB0⟩ := L_init hF.1
  have C : LCX p l s m b L xs c G (fun q => s.heap.size ≤ q) := ⟨hx, hb, hml, hown, hts, hX, hbl, Nat.not_le.mpr hbl, fun q h => h, hKK⟩
  have hA0 : ∀ q : Nat, (fun q : Nat => s.heap.size ≤ q) q → s.heap.size ≤ q := fun q h => h
  generalize (fun q : Nat => s.heap.size ≤ q) = A at C hA0
  have hA : ∀ q : Nat, s.heap.size ≤ q → A q := by obtain ⟨-, -, -, -, -, -, -, -, h, -⟩ := id C; exact h
  have hbA : ¬ A b := by obtain ⟨-, -, -, -, -, -, -, h, -⟩ := id C; exact h
  have hK := hKK.1
  have hAO : va_AOA .int s := hts (.arrayOver (.array .int)) (by decide +kernel)
  have hP : va_P G.1 vwCl [] s.heap := fun k q h => absurd h (by simp)
  have hD : va_D A [] := ⟨fun i j p q h => absurd h (by simp), fun k q h => absurd h (by simp)⟩
  have hS : va_S A s.heap s.heap [] := va_S.rf
  have hl := lv_entry ([.ref b] : List Value) (n := 7) (Nat.le_of_ble_eq_true rfl)
  rw [lg_entry_eq]
  generalize (lg_sl ([.ref b] : List Value) ++ List.replicate (7 - (lg_sl ([.ref b] : List Value)).length) Slot.unset).toArray = ls at hl ⊢
  have hl : lv_has ls 7 [(0, .ref b)] := hl
  refine va_new (ci := 7) (fs := [.null, .null, .null, .null, .null, .null]) (C := RX7) (T := TX7) (N := 6) hx hb hts wsL_in_X7 tyX7 tyX7_ok hown (hts (.classLink RL 11 RX7) (by decide +kernel)) (hts (.instantiable RX7 6) (by decide +kernel)) (hts (.initialized RX7) (by decide +kernel)) hK hP hD hS hA rfl (fun j hj => by rcases (show j = 0 ∨ j = 1 ∨ j = 2 ∨ j = 3 ∨ j = 4 ∨ j = 5 by omega) with rfl | rfl | rfl | rfl | rfl | rfl <;> rfl) (Nat.le_of_ble_eq_true rfl) (Nat.le_of_ble_eq_true rfl) dL_law_0 (fun qX H hP hD hS => ?_)
  have hP : va_P G.1 vwCl [(qX, .inr (7, [.null, .null, .null, .null, .null, .null]))] H := hP
  have hD : va_D A [(qX, .inr (7, [.null, .null, .null, .null, .null, .null]))] := hD
  refine lv_dup hx hb dL_law_3 rfl ?_
  have hPc := hP.sub (ws' := [(qX, .inr (7, [.null, .null, .null, .null, .null, .null]))]) [0] rfl
  have hDc := hD.sub (ws' := [(qX, .inr (7, [.null, .null, .null, .null, .null, .null]))]) [0] (by decide) rfl
  have hFc := va_free (wc := [(qX, .inr (7, [.null, .null, .null, .null, .null, .null]))]) hD hS hA [0] rfl
  refine va_callv (va_runI (As := []) (rest := [.ref qX]) ⟨hx, hb, hml, hown, hts⟩ (tX7_init G l hq) (cwI 0 hts GL_law_X7_init rfl rfl rfl (hts (.initialized RX7) (by decide +kernel)) (hts (.methodLink RL 112 yX7_init) (by decide +kernel)) (hts (.instanceMethod yX7_init) (by decide +kernel)) rfl (by decide +kernel) ⟨Nat.le_of_ble_eq_true rfl, Nat.le_of_ble_eq_true rfl⟩) ⟨pcC_blind, pcC_pre hPc hKK hDc hAO⟩ rfl rfl hl.1 rfl (lv_room (Nat.le_of_ble_eq_true rfl)) dL_law_4 ⟨Nat.le_of_ble_eq_true rfl, Nat.le_of_ble_eq_true rfl⟩) hS (fun q _ h => hFc q h) hFc (fun u t H1 locs ht hvm hw hB hz1 hk1 hS => ?_)
  obtain ⟨qB, qBT, qBC, qBN, qBW, qBL, qH, qHM, qK, qKC, qKS, qV, qVL, qVS, qVA, qVT, qS, qSR, qSI, qSP, qSF, qW, qWP, qWN, qL0, qL0b, qL0w, qL1, qL1b, qL1w, qR, hB, hBD⟩ := hB
  have hB := va_Pto ht hB
  obtain ⟨hP, hD⟩ := va_join (wr := []) (w1 := ([(qX, .inr (7, [.ref qB, .ref qH, .ref qK, .ref qV, .ref qS, .ref qW])), (qB, .inr (0, [.ref qBT, .ref qBC, .ref qBN, .ref qBW, .ref qBL, .int r.1, .int r.2.1, .int r.2.2.1])), (qBT, .inl (G.2.1, 16, .inl r.2.2.2.1)), (qBC, .inl (G.2.1, 16, .inl r.2.2.2.2.1)), (qBN, .inl (G.2.1, 64, .inl r.2.2.2.2.2.1)), (qBW, .inl (G.2.1, 64, .inl r.2.2.2.2.2.2)), (qBL, .inl (G.2.1, 16, .inl (fun _ => 0))), (qH, .inr (2, [.ref qHM, .int 0, .int 0])), (qHM, .inl (G.2.1, 512, .inl (fun _ => 0))), (qK, .inr (3, [.ref qB, .ref qKC, .ref qKS, .int 0, .int 0])), (qKC, .inl (G.2.1, 32, .inl (fun _ => 0))), (qKS, .inl (G.2.1, 32, .inl (fun _ => 0))), (qV, .inr (5, [.ref qB, .ref qVL, .ref qVS, .ref qVA, .ref qVT])), (qVL, .inl (G.2.1, 16, .inl (fun _ => 0))), (qVS, .inl (G.2.1, 16, .inl (fun _ => 0))), (qVA, .inl (G.2.1, 16, .inl (fun _ => 0))), (qVT, .inl (G.2.1, 16, .inl (fun _ => 0))), (qS, .inr (4, [.ref qB, .ref qV, .ref qSR, .ref qSI, .ref qSP, .ref qSF, .int 0, .int 0])), (qSR, .inl (G.2.1, 16, .inl (fun _ => 0))), (qSI, .inl (G.2.1, 16, .inl (fun _ => 0))), (qSP, .inl (G.2.2.2.2, 17, .inr (.inr (.inr (.inr (outR qR)))))), (qSF, .inl (G.2.1, 16, .inl (fun _ => 0))), (qW, .inr (6, [.ref qB, .ref qWP, .ref qWN, .ref qL0, .ref qL1])), (qWP, .inl (G.2.1, 12, .inl (fun _ => 0))), (qWN, .inl (G.2.1, 16, .inl (fun _ => 0))), (qL0, .inr (1, [.ref qL0b, .ref qL0w, .int 0])), (qL0b, .inl (G.2.2.1, 16, .inr (.inl (fun _ => 0)))), (qL0w, .inl (G.2.1, 16, .inl (fun _ => 0))), (qL1, .inr (1, [.ref qL1b, .ref qL1w, .int 0])), (qL1b, .inl (G.2.2.1, 16, .inr (.inl (fun _ => 0)))), (qL1w, .inl (G.2.1, 16, .inl (fun _ => 0)))] ++ rws G qR (fun _ _ => 0))) hP hD [0] [] rfl rfl (by decide) (by decide) hk1 hFc hB hBD
  generalize H1 = H at hP hS ⊢
  have hP : va_P G.1 vwCl ([(qX, .inr (7, [.ref qB, .ref qH, .ref qK, .ref qV, .ref qS, .ref qW])), (qB, .inr (0, [.ref qBT, .ref qBC, .ref qBN, .ref qBW, .ref qBL, .int r.1, .int r.2.1, .int r.2.2.1])), (qBT, .inl (G.2.1, 16, .inl r.2.2.2.1)), (qBC, .inl (G.2.1, 16, .inl r.2.2.2.2.1)), (qBN, .inl (G.2.1, 64, .inl r.2.2.2.2.2.1)), (qBW, .inl (G.2.1, 64, .inl r.2.2.2.2.2.2)), (qBL, .inl (G.2.1, 16, .inl (fun _ => 0))), (qH, .inr (2, [.ref qHM, .int 0, .int 0])), (qHM, .inl (G.2.1, 512, .inl (fun _ => 0))), (qK, .inr (3, [.ref qB, .ref qKC, .ref qKS, .int 0, .int 0])), (qKC, .inl (G.2.1, 32, .inl (fun _ => 0))), (qKS, .inl (G.2.1, 32, .inl (fun _ => 0))), (qV, .inr (5, [.ref qB, .ref qVL, .ref qVS, .ref qVA, .ref qVT])), (qVL, .inl (G.2.1, 16, .inl (fun _ => 0))), (qVS, .inl (G.2.1, 16, .inl (fun _ => 0))), (qVA, .inl (G.2.1, 16, .inl (fun _ => 0))), (qVT, .inl (G.2.1, 16, .inl (fun _ => 0))), (qS, .inr (4, [.ref qB, .ref qV, .ref qSR, .ref qSI, .ref qSP, .ref qSF, .int 0, .int 0])), (qSR, .inl (G.2.1, 16, .inl (fun _ => 0))), (qSI, .inl (G.2.1, 16, .inl (fun _ => 0))), (qSP, .inl (G.2.2.2.2, 17, .inr (.inr (.inr (.inr (outR qR)))))), (qSF, .inl (G.2.1, 16, .inl (fun _ => 0))), (qW, .inr (6, [.ref qB, .ref qWP, .ref qWN, .ref qL0, .ref qL1])), (qWP, .inl (G.2.1, 12, .inl (fun _ => 0))), (qWN, .inl (G.2.1, 16, .inl (fun _ => 0))), (qL0, .inr (1, [.ref qL0b, .ref qL0w, .int 0])), (qL0b, .inl (G.2.2.1, 16, .inr (.inl (fun _ => 0)))), (qL0w, .inl (G.2.1, 16, .inl (fun _ => 0))), (qL1, .inr (1, [.ref qL1b, .ref qL1w, .int 0])), (qL1b, .inl (G.2.2.1, 16, .inr (.inl (fun _ => 0)))), (qL1w, .inl (G.2.1, 16, .inl (fun _ => 0)))] ++ rws G qR (fun _ _ => 0)) H := hP
  have hD : va_D A ([(qX, .inr (7, [.ref qB, .ref qH, .ref qK, .ref qV, .ref qS, .ref qW])), (qB, .inr (0, [.ref qBT, .ref qBC, .ref qBN, .ref qBW, .ref qBL, .int r.1, .int r.2.1, .int r.2.2.1])), (qBT, .inl (G.2.1, 16, .inl r.2.2.2.1)), (qBC, .inl (G.2.1, 16, .inl r.2.2.2.2.1)), (qBN, .inl (G.2.1, 64, .inl r.2.2.2.2.2.1)), (qBW, .inl (G.2.1, 64, .inl r.2.2.2.2.2.2)), (qBL, .inl (G.2.1, 16, .inl (fun _ => 0))), (qH, .inr (2, [.ref qHM, .int 0, .int 0])), (qHM, .inl (G.2.1, 512, .inl (fun _ => 0))), (qK, .inr (3, [.ref qB, .ref qKC, .ref qKS, .int 0, .int 0])), (qKC, .inl (G.2.1, 32, .inl (fun _ => 0))), (qKS, .inl (G.2.1, 32, .inl (fun _ => 0))), (qV, .inr (5, [.ref qB, .ref qVL, .ref qVS, .ref qVA, .ref qVT])), (qVL, .inl (G.2.1, 16, .inl (fun _ => 0))), (qVS, .inl (G.2.1, 16, .inl (fun _ => 0))), (qVA, .inl (G.2.1, 16, .inl (fun _ => 0))), (qVT, .inl (G.2.1, 16, .inl (fun _ => 0))), (qS, .inr (4, [.ref qB, .ref qV, .ref qSR, .ref qSI, .ref qSP, .ref qSF, .int 0, .int 0])), (qSR, .inl (G.2.1, 16, .inl (fun _ => 0))), (qSI, .inl (G.2.1, 16, .inl (fun _ => 0))), (qSP, .inl (G.2.2.2.2, 17, .inr (.inr (.inr (.inr (outR qR)))))), (qSF, .inl (G.2.1, 16, .inl (fun _ => 0))), (qW, .inr (6, [.ref qB, .ref qWP, .ref qWN, .ref qL0, .ref qL1])), (qWP, .inl (G.2.1, 12, .inl (fun _ => 0))), (qWN, .inl (G.2.1, 16, .inl (fun _ => 0))), (qL0, .inr (1, [.ref qL0b, .ref qL0w, .int 0])), (qL0b, .inl (G.2.2.1, 16, .inr (.inl (fun _ => 0)))), (qL0w, .inl (G.2.1, 16, .inl (fun _ => 0))), (qL1, .inr (1, [.ref qL1b, .ref qL1w, .int 0])), (qL1b, .inl (G.2.2.1, 16, .inr (.inl (fun _ => 0)))), (qL1w, .inl (G.2.1, 16, .inl (fun _ => 0)))] ++ rws G qR (fun _ _ => 0)) := hD
  refine lv_astore_n (lv' := [(1, .ref qX), (0, .ref b)]) hx hb dL_law_7 rfl hl (by decide) rfl (fun ls hl => ?_)
  refine lv_bipush (v := 64) hx hb dL_law_8 (by decide) ?_
  refine va_newa (atype := .int) (ty := .int) (a0 := (64, .inl (fun _ => 0))) (N' := 64) hx hb (hts (.arrayClass .int) (by decide +kernel)) rfl hK hP hD hS hA (fun _ => rfl) (by decide) (by decide) (Nat.le_of_ble_eq_true rfl) (Nat.le_of_ble_eq_true rfl) (Nat.le_of_ble_eq_true rfl) dL_law_10 (fun qTT cA H hK1 hP hD hS => ?_)
  obtain rfl := tyI hK1
  have hP := va_P.swap hP
  have hD := va_D.swap hD
  have hP : va_P G.1 vwCl ([(qX, .inr (7, [.ref qB, .ref qH, .ref qK, .ref qV, .ref qS, .ref qW])), (qB, .inr (0, [.ref qBT, .ref qBC, .ref qBN, .ref qBW, .ref qBL, .int r.1, .int r.2.1, .int r.2.2.1])), (qBT, .inl (G.2.1, 16, .inl r.2.2.2.1)), (qBC, .inl (G.2.1, 16, .inl r.2.2.2.2.1)), (qBN, .inl (G.2.1, 64, .inl r.2.2.2.2.2.1)), (qBW, .inl (G.2.1, 64, .inl r.2.2.2.2.2.2)), (qBL, .inl (G.2.1, 16, .inl (fun _ => 0))), (qH, .inr (2, [.ref qHM, .int 0, .int 0])), (qHM, .inl (G.2.1, 512, .inl (fun _ => 0))), (qK, .inr (3, [.ref qB, .ref qKC, .ref qKS, .int 0, .int 0])), (qKC, .inl (G.2.1, 32, .inl (fun _ => 0))), (qKS, .inl (G.2.1, 32, .inl (fun _ => 0))), (qV, .inr (5, [.ref qB, .ref qVL, .ref qVS, .ref qVA, .ref qVT])), (qVL, .inl (G.2.1, 16, .inl (fun _ => 0))), (qVS, .inl (G.2.1, 16, .inl (fun _ => 0))), (qVA, .inl (G.2.1, 16, .inl (fun _ => 0))), (qVT, .inl (G.2.1, 16, .inl (fun _ => 0))), (qS, .inr (4, [.ref qB, .ref qV, .ref qSR, .ref qSI, .ref qSP, .ref qSF, .int 0, .int 0])), (qSR, .inl (G.2.1, 16, .inl (fun _ => 0))), (qSI, .inl (G.2.1, 16, .inl (fun _ => 0))), (qSP, .inl (G.2.2.2.2, 17, .inr (.inr (.inr (.inr (outR qR)))))), (qSF, .inl (G.2.1, 16, .inl (fun _ => 0))), (qW, .inr (6, [.ref qB, .ref qWP, .ref qWN, .ref qL0, .ref qL1])), (qWP, .inl (G.2.1, 12, .inl (fun _ => 0))), (qWN, .inl (G.2.1, 16, .inl (fun _ => 0))), (qL0, .inr (1, [.ref qL0b, .ref qL0w, .int 0])), (qL0b, .inl (G.2.2.1, 16, .inr (.inl (fun _ => 0)))), (qL0w, .inl (G.2.1, 16, .inl (fun _ => 0))), (qL1, .inr (1, [.ref qL1b, .ref qL1w, .int 0])), (qL1b, .inl (G.2.2.1, 16, .inr (.inl (fun _ => 0)))), (qL1w, .inl (G.2.1, 16, .inl (fun _ => 0))), (qTT, .inl (G.2.1, 64, .inl (fun _ => 0)))] ++ rws G qR (fun _ _ => 0)) H := hP
  have hD : va_D A ([(qX, .inr (7, [.ref qB, .ref qH, .ref qK, .ref qV, .ref qS, .ref qW])), (qB, .inr (0, [.ref qBT, .ref qBC, .ref qBN, .ref qBW, .ref qBL, .int r.1, .int r.2.1, .int r.2.2.1])), (qBT, .inl (G.2.1, 16, .inl r.2.2.2.1)), (qBC, .inl (G.2.1, 16, .inl r.2.2.2.2.1)), (qBN, .inl (G.2.1, 64, .inl r.2.2.2.2.2.1)), (qBW, .inl (G.2.1, 64, .inl r.2.2.2.2.2.2)), (qBL, .inl (G.2.1, 16, .inl (fun _ => 0))), (qH, .inr (2, [.ref qHM, .int 0, .int 0])), (qHM, .inl (G.2.1, 512, .inl (fun _ => 0))), (qK, .inr (3, [.ref qB, .ref qKC, .ref qKS, .int 0, .int 0])), (qKC, .inl (G.2.1, 32, .inl (fun _ => 0))), (qKS, .inl (G.2.1, 32, .inl (fun _ => 0))), (qV, .inr (5, [.ref qB, .ref qVL, .ref qVS, .ref qVA, .ref qVT])), (qVL, .inl (G.2.1, 16, .inl (fun _ => 0))), (qVS, .inl (G.2.1, 16, .inl (fun _ => 0))), (qVA, .inl (G.2.1, 16, .inl (fun _ => 0))), (qVT, .inl (G.2.1, 16, .inl (fun _ => 0))), (qS, .inr (4, [.ref qB, .ref qV, .ref qSR, .ref qSI, .ref qSP, .ref qSF, .int 0, .int 0])), (qSR, .inl (G.2.1, 16, .inl (fun _ => 0))), (qSI, .inl (G.2.1, 16, .inl (fun _ => 0))), (qSP, .inl (G.2.2.2.2, 17, .inr (.inr (.inr (.inr (outR qR)))))), (qSF, .inl (G.2.1, 16, .inl (fun _ => 0))), (qW, .inr (6, [.ref qB, .ref qWP, .ref qWN, .ref qL0, .ref qL1])), (qWP, .inl (G.2.1, 12, .inl (fun _ => 0))), (qWN, .inl (G.2.1, 16, .inl (fun _ => 0))), (qL0, .inr (1, [.ref qL0b, .ref qL0w, .int 0])), (qL0b, .inl (G.2.2.1, 16, .inr (.inl (fun _ => 0)))), (qL0w, .inl (G.2.1, 16, .inl (fun _ => 0))), (qL1, .inr (1, [.ref qL1b, .ref qL1w, .int 0])), (qL1b, .inl (G.2.2.1, 16, .inr (.inl (fun _ => 0)))), (qL1w, .inl (G.2.1, 16, .inl (fun _ => 0))), (qTT, .inl (G.2.1, 64, .inl (fun _ => 0)))] ++ rws G qR (fun _ _ => 0)) := hD
  refine lv_astore_n (lv' := [(2, .ref qTT), (1, .ref qX), (0, .ref b)]) hx hb dL_law_12 rfl hl (by decide) rfl (fun ls hl => ?_)
  refine lv_bipush (v := 16) hx hb dL_law_13 (by decide) ?_
  refine va_newa (atype := .int) (ty := .int) (a0 := (16, .inl (fun _ => 0))) (N' := 16) hx hb (hts (.arrayClass .int) (by decide +kernel)) rfl hK hP hD hS hA (fun _ => rfl) (by decide) (by decide) (Nat.le_of_ble_eq_true rfl) (Nat.le_of_ble_eq_true rfl) (Nat.le_of_ble_eq_true rfl) dL_law_15 (fun qTW cA H hK1 hP hD hS => ?_)
  obtain rfl := tyI hK1
  have hP := va_P.swap hP
  have hD := va_D.swap hD
  have hP : va_P G.1 vwCl ([(qX, .inr (7, [.ref qB, .ref qH, .ref qK, .ref qV, .ref qS, .ref qW])), (qB, .inr (0, [.ref qBT, .ref qBC, .ref qBN, .ref qBW, .ref qBL, .int r.1, .int r.2.1, .int r.2.2.1])), (qBT, .inl (G.2.1, 16, .inl r.2.2.2.1)), (qBC, .inl (G.2.1, 16, .inl r.2.2.2.2.1)), (qBN, .inl (G.2.1, 64, .inl r.2.2.2.2.2.1)), (qBW, .inl (G.2.1, 64, .inl r.2.2.2.2.2.2)), (qBL, .inl (G.2.1, 16, .inl (fun _ => 0))), (qH, .inr (2, [.ref qHM, .int 0, .int 0])), (qHM, .inl (G.2.1, 512, .inl (fun _ => 0))), (qK, .inr (3, [.ref qB, .ref qKC, .ref qKS, .int 0, .int 0])), (qKC, .inl (G.2.1, 32, .inl (fun _ => 0))), (qKS, .inl (G.2.1, 32, .inl (fun _ => 0))), (qV, .inr (5, [.ref qB, .ref qVL, .ref qVS, .ref qVA, .ref qVT])), (qVL, .inl (G.2.1, 16, .inl (fun _ => 0))), (qVS, .inl (G.2.1, 16, .inl (fun _ => 0))), (qVA, .inl (G.2.1, 16, .inl (fun _ => 0))), (qVT, .inl (G.2.1, 16, .inl (fun _ => 0))), (qS, .inr (4, [.ref qB, .ref qV, .ref qSR, .ref qSI, .ref qSP, .ref qSF, .int 0, .int 0])), (qSR, .inl (G.2.1, 16, .inl (fun _ => 0))), (qSI, .inl (G.2.1, 16, .inl (fun _ => 0))), (qSP, .inl (G.2.2.2.2, 17, .inr (.inr (.inr (.inr (outR qR)))))), (qSF, .inl (G.2.1, 16, .inl (fun _ => 0))), (qW, .inr (6, [.ref qB, .ref qWP, .ref qWN, .ref qL0, .ref qL1])), (qWP, .inl (G.2.1, 12, .inl (fun _ => 0))), (qWN, .inl (G.2.1, 16, .inl (fun _ => 0))), (qL0, .inr (1, [.ref qL0b, .ref qL0w, .int 0])), (qL0b, .inl (G.2.2.1, 16, .inr (.inl (fun _ => 0)))), (qL0w, .inl (G.2.1, 16, .inl (fun _ => 0))), (qL1, .inr (1, [.ref qL1b, .ref qL1w, .int 0])), (qL1b, .inl (G.2.2.1, 16, .inr (.inl (fun _ => 0)))), (qL1w, .inl (G.2.1, 16, .inl (fun _ => 0))), (qTT, .inl (G.2.1, 64, .inl (fun _ => 0))), (qTW, .inl (G.2.1, 16, .inl (fun _ => 0)))] ++ rws G qR (fun _ _ => 0)) H := hP
  have hD : va_D A ([(qX, .inr (7, [.ref qB, .ref qH, .ref qK, .ref qV, .ref qS, .ref qW])), (qB, .inr (0, [.ref qBT, .ref qBC, .ref qBN, .ref qBW, .ref qBL, .int r.1, .int r.2.1, .int r.2.2.1])), (qBT, .inl (G.2.1, 16, .inl r.2.2.2.1)), (qBC, .inl (G.2.1, 16, .inl r.2.2.2.2.1)), (qBN, .inl (G.2.1, 64, .inl r.2.2.2.2.2.1)), (qBW, .inl (G.2.1, 64, .inl r.2.2.2.2.2.2)), (qBL, .inl (G.2.1, 16, .inl (fun _ => 0))), (qH, .inr (2, [.ref qHM, .int 0, .int 0])), (qHM, .inl (G.2.1, 512, .inl (fun _ => 0))), (qK, .inr (3, [.ref qB, .ref qKC, .ref qKS, .int 0, .int 0])), (qKC, .inl (G.2.1, 32, .inl (fun _ => 0))), (qKS, .inl (G.2.1, 32, .inl (fun _ => 0))), (qV, .inr (5, [.ref qB, .ref qVL, .ref qVS, .ref qVA, .ref qVT])), (qVL, .inl (G.2.1, 16, .inl (fun _ => 0))), (qVS, .inl (G.2.1, 16, .inl (fun _ => 0))), (qVA, .inl (G.2.1, 16, .inl (fun _ => 0))), (qVT, .inl (G.2.1, 16, .inl (fun _ => 0))), (qS, .inr (4, [.ref qB, .ref qV, .ref qSR, .ref qSI, .ref qSP, .ref qSF, .int 0, .int 0])), (qSR, .inl (G.2.1, 16, .inl (fun _ => 0))), (qSI, .inl (G.2.1, 16, .inl (fun _ => 0))), (qSP, .inl (G.2.2.2.2, 17, .inr (.inr (.inr (.inr (outR qR)))))), (qSF, .inl (G.2.1, 16, .inl (fun _ => 0))), (qW, .inr (6, [.ref qB, .ref qWP, .ref qWN, .ref qL0, .ref qL1])), (qWP, .inl (G.2.1, 12, .inl (fun _ => 0))), (qWN, .inl (G.2.1, 16, .inl (fun _ => 0))), (qL0, .inr (1, [.ref qL0b, .ref qL0w, .int 0])), (qL0b, .inl (G.2.2.1, 16, .inr (.inl (fun _ => 0)))), (qL0w, .inl (G.2.1, 16, .inl (fun _ => 0))), (qL1, .inr (1, [.ref qL1b, .ref qL1w, .int 0])), (qL1b, .inl (G.2.2.1, 16, .inr (.inl (fun _ => 0)))), (qL1w, .inl (G.2.1, 16, .inl (fun _ => 0))), (qTT, .inl (G.2.1, 64, .inl (fun _ => 0))), (qTW, .inl (G.2.1, 16, .inl (fun _ => 0)))] ++ rws G qR (fun _ _ => 0)) := hD
  refine lv_astore_n (lv' := [(3, .ref qTW), (2, .ref qTT), (1, .ref qX), (0, .ref b)]) hx hb dL_law_17 rfl hl (by decide) rfl (fun ls hl => ?_)
  obtain ⟨s1, s2, ⟨r2, hq2, e2, r5, hq5, e5⟩, s3⟩ := L_start (bL := fun _ => 0) hB0 hF.1
  refine W.widen (k := 100) (n := 6000) (Nat.le_of_ble_eq_true rfl) (Nat.le_of_ble_eq_true rfl) ?_
  refine lv_aload_n hx hb dL_law_18 rfl (lv_at hl 2 rfl) ?_
  have hPc := hP.sub (ws' := [(qX, .inr (7, [.ref qB, .ref qH, .ref qK, .ref qV, .ref qS, .ref qW])), (qB, .inr (0, [.ref qBT, .ref qBC, .ref qBN, .ref qBW, .ref qBL, .int r.1, .int r.2.1, .int r.2.2.1]))]) [0, 1] rfl
  have hKc := hK
  refine vp_callSi (va_Run.run (va_runV (As := []) (rest := []) ⟨hx, hb, hml, hown, hts⟩ (tX7_size G l s1) (cwV 0 hts GL_law_X7_size rfl rfl rfl (by decide +kernel) ⟨Nat.le_of_ble_eq_true rfl, Nat.le_of_ble_eq_true rfl⟩) ⟨pcP_blind, va_recv hKc hPc (ci := 7) (q0 := 0) rfl rfl, pcP_pre hPc hKK⟩ rfl rfl hl.1 rfl (lv_room (Nat.le_of_ble_eq_true rfl)) dL_law_19 ⟨(by show 100 + 0 ≤ 600104; omega), (by show 6000 + 0 ≤ 7301313; omega)⟩)) (fun r0 hr0 => ?_)
  obtain rfl := hr0
  refine lv_bipush (v := 9) hx hb dL_law_22 (by decide) ?_
  refine lv_icmp_ne (tgt := 70) hx hb dL_law_24 (by decide) (fun c_9 => absurd rfl c_9) (fun c_9 => ?_)
  refine lv_aload_n hx hb dL_law_27 rfl (lv_at hl 2 rfl) ?_
  refine lv_iconst (v := 0) hx hb dL_law_28 (by decide) ?_
  refine lv_iconst (v := 0) hx hb dL_law_29 (by decide) ?_
  have hPc := hP.sub (ws' := [(qX, .inr (7, [.ref qB, .ref qH, .ref qK, .ref qV, .ref qS, .ref qW])), (qB, .inr (0, [.ref qBT, .ref qBC, .ref qBN, .ref qBW, .ref qBL, .int r.1, .int r.2.1, .int r.2.2.1])), (qBN, .inl (G.2.1, 64, .inl r.2.2.2.2.2.1))]) [0, 1, 4] rfl
  have hDc := hD.sub (ws' := [(qX, .inr (7, [.ref qB, .ref qH, .ref qK, .ref qV, .ref qS, .ref qW])), (qB, .inr (0, [.ref qBT, .ref qBC, .ref qBN, .ref qBW, .ref qBL, .int r.1, .int r.2.1, .int r.2.2.1])), (qBN, .inl (G.2.1, 64, .inl r.2.2.2.2.2.1))]) [0, 1, 4] (by decide) rfl
  have hFc := va_free (wc := [(qX, .inr (7, [.ref qB, .ref qH, .ref qK, .ref qV, .ref qS, .ref qW])), (qB, .inr (0, [.ref qBT, .ref qBC, .ref qBN, .ref qBW, .ref qBL, .int r.1, .int r.2.1, .int r.2.2.1])), (qBN, .inl (G.2.1, 64, .inl r.2.2.2.2.2.1))]) hD hS hA [0, 1, 4] rfl
  have hKc := hK
  refine va_calli (va_runV (As := [.int 0, .int 0]) (rest := []) ⟨hx, hb, hml, hown, hts⟩ (tX7_neighbour G l s2) (cwV 2 hts GL_law_X7_neighbour rfl rfl rfl (by decide +kernel) ⟨Nat.le_of_ble_eq_true rfl, Nat.le_of_ble_eq_true rfl⟩) ⟨pcW_blind, va_recv hKc hPc (ci := 7) (q0 := 0) rfl rfl, pcW_pre hPc hKK hDc⟩ rfl rfl hl.1 rfl (lv_room (Nat.le_of_ble_eq_true rfl)) dL_law_30 ⟨(by show 100 + 0 ≤ 600104; omega), (by show 6000 + 0 ≤ 7301313; omega)⟩) hS (fun q _ h => hFc q h) hFc (fun r0 u t H1 locs ht hvm hw hB hz1 hk1 hS => ?_)
  obtain rfl := hw
  have hB := va_Pto ht hB
  obtain ⟨hP, hD⟩ := jnL (X' := [(qX, .inr (7, [.ref qB, .ref qH, .ref qK, .ref qV, .ref qS, .ref qW])), (qB, .inr (0, [.ref qBT, .ref qBC, .ref qBN, .ref qBW, .ref qBL, .int r.1, .int r.2.1, .int r.2.2.1])), (qBT, .inl (G.2.1, 16, .inl r.2.2.2.1)), (qBC, .inl (G.2.1, 16, .inl r.2.2.2.2.1)), (qBN, .inl (G.2.1, 64, .inl r.2.2.2.2.2.1)), (qBW, .inl (G.2.1, 64, .inl r.2.2.2.2.2.2)), (qBL, .inl (G.2.1, 16, .inl (fun _ => 0))), (qH, .inr (2, [.ref qHM, .int 0, .int 0])), (qHM, .inl (G.2.1, 512, .inl (fun _ => 0))), (qK, .inr (3, [.ref qB, .ref qKC, .ref qKS, .int 0, .int 0])), (qKC, .inl (G.2.1, 32, .inl (fun _ => 0))), (qKS, .inl (G.2.1, 32, .inl (fun _ => 0))), (qV, .inr (5, [.ref qB, .ref qVL, .ref qVS, .ref qVA, .ref qVT])), (qVL, .inl (G.2.1, 16, .inl (fun _ => 0))), (qVS, .inl (G.2.1, 16, .inl (fun _ => 0))), (qVA, .inl (G.2.1, 16, .inl (fun _ => 0))), (qVT, .inl (G.2.1, 16, .inl (fun _ => 0))), (qS, .inr (4, [.ref qB, .ref qV, .ref qSR, .ref qSI, .ref qSP, .ref qSF, .int 0, .int 0])), (qSR, .inl (G.2.1, 16, .inl (fun _ => 0))), (qSI, .inl (G.2.1, 16, .inl (fun _ => 0))), (qSP, .inl (G.2.2.2.2, 17, .inr (.inr (.inr (.inr (outR qR)))))), (qSF, .inl (G.2.1, 16, .inl (fun _ => 0))), (qW, .inr (6, [.ref qB, .ref qWP, .ref qWN, .ref qL0, .ref qL1])), (qWP, .inl (G.2.1, 12, .inl (fun _ => 0))), (qWN, .inl (G.2.1, 16, .inl (fun _ => 0))), (qL0, .inr (1, [.ref qL0b, .ref qL0w, .int 0])), (qL0b, .inl (G.2.2.1, 16, .inr (.inl (fun _ => 0)))), (qL0w, .inl (G.2.1, 16, .inl (fun _ => 0))), (qL1, .inr (1, [.ref qL1b, .ref qL1w, .int 0])), (qL1b, .inl (G.2.2.1, 16, .inr (.inl (fun _ => 0)))), (qL1w, .inl (G.2.1, 16, .inl (fun _ => 0))), (qTT, .inl (G.2.1, 64, .inl (fun _ => 0))), (qTW, .inl (G.2.1, 16, .inl (fun _ => 0)))]) hP hD hk1 hB [0, 1, 4] rfl rfl (by simp only [setAll, List.set_cons_zero, List.set_cons_succ]) rfl
  generalize H1 = H at hP hS ⊢
  refine lv_iconst (v := (-1)) hx hb dL_law_33 (by decide) ?_
  refine lv_icmp_ne (tgt := 70) hx hb dL_law_34 (by decide) (fun c_9 => absurd rfl c_9) (fun c_9 => ?_)
  refine lv_aload_n hx hb dL_law_37 rfl (lv_at hl 2 rfl) ?_
  have hPc := hP.sub (ws' := [(qX, .inr (7, [.ref qB, .ref qH, .ref qK, .ref qV, .ref qS, .ref qW])), (qB, .inr (0, [.ref qBT, .ref qBC, .ref qBN, .ref qBW, .ref qBL, .int r.1, .int r.2.1, .int r.2.2.1])), (qBT, .inl (G.2.1, 16, .inl r.2.2.2.1)), (qBW, .inl (G.2.1, 64, .inl r.2.2.2.2.2.2)), (qBL, .inl (G.2.1, 16, .inl (fun _ => 0)))]) [0, 1, 2, 5, 6] rfl
  have hDc := hD.sub (ws' := [(qX, .inr (7, [.ref qB, .ref qH, .ref qK, .ref qV, .ref qS, .ref qW])), (qB, .inr (0, [.ref qBT, .ref qBC, .ref qBN, .ref qBW, .ref qBL, .int r.1, .int r.2.1, .int r.2.2.1])), (qBT, .inl (G.2.1, 16, .inl r.2.2.2.1)), (qBW, .inl (G.2.1, 64, .inl r.2.2.2.2.2.2)), (qBL, .inl (G.2.1, 16, .inl (fun _ => 0)))]) [0, 1, 2, 5, 6] (by decide) rfl
  have hFc := va_free (wc := [(qX, .inr (7, [.ref qB, .ref qH, .ref qK, .ref qV, .ref qS, .ref qW])), (qB, .inr (0, [.ref qBT, .ref qBC, .ref qBN, .ref qBW, .ref qBL, .int r.1, .int r.2.1, .int r.2.2.1])), (qBT, .inl (G.2.1, 16, .inl r.2.2.2.1)), (qBW, .inl (G.2.1, 64, .inl r.2.2.2.2.2.2)), (qBL, .inl (G.2.1, 16, .inl (fun _ => 0)))]) hD hS hA [0, 1, 2, 5, 6] rfl
  have hKc := hK
  refine va_calli (va_runV (As := []) (rest := []) ⟨hx, hb, hml, hown, hts⟩ (tX7_watered G l hq2) (cwV 0 hts GL_law_X7_watered rfl rfl rfl (by decide +kernel) ⟨Nat.le_of_ble_eq_true rfl, Nat.le_of_ble_eq_true rfl⟩) ⟨pcW_blind, va_recv hKc hPc (ci := 7) (q0 := 0) rfl rfl, pcW_pre hPc hKK hDc⟩ rfl rfl hl.1 rfl (lv_room (Nat.le_of_ble_eq_true rfl)) dL_law_38 ⟨(by show 100 + 0 + 0 ≤ 600104; omega), (by show 6000 + 0 + 0 ≤ 7301313; omega)⟩) hS (fun q _ h => hFc q h) hFc (fun r0 u t H1 locs ht hvm hw hB hz1 hk1 hS => ?_)
  obtain rfl := hw
  have hB := va_Pto ht hB
  obtain ⟨hP, hD⟩ := jnL (X' := [(qX, .inr (7, [.ref qB, .ref qH, .ref qK, .ref qV, .ref qS, .ref qW])), (qB, .inr (0, [.ref qBT, .ref qBC, .ref qBN, .ref qBW, .ref qBL, .int r.1, .int r.2.1, .int r.2.2.1])), (qBT, .inl (G.2.1, 16, .inl r.2.2.2.1)), (qBC, .inl (G.2.1, 16, .inl r.2.2.2.2.1)), (qBN, .inl (G.2.1, 64, .inl r.2.2.2.2.2.1)), (qBW, .inl (G.2.1, 64, .inl r.2.2.2.2.2.2)), (qBL, .inl (G.2.1, 16, .inl r2.2)), (qH, .inr (2, [.ref qHM, .int 0, .int 0])), (qHM, .inl (G.2.1, 512, .inl (fun _ => 0))), (qK, .inr (3, [.ref qB, .ref qKC, .ref qKS, .int 0, .int 0])), (qKC, .inl (G.2.1, 32, .inl (fun _ => 0))), (qKS, .inl (G.2.1, 32, .inl (fun _ => 0))), (qV, .inr (5, [.ref qB, .ref qVL, .ref qVS, .ref qVA, .ref qVT])), (qVL, .inl (G.2.1, 16, .inl (fun _ => 0))), (qVS, .inl (G.2.1, 16, .inl (fun _ => 0))), (qVA, .inl (G.2.1, 16, .inl (fun _ => 0))), (qVT, .inl (G.2.1, 16, .inl (fun _ => 0))), (qS, .inr (4, [.ref qB, .ref qV, .ref qSR, .ref qSI, .ref qSP, .ref qSF, .int 0, .int 0])), (qSR, .inl (G.2.1, 16, .inl (fun _ => 0))), (qSI, .inl (G.2.1, 16, .inl (fun _ => 0))), (qSP, .inl (G.2.2.2.2, 17, .inr (.inr (.inr (.inr (outR qR)))))), (qSF, .inl (G.2.1, 16, .inl (fun _ => 0))), (qW, .inr (6, [.ref qB, .ref qWP, .ref qWN, .ref qL0, .ref qL1])), (qWP, .inl (G.2.1, 12, .inl (fun _ => 0))), (qWN, .inl (G.2.1, 16, .inl (fun _ => 0))), (qL0, .inr (1, [.ref qL0b, .ref qL0w, .int 0])), (qL0b, .inl (G.2.2.1, 16, .inr (.inl (fun _ => 0)))), (qL0w, .inl (G.2.1, 16, .inl (fun _ => 0))), (qL1, .inr (1, [.ref qL1b, .ref qL1w, .int 0])), (qL1b, .inl (G.2.2.1, 16, .inr (.inl (fun _ => 0)))), (qL1w, .inl (G.2.1, 16, .inl (fun _ => 0))), (qTT, .inl (G.2.1, 64, .inl (fun _ => 0))), (qTW, .inl (G.2.1, 16, .inl (fun _ => 0)))]) hP hD hk1 hB [0, 1, 2, 5, 6] rfl rfl (by simp only [setAll, List.set_cons_zero, List.set_cons_succ]) rfl
  generalize H1 = H at hP hS ⊢
  refine lv_iconst (v := 1) hx hb dL_law_41 (by decide) ?_
  refine lv_icmp_ne (tgt := 70) hx hb dL_law_42 (by decide) (fun c_9 => absurd e2 c_9) (fun c_9 => ?_)
  refine lv_aload_n hx hb dL_law_45 rfl (lv_at hl 2 rfl) ?_
  have hPc := hP.sub (ws' := [(qX, .inr (7, [.ref qB, .ref qH, .ref qK, .ref qV, .ref qS, .ref qW])), (qB, .inr (0, [.ref qBT, .ref qBC, .ref qBN, .ref qBW, .ref qBL, .int r.1, .int r.2.1, .int r.2.2.1])), (qBT, .inl (G.2.1, 16, .inl r.2.2.2.1)), (qBW, .inl (G.2.1, 64, .inl r.2.2.2.2.2.2))]) [0, 1, 2, 5] rfl
  have hKc := hK
  refine vp_callSi (va_Run.run (va_runV (As := []) (rest := []) ⟨hx, hb, hml, hown, hts⟩ (tX7_loose G l s3) (cwV 0 hts GL_law_X7_loose rfl rfl rfl (by decide +kernel) ⟨Nat.le_of_ble_eq_true rfl, Nat.le_of_ble_eq_true rfl⟩) ⟨pcP_blind, va_recv hKc hPc (ci := 7) (q0 := 0) rfl rfl, pcP_pre hPc hKK⟩ rfl rfl hl.1 rfl (lv_room (Nat.le_of_ble_eq_true rfl)) dL_law_46 ⟨(by show 100 + 0 + 0 + 0 ≤ 600104; omega), (by show 6000 + 0 + 0 + 0 ≤ 7301313; omega)⟩)) (fun r0 hr0 => ?_)
  obtain rfl := hr0
  refine lv_if_ne (tgt := 70) hx hb dL_law_49 (by decide) (fun c_9 => absurd rfl c_9) (fun c_9 => ?_)
  refine lv_aload_n hx hb dL_law_52 rfl (lv_at hl 2 rfl) ?_
  have hPc := hP.sub (ws' := [(qX, .inr (7, [.ref qB, .ref qH, .ref qK, .ref qV, .ref qS, .ref qW])), (qB, .inr (0, [.ref qBT, .ref qBC, .ref qBN, .ref qBW, .ref qBL, .int r.1, .int r.2.1, .int r.2.2.1])), (qBT, .inl (G.2.1, 16, .inl r.2.2.2.1)), (qBW, .inl (G.2.1, 64, .inl r.2.2.2.2.2.2)), (qBL, .inl (G.2.1, 16, .inl r2.2))]) [0, 1, 2, 5, 6] rfl
  have hDc := hD.sub (ws' := [(qX, .inr (7, [.ref qB, .ref qH, .ref qK, .ref qV, .ref qS, .ref qW])), (qB, .inr (0, [.ref qBT, .ref qBC, .ref qBN, .ref qBW, .ref qBL, .int r.1, .int r.2.1, .int r.2.2.1])), (qBT, .inl (G.2.1, 16, .inl r.2.2.2.1)), (qBW, .inl (G.2.1, 64, .inl r.2.2.2.2.2.2)), (qBL, .inl (G.2.1, 16, .inl r2.2))]) [0, 1, 2, 5, 6] (by decide) rfl
  have hFc := va_free (wc := [(qX, .inr (7, [.ref qB, .ref qH, .ref qK, .ref qV, .ref qS, .ref qW])), (qB, .inr (0, [.ref qBT, .ref qBC, .ref qBN, .ref qBW, .ref qBL, .int r.1, .int r.2.1, .int r.2.2.1])), (qBT, .inl (G.2.1, 16, .inl r.2.2.2.1)), (qBW, .inl (G.2.1, 64, .inl r.2.2.2.2.2.2)), (qBL, .inl (G.2.1, 16, .inl r2.2))]) hD hS hA [0, 1, 2, 5, 6] rfl
  have hKc := hK
  refine va_calli (va_runV (As := []) (rest := []) ⟨hx, hb, hml, hown, hts⟩ (tX7_isSolved G l hq5) (cwV 0 hts GL_law_X7_isSolved rfl rfl rfl (by decide +kernel) ⟨Nat.le_of_ble_eq_true rfl, Nat.le_of_ble_eq_true rfl⟩) ⟨pcW_blind, va_recv hKc hPc (ci := 7) (q0 := 0) rfl rfl, pcW_pre hPc hKK hDc⟩ rfl rfl hl.1 rfl (lv_room (Nat.le_of_ble_eq_true rfl)) dL_law_53 ⟨(by show 100 + 0 + 0 + 0 ≤ 600104; omega), (by show 6000 + 0 + 0 + 0 ≤ 7301313; omega)⟩) hS (fun q _ h => hFc q h) hFc (fun r0 u t H1 locs ht hvm hw hB hz1 hk1 hS => ?_)
  obtain rfl := hw
  have hB := va_Pto ht hB
  obtain ⟨hP, hD⟩ := jnL (X' := [(qX, .inr (7, [.ref qB, .ref qH, .ref qK, .ref qV, .ref qS, .ref qW])), (qB, .inr (0, [.ref qBT, .ref qBC, .ref qBN, .ref qBW, .ref qBL, .int r.1, .int r.2.1, .int r.2.2.1])), (qBT, .inl (G.2.1, 16, .inl r.2.2.2.1)), (qBC, .inl (G.2.1, 16, .inl r.2.2.2.2.1)), (qBN, .inl (G.2.1, 64, .inl r.2.2.2.2.2.1)), (qBW, .inl (G.2.1, 64, .inl r.2.2.2.2.2.2)), (qBL, .inl (G.2.1, 16, .inl r5.2)), (qH, .inr (2, [.ref qHM, .int 0, .int 0])), (qHM, .inl (G.2.1, 512, .inl (fun _ => 0))), (qK, .inr (3, [.ref qB, .ref qKC, .ref qKS, .int 0, .int 0])), (qKC, .inl (G.2.1, 32, .inl (fun _ => 0))), (qKS, .inl (G.2.1, 32, .inl (fun _ => 0))), (qV, .inr (5, [.ref qB, .ref qVL, .ref qVS, .ref qVA, .ref qVT])), (qVL, .inl (G.2.1, 16, .inl (fun _ => 0))), (qVS, .inl (G.2.1, 16, .inl (fun _ => 0))), (qVA, .inl (G.2.1, 16, .inl (fun _ => 0))), (qVT, .inl (G.2.1, 16, .inl (fun _ => 0))), (qS, .inr (4, [.ref qB, .ref qV, .ref qSR, .ref qSI, .ref qSP, .ref qSF, .int 0, .int 0])), (qSR, .inl (G.2.1, 16, .inl (fun _ => 0))), (qSI, .inl (G.2.1, 16, .inl (fun _ => 0))), (qSP, .inl (G.2.2.2.2, 17, .inr (.inr (.inr (.inr (outR qR)))))), (qSF, .inl (G.2.1, 16, .inl (fun _ => 0))), (qW, .inr (6, [.ref qB, .ref qWP, .ref qWN, .ref qL0, .ref qL1])), (qWP, .inl (G.2.1, 12, .inl (fun _ => 0))), (qWN, .inl (G.2.1, 16, .inl (fun _ => 0))), (qL0, .inr (1, [.ref qL0b, .ref qL0w, .int 0])), (qL0b, .inl (G.2.2.1, 16, .inr (.inl (fun _ => 0)))), (qL0w, .inl (G.2.1, 16, .inl (fun _ => 0))), (qL1, .inr (1, [.ref qL1b, .ref qL1w, .int 0])), (qL1b, .inl (G.2.2.1, 16, .inr (.inl (fun _ => 0)))), (qL1w, .inl (G.2.1, 16, .inl (fun _ => 0))), (qTT, .inl (G.2.1, 64, .inl (fun _ => 0))), (qTW, .inl (G.2.1, 16, .inl (fun _ => 0)))]) hP hD hk1 hB [0, 1, 2, 5, 6] rfl rfl (by simp only [setAll, List.set_cons_zero, List.set_cons_succ]) rfl
  generalize H1 = H at hP hS ⊢
  refine lv_if_ne (tgt := 70) hx hb dL_law_56 (by decide) (fun c_9 => absurd e5 c_9) (fun c_9 => ?_)
  refine lv_aload_n hx hb dL_law_59 rfl (lv_at hl 2 rfl) ?_
  have hPc := hP.sub (ws' := [(qX, .inr (7, [.ref qB, .ref qH, .ref qK, .ref qV, .ref qS, .ref qW])), (qH, .inr (2, [.ref qHM, .int 0, .int 0]))]) [0, 7] rfl
  have hKc := hK
  refine vp_callSi (va_Run.run (va_runV (As := []) (rest := []) ⟨hx, hb, hml, hown, hts⟩ (tX7_moves G l (F := F) (hd := 0) (r := 0) rfl) (cwV 0 hts GL_law_X7_moves rfl rfl rfl (by decide +kernel) ⟨Nat.le_of_ble_eq_true rfl, Nat.le_of_ble_eq_true rfl⟩) ⟨pcP_blind, va_recv hKc hPc (ci := 7) (q0 := 0) rfl rfl, pcP_pre hPc hKK⟩ rfl rfl hl.1 rfl (lv_room (Nat.le_of_ble_eq_true rfl)) dL_law_60 ⟨(by show 100 + 0 + 0 + 0 + 0 ≤ 600104; omega), (by show 6000 + 0 + 0 + 0 + 0 ≤ 7301313; omega)⟩)) (fun r0 hr0 => ?_)
  obtain rfl := hr0
  refine lv_if_ne (tgt := 70) hx hb dL_law_63 (by decide) (fun c_9 => absurd rfl c_9) (fun c_9 => ?_)
  refine lv_iconst (v := 1) hx hb dL_law_66 (by decide) ?_
  refine lv_goto (tgt := 71) hx hb dL_law_67 (by decide) ?_
  refine lv_istore (lv' := [(4, .int 1), (3, .ref qTW), (2, .ref qTT), (1, .ref qX), (0, .ref b)]) hx hb dL_law_71 hl (by decide) rfl (fun ls hl => ?_)
  have hL3 : (Int32.ofNat L) / 3 = nI (L / 3) := pk_div (d := 3) (by omega) (by decide) (by decide)
  have hP : va_P G.1 vwCl (wLaw G qX qTT qTW qB qBT qBC qBN qBW qBL qH qHM qK qKC qKS qV qVL qVS qVA qVT qS qSR qSI qSP qSF qW qWP qWN qL0 qL0b qL0w qL1 qL1b qL1w qR r.1 r.2.1 r.2.2.1 r.2.2.2.1 r.2.2.2.2.1 r.2.2.2.2.2.1 r.2.2.2.2.2.2 r5.2 0 0 (fun _ => 0) 0 0 (fun _ => 0) (fun _ => 0) (fun _ => 0) (fun _ => 0) (fun _ => 0) (fun _ => 0) 0 0 (fun _ => 0) (fun _ => 0) (fun _ _ => 0) (fun _ => 0) (fun _ => 0) (fun _ => 0) 0 16 (fun _ => 0) 16 (fun _ => 0) 0 16 (fun _ => 0) 16 (fun _ => 0) (fun _ => 0) (fun _ => 0)) H := hP
  have hD : va_D A (wLaw G qX qTT qTW qB qBT qBC qBN qBW qBL qH qHM qK qKC qKS qV qVL qVS qVA qVT qS qSR qSI qSP qSF qW qWP qWN qL0 qL0b qL0w qL1 qL1b qL1w qR r.1 r.2.1 r.2.2.1 r.2.2.2.1 r.2.2.2.2.1 r.2.2.2.2.2.1 r.2.2.2.2.2.2 r5.2 0 0 (fun _ => 0) 0 0 (fun _ => 0) (fun _ => 0) (fun _ => 0) (fun _ => 0) (fun _ => 0) (fun _ => 0) 0 0 (fun _ => 0) (fun _ => 0) (fun _ _ => 0) (fun _ => 0) (fun _ => 0) (fun _ => 0) 0 16 (fun _ => 0) 16 (fun _ => 0) 0 16 (fun _ => 0) 16 (fun _ => 0) (fun _ => 0) (fun _ => 0)) := hD
  have kk : ∀ (K : Nat) (ls : Array Slot), K ≤ 50 → 3 * K ≤ L → lv_has ls 7 [(5, .int (nI K)), (4, .int 1), (3, .ref qTW), (2, .ref qTT), (1, .ref qX), (0, .ref b)] → W p l e room_1 s m #[Value.ref b] below meth c H locs (100 + 0 + 0 + 0) (6000 + 0 + 0 + 0) (lw_Z below #[Value.ref b] s) (F0 m 93 ls []) := by
    intro K ls hK50 hKL hl
    refine lv_iconst (v := 0) hx hb dL_law_93 (by decide) ?_
    refine lv_istore (lv' := [(6, .int 0), (5, .int (nI K)), (4, .int 1), (3, .ref qTW), (2, .ref qTT), (1, .ref qX), (0, .ref b)]) hx hb dL_law_94 hl (by decide) rfl (fun ls hl => ?_)
    have hl : lv_has ls 7 [(6, .int (nI 0)), (5, .int (nI K)), (4, .int 1), (3, .ref qTW), (2, .ref qTT), (1, .ref qX), (0, .ref b)] := hl
    refine W.widen (k := CE 0 (16 + 16)) (n := SE 0 (16 + 16) (16 + 16)) (by decide) (by decide) ?_
    refine lo_loop C hF hK50 hKL hL (fun H' locs' ls' hS' hl' => ?_) K 0 rfl hP hD (LI_0 (by decide) hB0 rfl rfl (fun j hj => rfl) (fun j _ hj => rfl) (fun j hj => rfl)) ⟨rfl, by decide, by decide⟩ ⟨rfl, by decide, by decide⟩ hS hl
    refine lv_iload hx hb dL_law_227 (lv_at hl' 2 rfl) ?_
    refine va_forget (fun q hq => hA0 _ (hS'.2.2 q hq)) ?_
    exact lw_ret hx hb hr hlocks dL_law_229
  refine lv_aload_n hx hb dL_law_73 rfl (lv_at hl 4 rfl) ?_
  refine va_slen hx hb hX hbl hbA hS dL_law_74 ?_
  refine lv_iconst (v := 3) hx hb dL_law_75 (by decide) ?_
  refine lv_idiv hx hb dL_law_76 (by decide) ?_
  rw [hL3]
  refine lv_bipush (v := 50) hx hb dL_law_77 (by decide) ?_
  refine lv_icmp_le (tgt := 87) hx hb dL_law_79 (by decide) (fun c_9 => ?_) (fun c_9 => ?_)
  · refine lv_aload_n hx hb dL_law_87 rfl (lv_at hl 4 rfl) ?_
    refine va_slen hx hb hX hbl hbA hS dL_law_88 ?_
    refine lv_iconst (v := 3) hx hb dL_law_89 (by decide) ?_
    refine lv_idiv hx hb dL_law_90 (by decide) ?_
    rw [hL3]
    refine lv_istore (lv' := [(5, .int (nI (L / 3))), (4, .int 1), (3, .ref qTW), (2, .ref qTT), (1, .ref qX), (0, .ref b)]) hx hb dL_law_91 hl (by decide) rfl (fun ls hl => ?_)
    exact kk (L / 3) ls ((nI_leI (b := 50) (by omega) (by decide)).mp c_9) (by omega) hl
  · have h50 : ¬ L / 3 ≤ 50 := fun x => c_9 (show nI (L / 3) ≤ (50 : Int32) from nI_le x (by decide))
    refine lv_bipush (v := 50) hx hb dL_law_82 (by decide) ?_
    refine lv_goto (tgt := 91) hx hb dL_law_84 (by decide) ?_
    refine lv_istore (lv' := [(5, .int (nI 50)), (4, .int 1), (3, .ref qTW), (2, .ref qTT), (1, .ref qX), (0, .ref b)]) hx hb dL_law_91 hl (by decide) rfl (fun ls hl => ?_)
    exact kk 50 ls (Nat.le_refl 50) (by omega) hl
set_option maxHeartbeats 4000000 in
theorem lw_walk (l : Launch) (hflags : l.flags = flags0) (b : Addr) (xs : List Int32) : MetFree l x (headSpec (Jvm.Cond.code x code maxLocals ret :: tables_1) room_1) (lw_P b xs) (fun _ _ _ _ _ => True) lw_Q := by
  refine MetFree.of_bodyS (code := code) (maxLocals := maxLocals) (ret := ret) (by decide) ?_ ?_
  · intro args s m h hn
    obtain ⟨meth, c, h1, h2, h3, h4, h5, h6, -, -⟩ := Cond.code_spec hn (atoms_spec (ws := Jvm.Cond.code x code maxLocals ret :: tables_1) h _ List.mem_cons_self)
    exact ⟨meth, c, h1, h2, h3, h4, h5, h6⟩
  · intro p e s m args below meth c s₁ B hml0 hP _
    obtain ⟨rfl, hx, hbd, hgv⟩ := hP
    obtain ⟨scr, harrAt, hlist, hof, hsmall⟩ := hx
    obtain ⟨hcb, hkn, -, -⟩ := State.arrayAt?_spec harrAt
    have hown : s.vm.findClass R_law = some m.cls := findClass_of_methodNamed B.named
    have hts0 : ∀ c ∈ (Jvm.Cond.code x code maxLocals ret :: tables_1), c.before #[Value.ref b] s = true := atoms_spec (ws := Jvm.Cond.code x code maxLocals ret :: tables_1) B.pre
    have hts : ∀ w ∈ lw_tbl, w.before #[Value.ref b] s = true := k2_hts_sels lw_privs (fun w hw => hts0 w (List.mem_cons_of_mem _ hw)) lw_privs_ok
    have hml : c.maxLocals = 7 := B.maxLocals_eq (hts0 _ List.mem_cons_self)
    have X₀ : Stand p l e room_1 s m #[Value.ref b] below meth c s₁ [] 0 0 := Stand.of_body B
    have hh0 : s₁.heap = s.heap := by rw [B.state]; rfl
    have hsz : scr.slots.size = xs.length := by rw [← Array.length_toList, hlist, List.length_map]
    have hval : ∀ j : Nat, j < xs.length → scr.slots[j]? = some (.int (xs.getD j 0)) := fun j hj => by
      rw [← Array.getElem?_toList, hlist]
      simp [hj]
    have hbl : b < s.heap.size := (Array.getElem?_eq_some_iff.mp hcb).1
    have hX : va_X b xs.length (fun j => xs.getD j 0) s s.heap := ⟨scr, hcb, hof, hkn, hsz, hval⟩
    have K : W p l e room_1 s m #[Value.ref b] below meth c s₁.heap [] 0 0 (lw_Z below #[Value.ref b] s) (entryFrame m ([Value.ref b] : List Value).toArray 7) := by
      rw [hh0]
      exact whole_start l hflags hbd ⟨B.exec, B.bytes, B.returns, hml, hown, hts, hX, hbl, B.notSynchronized, hgv⟩
    obtain ⟨t, a1, o, b1, b2, b3⟩ := K s₁ rfl X₀
    exact ⟨t, o, a1, b1, b2, b3⟩
theorem lw_pre_spec {args : Array Value} {s : State} (h : (Jvm.Cond.and given_1 narrow_1).before args s = true) (hr : rest_1_c.before args s = true) : ∃ (b : Addr) (xs : List Int32), lw_P b xs args s := by
  have hs := flat_of_before _ h
  have hq := flat_of_before _ hr
  have hc : (Cond.count 1).before args s = true := hs _ (by decide +kernel)
  have harr : (Cond.arrayOf (.arg 0) .int).before args s = true := hs _ (by decide +kernel)
  have hle : (Cond.le (.length (.arg 0)) (.int 260)).before args s = true := hs _ (by decide +kernel)
  have hlen : (Cond.isInt (.length (.arg 0))).before args s = true := hq _ (by decide +kernel)
  have hall : (Cond.all (.arg 0) (.isInt (.elem (.arg 0) (.index 0)))).before args s = true := hq _ (by decide +kernel)
  obtain ⟨b, xs, hb, hx⟩ := State.ints_of_pre rfl harr hlen hall
  have hsm : xs.length < 2 ^ 31 := hx.choose_spec.2.2.2
  have hev : (Term.length (.arg 0)).eval args s none [] s = some (.int xs.length.toInt32) := hx.length_eval hb
  have hv := Cond.le_ints hev (show (Term.int 260).eval args s none [] s = some (.int 260) from rfl)
  have hd : xs.length.toInt32 ≤ 260 := by
    simpa [Cond.before, Cond.holds, hv] using hle
  have hN : xs.length ≤ 260 := (Int32.ofNat_le_ofNat hsm (by decide)).mp (show Int32.ofNat xs.length ≤ Int32.ofNat 260 from hd)
  exact ⟨b, xs, Cond.one_arg hc (show args[0]? = some (.ref b) from hb), hx, hN, h⟩
theorem lw_comes (l : Launch) (hflags : l.flags = flags0) : Comes l x (Jvm.Cond.code x code maxLocals ret :: tables_1) room_1 (fun tb e args s => Calls_1 tb e args s ∧ rest_1 tb e args s ∧ Pre_1 tb e args s)
    (fun _ _ args s o t => lw_Q args s o t) := by
  intro p e ha hc hk s m args below hf hfit hheap happ hpre
  obtain ⟨b, xs, hP⟩ := lw_pre_spec hpre.2.2 hpre.2.1
  obtain ⟨k, o, h1, h2, h3, hQ⟩ := lw_walk l hflags b xs p e ha hc hk s m args below hf ((Spec.applies_iff_loose hf).mp happ).1 hP trivial
  exact ⟨k, o, h1, h2, h3, hQ⟩
theorem lw_frame {s t : State} {o : Outcome} {args : Array Value} (h : Framed s o t [] 600104 7301313) :
    Framed s o t (fieldLocs frame_1_writes args s ++ arrayLocs frame_1_arrays args s ++ staticLocs frame_1_statics s) 600104 7301313 := h
theorem lw_limb (L : Cond) (hL : ∀ (args : Array Value) (s t : State), L.after args s (.returned (some (.int 1))) t = true) :
    ArmFor flags0 classFile x code maxLocals ret World_1 tables_1 room_1 Calls_1 rest_1 Pre_1
      (fun tb e a s o t => postC L tb e a s o t ∧ Framed s o t (fieldLocs frame_1_writes a s ++ arrayLocs frame_1_arrays a s ++ staticLocs frame_1_statics s) 600104 7301313) := by
  intro l hflags _ _ p e ha hc hk s m args below hf hfit hheap happ hpre
  obtain ⟨k, o, h1, h2, h3, rfl, hF⟩ := lw_comes l hflags p e ha hc hk s m args below hf hfit hheap happ hpre
  exact ⟨k, _, h1, h2, h3, hL args s _, lw_frame hF⟩
theorem i_vc : Claimed_1_1 ∧ Claimed_1_2 := ⟨lw_limb limb_1_1 (fun args s t => by simp [limb_1_1, Cond.after, Cond.holds, Cond.value]), lw_limb limb_1_2 (fun args s t => Cond.after_iff.mpr (by
  first | (rw [show limb_1_2 = Cond.eq .result (.int 1) from rfl, Cond.eq_ints (x := 1) (y := 1) rfl rfl]; simp; done) | (simp [limb_1_2, Cond.value, Term.eval]; done)))⟩
