/-! the law's callers of the class (laid by wip/whole/wrap.py) -/
def NC (U : State) : Prop := va_Nc (exN 0) (exN 1) U ∧ va_Nc (exN 2) (exN 1) U
def pcL (G : GG) (W : va_W) (sz : Nat) (av : List Value) : Array Value → State → Prop := va_Pc av (fun U => U.heap.size = sz ∧ va_P G.1 vwCl W U.heap ∧ KK G U ∧ va_D (fun _ => True) W ∧ TH (va_A W sz) U U.heap ∧ NC U)
theorem pcL_blind {G : GG} {W : va_W} {sz : Nat} {av : List Value} : FrameBlind (pcL G W sz av) := fun _ U g mk q => ⟨q.1, q.2.1, q.2.2.1, q.2.2.2.1.call, q.2.2.2.2.1, q.2.2.2.2.2.1.call, va_Nc.moved (u := U) (U := U.calling g mk _) (Vm.Alike.refl U.vm) q.2.2.2.2.2.2.1, va_Nc.moved (u := U) (U := U.calling g mk _) (Vm.Alike.refl U.vm) q.2.2.2.2.2.2.2⟩
theorem pcL_pre {G : GG} {W : va_W} {av : List Value} {s : State} {H : Heap} {A : Nat → Prop} {locs : List Loc} (hP : va_P G.1 vwCl W H) (hK : KK G s) (hD : va_D A W) (hT : TH A s s.heap) (hS : va_S A s.heap H locs) (hF : ∀ q, va_A W H.size q → A q) (hN : NC s) : ∀ U : State, U.heap = H → s.WarmedH U.vm → pcL G W H.size av av.toArray U := fun U hU hW => ⟨rfl, by rw [hU], by rw [hU]; exact hP, hK.warm hW, hD.weaken (fun _ _ _ _ => trivial), hT.to hS hF hU hW, hN.1.moved hW.alike, hN.2.moved hW.alike⟩
abbrev xcN (A : Nat → Prop) : String → State → State → Prop := vx_X (S := Unit) (fun _ => False) (fun _ _ _ => True) A
def onW {α β ε : Type} (q : α ⊕ ε) (f : α → Option β) (g : ε → Option β) : Option β := match q with
  | .inl a => f a
  | .inr e => g e
theorem onW_l {α β ε : Type} {a : α} {f : α → Option β} {g : ε → Option β} {b : β} (h : onW (.inl a) f g = some b) : f a = some b := h
theorem onW_r {α β ε : Type} {e : ε} {f : α → Option β} {g : ε → Option β} {b : β} (h : onW (.inr e) f g = some b) : g e = some b := h
def kL_begin (F : Nat) (bn : Int32) (bk : Int32) (bs : Int32) (bT : Nat → Int32) (bC : Nat → Int32) (bN : Nat → Int32) (bW : Nat → Int32) (hd : Int32) (hk : Int32) (x1 : Int32) (x2 : Int32) (x3 : Int32) (oO : Nat → Int64) : Option (Int32 × Int32 × Int32 × Int32 × (Nat → Int32) × (Nat → Int32) × (Nat → Int32) × (Nat → Int32) × Int32 × Int32 × (Nat → Int64)) :=
  ((kX7_begin F bn bk bs bT bC bN bW hd hk x1 x2 x3).bind fun q => onW q (fun u => (if ix 0 1 = true then some (0, u.2.1, u.2.2.1, u.2.2.2.1, u.2.2.2.2.1, u.2.2.2.2.2.1, u.2.2.2.2.2.2.1, u.2.2.2.2.2.2.2.1, u.2.2.2.2.2.2.2.2.1, u.2.2.2.2.2.2.2.2.2, vp_updL oO (0 : Int32).toNatClampNeg (u.1).toInt64) else none)) (fun e => (if e.1 = 0 then some (1, e.2.1, e.2.2.1, e.2.2.2.1, e.2.2.2.2.1, e.2.2.2.2.2.1, e.2.2.2.2.2.2.1, e.2.2.2.2.2.2.2.1, e.2.2.2.2.2.2.2.2.1, e.2.2.2.2.2.2.2.2.2, oO) else none)))
abbrev rmL_begin : Room := { frames := 10, cells := 1, slots := 6, locals := 166 }
set_option maxHeartbeats 40000000 in
set_option maxRecDepth 100000 in
theorem tL_begin (G : GG) (l : Launch) (hfl : l.stackTraces = false) {qX qB qH qK qV qS qW qBT qBC qBN qBW qBL qHM qO sz : Nat} {bn : Int32} {bk : Int32} {bs : Int32} {bT : Nat → Int32} {bC : Nat → Int32} {bN : Nat → Int32} {bW : Nat → Int32} {hd : Int32} {hk : Int32} {oO : Nat → Int64} {x1 : Int32} {x2 : Int32} {x3 : Int32} {F : Nat} {r : Int32 × Int32 × Int32 × Int32 × (Nat → Int32) × (Nat → Int32) × (Nat → Int32) × (Nat → Int32) × Int32 × Int32 × (Nat → Int64)} (hq : kL_begin F bn bk bs bT bC bN bW hd hk x1 x2 x3 oO = some r) : vx_Met l yL_begin wsL_begin rmL_begin (pcL G [(qX, .inr (7, [.ref qB, .ref qH, .ref qK, .ref qV, .ref qS, .ref qW])), (qB, .inr (0, [.ref qBT, .ref qBC, .ref qBN, .ref qBW, .ref qBL, .int bn, .int bk, .int bs])), (qBT, .inl (G.2.1, 16, .inl bT)), (qBC, .inl (G.2.1, 16, .inl bC)), (qBN, .inl (G.2.1, 64, .inl bN)), (qBW, .inl (G.2.1, 64, .inl bW)), (qH, .inr (2, [.ref qHM, .int hd, .int hk])), (qO, .inl (G.2.2.1, 1, .inr (.inl oO)))] sz [.ref qX, .int x1, .int x2, .int x3, .ref qO]) (va_Qi (S := Unit) (fun x _ => r.1 = x) (fun _ t => va_P G.1 vwCl [(qX, .inr (7, [.ref qB, .ref qH, .ref qK, .ref qV, .ref qS, .ref qW])), (qB, .inr (0, [.ref qBT, .ref qBC, .ref qBN, .ref qBW, .ref qBL, .int r.2.1, .int r.2.2.1, .int r.2.2.2.1])), (qBT, .inl (G.2.1, 16, .inl r.2.2.2.2.1)), (qBC, .inl (G.2.1, 16, .inl r.2.2.2.2.2.1)), (qBN, .inl (G.2.1, 64, .inl r.2.2.2.2.2.2.1)), (qBW, .inl (G.2.1, 64, .inl r.2.2.2.2.2.2.2.1)), (qH, .inr (2, [.ref qHM, .int r.2.2.2.2.2.2.2.2.1, .int r.2.2.2.2.2.2.2.2.2.1])), (qO, .inl (G.2.2.1, 1, .inr (.inl r.2.2.2.2.2.2.2.2.2.2)))] t.heap) (va_A [(qX, .inr (7, [.ref qB, .ref qH, .ref qK, .ref qV, .ref qS, .ref qW])), (qB, .inr (0, [.ref qBT, .ref qBC, .ref qBN, .ref qBW, .ref qBL, .int bn, .int bk, .int bs])), (qBT, .inl (G.2.1, 16, .inl bT)), (qBC, .inl (G.2.1, 16, .inl bC)), (qBN, .inl (G.2.1, 64, .inl bN)), (qBW, .inl (G.2.1, 64, .inl bW)), (qH, .inr (2, [.ref qHM, .int hd, .int hk])), (qO, .inl (G.2.2.1, 1, .inr (.inl oO)))] sz)) (xcN (va_A [(qX, .inr (7, [.ref qB, .ref qH, .ref qK, .ref qV, .ref qS, .ref qW])), (qB, .inr (0, [.ref qBT, .ref qBC, .ref qBN, .ref qBW, .ref qBL, .int bn, .int bk, .int bs])), (qBT, .inl (G.2.1, 16, .inl bT)), (qBC, .inl (G.2.1, 16, .inl bC)), (qBN, .inl (G.2.1, 64, .inl bN)), (qBW, .inl (G.2.1, 64, .inl bW)), (qH, .inr (2, [.ref qHM, .int hd, .int hk])), (qO, .inl (G.2.2.1, 1, .inr (.inl oO)))] sz)) 1 6 (va_A [(qX, .inr (7, [.ref qB, .ref qH, .ref qK, .ref qV, .ref qS, .ref qW])), (qB, .inr (0, [.ref qBT, .ref qBC, .ref qBN, .ref qBW, .ref qBL, .int bn, .int bk, .int bs])), (qBT, .inl (G.2.1, 16, .inl bT)), (qBC, .inl (G.2.1, 16, .inl bC)), (qBN, .inl (G.2.1, 64, .inl bN)), (qBW, .inl (G.2.1, 64, .inl bW)), (qH, .inr (2, [.ref qHM, .int hd, .int hk])), (qO, .inl (G.2.2.1, 1, .inr (.inl oO)))] sz) := by
  refine vx_ofWH (cc := cL_begin) (maxL := 6) (ret := some .int) (hh := [(0, 12, 15, 13)]) (by decide) rfl ?_
  intro p e s m args below meth c s₁ B hml hv
  obtain ⟨rfl, hsz, hP, hKK, hD0, hT, hN⟩ := hv
  have hK := hKK.1
  have hx := B.exec
  have hb := B.bytes
  have hr := B.returns
  have hts := atoms_spec (ws := wsL_begin) B.pre
  have hown : s.vm.findClass RL = some m.cls := findClass_of_methodNamed B.named
  have hlocks := B.notSynchronized
  have hcw : (Cond.codeWith yL_begin cL_begin 6 (some .int) [(0, 12, 15, 13)]).before #[Value.ref qX, Value.int x1, Value.int x2, Value.int x3, Value.ref qO] s = true := hts _ List.mem_cons_self
  have hk13 : (Cond.classLink RL 13 "java/lang/IllegalArgumentException").before #[Value.ref qX, Value.int x1, Value.int x2, Value.int x3, Value.ref qO] s = true := hts _ (by decide +kernel)
  subst hsz
  have hD := hD0.self (sz := s.heap.size)
  generalize hAe : va_A [(qX, .inr (7, [.ref qB, .ref qH, .ref qK, .ref qV, .ref qS, .ref qW])), (qB, .inr (0, [.ref qBT, .ref qBC, .ref qBN, .ref qBW, .ref qBL, .int bn, .int bk, .int bs])), (qBT, .inl (G.2.1, 16, .inl bT)), (qBC, .inl (G.2.1, 16, .inl bC)), (qBN, .inl (G.2.1, 64, .inl bN)), (qBW, .inl (G.2.1, 64, .inl bW)), (qH, .inr (2, [.ref qHM, .int hd, .int hk])), (qO, .inl (G.2.2.1, 1, .inr (.inl oO)))] s.heap.size = A at hD hT ⊢
  have hA : ∀ q : Nat, s.heap.size ≤ q → A q := fun q h => by rw [← hAe]; exact Or.inr h
  have hS : va_S A s.heap s.heap [] := va_S.rf
  have hl := lv_entry ([.ref qX, .int x1, .int x2, .int x3, .ref qO] : List Value) (n := 6) (Nat.le_of_ble_eq_true rfl)
  rw [lg_entry_eq]
  generalize (lg_sl ([.ref qX, .int x1, .int x2, .int x3, .ref qO] : List Value) ++ List.replicate (6 - (lg_sl ([.ref qX, .int x1, .int x2, .int x3, .ref qO] : List Value)).length) Slot.unset).toArray = ls at hl ⊢
  have hl : lv_has ls 6 [(0, .ref qX), (1, .int x1), (2, .int x2), (3, .int x3), (4, .ref qO)] := hl
  refine wq (fun Q hQ => ?_)
  unfold kL_begin at hq
  obtain ⟨q, eq, hq⟩ := ob hq
  refine lv_aload hx hb dL_begin_0 (lv_at hl 4 rfl) ?_
  refine lv_iconst (v := 0) hx hb dL_begin_2 (by decide) ?_
  refine lv_aload_n hx hb dL_begin_3 rfl (lv_at hl 0 rfl) ?_
  refine lv_iload_n hx hb dL_begin_4 rfl (lv_at hl 1 rfl) ?_
  refine lv_iload_n hx hb dL_begin_5 rfl (lv_at hl 2 rfl) ?_
  refine lv_iload_n hx hb dL_begin_6 rfl (lv_at hl 3 rfl) ?_
  have hPc := hP.sub (ws' := [(qX, .inr (7, [.ref qB, .ref qH, .ref qK, .ref qV, .ref qS, .ref qW])), (qB, .inr (0, [.ref qBT, .ref qBC, .ref qBN, .ref qBW, .ref qBL, .int bn, .int bk, .int bs])), (qBT, .inl (G.2.1, 16, .inl bT)), (qBC, .inl (G.2.1, 16, .inl bC)), (qBN, .inl (G.2.1, 64, .inl bN)), (qBW, .inl (G.2.1, 64, .inl bW)), (qH, .inr (2, [.ref qHM, .int hd, .int hk]))]) [0, 1, 2, 3, 4, 5, 6] rfl
  have hDc := hD.sub (ws' := [(qX, .inr (7, [.ref qB, .ref qH, .ref qK, .ref qV, .ref qS, .ref qW])), (qB, .inr (0, [.ref qBT, .ref qBC, .ref qBN, .ref qBW, .ref qBL, .int bn, .int bk, .int bs])), (qBT, .inl (G.2.1, 16, .inl bT)), (qBC, .inl (G.2.1, 16, .inl bC)), (qBN, .inl (G.2.1, 64, .inl bN)), (qBW, .inl (G.2.1, 64, .inl bW)), (qH, .inr (2, [.ref qHM, .int hd, .int hk]))]) [0, 1, 2, 3, 4, 5, 6] (by decide) rfl
  have hFc := va_free (wc := [(qX, .inr (7, [.ref qB, .ref qH, .ref qK, .ref qV, .ref qS, .ref qW])), (qB, .inr (0, [.ref qBT, .ref qBC, .ref qBN, .ref qBW, .ref qBL, .int bn, .int bk, .int bs])), (qBT, .inl (G.2.1, 16, .inl bT)), (qBC, .inl (G.2.1, 16, .inl bC)), (qBN, .inl (G.2.1, 64, .inl bN)), (qBW, .inl (G.2.1, 64, .inl bW)), (qH, .inr (2, [.ref qHM, .int hd, .int hk]))]) hD hS hA [0, 1, 2, 3, 4, 5, 6] rfl
  have hKc := hK
  refine vx_calli (vx_runV (As := [.int x1, .int x2, .int x3]) (rest := [.int 0, .ref qO]) ⟨hx, hb, hml, hown, hts⟩ (tX7_begin G l hfl eq) (cwV 3 hts gL_begin_X7_begin rfl rfl rfl (by decide +kernel) ⟨Nat.le_of_ble_eq_true rfl, Nat.le_of_ble_eq_true rfl⟩) ⟨pcX_blind, va_recv hKc hPc (ci := 7) (q0 := 0) rfl rfl, pcX_pre hPc hKK hDc hT hS hFc⟩ rfl rfl hl.1 rfl (lv_room (Nat.le_of_ble_eq_true rfl)) dL_begin_7 ⟨Nat.le_of_ble_eq_true rfl, Nat.le_of_ble_eq_true rfl⟩) hS (fun q _ h => hFc q h) hFc (fun q _ h => hFc q h) (fun E ce q9 u t H1 locs ht hvm hpx hB hz1 hk1 hS hc1 hv1 hcl1 => ?_) (fun r0 u t H1 locs ht hvm hw hB hz1 hk1 hS => ?_)
  · obtain ⟨e, rfl⟩ : ∃ z, z = u := ⟨_, rfl⟩
    subst hpx
    have hq := onW_r hq
    obtain ⟨hE, hB⟩ := hB
    have hB := va_Pto ht hB
    obtain ⟨hP, hD⟩ := jn (ws' := [(qX, .inr (7, [.ref qB, .ref qH, .ref qK, .ref qV, .ref qS, .ref qW])), (qB, .inr (0, [.ref qBT, .ref qBC, .ref qBN, .ref qBW, .ref qBL, .int e.2.1, .int e.2.2.1, .int e.2.2.2.1])), (qBT, .inl (G.2.1, 16, .inl e.2.2.2.2.1)), (qBC, .inl (G.2.1, 16, .inl e.2.2.2.2.2.1)), (qBN, .inl (G.2.1, 64, .inl e.2.2.2.2.2.2.1)), (qBW, .inl (G.2.1, 64, .inl e.2.2.2.2.2.2.2.1)), (qH, .inr (2, [.ref qHM, .int e.2.2.2.2.2.2.2.2.1, .int e.2.2.2.2.2.2.2.2.2])), (qO, .inl (G.2.2.1, 1, .inr (.inl oO)))]) hP hD hk1 hB [0, 1, 2, 3, 4, 5, 6] rfl rfl rfl rfl
    generalize H1 = H at hP hS hc1 ⊢
    by_cases c_e0 : e.1 = 0
    · have hq := k_t c_e0 hq
      have hE : E = "java/lang/IllegalArgumentException" := hE.trans (congrArg exN c_e0)
      subst hE
      refine vx_catch (name := "java/lang/IllegalArgumentException") hown ([]) ({ startPc := 0, endPc := 12, handlerPc := 15, catchType := 13 } : Jvm.ClassFile.ExceptionTableEntry) ([]) ((vx_table (x := yL_begin) B hcw).trans rfl) (fun _ h => absurd h List.not_mem_nil) (by decide) (by decide) hk13 ((hT.2.2.2.1 0 (by decide)).use rfl) hc1 hv1 hcl1 ?_
      refine lv_astore (lv' := [(5, .ref q9), (0, .ref qX), (1, .int x1), (2, .int x2), (3, .int x3), (4, .ref qO)]) hx hb dL_begin_15 hl (by decide) rfl (fun ls hl => ?_)
      refine lv_iconst (v := 1) hx hb dL_begin_17 (by decide) ?_
      obtain rfl := Option.some.inj hq
      rw [hQ]
      refine vx_ret ?_
      refine W.widen (k := 1) (n := 6) (Nat.le_of_ble_eq_true rfl) (Nat.le_of_ble_eq_true rfl) ?_
      exact W.iret hx hb hr (fun t ht hW => ⟨⟨_, (), rfl, rfl, va_Pat ht hP⟩, hS.F ht⟩) hS.2.2 dL_begin_18
    · have hq := k_f c_e0 hq
      cases hq
  · obtain ⟨v, rfl⟩ : ∃ z, z = u := ⟨_, rfl⟩
    obtain ⟨hw, rfl⟩ := hw
    subst hw
    have hq := onW_l hq
    have hB := va_Pto ht hB
    obtain ⟨hP, hD⟩ := jn (ws' := [(qX, .inr (7, [.ref qB, .ref qH, .ref qK, .ref qV, .ref qS, .ref qW])), (qB, .inr (0, [.ref qBT, .ref qBC, .ref qBN, .ref qBW, .ref qBL, .int v.2.1, .int v.2.2.1, .int v.2.2.2.1])), (qBT, .inl (G.2.1, 16, .inl v.2.2.2.2.1)), (qBC, .inl (G.2.1, 16, .inl v.2.2.2.2.2.1)), (qBN, .inl (G.2.1, 64, .inl v.2.2.2.2.2.2.1)), (qBW, .inl (G.2.1, 64, .inl v.2.2.2.2.2.2.2.1)), (qH, .inr (2, [.ref qHM, .int v.2.2.2.2.2.2.2.2.1, .int v.2.2.2.2.2.2.2.2.2])), (qO, .inl (G.2.2.1, 1, .inr (.inl oO)))]) hP hD hk1 hB [0, 1, 2, 3, 4, 5, 6] rfl rfl rfl rfl
    generalize H1 = H at hP hS ⊢
    refine lv_i2l hx hb dL_begin_10 rfl ?_
    obtain ⟨hg, hq⟩ := k_g hq
    refine va_last hx hb hK hP hD hS 7 1 rfl rfl (ix_in hg) dL_begin_11 (fun H locs hP hD hS => ?_)
    have hP : va_P G.1 vwCl [(qX, .inr (7, [.ref qB, .ref qH, .ref qK, .ref qV, .ref qS, .ref qW])), (qB, .inr (0, [.ref qBT, .ref qBC, .ref qBN, .ref qBW, .ref qBL, .int v.2.1, .int v.2.2.1, .int v.2.2.2.1])), (qBT, .inl (G.2.1, 16, .inl v.2.2.2.2.1)), (qBC, .inl (G.2.1, 16, .inl v.2.2.2.2.2.1)), (qBN, .inl (G.2.1, 64, .inl v.2.2.2.2.2.2.1)), (qBW, .inl (G.2.1, 64, .inl v.2.2.2.2.2.2.2.1)), (qH, .inr (2, [.ref qHM, .int v.2.2.2.2.2.2.2.2.1, .int v.2.2.2.2.2.2.2.2.2])), (qO, .inl (G.2.2.1, 1, .inr (.inl (vp_updL oO (0 : Int32).toNatClampNeg (v.1).toInt64))))] H := hP
    have hD : va_D A [(qX, .inr (7, [.ref qB, .ref qH, .ref qK, .ref qV, .ref qS, .ref qW])), (qB, .inr (0, [.ref qBT, .ref qBC, .ref qBN, .ref qBW, .ref qBL, .int v.2.1, .int v.2.2.1, .int v.2.2.2.1])), (qBT, .inl (G.2.1, 16, .inl v.2.2.2.2.1)), (qBC, .inl (G.2.1, 16, .inl v.2.2.2.2.2.1)), (qBN, .inl (G.2.1, 64, .inl v.2.2.2.2.2.2.1)), (qBW, .inl (G.2.1, 64, .inl v.2.2.2.2.2.2.2.1)), (qH, .inr (2, [.ref qHM, .int v.2.2.2.2.2.2.2.2.1, .int v.2.2.2.2.2.2.2.2.2])), (qO, .inl (G.2.2.1, 1, .inr (.inl (vp_updL oO (0 : Int32).toNatClampNeg (v.1).toInt64))))] := hD
    refine lv_goto (tgt := 19) hx hb dL_begin_12 (by decide) ?_
    refine lv_iconst (v := 0) hx hb dL_begin_19 (by decide) ?_
    obtain rfl := Option.some.inj hq
    rw [hQ]
    refine vx_ret ?_
    refine W.widen (k := 1) (n := 6) (Nat.le_of_ble_eq_true rfl) (Nat.le_of_ble_eq_true rfl) ?_
    exact W.iret hx hb hr (fun t ht hW => ⟨⟨_, (), rfl, rfl, va_Pat ht hP⟩, hS.F ht⟩) hS.2.2 dL_begin_20

def kL_make (F : Nat) (bn : Int32) (bk : Int32) (bs : Int32) (bT : Nat → Int32) (bC : Nat → Int32) (bN : Nat → Int32) (bW : Nat → Int32) (bL : Nat → Int32) (hd : Int32) (hk : Int32) (kp : Int32) (ku : Int32) (kC : Nat → Int32) (kS : Nat → Int32) (x1 : Int32) (x2 : Int32) (x3 : Int32) (x4 : Int32) (oO : Nat → Int64) : Option (Int32 × Int32 × Int32 × Int32 × (Nat → Int32) × (Nat → Int32) × (Nat → Int32) × (Nat → Int32) × (Nat → Int32) × Int32 × Int32 × Int32 × Int32 × (Nat → Int32) × (Nat → Int32) × (Nat → Int64)) :=
  ((kX7_make F bn bk bs bT bC bN bW bL hd hk kp ku kC kS x1 x2 x3 x4).bind fun q => onW q (fun u => (if ix 0 1 = true then some (0, u.2.1, u.2.2.1, u.2.2.2.1, u.2.2.2.2.1, u.2.2.2.2.2.1, u.2.2.2.2.2.2.1, u.2.2.2.2.2.2.2.1, u.2.2.2.2.2.2.2.2.1, u.2.2.2.2.2.2.2.2.2.1, u.2.2.2.2.2.2.2.2.2.2.1, u.2.2.2.2.2.2.2.2.2.2.2.1, u.2.2.2.2.2.2.2.2.2.2.2.2.1, u.2.2.2.2.2.2.2.2.2.2.2.2.2.1, u.2.2.2.2.2.2.2.2.2.2.2.2.2.2, vp_updL oO (0 : Int32).toNatClampNeg (u.1).toInt64) else none)) (fun e => (if e.1 = 0 then some (1, e.2.1, e.2.2.1, e.2.2.2.1, e.2.2.2.2.1, e.2.2.2.2.2.1, e.2.2.2.2.2.2.1, e.2.2.2.2.2.2.2.1, e.2.2.2.2.2.2.2.2.1, e.2.2.2.2.2.2.2.2.2.1, e.2.2.2.2.2.2.2.2.2.2.1, e.2.2.2.2.2.2.2.2.2.2.2.1, e.2.2.2.2.2.2.2.2.2.2.2.2.1, e.2.2.2.2.2.2.2.2.2.2.2.2.2.1, e.2.2.2.2.2.2.2.2.2.2.2.2.2.2, oO) else none)))
abbrev rmL_make : Room := { frames := 10, cells := 2, slots := 12, locals := 167 }
set_option maxHeartbeats 40000000 in
set_option maxRecDepth 100000 in
theorem tL_make (G : GG) (l : Launch) (hfl : l.stackTraces = false) {qX qB qH qK qV qS qW qBT qBC qBN qBW qBL qHM qKC qKS qO sz : Nat} {bn : Int32} {bk : Int32} {bs : Int32} {bT : Nat → Int32} {bC : Nat → Int32} {bN : Nat → Int32} {bW : Nat → Int32} {bL : Nat → Int32} {hd : Int32} {hk : Int32} {kp : Int32} {ku : Int32} {kC : Nat → Int32} {kS : Nat → Int32} {oO : Nat → Int64} {x1 : Int32} {x2 : Int32} {x3 : Int32} {x4 : Int32} {F : Nat} {r : Int32 × Int32 × Int32 × Int32 × (Nat → Int32) × (Nat → Int32) × (Nat → Int32) × (Nat → Int32) × (Nat → Int32) × Int32 × Int32 × Int32 × Int32 × (Nat → Int32) × (Nat → Int32) × (Nat → Int64)} (hq : kL_make F bn bk bs bT bC bN bW bL hd hk kp ku kC kS x1 x2 x3 x4 oO = some r) : vx_Met l yL_make wsL_make rmL_make (pcL G [(qX, .inr (7, [.ref qB, .ref qH, .ref qK, .ref qV, .ref qS, .ref qW])), (qB, .inr (0, [.ref qBT, .ref qBC, .ref qBN, .ref qBW, .ref qBL, .int bn, .int bk, .int bs])), (qBT, .inl (G.2.1, 16, .inl bT)), (qBC, .inl (G.2.1, 16, .inl bC)), (qBN, .inl (G.2.1, 64, .inl bN)), (qBW, .inl (G.2.1, 64, .inl bW)), (qBL, .inl (G.2.1, 16, .inl bL)), (qH, .inr (2, [.ref qHM, .int hd, .int hk])), (qK, .inr (3, [.ref qB, .ref qKC, .ref qKS, .int kp, .int ku])), (qKC, .inl (G.2.1, 32, .inl kC)), (qKS, .inl (G.2.1, 32, .inl kS)), (qO, .inl (G.2.2.1, 1, .inr (.inl oO)))] sz [.ref qX, .int x1, .int x2, .int x3, .int x4, .ref qO]) (va_Qi (S := Unit) (fun x _ => r.1 = x) (fun _ t => va_P G.1 vwCl [(qX, .inr (7, [.ref qB, .ref qH, .ref qK, .ref qV, .ref qS, .ref qW])), (qB, .inr (0, [.ref qBT, .ref qBC, .ref qBN, .ref qBW, .ref qBL, .int r.2.1, .int r.2.2.1, .int r.2.2.2.1])), (qBT, .inl (G.2.1, 16, .inl r.2.2.2.2.1)), (qBC, .inl (G.2.1, 16, .inl r.2.2.2.2.2.1)), (qBN, .inl (G.2.1, 64, .inl r.2.2.2.2.2.2.1)), (qBW, .inl (G.2.1, 64, .inl r.2.2.2.2.2.2.2.1)), (qBL, .inl (G.2.1, 16, .inl r.2.2.2.2.2.2.2.2.1)), (qH, .inr (2, [.ref qHM, .int r.2.2.2.2.2.2.2.2.2.1, .int r.2.2.2.2.2.2.2.2.2.2.1])), (qK, .inr (3, [.ref qB, .ref qKC, .ref qKS, .int r.2.2.2.2.2.2.2.2.2.2.2.1, .int r.2.2.2.2.2.2.2.2.2.2.2.2.1])), (qKC, .inl (G.2.1, 32, .inl r.2.2.2.2.2.2.2.2.2.2.2.2.2.1)), (qKS, .inl (G.2.1, 32, .inl r.2.2.2.2.2.2.2.2.2.2.2.2.2.2.1)), (qO, .inl (G.2.2.1, 1, .inr (.inl r.2.2.2.2.2.2.2.2.2.2.2.2.2.2.2)))] t.heap) (va_A [(qX, .inr (7, [.ref qB, .ref qH, .ref qK, .ref qV, .ref qS, .ref qW])), (qB, .inr (0, [.ref qBT, .ref qBC, .ref qBN, .ref qBW, .ref qBL, .int bn, .int bk, .int bs])), (qBT, .inl (G.2.1, 16, .inl bT)), (qBC, .inl (G.2.1, 16, .inl bC)), (qBN, .inl (G.2.1, 64, .inl bN)), (qBW, .inl (G.2.1, 64, .inl bW)), (qBL, .inl (G.2.1, 16, .inl bL)), (qH, .inr (2, [.ref qHM, .int hd, .int hk])), (qK, .inr (3, [.ref qB, .ref qKC, .ref qKS, .int kp, .int ku])), (qKC, .inl (G.2.1, 32, .inl kC)), (qKS, .inl (G.2.1, 32, .inl kS)), (qO, .inl (G.2.2.1, 1, .inr (.inl oO)))] sz)) (xcN (va_A [(qX, .inr (7, [.ref qB, .ref qH, .ref qK, .ref qV, .ref qS, .ref qW])), (qB, .inr (0, [.ref qBT, .ref qBC, .ref qBN, .ref qBW, .ref qBL, .int bn, .int bk, .int bs])), (qBT, .inl (G.2.1, 16, .inl bT)), (qBC, .inl (G.2.1, 16, .inl bC)), (qBN, .inl (G.2.1, 64, .inl bN)), (qBW, .inl (G.2.1, 64, .inl bW)), (qBL, .inl (G.2.1, 16, .inl bL)), (qH, .inr (2, [.ref qHM, .int hd, .int hk])), (qK, .inr (3, [.ref qB, .ref qKC, .ref qKS, .int kp, .int ku])), (qKC, .inl (G.2.1, 32, .inl kC)), (qKS, .inl (G.2.1, 32, .inl kS)), (qO, .inl (G.2.2.1, 1, .inr (.inl oO)))] sz)) 2 12 (va_A [(qX, .inr (7, [.ref qB, .ref qH, .ref qK, .ref qV, .ref qS, .ref qW])), (qB, .inr (0, [.ref qBT, .ref qBC, .ref qBN, .ref qBW, .ref qBL, .int bn, .int bk, .int bs])), (qBT, .inl (G.2.1, 16, .inl bT)), (qBC, .inl (G.2.1, 16, .inl bC)), (qBN, .inl (G.2.1, 64, .inl bN)), (qBW, .inl (G.2.1, 64, .inl bW)), (qBL, .inl (G.2.1, 16, .inl bL)), (qH, .inr (2, [.ref qHM, .int hd, .int hk])), (qK, .inr (3, [.ref qB, .ref qKC, .ref qKS, .int kp, .int ku])), (qKC, .inl (G.2.1, 32, .inl kC)), (qKS, .inl (G.2.1, 32, .inl kS)), (qO, .inl (G.2.2.1, 1, .inr (.inl oO)))] sz) := by
  refine vx_ofWH (cc := cL_make) (maxL := 7) (ret := some .int) (hh := [(0, 14, 17, 13)]) (by decide) rfl ?_
  intro p e s m args below meth c s₁ B hml hv
  obtain ⟨rfl, hsz, hP, hKK, hD0, hT, hN⟩ := hv
  have hK := hKK.1
  have hx := B.exec
  have hb := B.bytes
  have hr := B.returns
  have hts := atoms_spec (ws := wsL_make) B.pre
  have hown : s.vm.findClass RL = some m.cls := findClass_of_methodNamed B.named
  have hlocks := B.notSynchronized
  have hcw : (Cond.codeWith yL_make cL_make 7 (some .int) [(0, 14, 17, 13)]).before #[Value.ref qX, Value.int x1, Value.int x2, Value.int x3, Value.int x4, Value.ref qO] s = true := hts _ List.mem_cons_self
  have hk13 : (Cond.classLink RL 13 "java/lang/IllegalArgumentException").before #[Value.ref qX, Value.int x1, Value.int x2, Value.int x3, Value.int x4, Value.ref qO] s = true := hts _ (by decide +kernel)
  subst hsz
  have hD := hD0.self (sz := s.heap.size)
  generalize hAe : va_A [(qX, .inr (7, [.ref qB, .ref qH, .ref qK, .ref qV, .ref qS, .ref qW])), (qB, .inr (0, [.ref qBT, .ref qBC, .ref qBN, .ref qBW, .ref qBL, .int bn, .int bk, .int bs])), (qBT, .inl (G.2.1, 16, .inl bT)), (qBC, .inl (G.2.1, 16, .inl bC)), (qBN, .inl (G.2.1, 64, .inl bN)), (qBW, .inl (G.2.1, 64, .inl bW)), (qBL, .inl (G.2.1, 16, .inl bL)), (qH, .inr (2, [.ref qHM, .int hd, .int hk])), (qK, .inr (3, [.ref qB, .ref qKC, .ref qKS, .int kp, .int ku])), (qKC, .inl (G.2.1, 32, .inl kC)), (qKS, .inl (G.2.1, 32, .inl kS)), (qO, .inl (G.2.2.1, 1, .inr (.inl oO)))] s.heap.size = A at hD hT ⊢
  have hA : ∀ q : Nat, s.heap.size ≤ q → A q := fun q h => by rw [← hAe]; exact Or.inr h
  have hS : va_S A s.heap s.heap [] := va_S.rf
  have hl := lv_entry ([.ref qX, .int x1, .int x2, .int x3, .int x4, .ref qO] : List Value) (n := 7) (Nat.le_of_ble_eq_true rfl)
  rw [lg_entry_eq]
  generalize (lg_sl ([.ref qX, .int x1, .int x2, .int x3, .int x4, .ref qO] : List Value) ++ List.replicate (7 - (lg_sl ([.ref qX, .int x1, .int x2, .int x3, .int x4, .ref qO] : List Value)).length) Slot.unset).toArray = ls at hl ⊢
  have hl : lv_has ls 7 [(0, .ref qX), (1, .int x1), (2, .int x2), (3, .int x3), (4, .int x4), (5, .ref qO)] := hl
  refine wq (fun Q hQ => ?_)
  unfold kL_make at hq
  obtain ⟨q, eq, hq⟩ := ob hq
  refine lv_aload hx hb dL_make_0 (lv_at hl 5 rfl) ?_
  refine lv_iconst (v := 0) hx hb dL_make_2 (by decide) ?_
  refine lv_aload_n hx hb dL_make_3 rfl (lv_at hl 0 rfl) ?_
  refine lv_iload_n hx hb dL_make_4 rfl (lv_at hl 1 rfl) ?_
  refine lv_iload_n hx hb dL_make_5 rfl (lv_at hl 2 rfl) ?_
  refine lv_iload_n hx hb dL_make_6 rfl (lv_at hl 3 rfl) ?_
  refine lv_iload hx hb dL_make_7 (lv_at hl 4 rfl) ?_
  have hPc := hP.sub (ws' := [(qX, .inr (7, [.ref qB, .ref qH, .ref qK, .ref qV, .ref qS, .ref qW])), (qB, .inr (0, [.ref qBT, .ref qBC, .ref qBN, .ref qBW, .ref qBL, .int bn, .int bk, .int bs])), (qBT, .inl (G.2.1, 16, .inl bT)), (qBC, .inl (G.2.1, 16, .inl bC)), (qBN, .inl (G.2.1, 64, .inl bN)), (qBW, .inl (G.2.1, 64, .inl bW)), (qBL, .inl (G.2.1, 16, .inl bL)), (qH, .inr (2, [.ref qHM, .int hd, .int hk])), (qK, .inr (3, [.ref qB, .ref qKC, .ref qKS, .int kp, .int ku])), (qKC, .inl (G.2.1, 32, .inl kC)), (qKS, .inl (G.2.1, 32, .inl kS))]) [0, 1, 2, 3, 4, 5, 6, 7, 8, 9, 10] rfl
  have hDc := hD.sub (ws' := [(qX, .inr (7, [.ref qB, .ref qH, .ref qK, .ref qV, .ref qS, .ref qW])), (qB, .inr (0, [.ref qBT, .ref qBC, .ref qBN, .ref qBW, .ref qBL, .int bn, .int bk, .int bs])), (qBT, .inl (G.2.1, 16, .inl bT)), (qBC, .inl (G.2.1, 16, .inl bC)), (qBN, .inl (G.2.1, 64, .inl bN)), (qBW, .inl (G.2.1, 64, .inl bW)), (qBL, .inl (G.2.1, 16, .inl bL)), (qH, .inr (2, [.ref qHM, .int hd, .int hk])), (qK, .inr (3, [.ref qB, .ref qKC, .ref qKS, .int kp, .int ku])), (qKC, .inl (G.2.1, 32, .inl kC)), (qKS, .inl (G.2.1, 32, .inl kS))]) [0, 1, 2, 3, 4, 5, 6, 7, 8, 9, 10] (by decide) rfl
  have hFc := va_free (wc := [(qX, .inr (7, [.ref qB, .ref qH, .ref qK, .ref qV, .ref qS, .ref qW])), (qB, .inr (0, [.ref qBT, .ref qBC, .ref qBN, .ref qBW, .ref qBL, .int bn, .int bk, .int bs])), (qBT, .inl (G.2.1, 16, .inl bT)), (qBC, .inl (G.2.1, 16, .inl bC)), (qBN, .inl (G.2.1, 64, .inl bN)), (qBW, .inl (G.2.1, 64, .inl bW)), (qBL, .inl (G.2.1, 16, .inl bL)), (qH, .inr (2, [.ref qHM, .int hd, .int hk])), (qK, .inr (3, [.ref qB, .ref qKC, .ref qKS, .int kp, .int ku])), (qKC, .inl (G.2.1, 32, .inl kC)), (qKS, .inl (G.2.1, 32, .inl kS))]) hD hS hA [0, 1, 2, 3, 4, 5, 6, 7, 8, 9, 10] rfl
  have hKc := hK
  refine vx_calli (vx_runV (As := [.int x1, .int x2, .int x3, .int x4]) (rest := [.int 0, .ref qO]) ⟨hx, hb, hml, hown, hts⟩ (tX7_make G l hfl eq) (cwV 4 hts gL_make_X7_make rfl rfl rfl (by decide +kernel) ⟨Nat.le_of_ble_eq_true rfl, Nat.le_of_ble_eq_true rfl⟩) ⟨pcX_blind, va_recv hKc hPc (ci := 7) (q0 := 0) rfl rfl, pcX_pre hPc hKK hDc hT hS hFc⟩ rfl rfl hl.1 rfl (lv_room (Nat.le_of_ble_eq_true rfl)) dL_make_9 ⟨Nat.le_of_ble_eq_true rfl, Nat.le_of_ble_eq_true rfl⟩) hS (fun q _ h => hFc q h) hFc (fun q _ h => hFc q h) (fun E ce q9 u t H1 locs ht hvm hpx hB hz1 hk1 hS hc1 hv1 hcl1 => ?_) (fun r0 u t H1 locs ht hvm hw hB hz1 hk1 hS => ?_)
  · obtain ⟨e, rfl⟩ : ∃ z, z = u := ⟨_, rfl⟩
    subst hpx
    have hq := onW_r hq
    obtain ⟨hE, hB⟩ := hB
    have hB := va_Pto ht hB
    obtain ⟨hP, hD⟩ := jn (ws' := [(qX, .inr (7, [.ref qB, .ref qH, .ref qK, .ref qV, .ref qS, .ref qW])), (qB, .inr (0, [.ref qBT, .ref qBC, .ref qBN, .ref qBW, .ref qBL, .int e.2.1, .int e.2.2.1, .int e.2.2.2.1])), (qBT, .inl (G.2.1, 16, .inl e.2.2.2.2.1)), (qBC, .inl (G.2.1, 16, .inl e.2.2.2.2.2.1)), (qBN, .inl (G.2.1, 64, .inl e.2.2.2.2.2.2.1)), (qBW, .inl (G.2.1, 64, .inl e.2.2.2.2.2.2.2.1)), (qBL, .inl (G.2.1, 16, .inl e.2.2.2.2.2.2.2.2.1)), (qH, .inr (2, [.ref qHM, .int e.2.2.2.2.2.2.2.2.2.1, .int e.2.2.2.2.2.2.2.2.2.2.1])), (qK, .inr (3, [.ref qB, .ref qKC, .ref qKS, .int e.2.2.2.2.2.2.2.2.2.2.2.1, .int e.2.2.2.2.2.2.2.2.2.2.2.2.1])), (qKC, .inl (G.2.1, 32, .inl e.2.2.2.2.2.2.2.2.2.2.2.2.2.1)), (qKS, .inl (G.2.1, 32, .inl e.2.2.2.2.2.2.2.2.2.2.2.2.2.2)), (qO, .inl (G.2.2.1, 1, .inr (.inl oO)))]) hP hD hk1 hB [0, 1, 2, 3, 4, 5, 6, 7, 8, 9, 10] rfl rfl rfl rfl
    generalize H1 = H at hP hS hc1 ⊢
    by_cases c_e0 : e.1 = 0
    · have hq := k_t c_e0 hq
      have hE : E = "java/lang/IllegalArgumentException" := hE.trans (congrArg exN c_e0)
      subst hE
      refine vx_catch (name := "java/lang/IllegalArgumentException") hown ([]) ({ startPc := 0, endPc := 14, handlerPc := 17, catchType := 13 } : Jvm.ClassFile.ExceptionTableEntry) ([]) ((vx_table (x := yL_make) B hcw).trans rfl) (fun _ h => absurd h List.not_mem_nil) (by decide) (by decide) hk13 ((hT.2.2.2.1 0 (by decide)).use rfl) hc1 hv1 hcl1 ?_
      refine lv_astore (lv' := [(6, .ref q9), (0, .ref qX), (1, .int x1), (2, .int x2), (3, .int x3), (4, .int x4), (5, .ref qO)]) hx hb dL_make_17 hl (by decide) rfl (fun ls hl => ?_)
      refine lv_iconst (v := 1) hx hb dL_make_19 (by decide) ?_
      obtain rfl := Option.some.inj hq
      rw [hQ]
      refine vx_ret ?_
      refine W.widen (k := 2) (n := 12) (Nat.le_of_ble_eq_true rfl) (Nat.le_of_ble_eq_true rfl) ?_
      exact W.iret hx hb hr (fun t ht hW => ⟨⟨_, (), rfl, rfl, va_Pat ht hP⟩, hS.F ht⟩) hS.2.2 dL_make_20
    · have hq := k_f c_e0 hq
      cases hq
  · obtain ⟨v, rfl⟩ : ∃ z, z = u := ⟨_, rfl⟩
    obtain ⟨hw, rfl⟩ := hw
    subst hw
    have hq := onW_l hq
    have hB := va_Pto ht hB
    obtain ⟨hP, hD⟩ := jn (ws' := [(qX, .inr (7, [.ref qB, .ref qH, .ref qK, .ref qV, .ref qS, .ref qW])), (qB, .inr (0, [.ref qBT, .ref qBC, .ref qBN, .ref qBW, .ref qBL, .int v.2.1, .int v.2.2.1, .int v.2.2.2.1])), (qBT, .inl (G.2.1, 16, .inl v.2.2.2.2.1)), (qBC, .inl (G.2.1, 16, .inl v.2.2.2.2.2.1)), (qBN, .inl (G.2.1, 64, .inl v.2.2.2.2.2.2.1)), (qBW, .inl (G.2.1, 64, .inl v.2.2.2.2.2.2.2.1)), (qBL, .inl (G.2.1, 16, .inl v.2.2.2.2.2.2.2.2.1)), (qH, .inr (2, [.ref qHM, .int v.2.2.2.2.2.2.2.2.2.1, .int v.2.2.2.2.2.2.2.2.2.2.1])), (qK, .inr (3, [.ref qB, .ref qKC, .ref qKS, .int v.2.2.2.2.2.2.2.2.2.2.2.1, .int v.2.2.2.2.2.2.2.2.2.2.2.2.1])), (qKC, .inl (G.2.1, 32, .inl v.2.2.2.2.2.2.2.2.2.2.2.2.2.1)), (qKS, .inl (G.2.1, 32, .inl v.2.2.2.2.2.2.2.2.2.2.2.2.2.2)), (qO, .inl (G.2.2.1, 1, .inr (.inl oO)))]) hP hD hk1 hB [0, 1, 2, 3, 4, 5, 6, 7, 8, 9, 10] rfl rfl rfl rfl
    generalize H1 = H at hP hS ⊢
    refine lv_i2l hx hb dL_make_12 rfl ?_
    obtain ⟨hg, hq⟩ := k_g hq
    refine va_last hx hb hK hP hD hS 11 1 rfl rfl (ix_in hg) dL_make_13 (fun H locs hP hD hS => ?_)
    have hP : va_P G.1 vwCl [(qX, .inr (7, [.ref qB, .ref qH, .ref qK, .ref qV, .ref qS, .ref qW])), (qB, .inr (0, [.ref qBT, .ref qBC, .ref qBN, .ref qBW, .ref qBL, .int v.2.1, .int v.2.2.1, .int v.2.2.2.1])), (qBT, .inl (G.2.1, 16, .inl v.2.2.2.2.1)), (qBC, .inl (G.2.1, 16, .inl v.2.2.2.2.2.1)), (qBN, .inl (G.2.1, 64, .inl v.2.2.2.2.2.2.1)), (qBW, .inl (G.2.1, 64, .inl v.2.2.2.2.2.2.2.1)), (qBL, .inl (G.2.1, 16, .inl v.2.2.2.2.2.2.2.2.1)), (qH, .inr (2, [.ref qHM, .int v.2.2.2.2.2.2.2.2.2.1, .int v.2.2.2.2.2.2.2.2.2.2.1])), (qK, .inr (3, [.ref qB, .ref qKC, .ref qKS, .int v.2.2.2.2.2.2.2.2.2.2.2.1, .int v.2.2.2.2.2.2.2.2.2.2.2.2.1])), (qKC, .inl (G.2.1, 32, .inl v.2.2.2.2.2.2.2.2.2.2.2.2.2.1)), (qKS, .inl (G.2.1, 32, .inl v.2.2.2.2.2.2.2.2.2.2.2.2.2.2)), (qO, .inl (G.2.2.1, 1, .inr (.inl (vp_updL oO (0 : Int32).toNatClampNeg (v.1).toInt64))))] H := hP
    have hD : va_D A [(qX, .inr (7, [.ref qB, .ref qH, .ref qK, .ref qV, .ref qS, .ref qW])), (qB, .inr (0, [.ref qBT, .ref qBC, .ref qBN, .ref qBW, .ref qBL, .int v.2.1, .int v.2.2.1, .int v.2.2.2.1])), (qBT, .inl (G.2.1, 16, .inl v.2.2.2.2.1)), (qBC, .inl (G.2.1, 16, .inl v.2.2.2.2.2.1)), (qBN, .inl (G.2.1, 64, .inl v.2.2.2.2.2.2.1)), (qBW, .inl (G.2.1, 64, .inl v.2.2.2.2.2.2.2.1)), (qBL, .inl (G.2.1, 16, .inl v.2.2.2.2.2.2.2.2.1)), (qH, .inr (2, [.ref qHM, .int v.2.2.2.2.2.2.2.2.2.1, .int v.2.2.2.2.2.2.2.2.2.2.1])), (qK, .inr (3, [.ref qB, .ref qKC, .ref qKS, .int v.2.2.2.2.2.2.2.2.2.2.2.1, .int v.2.2.2.2.2.2.2.2.2.2.2.2.1])), (qKC, .inl (G.2.1, 32, .inl v.2.2.2.2.2.2.2.2.2.2.2.2.2.1)), (qKS, .inl (G.2.1, 32, .inl v.2.2.2.2.2.2.2.2.2.2.2.2.2.2)), (qO, .inl (G.2.2.1, 1, .inr (.inl (vp_updL oO (0 : Int32).toNatClampNeg (v.1).toInt64))))] := hD
    refine lv_goto (tgt := 21) hx hb dL_make_14 (by decide) ?_
    refine lv_iconst (v := 0) hx hb dL_make_21 (by decide) ?_
    obtain rfl := Option.some.inj hq
    rw [hQ]
    refine vx_ret ?_
    refine W.widen (k := 2) (n := 12) (Nat.le_of_ble_eq_true rfl) (Nat.le_of_ble_eq_true rfl) ?_
    exact W.iret hx hb hr (fun t ht hW => ⟨⟨_, (), rfl, rfl, va_Pat ht hP⟩, hS.F ht⟩) hS.2.2 dL_make_22

def kL_setTile (F : Nat) (bn : Int32) (bT : Nat → Int32) (hd : Int32) (hk : Int32) (x1 : Int32) (x2 : Int32) (oO : Nat → Int64) : Option (Int32 × (Nat → Int32) × Int32 × Int32 × (Nat → Int64)) :=
  ((kX7_setTile F bn bT hd hk x1 x2).bind fun q => onW q (fun u => (if ix 0 1 = true then some (0, u.2.1, u.2.2.1, u.2.2.2, vp_updL oO (0 : Int32).toNatClampNeg (u.1).toInt64) else none)) (fun e => (if e.1 = 1 then some (1, e.2.1, e.2.2.1, e.2.2.2, oO) else (if e.1 = 0 then some (2, e.2.1, e.2.2.1, e.2.2.2, oO) else none))))
abbrev rmL_setTile : Room := { frames := 10, cells := 2, slots := 12, locals := 164 }
set_option maxHeartbeats 40000000 in
set_option maxRecDepth 100000 in
theorem tL_setTile (G : GG) (l : Launch) (hfl : l.stackTraces = false) {qX qB qH qK qV qS qW qBT qBC qBN qBW qBL qHM qO sz : Nat} {bn : Int32} {bk : Int32} {bs : Int32} {bT : Nat → Int32} {hd : Int32} {hk : Int32} {oO : Nat → Int64} {x1 : Int32} {x2 : Int32} {F : Nat} {r : Int32 × (Nat → Int32) × Int32 × Int32 × (Nat → Int64)} (hq : kL_setTile F bn bT hd hk x1 x2 oO = some r) : vx_Met l yL_setTile wsL_setTile rmL_setTile (pcL G [(qX, .inr (7, [.ref qB, .ref qH, .ref qK, .ref qV, .ref qS, .ref qW])), (qB, .inr (0, [.ref qBT, .ref qBC, .ref qBN, .ref qBW, .ref qBL, .int bn, .int bk, .int bs])), (qBT, .inl (G.2.1, 16, .inl bT)), (qH, .inr (2, [.ref qHM, .int hd, .int hk])), (qO, .inl (G.2.2.1, 1, .inr (.inl oO)))] sz [.ref qX, .int x1, .int x2, .ref qO]) (va_Qi (S := Unit) (fun x _ => r.1 = x) (fun _ t => va_P G.1 vwCl [(qX, .inr (7, [.ref qB, .ref qH, .ref qK, .ref qV, .ref qS, .ref qW])), (qB, .inr (0, [.ref qBT, .ref qBC, .ref qBN, .ref qBW, .ref qBL, .int bn, .int bk, .int bs])), (qBT, .inl (G.2.1, 16, .inl r.2.1)), (qH, .inr (2, [.ref qHM, .int r.2.2.1, .int r.2.2.2.1])), (qO, .inl (G.2.2.1, 1, .inr (.inl r.2.2.2.2)))] t.heap) (va_A [(qX, .inr (7, [.ref qB, .ref qH, .ref qK, .ref qV, .ref qS, .ref qW])), (qB, .inr (0, [.ref qBT, .ref qBC, .ref qBN, .ref qBW, .ref qBL, .int bn, .int bk, .int bs])), (qBT, .inl (G.2.1, 16, .inl bT)), (qH, .inr (2, [.ref qHM, .int hd, .int hk])), (qO, .inl (G.2.2.1, 1, .inr (.inl oO)))] sz)) (xcN (va_A [(qX, .inr (7, [.ref qB, .ref qH, .ref qK, .ref qV, .ref qS, .ref qW])), (qB, .inr (0, [.ref qBT, .ref qBC, .ref qBN, .ref qBW, .ref qBL, .int bn, .int bk, .int bs])), (qBT, .inl (G.2.1, 16, .inl bT)), (qH, .inr (2, [.ref qHM, .int hd, .int hk])), (qO, .inl (G.2.2.1, 1, .inr (.inl oO)))] sz)) 2 12 (va_A [(qX, .inr (7, [.ref qB, .ref qH, .ref qK, .ref qV, .ref qS, .ref qW])), (qB, .inr (0, [.ref qBT, .ref qBC, .ref qBN, .ref qBW, .ref qBL, .int bn, .int bk, .int bs])), (qBT, .inl (G.2.1, 16, .inl bT)), (qH, .inr (2, [.ref qHM, .int hd, .int hk])), (qO, .inl (G.2.2.1, 1, .inr (.inl oO)))] sz) := by
  refine vx_ofWH (cc := cL_setTile) (maxL := 5) (ret := some .int) (hh := [(0, 10, 13, 23), (0, 10, 17, 13)]) (by decide) rfl ?_
  intro p e s m args below meth c s₁ B hml hv
  obtain ⟨rfl, hsz, hP, hKK, hD0, hT, hN⟩ := hv
  have hK := hKK.1
  have hx := B.exec
  have hb := B.bytes
  have hr := B.returns
  have hts := atoms_spec (ws := wsL_setTile) B.pre
  have hown : s.vm.findClass RL = some m.cls := findClass_of_methodNamed B.named
  have hlocks := B.notSynchronized
  have hcw : (Cond.codeWith yL_setTile cL_setTile 5 (some .int) [(0, 10, 13, 23), (0, 10, 17, 13)]).before #[Value.ref qX, Value.int x1, Value.int x2, Value.ref qO] s = true := hts _ List.mem_cons_self
  have hk23 : (Cond.classLink RL 23 "java/lang/IndexOutOfBoundsException").before #[Value.ref qX, Value.int x1, Value.int x2, Value.ref qO] s = true := hts _ (by decide +kernel)
  have hk13 : (Cond.classLink RL 13 "java/lang/IllegalArgumentException").before #[Value.ref qX, Value.int x1, Value.int x2, Value.ref qO] s = true := hts _ (by decide +kernel)
  subst hsz
  have hD := hD0.self (sz := s.heap.size)
  generalize hAe : va_A [(qX, .inr (7, [.ref qB, .ref qH, .ref qK, .ref qV, .ref qS, .ref qW])), (qB, .inr (0, [.ref qBT, .ref qBC, .ref qBN, .ref qBW, .ref qBL, .int bn, .int bk, .int bs])), (qBT, .inl (G.2.1, 16, .inl bT)), (qH, .inr (2, [.ref qHM, .int hd, .int hk])), (qO, .inl (G.2.2.1, 1, .inr (.inl oO)))] s.heap.size = A at hD hT ⊢
  have hA : ∀ q : Nat, s.heap.size ≤ q → A q := fun q h => by rw [← hAe]; exact Or.inr h
  have hS : va_S A s.heap s.heap [] := va_S.rf
  have hl := lv_entry ([.ref qX, .int x1, .int x2, .ref qO] : List Value) (n := 5) (Nat.le_of_ble_eq_true rfl)
  rw [lg_entry_eq]
  generalize (lg_sl ([.ref qX, .int x1, .int x2, .ref qO] : List Value) ++ List.replicate (5 - (lg_sl ([.ref qX, .int x1, .int x2, .ref qO] : List Value)).length) Slot.unset).toArray = ls at hl ⊢
  have hl : lv_has ls 5 [(0, .ref qX), (1, .int x1), (2, .int x2), (3, .ref qO)] := hl
  refine wq (fun Q hQ => ?_)
  unfold kL_setTile at hq
  obtain ⟨q, eq, hq⟩ := ob hq
  refine lv_aload_n hx hb dL_setTile_0 rfl (lv_at hl 3 rfl) ?_
  refine lv_iconst (v := 0) hx hb dL_setTile_1 (by decide) ?_
  refine lv_aload_n hx hb dL_setTile_2 rfl (lv_at hl 0 rfl) ?_
  refine lv_iload_n hx hb dL_setTile_3 rfl (lv_at hl 1 rfl) ?_
  refine lv_iload_n hx hb dL_setTile_4 rfl (lv_at hl 2 rfl) ?_
  have hPc := hP.sub (ws' := [(qX, .inr (7, [.ref qB, .ref qH, .ref qK, .ref qV, .ref qS, .ref qW])), (qB, .inr (0, [.ref qBT, .ref qBC, .ref qBN, .ref qBW, .ref qBL, .int bn, .int bk, .int bs])), (qBT, .inl (G.2.1, 16, .inl bT)), (qH, .inr (2, [.ref qHM, .int hd, .int hk]))]) [0, 1, 2, 3] rfl
  have hDc := hD.sub (ws' := [(qX, .inr (7, [.ref qB, .ref qH, .ref qK, .ref qV, .ref qS, .ref qW])), (qB, .inr (0, [.ref qBT, .ref qBC, .ref qBN, .ref qBW, .ref qBL, .int bn, .int bk, .int bs])), (qBT, .inl (G.2.1, 16, .inl bT)), (qH, .inr (2, [.ref qHM, .int hd, .int hk]))]) [0, 1, 2, 3] (by decide) rfl
  have hFc := va_free (wc := [(qX, .inr (7, [.ref qB, .ref qH, .ref qK, .ref qV, .ref qS, .ref qW])), (qB, .inr (0, [.ref qBT, .ref qBC, .ref qBN, .ref qBW, .ref qBL, .int bn, .int bk, .int bs])), (qBT, .inl (G.2.1, 16, .inl bT)), (qH, .inr (2, [.ref qHM, .int hd, .int hk]))]) hD hS hA [0, 1, 2, 3] rfl
  have hKc := hK
  refine vx_calli (vx_runV (As := [.int x1, .int x2]) (rest := [.int 0, .ref qO]) ⟨hx, hb, hml, hown, hts⟩ (tX7_setTile G l hfl eq) (cwV 2 hts gL_setTile_X7_setTile rfl rfl rfl (by decide +kernel) ⟨Nat.le_of_ble_eq_true rfl, Nat.le_of_ble_eq_true rfl⟩) ⟨pcX_blind, va_recv hKc hPc (ci := 7) (q0 := 0) rfl rfl, pcX_pre hPc hKK hDc hT hS hFc⟩ rfl rfl hl.1 rfl (lv_room (Nat.le_of_ble_eq_true rfl)) dL_setTile_5 ⟨Nat.le_of_ble_eq_true rfl, Nat.le_of_ble_eq_true rfl⟩) hS (fun q _ h => hFc q h) hFc (fun q _ h => hFc q h) (fun E ce q9 u t H1 locs ht hvm hpx hB hz1 hk1 hS hc1 hv1 hcl1 => ?_) (fun r0 u t H1 locs ht hvm hw hB hz1 hk1 hS => ?_)
  · obtain ⟨e, rfl⟩ : ∃ z, z = u := ⟨_, rfl⟩
    subst hpx
    have hq := onW_r hq
    obtain ⟨hE, hB⟩ := hB
    have hB := va_Pto ht hB
    obtain ⟨hP, hD⟩ := jn (ws' := [(qX, .inr (7, [.ref qB, .ref qH, .ref qK, .ref qV, .ref qS, .ref qW])), (qB, .inr (0, [.ref qBT, .ref qBC, .ref qBN, .ref qBW, .ref qBL, .int bn, .int bk, .int bs])), (qBT, .inl (G.2.1, 16, .inl e.2.1)), (qH, .inr (2, [.ref qHM, .int e.2.2.1, .int e.2.2.2])), (qO, .inl (G.2.2.1, 1, .inr (.inl oO)))]) hP hD hk1 hB [0, 1, 2, 3] rfl rfl rfl rfl
    generalize H1 = H at hP hS hc1 ⊢
    by_cases c_e0 : e.1 = 1
    · have hq := k_t c_e0 hq
      have hE : E = "java/lang/IndexOutOfBoundsException" := hE.trans (congrArg exN c_e0)
      subst hE
      refine vx_catch (name := "java/lang/IndexOutOfBoundsException") hown ([]) ({ startPc := 0, endPc := 10, handlerPc := 13, catchType := 23 } : Jvm.ClassFile.ExceptionTableEntry) ([({ startPc := 0, endPc := 10, handlerPc := 17, catchType := 13 } : Jvm.ClassFile.ExceptionTableEntry)]) ((vx_table (x := yL_setTile) B hcw).trans rfl) (fun _ h => absurd h List.not_mem_nil) (by decide) (by decide) hk23 ((hT.2.2.2.1 1 (by decide)).use rfl) hc1 hv1 hcl1 ?_
      refine lv_astore (lv' := [(4, .ref q9), (0, .ref qX), (1, .int x1), (2, .int x2), (3, .ref qO)]) hx hb dL_setTile_13 hl (by decide) rfl (fun ls hl => ?_)
      refine lv_iconst (v := 1) hx hb dL_setTile_15 (by decide) ?_
      obtain rfl := Option.some.inj hq
      rw [hQ]
      refine vx_ret ?_
      refine W.widen (k := 2) (n := 12) (Nat.le_of_ble_eq_true rfl) (Nat.le_of_ble_eq_true rfl) ?_
      exact W.iret hx hb hr (fun t ht hW => ⟨⟨_, (), rfl, rfl, va_Pat ht hP⟩, hS.F ht⟩) hS.2.2 dL_setTile_16
    · have hq := k_f c_e0 hq
      by_cases c_e1 : e.1 = 0
      · have hq := k_t c_e1 hq
        have hE : E = "java/lang/IllegalArgumentException" := hE.trans (congrArg exN c_e1)
        subst hE
        refine vx_catch (name := "java/lang/IllegalArgumentException") hown ([({ startPc := 0, endPc := 10, handlerPc := 13, catchType := 23 } : Jvm.ClassFile.ExceptionTableEntry)]) ({ startPc := 0, endPc := 10, handlerPc := 17, catchType := 13 } : Jvm.ClassFile.ExceptionTableEntry) ([]) ((vx_table (x := yL_setTile) B hcw).trans rfl) (fun z hz => by rcases List.mem_singleton.mp hz with rfl; exact Or.inr ⟨by decide, _, hk23, hN.1⟩) (by decide) (by decide) hk13 ((hT.2.2.2.1 0 (by decide)).use rfl) hc1 hv1 hcl1 ?_
        refine lv_astore (lv' := [(4, .ref q9), (0, .ref qX), (1, .int x1), (2, .int x2), (3, .ref qO)]) hx hb dL_setTile_17 hl (by decide) rfl (fun ls hl => ?_)
        refine lv_iconst (v := 2) hx hb dL_setTile_19 (by decide) ?_
        obtain rfl := Option.some.inj hq
        rw [hQ]
        refine vx_ret ?_
        refine W.widen (k := 2) (n := 12) (Nat.le_of_ble_eq_true rfl) (Nat.le_of_ble_eq_true rfl) ?_
        exact W.iret hx hb hr (fun t ht hW => ⟨⟨_, (), rfl, rfl, va_Pat ht hP⟩, hS.F ht⟩) hS.2.2 dL_setTile_20
      · have hq := k_f c_e1 hq
        cases hq
  · obtain ⟨v, rfl⟩ : ∃ z, z = u := ⟨_, rfl⟩
    obtain ⟨hw, rfl⟩ := hw
    subst hw
    have hq := onW_l hq
    have hB := va_Pto ht hB
    obtain ⟨hP, hD⟩ := jn (ws' := [(qX, .inr (7, [.ref qB, .ref qH, .ref qK, .ref qV, .ref qS, .ref qW])), (qB, .inr (0, [.ref qBT, .ref qBC, .ref qBN, .ref qBW, .ref qBL, .int bn, .int bk, .int bs])), (qBT, .inl (G.2.1, 16, .inl v.2.1)), (qH, .inr (2, [.ref qHM, .int v.2.2.1, .int v.2.2.2])), (qO, .inl (G.2.2.1, 1, .inr (.inl oO)))]) hP hD hk1 hB [0, 1, 2, 3] rfl rfl rfl rfl
    generalize H1 = H at hP hS ⊢
    refine lv_i2l hx hb dL_setTile_8 rfl ?_
    obtain ⟨hg, hq⟩ := k_g hq
    refine va_last hx hb hK hP hD hS 4 1 rfl rfl (ix_in hg) dL_setTile_9 (fun H locs hP hD hS => ?_)
    have hP : va_P G.1 vwCl [(qX, .inr (7, [.ref qB, .ref qH, .ref qK, .ref qV, .ref qS, .ref qW])), (qB, .inr (0, [.ref qBT, .ref qBC, .ref qBN, .ref qBW, .ref qBL, .int bn, .int bk, .int bs])), (qBT, .inl (G.2.1, 16, .inl v.2.1)), (qH, .inr (2, [.ref qHM, .int v.2.2.1, .int v.2.2.2])), (qO, .inl (G.2.2.1, 1, .inr (.inl (vp_updL oO (0 : Int32).toNatClampNeg (v.1).toInt64))))] H := hP
    have hD : va_D A [(qX, .inr (7, [.ref qB, .ref qH, .ref qK, .ref qV, .ref qS, .ref qW])), (qB, .inr (0, [.ref qBT, .ref qBC, .ref qBN, .ref qBW, .ref qBL, .int bn, .int bk, .int bs])), (qBT, .inl (G.2.1, 16, .inl v.2.1)), (qH, .inr (2, [.ref qHM, .int v.2.2.1, .int v.2.2.2])), (qO, .inl (G.2.2.1, 1, .inr (.inl (vp_updL oO (0 : Int32).toNatClampNeg (v.1).toInt64))))] := hD
    refine lv_goto (tgt := 21) hx hb dL_setTile_10 (by decide) ?_
    refine lv_iconst (v := 0) hx hb dL_setTile_21 (by decide) ?_
    obtain rfl := Option.some.inj hq
    rw [hQ]
    refine vx_ret ?_
    refine W.widen (k := 2) (n := 12) (Nat.le_of_ble_eq_true rfl) (Nat.le_of_ble_eq_true rfl) ?_
    exact W.iret hx hb hr (fun t ht hW => ⟨⟨_, (), rfl, rfl, va_Pat ht hP⟩, hS.F ht⟩) hS.2.2 dL_setTile_22

def kL_setWall (F : Nat) (bn : Int32) (bN : Nat → Int32) (bW : Nat → Int32) (x1 : Int32) (x2 : Int32) (x3 : Int32) (oO : Nat → Int64) : Option (Int32 × (Nat → Int32) × (Nat → Int64)) :=
  ((kX7_setWall F bn bN bW x1 x2 x3).bind fun q => onW q (fun u => (if u.1 = 0 then (if ix 0 1 = true then some (0, u.2, vp_updL oO (0 : Int32).toNatClampNeg 0) else none) else (if ix 0 1 = true then some (0, u.2, vp_updL oO (0 : Int32).toNatClampNeg 1) else none))) (fun e => (if e.1 = 1 then some (1, e.2, oO) else (if e.1 = 2 then some (2, e.2, oO) else none))))
abbrev rmL_setWall : Room := { frames := 10, cells := 3, slots := 18, locals := 165 }
set_option maxHeartbeats 40000000 in
set_option maxRecDepth 100000 in
theorem tL_setWall (G : GG) (l : Launch) (hfl : l.stackTraces = false) {qX qB qH qK qV qS qW qBT qBC qBN qBW qBL qO sz : Nat} {bn : Int32} {bk : Int32} {bs : Int32} {bN : Nat → Int32} {bW : Nat → Int32} {oO : Nat → Int64} {x1 : Int32} {x2 : Int32} {x3 : Int32} {F : Nat} {r : Int32 × (Nat → Int32) × (Nat → Int64)} (hq : kL_setWall F bn bN bW x1 x2 x3 oO = some r) : vx_Met l yL_setWall wsL_setWall rmL_setWall (pcL G [(qX, .inr (7, [.ref qB, .ref qH, .ref qK, .ref qV, .ref qS, .ref qW])), (qB, .inr (0, [.ref qBT, .ref qBC, .ref qBN, .ref qBW, .ref qBL, .int bn, .int bk, .int bs])), (qBN, .inl (G.2.1, 64, .inl bN)), (qBW, .inl (G.2.1, 64, .inl bW)), (qO, .inl (G.2.2.1, 1, .inr (.inl oO)))] sz [.ref qX, .int x1, .int x2, .int x3, .ref qO]) (va_Qi (S := Unit) (fun x _ => r.1 = x) (fun _ t => va_P G.1 vwCl [(qX, .inr (7, [.ref qB, .ref qH, .ref qK, .ref qV, .ref qS, .ref qW])), (qB, .inr (0, [.ref qBT, .ref qBC, .ref qBN, .ref qBW, .ref qBL, .int bn, .int bk, .int bs])), (qBN, .inl (G.2.1, 64, .inl bN)), (qBW, .inl (G.2.1, 64, .inl r.2.1)), (qO, .inl (G.2.2.1, 1, .inr (.inl r.2.2)))] t.heap) (va_A [(qX, .inr (7, [.ref qB, .ref qH, .ref qK, .ref qV, .ref qS, .ref qW])), (qB, .inr (0, [.ref qBT, .ref qBC, .ref qBN, .ref qBW, .ref qBL, .int bn, .int bk, .int bs])), (qBN, .inl (G.2.1, 64, .inl bN)), (qBW, .inl (G.2.1, 64, .inl bW)), (qO, .inl (G.2.2.1, 1, .inr (.inl oO)))] sz)) (xcN (va_A [(qX, .inr (7, [.ref qB, .ref qH, .ref qK, .ref qV, .ref qS, .ref qW])), (qB, .inr (0, [.ref qBT, .ref qBC, .ref qBN, .ref qBW, .ref qBL, .int bn, .int bk, .int bs])), (qBN, .inl (G.2.1, 64, .inl bN)), (qBW, .inl (G.2.1, 64, .inl bW)), (qO, .inl (G.2.2.1, 1, .inr (.inl oO)))] sz)) 3 18 (va_A [(qX, .inr (7, [.ref qB, .ref qH, .ref qK, .ref qV, .ref qS, .ref qW])), (qB, .inr (0, [.ref qBT, .ref qBC, .ref qBN, .ref qBW, .ref qBL, .int bn, .int bk, .int bs])), (qBN, .inl (G.2.1, 64, .inl bN)), (qBW, .inl (G.2.1, 64, .inl bW)), (qO, .inl (G.2.2.1, 1, .inr (.inl oO)))] sz) := by
  refine vx_ofWH (cc := cL_setWall) (maxL := 6) (ret := some .int) (hh := [(0, 19, 22, 23), (0, 19, 26, 29)]) (by decide) rfl ?_
  intro p e s m args below meth c s₁ B hml hv
  obtain ⟨rfl, hsz, hP, hKK, hD0, hT, hN⟩ := hv
  have hK := hKK.1
  have hx := B.exec
  have hb := B.bytes
  have hr := B.returns
  have hts := atoms_spec (ws := wsL_setWall) B.pre
  have hown : s.vm.findClass RL = some m.cls := findClass_of_methodNamed B.named
  have hlocks := B.notSynchronized
  have hcw : (Cond.codeWith yL_setWall cL_setWall 6 (some .int) [(0, 19, 22, 23), (0, 19, 26, 29)]).before #[Value.ref qX, Value.int x1, Value.int x2, Value.int x3, Value.ref qO] s = true := hts _ List.mem_cons_self
  have hk23 : (Cond.classLink RL 23 "java/lang/IndexOutOfBoundsException").before #[Value.ref qX, Value.int x1, Value.int x2, Value.int x3, Value.ref qO] s = true := hts _ (by decide +kernel)
  have hk29 : (Cond.classLink RL 29 "java/lang/IllegalStateException").before #[Value.ref qX, Value.int x1, Value.int x2, Value.int x3, Value.ref qO] s = true := hts _ (by decide +kernel)
  subst hsz
  have hD := hD0.self (sz := s.heap.size)
  generalize hAe : va_A [(qX, .inr (7, [.ref qB, .ref qH, .ref qK, .ref qV, .ref qS, .ref qW])), (qB, .inr (0, [.ref qBT, .ref qBC, .ref qBN, .ref qBW, .ref qBL, .int bn, .int bk, .int bs])), (qBN, .inl (G.2.1, 64, .inl bN)), (qBW, .inl (G.2.1, 64, .inl bW)), (qO, .inl (G.2.2.1, 1, .inr (.inl oO)))] s.heap.size = A at hD hT ⊢
  have hA : ∀ q : Nat, s.heap.size ≤ q → A q := fun q h => by rw [← hAe]; exact Or.inr h
  have hS : va_S A s.heap s.heap [] := va_S.rf
  have hl := lv_entry ([.ref qX, .int x1, .int x2, .int x3, .ref qO] : List Value) (n := 6) (Nat.le_of_ble_eq_true rfl)
  rw [lg_entry_eq]
  generalize (lg_sl ([.ref qX, .int x1, .int x2, .int x3, .ref qO] : List Value) ++ List.replicate (6 - (lg_sl ([.ref qX, .int x1, .int x2, .int x3, .ref qO] : List Value)).length) Slot.unset).toArray = ls at hl ⊢
  have hl : lv_has ls 6 [(0, .ref qX), (1, .int x1), (2, .int x2), (3, .int x3), (4, .ref qO)] := hl
  refine wq (fun Q hQ => ?_)
  unfold kL_setWall at hq
  obtain ⟨q, eq, hq⟩ := ob hq
  refine lv_aload hx hb dL_setWall_0 (lv_at hl 4 rfl) ?_
  refine lv_iconst (v := 0) hx hb dL_setWall_2 (by decide) ?_
  refine lv_aload_n hx hb dL_setWall_3 rfl (lv_at hl 0 rfl) ?_
  refine lv_iload_n hx hb dL_setWall_4 rfl (lv_at hl 1 rfl) ?_
  refine lv_iload_n hx hb dL_setWall_5 rfl (lv_at hl 2 rfl) ?_
  refine lv_iload_n hx hb dL_setWall_6 rfl (lv_at hl 3 rfl) ?_
  have hPc := hP.sub (ws' := [(qX, .inr (7, [.ref qB, .ref qH, .ref qK, .ref qV, .ref qS, .ref qW])), (qB, .inr (0, [.ref qBT, .ref qBC, .ref qBN, .ref qBW, .ref qBL, .int bn, .int bk, .int bs])), (qBN, .inl (G.2.1, 64, .inl bN)), (qBW, .inl (G.2.1, 64, .inl bW))]) [0, 1, 2, 3] rfl
  have hDc := hD.sub (ws' := [(qX, .inr (7, [.ref qB, .ref qH, .ref qK, .ref qV, .ref qS, .ref qW])), (qB, .inr (0, [.ref qBT, .ref qBC, .ref qBN, .ref qBW, .ref qBL, .int bn, .int bk, .int bs])), (qBN, .inl (G.2.1, 64, .inl bN)), (qBW, .inl (G.2.1, 64, .inl bW))]) [0, 1, 2, 3] (by decide) rfl
  have hFc := va_free (wc := [(qX, .inr (7, [.ref qB, .ref qH, .ref qK, .ref qV, .ref qS, .ref qW])), (qB, .inr (0, [.ref qBT, .ref qBC, .ref qBN, .ref qBW, .ref qBL, .int bn, .int bk, .int bs])), (qBN, .inl (G.2.1, 64, .inl bN)), (qBW, .inl (G.2.1, 64, .inl bW))]) hD hS hA [0, 1, 2, 3] rfl
  have hKc := hK
  refine vx_calli (vx_runV (As := [.int x1, .int x2, .int x3]) (rest := [.int 0, .ref qO]) ⟨hx, hb, hml, hown, hts⟩ (tX7_setWall G l hfl eq) (cwV 3 hts gL_setWall_X7_setWall rfl rfl rfl (by decide +kernel) ⟨Nat.le_of_ble_eq_true rfl, Nat.le_of_ble_eq_true rfl⟩) ⟨pcX_blind, va_recv hKc hPc (ci := 7) (q0 := 0) rfl rfl, pcX_pre hPc hKK hDc hT hS hFc⟩ rfl rfl hl.1 rfl (lv_room (Nat.le_of_ble_eq_true rfl)) dL_setWall_7 ⟨Nat.le_of_ble_eq_true rfl, Nat.le_of_ble_eq_true rfl⟩) hS (fun q _ h => hFc q h) hFc (fun q _ h => hFc q h) (fun E ce q9 u t H1 locs ht hvm hpx hB hz1 hk1 hS hc1 hv1 hcl1 => ?_) (fun r0 u t H1 locs ht hvm hw hB hz1 hk1 hS => ?_)
  · obtain ⟨e, rfl⟩ : ∃ z, z = u := ⟨_, rfl⟩
    subst hpx
    have hq := onW_r hq
    obtain ⟨hE, hB⟩ := hB
    have hB := va_Pto ht hB
    obtain ⟨hP, hD⟩ := jn (ws' := [(qX, .inr (7, [.ref qB, .ref qH, .ref qK, .ref qV, .ref qS, .ref qW])), (qB, .inr (0, [.ref qBT, .ref qBC, .ref qBN, .ref qBW, .ref qBL, .int bn, .int bk, .int bs])), (qBN, .inl (G.2.1, 64, .inl bN)), (qBW, .inl (G.2.1, 64, .inl e.2)), (qO, .inl (G.2.2.1, 1, .inr (.inl oO)))]) hP hD hk1 hB [0, 1, 2, 3] rfl rfl rfl rfl
    generalize H1 = H at hP hS hc1 ⊢
    by_cases c_e0 : e.1 = 1
    · have hq := k_t c_e0 hq
      have hE : E = "java/lang/IndexOutOfBoundsException" := hE.trans (congrArg exN c_e0)
      subst hE
      refine vx_catch (name := "java/lang/IndexOutOfBoundsException") hown ([]) ({ startPc := 0, endPc := 19, handlerPc := 22, catchType := 23 } : Jvm.ClassFile.ExceptionTableEntry) ([({ startPc := 0, endPc := 19, handlerPc := 26, catchType := 29 } : Jvm.ClassFile.ExceptionTableEntry)]) ((vx_table (x := yL_setWall) B hcw).trans rfl) (fun _ h => absurd h List.not_mem_nil) (by decide) (by decide) hk23 ((hT.2.2.2.1 1 (by decide)).use rfl) hc1 hv1 hcl1 ?_
      refine lv_astore (lv' := [(5, .ref q9), (0, .ref qX), (1, .int x1), (2, .int x2), (3, .int x3), (4, .ref qO)]) hx hb dL_setWall_22 hl (by decide) rfl (fun ls hl => ?_)
      refine lv_iconst (v := 1) hx hb dL_setWall_24 (by decide) ?_
      obtain rfl := Option.some.inj hq
      rw [hQ]
      refine vx_ret ?_
      refine W.widen (k := 3) (n := 18) (Nat.le_of_ble_eq_true rfl) (Nat.le_of_ble_eq_true rfl) ?_
      exact W.iret hx hb hr (fun t ht hW => ⟨⟨_, (), rfl, rfl, va_Pat ht hP⟩, hS.F ht⟩) hS.2.2 dL_setWall_25
    · have hq := k_f c_e0 hq
      by_cases c_e1 : e.1 = 2
      · have hq := k_t c_e1 hq
        have hE : E = "java/lang/IllegalStateException" := hE.trans (congrArg exN c_e1)
        subst hE
        refine vx_catch (name := "java/lang/IllegalStateException") hown ([({ startPc := 0, endPc := 19, handlerPc := 22, catchType := 23 } : Jvm.ClassFile.ExceptionTableEntry)]) ({ startPc := 0, endPc := 19, handlerPc := 26, catchType := 29 } : Jvm.ClassFile.ExceptionTableEntry) ([]) ((vx_table (x := yL_setWall) B hcw).trans rfl) (fun z hz => by rcases List.mem_singleton.mp hz with rfl; exact Or.inr ⟨by decide, _, hk23, hN.2⟩) (by decide) (by decide) hk29 ((hT.2.2.2.1 2 (by decide)).use rfl) hc1 hv1 hcl1 ?_
        refine lv_astore (lv' := [(5, .ref q9), (0, .ref qX), (1, .int x1), (2, .int x2), (3, .int x3), (4, .ref qO)]) hx hb dL_setWall_26 hl (by decide) rfl (fun ls hl => ?_)
        refine lv_iconst (v := 2) hx hb dL_setWall_28 (by decide) ?_
        obtain rfl := Option.some.inj hq
        rw [hQ]
        refine vx_ret ?_
        refine W.widen (k := 3) (n := 18) (Nat.le_of_ble_eq_true rfl) (Nat.le_of_ble_eq_true rfl) ?_
        exact W.iret hx hb hr (fun t ht hW => ⟨⟨_, (), rfl, rfl, va_Pat ht hP⟩, hS.F ht⟩) hS.2.2 dL_setWall_29
      · have hq := k_f c_e1 hq
        cases hq
  · obtain ⟨v, rfl⟩ : ∃ z, z = u := ⟨_, rfl⟩
    obtain ⟨hw, rfl⟩ := hw
    subst hw
    have hq := onW_l hq
    have hB := va_Pto ht hB
    obtain ⟨hP, hD⟩ := jn (ws' := [(qX, .inr (7, [.ref qB, .ref qH, .ref qK, .ref qV, .ref qS, .ref qW])), (qB, .inr (0, [.ref qBT, .ref qBC, .ref qBN, .ref qBW, .ref qBL, .int bn, .int bk, .int bs])), (qBN, .inl (G.2.1, 64, .inl bN)), (qBW, .inl (G.2.1, 64, .inl v.2)), (qO, .inl (G.2.2.1, 1, .inr (.inl oO)))]) hP hD hk1 hB [0, 1, 2, 3] rfl rfl rfl rfl
    generalize H1 = H at hP hS ⊢
    refine lv_if_eq (tgt := 17) hx hb dL_setWall_10 (by decide) (fun c_z => ?_) (fun c_z => ?_)
    · have hq := k_t c_z hq
      refine lv_lconst (v := 0) hx hb dL_setWall_17 (by decide) ?_
      obtain ⟨hg, hq⟩ := k_g hq
      refine va_last hx hb hK hP hD hS 4 1 rfl rfl (ix_in hg) dL_setWall_18 (fun H locs hP hD hS => ?_)
      have hP : va_P G.1 vwCl [(qX, .inr (7, [.ref qB, .ref qH, .ref qK, .ref qV, .ref qS, .ref qW])), (qB, .inr (0, [.ref qBT, .ref qBC, .ref qBN, .ref qBW, .ref qBL, .int bn, .int bk, .int bs])), (qBN, .inl (G.2.1, 64, .inl bN)), (qBW, .inl (G.2.1, 64, .inl v.2)), (qO, .inl (G.2.2.1, 1, .inr (.inl (vp_updL oO (0 : Int32).toNatClampNeg 0))))] H := hP
      have hD : va_D A [(qX, .inr (7, [.ref qB, .ref qH, .ref qK, .ref qV, .ref qS, .ref qW])), (qB, .inr (0, [.ref qBT, .ref qBC, .ref qBN, .ref qBW, .ref qBL, .int bn, .int bk, .int bs])), (qBN, .inl (G.2.1, 64, .inl bN)), (qBW, .inl (G.2.1, 64, .inl v.2)), (qO, .inl (G.2.2.1, 1, .inr (.inl (vp_updL oO (0 : Int32).toNatClampNeg 0))))] := hD
      refine lv_goto (tgt := 30) hx hb dL_setWall_19 (by decide) ?_
      refine lv_iconst (v := 0) hx hb dL_setWall_30 (by decide) ?_
      obtain rfl := Option.some.inj hq
      rw [hQ]
      refine vx_ret ?_
      refine W.widen (k := 3) (n := 18) (Nat.le_of_ble_eq_true rfl) (Nat.le_of_ble_eq_true rfl) ?_
      exact W.iret hx hb hr (fun t ht hW => ⟨⟨_, (), rfl, rfl, va_Pat ht hP⟩, hS.F ht⟩) hS.2.2 dL_setWall_31
    · have hq := k_f c_z hq
      refine lv_lconst (v := 1) hx hb dL_setWall_13 (by decide) ?_
      refine lv_goto (tgt := 18) hx hb dL_setWall_14 (by decide) ?_
      obtain ⟨hg, hq⟩ := k_g hq
      refine va_last hx hb hK hP hD hS 4 1 rfl rfl (ix_in hg) dL_setWall_18 (fun H locs hP hD hS => ?_)
      have hP : va_P G.1 vwCl [(qX, .inr (7, [.ref qB, .ref qH, .ref qK, .ref qV, .ref qS, .ref qW])), (qB, .inr (0, [.ref qBT, .ref qBC, .ref qBN, .ref qBW, .ref qBL, .int bn, .int bk, .int bs])), (qBN, .inl (G.2.1, 64, .inl bN)), (qBW, .inl (G.2.1, 64, .inl v.2)), (qO, .inl (G.2.2.1, 1, .inr (.inl (vp_updL oO (0 : Int32).toNatClampNeg 1))))] H := hP
      have hD : va_D A [(qX, .inr (7, [.ref qB, .ref qH, .ref qK, .ref qV, .ref qS, .ref qW])), (qB, .inr (0, [.ref qBT, .ref qBC, .ref qBN, .ref qBW, .ref qBL, .int bn, .int bk, .int bs])), (qBN, .inl (G.2.1, 64, .inl bN)), (qBW, .inl (G.2.1, 64, .inl v.2)), (qO, .inl (G.2.2.1, 1, .inr (.inl (vp_updL oO (0 : Int32).toNatClampNeg 1))))] := hD
      refine lv_goto (tgt := 30) hx hb dL_setWall_19 (by decide) ?_
      refine lv_iconst (v := 0) hx hb dL_setWall_30 (by decide) ?_
      obtain rfl := Option.some.inj hq
      rw [hQ]
      refine vx_ret ?_
      refine W.widen (k := 3) (n := 18) (Nat.le_of_ble_eq_true rfl) (Nat.le_of_ble_eq_true rfl) ?_
      exact W.iret hx hb hr (fun t ht hW => ⟨⟨_, (), rfl, rfl, va_Pat ht hP⟩, hS.F ht⟩) hS.2.2 dL_setWall_31

def kL_setLock (F : Nat) (bn : Int32) (bk : Int32) (x1 : Int32) (x2 : Int32) (oO : Nat → Int64) : Option (Int32 × Int32 × (Nat → Int64)) :=
  ((kX7_setLock F bn bk x1 x2).bind fun q => onW q (fun u => (if u.1 = 0 then (if ix 0 1 = true then some (0, u.2, vp_updL oO (0 : Int32).toNatClampNeg 0) else none) else (if ix 0 1 = true then some (0, u.2, vp_updL oO (0 : Int32).toNatClampNeg 1) else none))) (fun e => (if e.1 = 1 then some (1, e.2, oO) else none)))
abbrev rmL_setLock : Room := { frames := 10, cells := 1, slots := 6, locals := 164 }
set_option maxHeartbeats 40000000 in
set_option maxRecDepth 100000 in
theorem tL_setLock (G : GG) (l : Launch) (hfl : l.stackTraces = false) {qX qB qH qK qV qS qW qBT qBC qBN qBW qBL qO sz : Nat} {bn : Int32} {bk : Int32} {bs : Int32} {oO : Nat → Int64} {x1 : Int32} {x2 : Int32} {F : Nat} {r : Int32 × Int32 × (Nat → Int64)} (hq : kL_setLock F bn bk x1 x2 oO = some r) : vx_Met l yL_setLock wsL_setLock rmL_setLock (pcL G [(qX, .inr (7, [.ref qB, .ref qH, .ref qK, .ref qV, .ref qS, .ref qW])), (qB, .inr (0, [.ref qBT, .ref qBC, .ref qBN, .ref qBW, .ref qBL, .int bn, .int bk, .int bs])), (qO, .inl (G.2.2.1, 1, .inr (.inl oO)))] sz [.ref qX, .int x1, .int x2, .ref qO]) (va_Qi (S := Unit) (fun x _ => r.1 = x) (fun _ t => va_P G.1 vwCl [(qX, .inr (7, [.ref qB, .ref qH, .ref qK, .ref qV, .ref qS, .ref qW])), (qB, .inr (0, [.ref qBT, .ref qBC, .ref qBN, .ref qBW, .ref qBL, .int bn, .int r.2.1, .int bs])), (qO, .inl (G.2.2.1, 1, .inr (.inl r.2.2)))] t.heap) (va_A [(qX, .inr (7, [.ref qB, .ref qH, .ref qK, .ref qV, .ref qS, .ref qW])), (qB, .inr (0, [.ref qBT, .ref qBC, .ref qBN, .ref qBW, .ref qBL, .int bn, .int bk, .int bs])), (qO, .inl (G.2.2.1, 1, .inr (.inl oO)))] sz)) (xcN (va_A [(qX, .inr (7, [.ref qB, .ref qH, .ref qK, .ref qV, .ref qS, .ref qW])), (qB, .inr (0, [.ref qBT, .ref qBC, .ref qBN, .ref qBW, .ref qBL, .int bn, .int bk, .int bs])), (qO, .inl (G.2.2.1, 1, .inr (.inl oO)))] sz)) 1 6 (va_A [(qX, .inr (7, [.ref qB, .ref qH, .ref qK, .ref qV, .ref qS, .ref qW])), (qB, .inr (0, [.ref qBT, .ref qBC, .ref qBN, .ref qBW, .ref qBL, .int bn, .int bk, .int bs])), (qO, .inl (G.2.2.1, 1, .inr (.inl oO)))] sz) := by
  refine vx_ofWH (cc := cL_setLock) (maxL := 5) (ret := some .int) (hh := [(0, 17, 20, 23)]) (by decide) rfl ?_
  intro p e s m args below meth c s₁ B hml hv
  obtain ⟨rfl, hsz, hP, hKK, hD0, hT, hN⟩ := hv
  have hK := hKK.1
  have hx := B.exec
  have hb := B.bytes
  have hr := B.returns
  have hts := atoms_spec (ws := wsL_setLock) B.pre
  have hown : s.vm.findClass RL = some m.cls := findClass_of_methodNamed B.named
  have hlocks := B.notSynchronized
  have hcw : (Cond.codeWith yL_setLock cL_setLock 5 (some .int) [(0, 17, 20, 23)]).before #[Value.ref qX, Value.int x1, Value.int x2, Value.ref qO] s = true := hts _ List.mem_cons_self
  have hk23 : (Cond.classLink RL 23 "java/lang/IndexOutOfBoundsException").before #[Value.ref qX, Value.int x1, Value.int x2, Value.ref qO] s = true := hts _ (by decide +kernel)
  subst hsz
  have hD := hD0.self (sz := s.heap.size)
  generalize hAe : va_A [(qX, .inr (7, [.ref qB, .ref qH, .ref qK, .ref qV, .ref qS, .ref qW])), (qB, .inr (0, [.ref qBT, .ref qBC, .ref qBN, .ref qBW, .ref qBL, .int bn, .int bk, .int bs])), (qO, .inl (G.2.2.1, 1, .inr (.inl oO)))] s.heap.size = A at hD hT ⊢
  have hA : ∀ q : Nat, s.heap.size ≤ q → A q := fun q h => by rw [← hAe]; exact Or.inr h
  have hS : va_S A s.heap s.heap [] := va_S.rf
  have hl := lv_entry ([.ref qX, .int x1, .int x2, .ref qO] : List Value) (n := 5) (Nat.le_of_ble_eq_true rfl)
  rw [lg_entry_eq]
  generalize (lg_sl ([.ref qX, .int x1, .int x2, .ref qO] : List Value) ++ List.replicate (5 - (lg_sl ([.ref qX, .int x1, .int x2, .ref qO] : List Value)).length) Slot.unset).toArray = ls at hl ⊢
  have hl : lv_has ls 5 [(0, .ref qX), (1, .int x1), (2, .int x2), (3, .ref qO)] := hl
  refine wq (fun Q hQ => ?_)
  unfold kL_setLock at hq
  obtain ⟨q, eq, hq⟩ := ob hq
  refine lv_aload_n hx hb dL_setLock_0 rfl (lv_at hl 3 rfl) ?_
  refine lv_iconst (v := 0) hx hb dL_setLock_1 (by decide) ?_
  refine lv_aload_n hx hb dL_setLock_2 rfl (lv_at hl 0 rfl) ?_
  refine lv_iload_n hx hb dL_setLock_3 rfl (lv_at hl 1 rfl) ?_
  refine lv_iload_n hx hb dL_setLock_4 rfl (lv_at hl 2 rfl) ?_
  have hPc := hP.sub (ws' := [(qX, .inr (7, [.ref qB, .ref qH, .ref qK, .ref qV, .ref qS, .ref qW])), (qB, .inr (0, [.ref qBT, .ref qBC, .ref qBN, .ref qBW, .ref qBL, .int bn, .int bk, .int bs]))]) [0, 1] rfl
  have hDc := hD.sub (ws' := [(qX, .inr (7, [.ref qB, .ref qH, .ref qK, .ref qV, .ref qS, .ref qW])), (qB, .inr (0, [.ref qBT, .ref qBC, .ref qBN, .ref qBW, .ref qBL, .int bn, .int bk, .int bs]))]) [0, 1] (by decide) rfl
  have hFc := va_free (wc := [(qX, .inr (7, [.ref qB, .ref qH, .ref qK, .ref qV, .ref qS, .ref qW])), (qB, .inr (0, [.ref qBT, .ref qBC, .ref qBN, .ref qBW, .ref qBL, .int bn, .int bk, .int bs]))]) hD hS hA [0, 1] rfl
  have hKc := hK
  refine vx_calli (vx_runV (As := [.int x1, .int x2]) (rest := [.int 0, .ref qO]) ⟨hx, hb, hml, hown, hts⟩ (tX7_setLock G l hfl eq) (cwV 2 hts gL_setLock_X7_setLock rfl rfl rfl (by decide +kernel) ⟨Nat.le_of_ble_eq_true rfl, Nat.le_of_ble_eq_true rfl⟩) ⟨pcX_blind, va_recv hKc hPc (ci := 7) (q0 := 0) rfl rfl, pcX_pre hPc hKK hDc hT hS hFc⟩ rfl rfl hl.1 rfl (lv_room (Nat.le_of_ble_eq_true rfl)) dL_setLock_5 ⟨Nat.le_of_ble_eq_true rfl, Nat.le_of_ble_eq_true rfl⟩) hS (fun q _ h => hFc q h) hFc (fun q _ h => hFc q h) (fun E ce q9 u t H1 locs ht hvm hpx hB hz1 hk1 hS hc1 hv1 hcl1 => ?_) (fun r0 u t H1 locs ht hvm hw hB hz1 hk1 hS => ?_)
  · obtain ⟨e, rfl⟩ : ∃ z, z = u := ⟨_, rfl⟩
    subst hpx
    have hq := onW_r hq
    obtain ⟨hE, hB⟩ := hB
    have hB := va_Pto ht hB
    obtain ⟨hP, hD⟩ := jn (ws' := [(qX, .inr (7, [.ref qB, .ref qH, .ref qK, .ref qV, .ref qS, .ref qW])), (qB, .inr (0, [.ref qBT, .ref qBC, .ref qBN, .ref qBW, .ref qBL, .int bn, .int e.2, .int bs])), (qO, .inl (G.2.2.1, 1, .inr (.inl oO)))]) hP hD hk1 hB [0, 1] rfl rfl rfl rfl
    generalize H1 = H at hP hS hc1 ⊢
    by_cases c_e0 : e.1 = 1
    · have hq := k_t c_e0 hq
      have hE : E = "java/lang/IndexOutOfBoundsException" := hE.trans (congrArg exN c_e0)
      subst hE
      refine vx_catch (name := "java/lang/IndexOutOfBoundsException") hown ([]) ({ startPc := 0, endPc := 17, handlerPc := 20, catchType := 23 } : Jvm.ClassFile.ExceptionTableEntry) ([]) ((vx_table (x := yL_setLock) B hcw).trans rfl) (fun _ h => absurd h List.not_mem_nil) (by decide) (by decide) hk23 ((hT.2.2.2.1 1 (by decide)).use rfl) hc1 hv1 hcl1 ?_
      refine lv_astore (lv' := [(4, .ref q9), (0, .ref qX), (1, .int x1), (2, .int x2), (3, .ref qO)]) hx hb dL_setLock_20 hl (by decide) rfl (fun ls hl => ?_)
      refine lv_iconst (v := 1) hx hb dL_setLock_22 (by decide) ?_
      obtain rfl := Option.some.inj hq
      rw [hQ]
      refine vx_ret ?_
      refine W.widen (k := 1) (n := 6) (Nat.le_of_ble_eq_true rfl) (Nat.le_of_ble_eq_true rfl) ?_
      exact W.iret hx hb hr (fun t ht hW => ⟨⟨_, (), rfl, rfl, va_Pat ht hP⟩, hS.F ht⟩) hS.2.2 dL_setLock_23
    · have hq := k_f c_e0 hq
      cases hq
  · obtain ⟨v, rfl⟩ : ∃ z, z = u := ⟨_, rfl⟩
    obtain ⟨hw, rfl⟩ := hw
    subst hw
    have hq := onW_l hq
    have hB := va_Pto ht hB
    obtain ⟨hP, hD⟩ := jn (ws' := [(qX, .inr (7, [.ref qB, .ref qH, .ref qK, .ref qV, .ref qS, .ref qW])), (qB, .inr (0, [.ref qBT, .ref qBC, .ref qBN, .ref qBW, .ref qBL, .int bn, .int v.2, .int bs])), (qO, .inl (G.2.2.1, 1, .inr (.inl oO)))]) hP hD hk1 hB [0, 1] rfl rfl rfl rfl
    generalize H1 = H at hP hS ⊢
    refine lv_if_eq (tgt := 15) hx hb dL_setLock_8 (by decide) (fun c_z => ?_) (fun c_z => ?_)
    · have hq := k_t c_z hq
      refine lv_lconst (v := 0) hx hb dL_setLock_15 (by decide) ?_
      obtain ⟨hg, hq⟩ := k_g hq
      refine va_last hx hb hK hP hD hS 2 1 rfl rfl (ix_in hg) dL_setLock_16 (fun H locs hP hD hS => ?_)
      have hP : va_P G.1 vwCl [(qX, .inr (7, [.ref qB, .ref qH, .ref qK, .ref qV, .ref qS, .ref qW])), (qB, .inr (0, [.ref qBT, .ref qBC, .ref qBN, .ref qBW, .ref qBL, .int bn, .int v.2, .int bs])), (qO, .inl (G.2.2.1, 1, .inr (.inl (vp_updL oO (0 : Int32).toNatClampNeg 0))))] H := hP
      have hD : va_D A [(qX, .inr (7, [.ref qB, .ref qH, .ref qK, .ref qV, .ref qS, .ref qW])), (qB, .inr (0, [.ref qBT, .ref qBC, .ref qBN, .ref qBW, .ref qBL, .int bn, .int v.2, .int bs])), (qO, .inl (G.2.2.1, 1, .inr (.inl (vp_updL oO (0 : Int32).toNatClampNeg 0))))] := hD
      refine lv_goto (tgt := 24) hx hb dL_setLock_17 (by decide) ?_
      refine lv_iconst (v := 0) hx hb dL_setLock_24 (by decide) ?_
      obtain rfl := Option.some.inj hq
      rw [hQ]
      refine vx_ret ?_
      refine W.widen (k := 1) (n := 6) (Nat.le_of_ble_eq_true rfl) (Nat.le_of_ble_eq_true rfl) ?_
      exact W.iret hx hb hr (fun t ht hW => ⟨⟨_, (), rfl, rfl, va_Pat ht hP⟩, hS.F ht⟩) hS.2.2 dL_setLock_25
    · have hq := k_f c_z hq
      refine lv_lconst (v := 1) hx hb dL_setLock_11 (by decide) ?_
      refine lv_goto (tgt := 16) hx hb dL_setLock_12 (by decide) ?_
      obtain ⟨hg, hq⟩ := k_g hq
      refine va_last hx hb hK hP hD hS 2 1 rfl rfl (ix_in hg) dL_setLock_16 (fun H locs hP hD hS => ?_)
      have hP : va_P G.1 vwCl [(qX, .inr (7, [.ref qB, .ref qH, .ref qK, .ref qV, .ref qS, .ref qW])), (qB, .inr (0, [.ref qBT, .ref qBC, .ref qBN, .ref qBW, .ref qBL, .int bn, .int v.2, .int bs])), (qO, .inl (G.2.2.1, 1, .inr (.inl (vp_updL oO (0 : Int32).toNatClampNeg 1))))] H := hP
      have hD : va_D A [(qX, .inr (7, [.ref qB, .ref qH, .ref qK, .ref qV, .ref qS, .ref qW])), (qB, .inr (0, [.ref qBT, .ref qBC, .ref qBN, .ref qBW, .ref qBL, .int bn, .int v.2, .int bs])), (qO, .inl (G.2.2.1, 1, .inr (.inl (vp_updL oO (0 : Int32).toNatClampNeg 1))))] := hD
      refine lv_goto (tgt := 24) hx hb dL_setLock_17 (by decide) ?_
      refine lv_iconst (v := 0) hx hb dL_setLock_24 (by decide) ?_
      obtain rfl := Option.some.inj hq
      rw [hQ]
      refine vx_ret ?_
      refine W.widen (k := 1) (n := 6) (Nat.le_of_ble_eq_true rfl) (Nat.le_of_ble_eq_true rfl) ?_
      exact W.iret hx hb hr (fun t ht hW => ⟨⟨_, (), rfl, rfl, va_Pat ht hP⟩, hS.F ht⟩) hS.2.2 dL_setLock_25

def kL_setSource (F : Nat) (bn : Int32) (bs : Int32) (x1 : Int32) (oO : Nat → Int64) : Option (Int32 × Int32 × (Nat → Int64)) :=
  ((kX7_setSource F bn bs x1).bind fun q => onW q (fun u => (if ix 0 1 = true then some (0, u.2, vp_updL oO (0 : Int32).toNatClampNeg (u.1).toInt64) else none)) (fun e => (if e.1 = 1 then some (1, e.2, oO) else none)))
abbrev rmL_setSource : Room := { frames := 10, cells := 1, slots := 6, locals := 163 }
set_option maxHeartbeats 40000000 in
set_option maxRecDepth 100000 in
theorem tL_setSource (G : GG) (l : Launch) (hfl : l.stackTraces = false) {qX qB qH qK qV qS qW qBT qBC qBN qBW qBL qO sz : Nat} {bn : Int32} {bk : Int32} {bs : Int32} {oO : Nat → Int64} {x1 : Int32} {F : Nat} {r : Int32 × Int32 × (Nat → Int64)} (hq : kL_setSource F bn bs x1 oO = some r) : vx_Met l yL_setSource wsL_setSource rmL_setSource (pcL G [(qX, .inr (7, [.ref qB, .ref qH, .ref qK, .ref qV, .ref qS, .ref qW])), (qB, .inr (0, [.ref qBT, .ref qBC, .ref qBN, .ref qBW, .ref qBL, .int bn, .int bk, .int bs])), (qO, .inl (G.2.2.1, 1, .inr (.inl oO)))] sz [.ref qX, .int x1, .ref qO]) (va_Qi (S := Unit) (fun x _ => r.1 = x) (fun _ t => va_P G.1 vwCl [(qX, .inr (7, [.ref qB, .ref qH, .ref qK, .ref qV, .ref qS, .ref qW])), (qB, .inr (0, [.ref qBT, .ref qBC, .ref qBN, .ref qBW, .ref qBL, .int bn, .int bk, .int r.2.1])), (qO, .inl (G.2.2.1, 1, .inr (.inl r.2.2)))] t.heap) (va_A [(qX, .inr (7, [.ref qB, .ref qH, .ref qK, .ref qV, .ref qS, .ref qW])), (qB, .inr (0, [.ref qBT, .ref qBC, .ref qBN, .ref qBW, .ref qBL, .int bn, .int bk, .int bs])), (qO, .inl (G.2.2.1, 1, .inr (.inl oO)))] sz)) (xcN (va_A [(qX, .inr (7, [.ref qB, .ref qH, .ref qK, .ref qV, .ref qS, .ref qW])), (qB, .inr (0, [.ref qBT, .ref qBC, .ref qBN, .ref qBW, .ref qBL, .int bn, .int bk, .int bs])), (qO, .inl (G.2.2.1, 1, .inr (.inl oO)))] sz)) 1 6 (va_A [(qX, .inr (7, [.ref qB, .ref qH, .ref qK, .ref qV, .ref qS, .ref qW])), (qB, .inr (0, [.ref qBT, .ref qBC, .ref qBN, .ref qBW, .ref qBL, .int bn, .int bk, .int bs])), (qO, .inl (G.2.2.1, 1, .inr (.inl oO)))] sz) := by
  refine vx_ofWH (cc := cL_setSource) (maxL := 4) (ret := some .int) (hh := [(0, 9, 12, 23)]) (by decide) rfl ?_
  intro p e s m args below meth c s₁ B hml hv
  obtain ⟨rfl, hsz, hP, hKK, hD0, hT, hN⟩ := hv
  have hK := hKK.1
  have hx := B.exec
  have hb := B.bytes
  have hr := B.returns
  have hts := atoms_spec (ws := wsL_setSource) B.pre
  have hown : s.vm.findClass RL = some m.cls := findClass_of_methodNamed B.named
  have hlocks := B.notSynchronized
  have hcw : (Cond.codeWith yL_setSource cL_setSource 4 (some .int) [(0, 9, 12, 23)]).before #[Value.ref qX, Value.int x1, Value.ref qO] s = true := hts _ List.mem_cons_self
  have hk23 : (Cond.classLink RL 23 "java/lang/IndexOutOfBoundsException").before #[Value.ref qX, Value.int x1, Value.ref qO] s = true := hts _ (by decide +kernel)
  subst hsz
  have hD := hD0.self (sz := s.heap.size)
  generalize hAe : va_A [(qX, .inr (7, [.ref qB, .ref qH, .ref qK, .ref qV, .ref qS, .ref qW])), (qB, .inr (0, [.ref qBT, .ref qBC, .ref qBN, .ref qBW, .ref qBL, .int bn, .int bk, .int bs])), (qO, .inl (G.2.2.1, 1, .inr (.inl oO)))] s.heap.size = A at hD hT ⊢
  have hA : ∀ q : Nat, s.heap.size ≤ q → A q := fun q h => by rw [← hAe]; exact Or.inr h
  have hS : va_S A s.heap s.heap [] := va_S.rf
  have hl := lv_entry ([.ref qX, .int x1, .ref qO] : List Value) (n := 4) (Nat.le_of_ble_eq_true rfl)
  rw [lg_entry_eq]
  generalize (lg_sl ([.ref qX, .int x1, .ref qO] : List Value) ++ List.replicate (4 - (lg_sl ([.ref qX, .int x1, .ref qO] : List Value)).length) Slot.unset).toArray = ls at hl ⊢
  have hl : lv_has ls 4 [(0, .ref qX), (1, .int x1), (2, .ref qO)] := hl
  refine wq (fun Q hQ => ?_)
  unfold kL_setSource at hq
  obtain ⟨q, eq, hq⟩ := ob hq
  refine lv_aload_n hx hb dL_setSource_0 rfl (lv_at hl 2 rfl) ?_
  refine lv_iconst (v := 0) hx hb dL_setSource_1 (by decide) ?_
  refine lv_aload_n hx hb dL_setSource_2 rfl (lv_at hl 0 rfl) ?_
  refine lv_iload_n hx hb dL_setSource_3 rfl (lv_at hl 1 rfl) ?_
  have hPc := hP.sub (ws' := [(qX, .inr (7, [.ref qB, .ref qH, .ref qK, .ref qV, .ref qS, .ref qW])), (qB, .inr (0, [.ref qBT, .ref qBC, .ref qBN, .ref qBW, .ref qBL, .int bn, .int bk, .int bs]))]) [0, 1] rfl
  have hDc := hD.sub (ws' := [(qX, .inr (7, [.ref qB, .ref qH, .ref qK, .ref qV, .ref qS, .ref qW])), (qB, .inr (0, [.ref qBT, .ref qBC, .ref qBN, .ref qBW, .ref qBL, .int bn, .int bk, .int bs]))]) [0, 1] (by decide) rfl
  have hFc := va_free (wc := [(qX, .inr (7, [.ref qB, .ref qH, .ref qK, .ref qV, .ref qS, .ref qW])), (qB, .inr (0, [.ref qBT, .ref qBC, .ref qBN, .ref qBW, .ref qBL, .int bn, .int bk, .int bs]))]) hD hS hA [0, 1] rfl
  have hKc := hK
  refine vx_calli (vx_runV (As := [.int x1]) (rest := [.int 0, .ref qO]) ⟨hx, hb, hml, hown, hts⟩ (tX7_setSource G l hfl eq) (cwV 1 hts gL_setSource_X7_setSource rfl rfl rfl (by decide +kernel) ⟨Nat.le_of_ble_eq_true rfl, Nat.le_of_ble_eq_true rfl⟩) ⟨pcX_blind, va_recv hKc hPc (ci := 7) (q0 := 0) rfl rfl, pcX_pre hPc hKK hDc hT hS hFc⟩ rfl rfl hl.1 rfl (lv_room (Nat.le_of_ble_eq_true rfl)) dL_setSource_4 ⟨Nat.le_of_ble_eq_true rfl, Nat.le_of_ble_eq_true rfl⟩) hS (fun q _ h => hFc q h) hFc (fun q _ h => hFc q h) (fun E ce q9 u t H1 locs ht hvm hpx hB hz1 hk1 hS hc1 hv1 hcl1 => ?_) (fun r0 u t H1 locs ht hvm hw hB hz1 hk1 hS => ?_)
  · obtain ⟨e, rfl⟩ : ∃ z, z = u := ⟨_, rfl⟩
    subst hpx
    have hq := onW_r hq
    obtain ⟨hE, hB⟩ := hB
    have hB := va_Pto ht hB
    obtain ⟨hP, hD⟩ := jn (ws' := [(qX, .inr (7, [.ref qB, .ref qH, .ref qK, .ref qV, .ref qS, .ref qW])), (qB, .inr (0, [.ref qBT, .ref qBC, .ref qBN, .ref qBW, .ref qBL, .int bn, .int bk, .int e.2])), (qO, .inl (G.2.2.1, 1, .inr (.inl oO)))]) hP hD hk1 hB [0, 1] rfl rfl rfl rfl
    generalize H1 = H at hP hS hc1 ⊢
    by_cases c_e0 : e.1 = 1
    · have hq := k_t c_e0 hq
      have hE : E = "java/lang/IndexOutOfBoundsException" := hE.trans (congrArg exN c_e0)
      subst hE
      refine vx_catch (name := "java/lang/IndexOutOfBoundsException") hown ([]) ({ startPc := 0, endPc := 9, handlerPc := 12, catchType := 23 } : Jvm.ClassFile.ExceptionTableEntry) ([]) ((vx_table (x := yL_setSource) B hcw).trans rfl) (fun _ h => absurd h List.not_mem_nil) (by decide) (by decide) hk23 ((hT.2.2.2.1 1 (by decide)).use rfl) hc1 hv1 hcl1 ?_
      refine lv_astore_n (lv' := [(3, .ref q9), (0, .ref qX), (1, .int x1), (2, .ref qO)]) hx hb dL_setSource_12 rfl hl (by decide) rfl (fun ls hl => ?_)
      refine lv_iconst (v := 1) hx hb dL_setSource_13 (by decide) ?_
      obtain rfl := Option.some.inj hq
      rw [hQ]
      refine vx_ret ?_
      refine W.widen (k := 1) (n := 6) (Nat.le_of_ble_eq_true rfl) (Nat.le_of_ble_eq_true rfl) ?_
      exact W.iret hx hb hr (fun t ht hW => ⟨⟨_, (), rfl, rfl, va_Pat ht hP⟩, hS.F ht⟩) hS.2.2 dL_setSource_14
    · have hq := k_f c_e0 hq
      cases hq
  · obtain ⟨v, rfl⟩ : ∃ z, z = u := ⟨_, rfl⟩
    obtain ⟨hw, rfl⟩ := hw
    subst hw
    have hq := onW_l hq
    have hB := va_Pto ht hB
    obtain ⟨hP, hD⟩ := jn (ws' := [(qX, .inr (7, [.ref qB, .ref qH, .ref qK, .ref qV, .ref qS, .ref qW])), (qB, .inr (0, [.ref qBT, .ref qBC, .ref qBN, .ref qBW, .ref qBL, .int bn, .int bk, .int v.2])), (qO, .inl (G.2.2.1, 1, .inr (.inl oO)))]) hP hD hk1 hB [0, 1] rfl rfl rfl rfl
    generalize H1 = H at hP hS ⊢
    refine lv_i2l hx hb dL_setSource_7 rfl ?_
    obtain ⟨hg, hq⟩ := k_g hq
    refine va_last hx hb hK hP hD hS 2 1 rfl rfl (ix_in hg) dL_setSource_8 (fun H locs hP hD hS => ?_)
    have hP : va_P G.1 vwCl [(qX, .inr (7, [.ref qB, .ref qH, .ref qK, .ref qV, .ref qS, .ref qW])), (qB, .inr (0, [.ref qBT, .ref qBC, .ref qBN, .ref qBW, .ref qBL, .int bn, .int bk, .int v.2])), (qO, .inl (G.2.2.1, 1, .inr (.inl (vp_updL oO (0 : Int32).toNatClampNeg (v.1).toInt64))))] H := hP
    have hD : va_D A [(qX, .inr (7, [.ref qB, .ref qH, .ref qK, .ref qV, .ref qS, .ref qW])), (qB, .inr (0, [.ref qBT, .ref qBC, .ref qBN, .ref qBW, .ref qBL, .int bn, .int bk, .int v.2])), (qO, .inl (G.2.2.1, 1, .inr (.inl (vp_updL oO (0 : Int32).toNatClampNeg (v.1).toInt64))))] := hD
    refine lv_goto (tgt := 15) hx hb dL_setSource_9 (by decide) ?_
    refine lv_iconst (v := 0) hx hb dL_setSource_15 (by decide) ?_
    obtain rfl := Option.some.inj hq
    rw [hQ]
    refine vx_ret ?_
    refine W.widen (k := 1) (n := 6) (Nat.le_of_ble_eq_true rfl) (Nat.le_of_ble_eq_true rfl) ?_
    exact W.iret hx hb hr (fun t ht hW => ⟨⟨_, (), rfl, rfl, va_Pat ht hP⟩, hS.F ht⟩) hS.2.2 dL_setSource_16

def kL_turn (F : Nat) (bn : Int32) (bk : Int32) (bT : Nat → Int32) (hd : Int32) (hk : Int32) (hM : Nat → Int32) (x1 : Int32) (oO : Nat → Int64) : Option (Int32 × (Nat → Int32) × Int32 × Int32 × (Nat → Int32) × (Nat → Int64)) :=
  ((kX7_turn F bn bk bT hd hk hM x1).bind fun q => onW q (fun u => (if ix 0 1 = true then some (0, u.2.1, u.2.2.1, u.2.2.2.1, u.2.2.2.2, vp_updL oO (0 : Int32).toNatClampNeg (u.1).toInt64) else none)) (fun e => (if e.1 = 1 then some (1, e.2.1, e.2.2.1, e.2.2.2.1, e.2.2.2.2, oO) else (if e.1 = 2 then some (2, e.2.1, e.2.2.1, e.2.2.2.1, e.2.2.2.2, oO) else none))))
abbrev rmL_turn : Room := { frames := 10, cells := 2, slots := 12, locals := 162 }
set_option maxHeartbeats 40000000 in
set_option maxRecDepth 100000 in
theorem tL_turn (G : GG) (l : Launch) (hfl : l.stackTraces = false) {qX qB qH qK qV qS qW qBT qBC qBN qBW qBL qHM qO sz : Nat} {bn : Int32} {bk : Int32} {bs : Int32} {bT : Nat → Int32} {hd : Int32} {hk : Int32} {hM : Nat → Int32} {oO : Nat → Int64} {x1 : Int32} {F : Nat} {r : Int32 × (Nat → Int32) × Int32 × Int32 × (Nat → Int32) × (Nat → Int64)} (hq : kL_turn F bn bk bT hd hk hM x1 oO = some r) : vx_Met l yL_turn wsL_turn rmL_turn (pcL G [(qX, .inr (7, [.ref qB, .ref qH, .ref qK, .ref qV, .ref qS, .ref qW])), (qB, .inr (0, [.ref qBT, .ref qBC, .ref qBN, .ref qBW, .ref qBL, .int bn, .int bk, .int bs])), (qBT, .inl (G.2.1, 16, .inl bT)), (qH, .inr (2, [.ref qHM, .int hd, .int hk])), (qHM, .inl (G.2.1, 512, .inl hM)), (qO, .inl (G.2.2.1, 1, .inr (.inl oO)))] sz [.ref qX, .int x1, .ref qO]) (va_Qi (S := Unit) (fun x _ => r.1 = x) (fun _ t => va_P G.1 vwCl [(qX, .inr (7, [.ref qB, .ref qH, .ref qK, .ref qV, .ref qS, .ref qW])), (qB, .inr (0, [.ref qBT, .ref qBC, .ref qBN, .ref qBW, .ref qBL, .int bn, .int bk, .int bs])), (qBT, .inl (G.2.1, 16, .inl r.2.1)), (qH, .inr (2, [.ref qHM, .int r.2.2.1, .int r.2.2.2.1])), (qHM, .inl (G.2.1, 512, .inl r.2.2.2.2.1)), (qO, .inl (G.2.2.1, 1, .inr (.inl r.2.2.2.2.2)))] t.heap) (va_A [(qX, .inr (7, [.ref qB, .ref qH, .ref qK, .ref qV, .ref qS, .ref qW])), (qB, .inr (0, [.ref qBT, .ref qBC, .ref qBN, .ref qBW, .ref qBL, .int bn, .int bk, .int bs])), (qBT, .inl (G.2.1, 16, .inl bT)), (qH, .inr (2, [.ref qHM, .int hd, .int hk])), (qHM, .inl (G.2.1, 512, .inl hM)), (qO, .inl (G.2.2.1, 1, .inr (.inl oO)))] sz)) (xcN (va_A [(qX, .inr (7, [.ref qB, .ref qH, .ref qK, .ref qV, .ref qS, .ref qW])), (qB, .inr (0, [.ref qBT, .ref qBC, .ref qBN, .ref qBW, .ref qBL, .int bn, .int bk, .int bs])), (qBT, .inl (G.2.1, 16, .inl bT)), (qH, .inr (2, [.ref qHM, .int hd, .int hk])), (qHM, .inl (G.2.1, 512, .inl hM)), (qO, .inl (G.2.2.1, 1, .inr (.inl oO)))] sz)) 2 12 (va_A [(qX, .inr (7, [.ref qB, .ref qH, .ref qK, .ref qV, .ref qS, .ref qW])), (qB, .inr (0, [.ref qBT, .ref qBC, .ref qBN, .ref qBW, .ref qBL, .int bn, .int bk, .int bs])), (qBT, .inl (G.2.1, 16, .inl bT)), (qH, .inr (2, [.ref qHM, .int hd, .int hk])), (qHM, .inl (G.2.1, 512, .inl hM)), (qO, .inl (G.2.2.1, 1, .inr (.inl oO)))] sz) := by
  refine vx_ofWH (cc := cL_turn) (maxL := 4) (ret := some .int) (hh := [(0, 9, 12, 23), (0, 9, 15, 29)]) (by decide) rfl ?_
  intro p e s m args below meth c s₁ B hml hv
  obtain ⟨rfl, hsz, hP, hKK, hD0, hT, hN⟩ := hv
  have hK := hKK.1
  have hx := B.exec
  have hb := B.bytes
  have hr := B.returns
  have hts := atoms_spec (ws := wsL_turn) B.pre
  have hown : s.vm.findClass RL = some m.cls := findClass_of_methodNamed B.named
  have hlocks := B.notSynchronized
  have hcw : (Cond.codeWith yL_turn cL_turn 4 (some .int) [(0, 9, 12, 23), (0, 9, 15, 29)]).before #[Value.ref qX, Value.int x1, Value.ref qO] s = true := hts _ List.mem_cons_self
  have hk23 : (Cond.classLink RL 23 "java/lang/IndexOutOfBoundsException").before #[Value.ref qX, Value.int x1, Value.ref qO] s = true := hts _ (by decide +kernel)
  have hk29 : (Cond.classLink RL 29 "java/lang/IllegalStateException").before #[Value.ref qX, Value.int x1, Value.ref qO] s = true := hts _ (by decide +kernel)
  subst hsz
  have hD := hD0.self (sz := s.heap.size)
  generalize hAe : va_A [(qX, .inr (7, [.ref qB, .ref qH, .ref qK, .ref qV, .ref qS, .ref qW])), (qB, .inr (0, [.ref qBT, .ref qBC, .ref qBN, .ref qBW, .ref qBL, .int bn, .int bk, .int bs])), (qBT, .inl (G.2.1, 16, .inl bT)), (qH, .inr (2, [.ref qHM, .int hd, .int hk])), (qHM, .inl (G.2.1, 512, .inl hM)), (qO, .inl (G.2.2.1, 1, .inr (.inl oO)))] s.heap.size = A at hD hT ⊢
  have hA : ∀ q : Nat, s.heap.size ≤ q → A q := fun q h => by rw [← hAe]; exact Or.inr h
  have hS : va_S A s.heap s.heap [] := va_S.rf
  have hl := lv_entry ([.ref qX, .int x1, .ref qO] : List Value) (n := 4) (Nat.le_of_ble_eq_true rfl)
  rw [lg_entry_eq]
  generalize (lg_sl ([.ref qX, .int x1, .ref qO] : List Value) ++ List.replicate (4 - (lg_sl ([.ref qX, .int x1, .ref qO] : List Value)).length) Slot.unset).toArray = ls at hl ⊢
  have hl : lv_has ls 4 [(0, .ref qX), (1, .int x1), (2, .ref qO)] := hl
  refine wq (fun Q hQ => ?_)
  unfold kL_turn at hq
  obtain ⟨q, eq, hq⟩ := ob hq
  refine lv_aload_n hx hb dL_turn_0 rfl (lv_at hl 2 rfl) ?_
  refine lv_iconst (v := 0) hx hb dL_turn_1 (by decide) ?_
  refine lv_aload_n hx hb dL_turn_2 rfl (lv_at hl 0 rfl) ?_
  refine lv_iload_n hx hb dL_turn_3 rfl (lv_at hl 1 rfl) ?_
  have hPc := hP.sub (ws' := [(qX, .inr (7, [.ref qB, .ref qH, .ref qK, .ref qV, .ref qS, .ref qW])), (qB, .inr (0, [.ref qBT, .ref qBC, .ref qBN, .ref qBW, .ref qBL, .int bn, .int bk, .int bs])), (qBT, .inl (G.2.1, 16, .inl bT)), (qH, .inr (2, [.ref qHM, .int hd, .int hk])), (qHM, .inl (G.2.1, 512, .inl hM))]) [0, 1, 2, 3, 4] rfl
  have hDc := hD.sub (ws' := [(qX, .inr (7, [.ref qB, .ref qH, .ref qK, .ref qV, .ref qS, .ref qW])), (qB, .inr (0, [.ref qBT, .ref qBC, .ref qBN, .ref qBW, .ref qBL, .int bn, .int bk, .int bs])), (qBT, .inl (G.2.1, 16, .inl bT)), (qH, .inr (2, [.ref qHM, .int hd, .int hk])), (qHM, .inl (G.2.1, 512, .inl hM))]) [0, 1, 2, 3, 4] (by decide) rfl
  have hFc := va_free (wc := [(qX, .inr (7, [.ref qB, .ref qH, .ref qK, .ref qV, .ref qS, .ref qW])), (qB, .inr (0, [.ref qBT, .ref qBC, .ref qBN, .ref qBW, .ref qBL, .int bn, .int bk, .int bs])), (qBT, .inl (G.2.1, 16, .inl bT)), (qH, .inr (2, [.ref qHM, .int hd, .int hk])), (qHM, .inl (G.2.1, 512, .inl hM))]) hD hS hA [0, 1, 2, 3, 4] rfl
  have hKc := hK
  refine vx_calli (vx_runV (As := [.int x1]) (rest := [.int 0, .ref qO]) ⟨hx, hb, hml, hown, hts⟩ (tX7_turn G l hfl eq) (cwV 1 hts gL_turn_X7_turn rfl rfl rfl (by decide +kernel) ⟨Nat.le_of_ble_eq_true rfl, Nat.le_of_ble_eq_true rfl⟩) ⟨pcX_blind, va_recv hKc hPc (ci := 7) (q0 := 0) rfl rfl, pcX_pre hPc hKK hDc hT hS hFc⟩ rfl rfl hl.1 rfl (lv_room (Nat.le_of_ble_eq_true rfl)) dL_turn_4 ⟨Nat.le_of_ble_eq_true rfl, Nat.le_of_ble_eq_true rfl⟩) hS (fun q _ h => hFc q h) hFc (fun q _ h => hFc q h) (fun E ce q9 u t H1 locs ht hvm hpx hB hz1 hk1 hS hc1 hv1 hcl1 => ?_) (fun r0 u t H1 locs ht hvm hw hB hz1 hk1 hS => ?_)
  · obtain ⟨e, rfl⟩ : ∃ z, z = u := ⟨_, rfl⟩
    subst hpx
    have hq := onW_r hq
    obtain ⟨hE, hB⟩ := hB
    have hB := va_Pto ht hB
    obtain ⟨hP, hD⟩ := jn (ws' := [(qX, .inr (7, [.ref qB, .ref qH, .ref qK, .ref qV, .ref qS, .ref qW])), (qB, .inr (0, [.ref qBT, .ref qBC, .ref qBN, .ref qBW, .ref qBL, .int bn, .int bk, .int bs])), (qBT, .inl (G.2.1, 16, .inl e.2.1)), (qH, .inr (2, [.ref qHM, .int e.2.2.1, .int e.2.2.2.1])), (qHM, .inl (G.2.1, 512, .inl e.2.2.2.2)), (qO, .inl (G.2.2.1, 1, .inr (.inl oO)))]) hP hD hk1 hB [0, 1, 2, 3, 4] rfl rfl rfl rfl
    generalize H1 = H at hP hS hc1 ⊢
    by_cases c_e0 : e.1 = 1
    · have hq := k_t c_e0 hq
      have hE : E = "java/lang/IndexOutOfBoundsException" := hE.trans (congrArg exN c_e0)
      subst hE
      refine vx_catch (name := "java/lang/IndexOutOfBoundsException") hown ([]) ({ startPc := 0, endPc := 9, handlerPc := 12, catchType := 23 } : Jvm.ClassFile.ExceptionTableEntry) ([({ startPc := 0, endPc := 9, handlerPc := 15, catchType := 29 } : Jvm.ClassFile.ExceptionTableEntry)]) ((vx_table (x := yL_turn) B hcw).trans rfl) (fun _ h => absurd h List.not_mem_nil) (by decide) (by decide) hk23 ((hT.2.2.2.1 1 (by decide)).use rfl) hc1 hv1 hcl1 ?_
      refine lv_astore_n (lv' := [(3, .ref q9), (0, .ref qX), (1, .int x1), (2, .ref qO)]) hx hb dL_turn_12 rfl hl (by decide) rfl (fun ls hl => ?_)
      refine lv_iconst (v := 1) hx hb dL_turn_13 (by decide) ?_
      obtain rfl := Option.some.inj hq
      rw [hQ]
      refine vx_ret ?_
      refine W.widen (k := 2) (n := 12) (Nat.le_of_ble_eq_true rfl) (Nat.le_of_ble_eq_true rfl) ?_
      exact W.iret hx hb hr (fun t ht hW => ⟨⟨_, (), rfl, rfl, va_Pat ht hP⟩, hS.F ht⟩) hS.2.2 dL_turn_14
    · have hq := k_f c_e0 hq
      by_cases c_e1 : e.1 = 2
      · have hq := k_t c_e1 hq
        have hE : E = "java/lang/IllegalStateException" := hE.trans (congrArg exN c_e1)
        subst hE
        refine vx_catch (name := "java/lang/IllegalStateException") hown ([({ startPc := 0, endPc := 9, handlerPc := 12, catchType := 23 } : Jvm.ClassFile.ExceptionTableEntry)]) ({ startPc := 0, endPc := 9, handlerPc := 15, catchType := 29 } : Jvm.ClassFile.ExceptionTableEntry) ([]) ((vx_table (x := yL_turn) B hcw).trans rfl) (fun z hz => by rcases List.mem_singleton.mp hz with rfl; exact Or.inr ⟨by decide, _, hk23, hN.2⟩) (by decide) (by decide) hk29 ((hT.2.2.2.1 2 (by decide)).use rfl) hc1 hv1 hcl1 ?_
        refine lv_astore_n (lv' := [(3, .ref q9), (0, .ref qX), (1, .int x1), (2, .ref qO)]) hx hb dL_turn_15 rfl hl (by decide) rfl (fun ls hl => ?_)
        refine lv_iconst (v := 2) hx hb dL_turn_16 (by decide) ?_
        obtain rfl := Option.some.inj hq
        rw [hQ]
        refine vx_ret ?_
        refine W.widen (k := 2) (n := 12) (Nat.le_of_ble_eq_true rfl) (Nat.le_of_ble_eq_true rfl) ?_
        exact W.iret hx hb hr (fun t ht hW => ⟨⟨_, (), rfl, rfl, va_Pat ht hP⟩, hS.F ht⟩) hS.2.2 dL_turn_17
      · have hq := k_f c_e1 hq
        cases hq
  · obtain ⟨v, rfl⟩ : ∃ z, z = u := ⟨_, rfl⟩
    obtain ⟨hw, rfl⟩ := hw
    subst hw
    have hq := onW_l hq
    have hB := va_Pto ht hB
    obtain ⟨hP, hD⟩ := jn (ws' := [(qX, .inr (7, [.ref qB, .ref qH, .ref qK, .ref qV, .ref qS, .ref qW])), (qB, .inr (0, [.ref qBT, .ref qBC, .ref qBN, .ref qBW, .ref qBL, .int bn, .int bk, .int bs])), (qBT, .inl (G.2.1, 16, .inl v.2.1)), (qH, .inr (2, [.ref qHM, .int v.2.2.1, .int v.2.2.2.1])), (qHM, .inl (G.2.1, 512, .inl v.2.2.2.2)), (qO, .inl (G.2.2.1, 1, .inr (.inl oO)))]) hP hD hk1 hB [0, 1, 2, 3, 4] rfl rfl rfl rfl
    generalize H1 = H at hP hS ⊢
    refine lv_i2l hx hb dL_turn_7 rfl ?_
    obtain ⟨hg, hq⟩ := k_g hq
    refine va_last hx hb hK hP hD hS 5 1 rfl rfl (ix_in hg) dL_turn_8 (fun H locs hP hD hS => ?_)
    have hP : va_P G.1 vwCl [(qX, .inr (7, [.ref qB, .ref qH, .ref qK, .ref qV, .ref qS, .ref qW])), (qB, .inr (0, [.ref qBT, .ref qBC, .ref qBN, .ref qBW, .ref qBL, .int bn, .int bk, .int bs])), (qBT, .inl (G.2.1, 16, .inl v.2.1)), (qH, .inr (2, [.ref qHM, .int v.2.2.1, .int v.2.2.2.1])), (qHM, .inl (G.2.1, 512, .inl v.2.2.2.2)), (qO, .inl (G.2.2.1, 1, .inr (.inl (vp_updL oO (0 : Int32).toNatClampNeg (v.1).toInt64))))] H := hP
    have hD : va_D A [(qX, .inr (7, [.ref qB, .ref qH, .ref qK, .ref qV, .ref qS, .ref qW])), (qB, .inr (0, [.ref qBT, .ref qBC, .ref qBN, .ref qBW, .ref qBL, .int bn, .int bk, .int bs])), (qBT, .inl (G.2.1, 16, .inl v.2.1)), (qH, .inr (2, [.ref qHM, .int v.2.2.1, .int v.2.2.2.1])), (qHM, .inl (G.2.1, 512, .inl v.2.2.2.2)), (qO, .inl (G.2.2.1, 1, .inr (.inl (vp_updL oO (0 : Int32).toNatClampNeg (v.1).toInt64))))] := hD
    refine lv_goto (tgt := 18) hx hb dL_turn_9 (by decide) ?_
    refine lv_iconst (v := 0) hx hb dL_turn_18 (by decide) ?_
    obtain rfl := Option.some.inj hq
    rw [hQ]
    refine vx_ret ?_
    refine W.widen (k := 2) (n := 12) (Nat.le_of_ble_eq_true rfl) (Nat.le_of_ble_eq_true rfl) ?_
    exact W.iret hx hb hr (fun t ht hW => ⟨⟨_, (), rfl, rfl, va_Pat ht hP⟩, hS.F ht⟩) hS.2.2 dL_turn_19

def kL_undo (F : Nat) (bn : Int32) (bT : Nat → Int32) (hd : Int32) (hM : Nat → Int32) (oO : Nat → Int64) : Option (Int32 × (Nat → Int32) × Int32 × (Nat → Int64)) :=
  ((kX7_undo F bn bT hd hM).bind fun q => onW q (fun u => (if ix 0 1 = true then some (0, u.2.1, u.2.2, vp_updL oO (0 : Int32).toNatClampNeg (u.1).toInt64) else none)) (fun e => (if e.1 = 2 then some (1, e.2.1, e.2.2, oO) else none)))
abbrev rmL_undo : Room := { frames := 9, cells := 1, slots := 6, locals := 141 }
set_option maxHeartbeats 40000000 in
set_option maxRecDepth 100000 in
theorem tL_undo (G : GG) (l : Launch) (hfl : l.stackTraces = false) {qX qB qH qK qV qS qW qBT qBC qBN qBW qBL qHM qO sz : Nat} {bn : Int32} {bk : Int32} {bs : Int32} {bT : Nat → Int32} {hd : Int32} {hk : Int32} {hM : Nat → Int32} {oO : Nat → Int64} {F : Nat} {r : Int32 × (Nat → Int32) × Int32 × (Nat → Int64)} (hq : kL_undo F bn bT hd hM oO = some r) : vx_Met l yL_undo wsL_undo rmL_undo (pcL G [(qX, .inr (7, [.ref qB, .ref qH, .ref qK, .ref qV, .ref qS, .ref qW])), (qB, .inr (0, [.ref qBT, .ref qBC, .ref qBN, .ref qBW, .ref qBL, .int bn, .int bk, .int bs])), (qBT, .inl (G.2.1, 16, .inl bT)), (qH, .inr (2, [.ref qHM, .int hd, .int hk])), (qHM, .inl (G.2.1, 512, .inl hM)), (qO, .inl (G.2.2.1, 1, .inr (.inl oO)))] sz [.ref qX, .ref qO]) (va_Qi (S := Unit) (fun x _ => r.1 = x) (fun _ t => va_P G.1 vwCl [(qX, .inr (7, [.ref qB, .ref qH, .ref qK, .ref qV, .ref qS, .ref qW])), (qB, .inr (0, [.ref qBT, .ref qBC, .ref qBN, .ref qBW, .ref qBL, .int bn, .int bk, .int bs])), (qBT, .inl (G.2.1, 16, .inl r.2.1)), (qH, .inr (2, [.ref qHM, .int r.2.2.1, .int hk])), (qHM, .inl (G.2.1, 512, .inl hM)), (qO, .inl (G.2.2.1, 1, .inr (.inl r.2.2.2)))] t.heap) (va_A [(qX, .inr (7, [.ref qB, .ref qH, .ref qK, .ref qV, .ref qS, .ref qW])), (qB, .inr (0, [.ref qBT, .ref qBC, .ref qBN, .ref qBW, .ref qBL, .int bn, .int bk, .int bs])), (qBT, .inl (G.2.1, 16, .inl bT)), (qH, .inr (2, [.ref qHM, .int hd, .int hk])), (qHM, .inl (G.2.1, 512, .inl hM)), (qO, .inl (G.2.2.1, 1, .inr (.inl oO)))] sz)) (xcN (va_A [(qX, .inr (7, [.ref qB, .ref qH, .ref qK, .ref qV, .ref qS, .ref qW])), (qB, .inr (0, [.ref qBT, .ref qBC, .ref qBN, .ref qBW, .ref qBL, .int bn, .int bk, .int bs])), (qBT, .inl (G.2.1, 16, .inl bT)), (qH, .inr (2, [.ref qHM, .int hd, .int hk])), (qHM, .inl (G.2.1, 512, .inl hM)), (qO, .inl (G.2.2.1, 1, .inr (.inl oO)))] sz)) 1 6 (va_A [(qX, .inr (7, [.ref qB, .ref qH, .ref qK, .ref qV, .ref qS, .ref qW])), (qB, .inr (0, [.ref qBT, .ref qBC, .ref qBN, .ref qBW, .ref qBL, .int bn, .int bk, .int bs])), (qBT, .inl (G.2.1, 16, .inl bT)), (qH, .inr (2, [.ref qHM, .int hd, .int hk])), (qHM, .inl (G.2.1, 512, .inl hM)), (qO, .inl (G.2.2.1, 1, .inr (.inl oO)))] sz) := by
  refine vx_ofWH (cc := cL_undo) (maxL := 3) (ret := some .int) (hh := [(0, 8, 11, 29)]) (by decide) rfl ?_
  intro p e s m args below meth c s₁ B hml hv
  obtain ⟨rfl, hsz, hP, hKK, hD0, hT, hN⟩ := hv
  have hK := hKK.1
  have hx := B.exec
  have hb := B.bytes
  have hr := B.returns
  have hts := atoms_spec (ws := wsL_undo) B.pre
  have hown : s.vm.findClass RL = some m.cls := findClass_of_methodNamed B.named
  have hlocks := B.notSynchronized
  have hcw : (Cond.codeWith yL_undo cL_undo 3 (some .int) [(0, 8, 11, 29)]).before #[Value.ref qX, Value.ref qO] s = true := hts _ List.mem_cons_self
  have hk29 : (Cond.classLink RL 29 "java/lang/IllegalStateException").before #[Value.ref qX, Value.ref qO] s = true := hts _ (by decide +kernel)
  subst hsz
  have hD := hD0.self (sz := s.heap.size)
  generalize hAe : va_A [(qX, .inr (7, [.ref qB, .ref qH, .ref qK, .ref qV, .ref qS, .ref qW])), (qB, .inr (0, [.ref qBT, .ref qBC, .ref qBN, .ref qBW, .ref qBL, .int bn, .int bk, .int bs])), (qBT, .inl (G.2.1, 16, .inl bT)), (qH, .inr (2, [.ref qHM, .int hd, .int hk])), (qHM, .inl (G.2.1, 512, .inl hM)), (qO, .inl (G.2.2.1, 1, .inr (.inl oO)))] s.heap.size = A at hD hT ⊢
  have hA : ∀ q : Nat, s.heap.size ≤ q → A q := fun q h => by rw [← hAe]; exact Or.inr h
  have hS : va_S A s.heap s.heap [] := va_S.rf
  have hl := lv_entry ([.ref qX, .ref qO] : List Value) (n := 3) (Nat.le_of_ble_eq_true rfl)
  rw [lg_entry_eq]
  generalize (lg_sl ([.ref qX, .ref qO] : List Value) ++ List.replicate (3 - (lg_sl ([.ref qX, .ref qO] : List Value)).length) Slot.unset).toArray = ls at hl ⊢
  have hl : lv_has ls 3 [(0, .ref qX), (1, .ref qO)] := hl
  refine wq (fun Q hQ => ?_)
  unfold kL_undo at hq
  obtain ⟨q, eq, hq⟩ := ob hq
  refine lv_aload_n hx hb dL_undo_0 rfl (lv_at hl 1 rfl) ?_
  refine lv_iconst (v := 0) hx hb dL_undo_1 (by decide) ?_
  refine lv_aload_n hx hb dL_undo_2 rfl (lv_at hl 0 rfl) ?_
  have hPc := hP.sub (ws' := [(qX, .inr (7, [.ref qB, .ref qH, .ref qK, .ref qV, .ref qS, .ref qW])), (qB, .inr (0, [.ref qBT, .ref qBC, .ref qBN, .ref qBW, .ref qBL, .int bn, .int bk, .int bs])), (qBT, .inl (G.2.1, 16, .inl bT)), (qH, .inr (2, [.ref qHM, .int hd, .int hk])), (qHM, .inl (G.2.1, 512, .inl hM))]) [0, 1, 2, 3, 4] rfl
  have hDc := hD.sub (ws' := [(qX, .inr (7, [.ref qB, .ref qH, .ref qK, .ref qV, .ref qS, .ref qW])), (qB, .inr (0, [.ref qBT, .ref qBC, .ref qBN, .ref qBW, .ref qBL, .int bn, .int bk, .int bs])), (qBT, .inl (G.2.1, 16, .inl bT)), (qH, .inr (2, [.ref qHM, .int hd, .int hk])), (qHM, .inl (G.2.1, 512, .inl hM))]) [0, 1, 2, 3, 4] (by decide) rfl
  have hFc := va_free (wc := [(qX, .inr (7, [.ref qB, .ref qH, .ref qK, .ref qV, .ref qS, .ref qW])), (qB, .inr (0, [.ref qBT, .ref qBC, .ref qBN, .ref qBW, .ref qBL, .int bn, .int bk, .int bs])), (qBT, .inl (G.2.1, 16, .inl bT)), (qH, .inr (2, [.ref qHM, .int hd, .int hk])), (qHM, .inl (G.2.1, 512, .inl hM))]) hD hS hA [0, 1, 2, 3, 4] rfl
  have hKc := hK
  refine vx_calli (vx_runV (As := []) (rest := [.int 0, .ref qO]) ⟨hx, hb, hml, hown, hts⟩ (tX7_undo G l hfl eq) (cwV 0 hts gL_undo_X7_undo rfl rfl rfl (by decide +kernel) ⟨Nat.le_of_ble_eq_true rfl, Nat.le_of_ble_eq_true rfl⟩) ⟨pcX_blind, va_recv hKc hPc (ci := 7) (q0 := 0) rfl rfl, pcX_pre hPc hKK hDc hT hS hFc⟩ rfl rfl hl.1 rfl (lv_room (Nat.le_of_ble_eq_true rfl)) dL_undo_3 ⟨Nat.le_of_ble_eq_true rfl, Nat.le_of_ble_eq_true rfl⟩) hS (fun q _ h => hFc q h) hFc (fun q _ h => hFc q h) (fun E ce q9 u t H1 locs ht hvm hpx hB hz1 hk1 hS hc1 hv1 hcl1 => ?_) (fun r0 u t H1 locs ht hvm hw hB hz1 hk1 hS => ?_)
  · obtain ⟨e, rfl⟩ : ∃ z, z = u := ⟨_, rfl⟩
    subst hpx
    have hq := onW_r hq
    obtain ⟨hE, hB⟩ := hB
    have hB := va_Pto ht hB
    obtain ⟨hP, hD⟩ := jn (ws' := [(qX, .inr (7, [.ref qB, .ref qH, .ref qK, .ref qV, .ref qS, .ref qW])), (qB, .inr (0, [.ref qBT, .ref qBC, .ref qBN, .ref qBW, .ref qBL, .int bn, .int bk, .int bs])), (qBT, .inl (G.2.1, 16, .inl e.2.1)), (qH, .inr (2, [.ref qHM, .int e.2.2, .int hk])), (qHM, .inl (G.2.1, 512, .inl hM)), (qO, .inl (G.2.2.1, 1, .inr (.inl oO)))]) hP hD hk1 hB [0, 1, 2, 3, 4] rfl rfl rfl rfl
    generalize H1 = H at hP hS hc1 ⊢
    by_cases c_e0 : e.1 = 2
    · have hq := k_t c_e0 hq
      have hE : E = "java/lang/IllegalStateException" := hE.trans (congrArg exN c_e0)
      subst hE
      refine vx_catch (name := "java/lang/IllegalStateException") hown ([]) ({ startPc := 0, endPc := 8, handlerPc := 11, catchType := 29 } : Jvm.ClassFile.ExceptionTableEntry) ([]) ((vx_table (x := yL_undo) B hcw).trans rfl) (fun _ h => absurd h List.not_mem_nil) (by decide) (by decide) hk29 ((hT.2.2.2.1 2 (by decide)).use rfl) hc1 hv1 hcl1 ?_
      refine lv_astore_n (lv' := [(2, .ref q9), (0, .ref qX), (1, .ref qO)]) hx hb dL_undo_11 rfl hl (by decide) rfl (fun ls hl => ?_)
      refine lv_iconst (v := 1) hx hb dL_undo_12 (by decide) ?_
      obtain rfl := Option.some.inj hq
      rw [hQ]
      refine vx_ret ?_
      refine W.widen (k := 1) (n := 6) (Nat.le_of_ble_eq_true rfl) (Nat.le_of_ble_eq_true rfl) ?_
      exact W.iret hx hb hr (fun t ht hW => ⟨⟨_, (), rfl, rfl, va_Pat ht hP⟩, hS.F ht⟩) hS.2.2 dL_undo_13
    · have hq := k_f c_e0 hq
      cases hq
  · obtain ⟨v, rfl⟩ : ∃ z, z = u := ⟨_, rfl⟩
    obtain ⟨hw, rfl⟩ := hw
    subst hw
    have hq := onW_l hq
    have hB := va_Pto ht hB
    obtain ⟨hP, hD⟩ := jn (ws' := [(qX, .inr (7, [.ref qB, .ref qH, .ref qK, .ref qV, .ref qS, .ref qW])), (qB, .inr (0, [.ref qBT, .ref qBC, .ref qBN, .ref qBW, .ref qBL, .int bn, .int bk, .int bs])), (qBT, .inl (G.2.1, 16, .inl v.2.1)), (qH, .inr (2, [.ref qHM, .int v.2.2, .int hk])), (qHM, .inl (G.2.1, 512, .inl hM)), (qO, .inl (G.2.2.1, 1, .inr (.inl oO)))]) hP hD hk1 hB [0, 1, 2, 3, 4] rfl rfl rfl rfl
    generalize H1 = H at hP hS ⊢
    refine lv_i2l hx hb dL_undo_6 rfl ?_
    obtain ⟨hg, hq⟩ := k_g hq
    refine va_last hx hb hK hP hD hS 5 1 rfl rfl (ix_in hg) dL_undo_7 (fun H locs hP hD hS => ?_)
    have hP : va_P G.1 vwCl [(qX, .inr (7, [.ref qB, .ref qH, .ref qK, .ref qV, .ref qS, .ref qW])), (qB, .inr (0, [.ref qBT, .ref qBC, .ref qBN, .ref qBW, .ref qBL, .int bn, .int bk, .int bs])), (qBT, .inl (G.2.1, 16, .inl v.2.1)), (qH, .inr (2, [.ref qHM, .int v.2.2, .int hk])), (qHM, .inl (G.2.1, 512, .inl hM)), (qO, .inl (G.2.2.1, 1, .inr (.inl (vp_updL oO (0 : Int32).toNatClampNeg (v.1).toInt64))))] H := hP
    have hD : va_D A [(qX, .inr (7, [.ref qB, .ref qH, .ref qK, .ref qV, .ref qS, .ref qW])), (qB, .inr (0, [.ref qBT, .ref qBC, .ref qBN, .ref qBW, .ref qBL, .int bn, .int bk, .int bs])), (qBT, .inl (G.2.1, 16, .inl v.2.1)), (qH, .inr (2, [.ref qHM, .int v.2.2, .int hk])), (qHM, .inl (G.2.1, 512, .inl hM)), (qO, .inl (G.2.2.1, 1, .inr (.inl (vp_updL oO (0 : Int32).toNatClampNeg (v.1).toInt64))))] := hD
    refine lv_goto (tgt := 14) hx hb dL_undo_8 (by decide) ?_
    refine lv_iconst (v := 0) hx hb dL_undo_14 (by decide) ?_
    obtain rfl := Option.some.inj hq
    rw [hQ]
    refine vx_ret ?_
    refine W.widen (k := 1) (n := 6) (Nat.le_of_ble_eq_true rfl) (Nat.le_of_ble_eq_true rfl) ?_
    exact W.iret hx hb hr (fun t ht hW => ⟨⟨_, (), rfl, rfl, va_Pat ht hP⟩, hS.F ht⟩) hS.2.2 dL_undo_15

def kL_redo (F : Nat) (bn : Int32) (bT : Nat → Int32) (hd : Int32) (hk : Int32) (hM : Nat → Int32) (oO : Nat → Int64) : Option (Int32 × (Nat → Int32) × Int32 × (Nat → Int64)) :=
  ((kX7_redo F bn bT hd hk hM).bind fun q => onW q (fun u => (if ix 0 1 = true then some (0, u.2.1, u.2.2, vp_updL oO (0 : Int32).toNatClampNeg (u.1).toInt64) else none)) (fun e => (if e.1 = 2 then some (1, e.2.1, e.2.2, oO) else none)))
abbrev rmL_redo : Room := { frames := 9, cells := 1, slots := 6, locals := 141 }
set_option maxHeartbeats 40000000 in
set_option maxRecDepth 100000 in
theorem tL_redo (G : GG) (l : Launch) (hfl : l.stackTraces = false) {qX qB qH qK qV qS qW qBT qBC qBN qBW qBL qHM qO sz : Nat} {bn : Int32} {bk : Int32} {bs : Int32} {bT : Nat → Int32} {hd : Int32} {hk : Int32} {hM : Nat → Int32} {oO : Nat → Int64} {F : Nat} {r : Int32 × (Nat → Int32) × Int32 × (Nat → Int64)} (hq : kL_redo F bn bT hd hk hM oO = some r) : vx_Met l yL_redo wsL_redo rmL_redo (pcL G [(qX, .inr (7, [.ref qB, .ref qH, .ref qK, .ref qV, .ref qS, .ref qW])), (qB, .inr (0, [.ref qBT, .ref qBC, .ref qBN, .ref qBW, .ref qBL, .int bn, .int bk, .int bs])), (qBT, .inl (G.2.1, 16, .inl bT)), (qH, .inr (2, [.ref qHM, .int hd, .int hk])), (qHM, .inl (G.2.1, 512, .inl hM)), (qO, .inl (G.2.2.1, 1, .inr (.inl oO)))] sz [.ref qX, .ref qO]) (va_Qi (S := Unit) (fun x _ => r.1 = x) (fun _ t => va_P G.1 vwCl [(qX, .inr (7, [.ref qB, .ref qH, .ref qK, .ref qV, .ref qS, .ref qW])), (qB, .inr (0, [.ref qBT, .ref qBC, .ref qBN, .ref qBW, .ref qBL, .int bn, .int bk, .int bs])), (qBT, .inl (G.2.1, 16, .inl r.2.1)), (qH, .inr (2, [.ref qHM, .int r.2.2.1, .int hk])), (qHM, .inl (G.2.1, 512, .inl hM)), (qO, .inl (G.2.2.1, 1, .inr (.inl r.2.2.2)))] t.heap) (va_A [(qX, .inr (7, [.ref qB, .ref qH, .ref qK, .ref qV, .ref qS, .ref qW])), (qB, .inr (0, [.ref qBT, .ref qBC, .ref qBN, .ref qBW, .ref qBL, .int bn, .int bk, .int bs])), (qBT, .inl (G.2.1, 16, .inl bT)), (qH, .inr (2, [.ref qHM, .int hd, .int hk])), (qHM, .inl (G.2.1, 512, .inl hM)), (qO, .inl (G.2.2.1, 1, .inr (.inl oO)))] sz)) (xcN (va_A [(qX, .inr (7, [.ref qB, .ref qH, .ref qK, .ref qV, .ref qS, .ref qW])), (qB, .inr (0, [.ref qBT, .ref qBC, .ref qBN, .ref qBW, .ref qBL, .int bn, .int bk, .int bs])), (qBT, .inl (G.2.1, 16, .inl bT)), (qH, .inr (2, [.ref qHM, .int hd, .int hk])), (qHM, .inl (G.2.1, 512, .inl hM)), (qO, .inl (G.2.2.1, 1, .inr (.inl oO)))] sz)) 1 6 (va_A [(qX, .inr (7, [.ref qB, .ref qH, .ref qK, .ref qV, .ref qS, .ref qW])), (qB, .inr (0, [.ref qBT, .ref qBC, .ref qBN, .ref qBW, .ref qBL, .int bn, .int bk, .int bs])), (qBT, .inl (G.2.1, 16, .inl bT)), (qH, .inr (2, [.ref qHM, .int hd, .int hk])), (qHM, .inl (G.2.1, 512, .inl hM)), (qO, .inl (G.2.2.1, 1, .inr (.inl oO)))] sz) := by
  refine vx_ofWH (cc := cL_redo) (maxL := 3) (ret := some .int) (hh := [(0, 8, 11, 29)]) (by decide) rfl ?_
  intro p e s m args below meth c s₁ B hml hv
  obtain ⟨rfl, hsz, hP, hKK, hD0, hT, hN⟩ := hv
  have hK := hKK.1
  have hx := B.exec
  have hb := B.bytes
  have hr := B.returns
  have hts := atoms_spec (ws := wsL_redo) B.pre
  have hown : s.vm.findClass RL = some m.cls := findClass_of_methodNamed B.named
  have hlocks := B.notSynchronized
  have hcw : (Cond.codeWith yL_redo cL_redo 3 (some .int) [(0, 8, 11, 29)]).before #[Value.ref qX, Value.ref qO] s = true := hts _ List.mem_cons_self
  have hk29 : (Cond.classLink RL 29 "java/lang/IllegalStateException").before #[Value.ref qX, Value.ref qO] s = true := hts _ (by decide +kernel)
  subst hsz
  have hD := hD0.self (sz := s.heap.size)
  generalize hAe : va_A [(qX, .inr (7, [.ref qB, .ref qH, .ref qK, .ref qV, .ref qS, .ref qW])), (qB, .inr (0, [.ref qBT, .ref qBC, .ref qBN, .ref qBW, .ref qBL, .int bn, .int bk, .int bs])), (qBT, .inl (G.2.1, 16, .inl bT)), (qH, .inr (2, [.ref qHM, .int hd, .int hk])), (qHM, .inl (G.2.1, 512, .inl hM)), (qO, .inl (G.2.2.1, 1, .inr (.inl oO)))] s.heap.size = A at hD hT ⊢
  have hA : ∀ q : Nat, s.heap.size ≤ q → A q := fun q h => by rw [← hAe]; exact Or.inr h
  have hS : va_S A s.heap s.heap [] := va_S.rf
  have hl := lv_entry ([.ref qX, .ref qO] : List Value) (n := 3) (Nat.le_of_ble_eq_true rfl)
  rw [lg_entry_eq]
  generalize (lg_sl ([.ref qX, .ref qO] : List Value) ++ List.replicate (3 - (lg_sl ([.ref qX, .ref qO] : List Value)).length) Slot.unset).toArray = ls at hl ⊢
  have hl : lv_has ls 3 [(0, .ref qX), (1, .ref qO)] := hl
  refine wq (fun Q hQ => ?_)
  unfold kL_redo at hq
  obtain ⟨q, eq, hq⟩ := ob hq
  refine lv_aload_n hx hb dL_redo_0 rfl (lv_at hl 1 rfl) ?_
  refine lv_iconst (v := 0) hx hb dL_redo_1 (by decide) ?_
  refine lv_aload_n hx hb dL_redo_2 rfl (lv_at hl 0 rfl) ?_
  have hPc := hP.sub (ws' := [(qX, .inr (7, [.ref qB, .ref qH, .ref qK, .ref qV, .ref qS, .ref qW])), (qB, .inr (0, [.ref qBT, .ref qBC, .ref qBN, .ref qBW, .ref qBL, .int bn, .int bk, .int bs])), (qBT, .inl (G.2.1, 16, .inl bT)), (qH, .inr (2, [.ref qHM, .int hd, .int hk])), (qHM, .inl (G.2.1, 512, .inl hM))]) [0, 1, 2, 3, 4] rfl
  have hDc := hD.sub (ws' := [(qX, .inr (7, [.ref qB, .ref qH, .ref qK, .ref qV, .ref qS, .ref qW])), (qB, .inr (0, [.ref qBT, .ref qBC, .ref qBN, .ref qBW, .ref qBL, .int bn, .int bk, .int bs])), (qBT, .inl (G.2.1, 16, .inl bT)), (qH, .inr (2, [.ref qHM, .int hd, .int hk])), (qHM, .inl (G.2.1, 512, .inl hM))]) [0, 1, 2, 3, 4] (by decide) rfl
  have hFc := va_free (wc := [(qX, .inr (7, [.ref qB, .ref qH, .ref qK, .ref qV, .ref qS, .ref qW])), (qB, .inr (0, [.ref qBT, .ref qBC, .ref qBN, .ref qBW, .ref qBL, .int bn, .int bk, .int bs])), (qBT, .inl (G.2.1, 16, .inl bT)), (qH, .inr (2, [.ref qHM, .int hd, .int hk])), (qHM, .inl (G.2.1, 512, .inl hM))]) hD hS hA [0, 1, 2, 3, 4] rfl
  have hKc := hK
  refine vx_calli (vx_runV (As := []) (rest := [.int 0, .ref qO]) ⟨hx, hb, hml, hown, hts⟩ (tX7_redo G l hfl eq) (cwV 0 hts gL_redo_X7_redo rfl rfl rfl (by decide +kernel) ⟨Nat.le_of_ble_eq_true rfl, Nat.le_of_ble_eq_true rfl⟩) ⟨pcX_blind, va_recv hKc hPc (ci := 7) (q0 := 0) rfl rfl, pcX_pre hPc hKK hDc hT hS hFc⟩ rfl rfl hl.1 rfl (lv_room (Nat.le_of_ble_eq_true rfl)) dL_redo_3 ⟨Nat.le_of_ble_eq_true rfl, Nat.le_of_ble_eq_true rfl⟩) hS (fun q _ h => hFc q h) hFc (fun q _ h => hFc q h) (fun E ce q9 u t H1 locs ht hvm hpx hB hz1 hk1 hS hc1 hv1 hcl1 => ?_) (fun r0 u t H1 locs ht hvm hw hB hz1 hk1 hS => ?_)
  · obtain ⟨e, rfl⟩ : ∃ z, z = u := ⟨_, rfl⟩
    subst hpx
    have hq := onW_r hq
    obtain ⟨hE, hB⟩ := hB
    have hB := va_Pto ht hB
    obtain ⟨hP, hD⟩ := jn (ws' := [(qX, .inr (7, [.ref qB, .ref qH, .ref qK, .ref qV, .ref qS, .ref qW])), (qB, .inr (0, [.ref qBT, .ref qBC, .ref qBN, .ref qBW, .ref qBL, .int bn, .int bk, .int bs])), (qBT, .inl (G.2.1, 16, .inl e.2.1)), (qH, .inr (2, [.ref qHM, .int e.2.2, .int hk])), (qHM, .inl (G.2.1, 512, .inl hM)), (qO, .inl (G.2.2.1, 1, .inr (.inl oO)))]) hP hD hk1 hB [0, 1, 2, 3, 4] rfl rfl rfl rfl
    generalize H1 = H at hP hS hc1 ⊢
    by_cases c_e0 : e.1 = 2
    · have hq := k_t c_e0 hq
      have hE : E = "java/lang/IllegalStateException" := hE.trans (congrArg exN c_e0)
      subst hE
      refine vx_catch (name := "java/lang/IllegalStateException") hown ([]) ({ startPc := 0, endPc := 8, handlerPc := 11, catchType := 29 } : Jvm.ClassFile.ExceptionTableEntry) ([]) ((vx_table (x := yL_redo) B hcw).trans rfl) (fun _ h => absurd h List.not_mem_nil) (by decide) (by decide) hk29 ((hT.2.2.2.1 2 (by decide)).use rfl) hc1 hv1 hcl1 ?_
      refine lv_astore_n (lv' := [(2, .ref q9), (0, .ref qX), (1, .ref qO)]) hx hb dL_redo_11 rfl hl (by decide) rfl (fun ls hl => ?_)
      refine lv_iconst (v := 1) hx hb dL_redo_12 (by decide) ?_
      obtain rfl := Option.some.inj hq
      rw [hQ]
      refine vx_ret ?_
      refine W.widen (k := 1) (n := 6) (Nat.le_of_ble_eq_true rfl) (Nat.le_of_ble_eq_true rfl) ?_
      exact W.iret hx hb hr (fun t ht hW => ⟨⟨_, (), rfl, rfl, va_Pat ht hP⟩, hS.F ht⟩) hS.2.2 dL_redo_13
    · have hq := k_f c_e0 hq
      cases hq
  · obtain ⟨v, rfl⟩ : ∃ z, z = u := ⟨_, rfl⟩
    obtain ⟨hw, rfl⟩ := hw
    subst hw
    have hq := onW_l hq
    have hB := va_Pto ht hB
    obtain ⟨hP, hD⟩ := jn (ws' := [(qX, .inr (7, [.ref qB, .ref qH, .ref qK, .ref qV, .ref qS, .ref qW])), (qB, .inr (0, [.ref qBT, .ref qBC, .ref qBN, .ref qBW, .ref qBL, .int bn, .int bk, .int bs])), (qBT, .inl (G.2.1, 16, .inl v.2.1)), (qH, .inr (2, [.ref qHM, .int v.2.2, .int hk])), (qHM, .inl (G.2.1, 512, .inl hM)), (qO, .inl (G.2.2.1, 1, .inr (.inl oO)))]) hP hD hk1 hB [0, 1, 2, 3, 4] rfl rfl rfl rfl
    generalize H1 = H at hP hS ⊢
    refine lv_i2l hx hb dL_redo_6 rfl ?_
    obtain ⟨hg, hq⟩ := k_g hq
    refine va_last hx hb hK hP hD hS 5 1 rfl rfl (ix_in hg) dL_redo_7 (fun H locs hP hD hS => ?_)
    have hP : va_P G.1 vwCl [(qX, .inr (7, [.ref qB, .ref qH, .ref qK, .ref qV, .ref qS, .ref qW])), (qB, .inr (0, [.ref qBT, .ref qBC, .ref qBN, .ref qBW, .ref qBL, .int bn, .int bk, .int bs])), (qBT, .inl (G.2.1, 16, .inl v.2.1)), (qH, .inr (2, [.ref qHM, .int v.2.2, .int hk])), (qHM, .inl (G.2.1, 512, .inl hM)), (qO, .inl (G.2.2.1, 1, .inr (.inl (vp_updL oO (0 : Int32).toNatClampNeg (v.1).toInt64))))] H := hP
    have hD : va_D A [(qX, .inr (7, [.ref qB, .ref qH, .ref qK, .ref qV, .ref qS, .ref qW])), (qB, .inr (0, [.ref qBT, .ref qBC, .ref qBN, .ref qBW, .ref qBL, .int bn, .int bk, .int bs])), (qBT, .inl (G.2.1, 16, .inl v.2.1)), (qH, .inr (2, [.ref qHM, .int v.2.2, .int hk])), (qHM, .inl (G.2.1, 512, .inl hM)), (qO, .inl (G.2.2.1, 1, .inr (.inl (vp_updL oO (0 : Int32).toNatClampNeg (v.1).toInt64))))] := hD
    refine lv_goto (tgt := 14) hx hb dL_redo_8 (by decide) ?_
    refine lv_iconst (v := 0) hx hb dL_redo_14 (by decide) ?_
    obtain rfl := Option.some.inj hq
    rw [hQ]
    refine vx_ret ?_
    refine W.widen (k := 1) (n := 6) (Nat.le_of_ble_eq_true rfl) (Nat.le_of_ble_eq_true rfl) ?_
    exact W.iret hx hb hr (fun t ht hW => ⟨⟨_, (), rfl, rfl, va_Pat ht hP⟩, hS.F ht⟩) hS.2.2 dL_redo_15

def kL_tile (F : Nat) (bn : Int32) (bT : Nat → Int32) (x1 : Int32) (oO : Nat → Int64) : Option (Int32 × (Nat → Int64)) :=
  ((kX7_tile F bn bT x1).bind fun q => onW q (fun u => (if ix 0 1 = true then some (0, vp_updL oO (0 : Int32).toNatClampNeg (u).toInt64) else none)) (fun e => (if e = 1 then some (1, oO) else none)))
abbrev rmL_tile : Room := { frames := 10, cells := 1, slots := 6, locals := 162 }
set_option maxHeartbeats 40000000 in
set_option maxRecDepth 100000 in
theorem tL_tile (G : GG) (l : Launch) (hfl : l.stackTraces = false) {qX qB qH qK qV qS qW qBT qBC qBN qBW qBL qO sz : Nat} {bn : Int32} {bk : Int32} {bs : Int32} {bT : Nat → Int32} {oO : Nat → Int64} {x1 : Int32} {F : Nat} {r : Int32 × (Nat → Int64)} (hq : kL_tile F bn bT x1 oO = some r) : vx_Met l yL_tile wsL_tile rmL_tile (pcL G [(qX, .inr (7, [.ref qB, .ref qH, .ref qK, .ref qV, .ref qS, .ref qW])), (qB, .inr (0, [.ref qBT, .ref qBC, .ref qBN, .ref qBW, .ref qBL, .int bn, .int bk, .int bs])), (qBT, .inl (G.2.1, 16, .inl bT)), (qO, .inl (G.2.2.1, 1, .inr (.inl oO)))] sz [.ref qX, .int x1, .ref qO]) (va_Qi (S := Unit) (fun x _ => r.1 = x) (fun _ t => va_P G.1 vwCl [(qX, .inr (7, [.ref qB, .ref qH, .ref qK, .ref qV, .ref qS, .ref qW])), (qB, .inr (0, [.ref qBT, .ref qBC, .ref qBN, .ref qBW, .ref qBL, .int bn, .int bk, .int bs])), (qBT, .inl (G.2.1, 16, .inl bT)), (qO, .inl (G.2.2.1, 1, .inr (.inl r.2)))] t.heap) (va_A [(qX, .inr (7, [.ref qB, .ref qH, .ref qK, .ref qV, .ref qS, .ref qW])), (qB, .inr (0, [.ref qBT, .ref qBC, .ref qBN, .ref qBW, .ref qBL, .int bn, .int bk, .int bs])), (qBT, .inl (G.2.1, 16, .inl bT)), (qO, .inl (G.2.2.1, 1, .inr (.inl oO)))] sz)) (xcN (va_A [(qX, .inr (7, [.ref qB, .ref qH, .ref qK, .ref qV, .ref qS, .ref qW])), (qB, .inr (0, [.ref qBT, .ref qBC, .ref qBN, .ref qBW, .ref qBL, .int bn, .int bk, .int bs])), (qBT, .inl (G.2.1, 16, .inl bT)), (qO, .inl (G.2.2.1, 1, .inr (.inl oO)))] sz)) 1 6 (va_A [(qX, .inr (7, [.ref qB, .ref qH, .ref qK, .ref qV, .ref qS, .ref qW])), (qB, .inr (0, [.ref qBT, .ref qBC, .ref qBN, .ref qBW, .ref qBL, .int bn, .int bk, .int bs])), (qBT, .inl (G.2.1, 16, .inl bT)), (qO, .inl (G.2.2.1, 1, .inr (.inl oO)))] sz) := by
  refine vx_ofWH (cc := cL_tile) (maxL := 4) (ret := some .int) (hh := [(0, 9, 12, 23)]) (by decide) rfl ?_
  intro p e s m args below meth c s₁ B hml hv
  obtain ⟨rfl, hsz, hP, hKK, hD0, hT, hN⟩ := hv
  have hK := hKK.1
  have hx := B.exec
  have hb := B.bytes
  have hr := B.returns
  have hts := atoms_spec (ws := wsL_tile) B.pre
  have hown : s.vm.findClass RL = some m.cls := findClass_of_methodNamed B.named
  have hlocks := B.notSynchronized
  have hcw : (Cond.codeWith yL_tile cL_tile 4 (some .int) [(0, 9, 12, 23)]).before #[Value.ref qX, Value.int x1, Value.ref qO] s = true := hts _ List.mem_cons_self
  have hk23 : (Cond.classLink RL 23 "java/lang/IndexOutOfBoundsException").before #[Value.ref qX, Value.int x1, Value.ref qO] s = true := hts _ (by decide +kernel)
  subst hsz
  have hD := hD0.self (sz := s.heap.size)
  generalize hAe : va_A [(qX, .inr (7, [.ref qB, .ref qH, .ref qK, .ref qV, .ref qS, .ref qW])), (qB, .inr (0, [.ref qBT, .ref qBC, .ref qBN, .ref qBW, .ref qBL, .int bn, .int bk, .int bs])), (qBT, .inl (G.2.1, 16, .inl bT)), (qO, .inl (G.2.2.1, 1, .inr (.inl oO)))] s.heap.size = A at hD hT ⊢
  have hA : ∀ q : Nat, s.heap.size ≤ q → A q := fun q h => by rw [← hAe]; exact Or.inr h
  have hS : va_S A s.heap s.heap [] := va_S.rf
  have hl := lv_entry ([.ref qX, .int x1, .ref qO] : List Value) (n := 4) (Nat.le_of_ble_eq_true rfl)
  rw [lg_entry_eq]
  generalize (lg_sl ([.ref qX, .int x1, .ref qO] : List Value) ++ List.replicate (4 - (lg_sl ([.ref qX, .int x1, .ref qO] : List Value)).length) Slot.unset).toArray = ls at hl ⊢
  have hl : lv_has ls 4 [(0, .ref qX), (1, .int x1), (2, .ref qO)] := hl
  refine wq (fun Q hQ => ?_)
  unfold kL_tile at hq
  obtain ⟨q, eq, hq⟩ := ob hq
  refine lv_aload_n hx hb dL_tile_0 rfl (lv_at hl 2 rfl) ?_
  refine lv_iconst (v := 0) hx hb dL_tile_1 (by decide) ?_
  refine lv_aload_n hx hb dL_tile_2 rfl (lv_at hl 0 rfl) ?_
  refine lv_iload_n hx hb dL_tile_3 rfl (lv_at hl 1 rfl) ?_
  have hPc := hP.sub (ws' := [(qX, .inr (7, [.ref qB, .ref qH, .ref qK, .ref qV, .ref qS, .ref qW])), (qB, .inr (0, [.ref qBT, .ref qBC, .ref qBN, .ref qBW, .ref qBL, .int bn, .int bk, .int bs])), (qBT, .inl (G.2.1, 16, .inl bT))]) [0, 1, 2] rfl
  have hDc := hD.sub (ws' := [(qX, .inr (7, [.ref qB, .ref qH, .ref qK, .ref qV, .ref qS, .ref qW])), (qB, .inr (0, [.ref qBT, .ref qBC, .ref qBN, .ref qBW, .ref qBL, .int bn, .int bk, .int bs])), (qBT, .inl (G.2.1, 16, .inl bT))]) [0, 1, 2] (by decide) rfl
  have hFc := va_free (wc := [(qX, .inr (7, [.ref qB, .ref qH, .ref qK, .ref qV, .ref qS, .ref qW])), (qB, .inr (0, [.ref qBT, .ref qBC, .ref qBN, .ref qBW, .ref qBL, .int bn, .int bk, .int bs])), (qBT, .inl (G.2.1, 16, .inl bT))]) hD hS hA [0, 1, 2] rfl
  have hKc := hK
  refine vx_calli (vx_runV (As := [.int x1]) (rest := [.int 0, .ref qO]) ⟨hx, hb, hml, hown, hts⟩ (tX7_tile G l hfl eq) (cwV 1 hts gL_tile_X7_tile rfl rfl rfl (by decide +kernel) ⟨Nat.le_of_ble_eq_true rfl, Nat.le_of_ble_eq_true rfl⟩) ⟨pcX_blind, va_recv hKc hPc (ci := 7) (q0 := 0) rfl rfl, pcX_pre hPc hKK hDc hT hS hFc⟩ rfl rfl hl.1 rfl (lv_room (Nat.le_of_ble_eq_true rfl)) dL_tile_4 ⟨Nat.le_of_ble_eq_true rfl, Nat.le_of_ble_eq_true rfl⟩) hS (fun q _ h => hFc q h) hFc (fun q _ h => hFc q h) (fun E ce q9 u t H1 locs ht hvm hpx hB hz1 hk1 hS hc1 hv1 hcl1 => ?_) (fun r0 u t H1 locs ht hvm hw hB hz1 hk1 hS => ?_)
  · obtain ⟨e, rfl⟩ : ∃ z, z = u := ⟨_, rfl⟩
    subst hpx
    have hq := onW_r hq
    obtain ⟨hE, hB⟩ := hB
    have hB := va_Pto ht hB
    obtain ⟨hP, hD⟩ := jn (ws' := [(qX, .inr (7, [.ref qB, .ref qH, .ref qK, .ref qV, .ref qS, .ref qW])), (qB, .inr (0, [.ref qBT, .ref qBC, .ref qBN, .ref qBW, .ref qBL, .int bn, .int bk, .int bs])), (qBT, .inl (G.2.1, 16, .inl bT)), (qO, .inl (G.2.2.1, 1, .inr (.inl oO)))]) hP hD hk1 hB [0, 1, 2] rfl rfl rfl rfl
    generalize H1 = H at hP hS hc1 ⊢
    by_cases c_e0 : e = 1
    · have hq := k_t c_e0 hq
      have hE : E = "java/lang/IndexOutOfBoundsException" := hE.trans (congrArg exN c_e0)
      subst hE
      refine vx_catch (name := "java/lang/IndexOutOfBoundsException") hown ([]) ({ startPc := 0, endPc := 9, handlerPc := 12, catchType := 23 } : Jvm.ClassFile.ExceptionTableEntry) ([]) ((vx_table (x := yL_tile) B hcw).trans rfl) (fun _ h => absurd h List.not_mem_nil) (by decide) (by decide) hk23 ((hT.2.2.2.1 1 (by decide)).use rfl) hc1 hv1 hcl1 ?_
      refine lv_astore_n (lv' := [(3, .ref q9), (0, .ref qX), (1, .int x1), (2, .ref qO)]) hx hb dL_tile_12 rfl hl (by decide) rfl (fun ls hl => ?_)
      refine lv_iconst (v := 1) hx hb dL_tile_13 (by decide) ?_
      obtain rfl := Option.some.inj hq
      rw [hQ]
      refine vx_ret ?_
      refine W.widen (k := 1) (n := 6) (Nat.le_of_ble_eq_true rfl) (Nat.le_of_ble_eq_true rfl) ?_
      exact W.iret hx hb hr (fun t ht hW => ⟨⟨_, (), rfl, rfl, va_Pat ht hP⟩, hS.F ht⟩) hS.2.2 dL_tile_14
    · have hq := k_f c_e0 hq
      cases hq
  · obtain ⟨v, rfl⟩ : ∃ z, z = u := ⟨_, rfl⟩
    obtain ⟨hw, rfl⟩ := hw
    subst hw
    have hq := onW_l hq
    have hB := va_Pto ht hB
    obtain ⟨hP, hD⟩ := jn (ws' := [(qX, .inr (7, [.ref qB, .ref qH, .ref qK, .ref qV, .ref qS, .ref qW])), (qB, .inr (0, [.ref qBT, .ref qBC, .ref qBN, .ref qBW, .ref qBL, .int bn, .int bk, .int bs])), (qBT, .inl (G.2.1, 16, .inl bT)), (qO, .inl (G.2.2.1, 1, .inr (.inl oO)))]) hP hD hk1 hB [0, 1, 2] rfl rfl rfl rfl
    generalize H1 = H at hP hS ⊢
    refine lv_i2l hx hb dL_tile_7 rfl ?_
    obtain ⟨hg, hq⟩ := k_g hq
    refine va_last hx hb hK hP hD hS 3 1 rfl rfl (ix_in hg) dL_tile_8 (fun H locs hP hD hS => ?_)
    have hP : va_P G.1 vwCl [(qX, .inr (7, [.ref qB, .ref qH, .ref qK, .ref qV, .ref qS, .ref qW])), (qB, .inr (0, [.ref qBT, .ref qBC, .ref qBN, .ref qBW, .ref qBL, .int bn, .int bk, .int bs])), (qBT, .inl (G.2.1, 16, .inl bT)), (qO, .inl (G.2.2.1, 1, .inr (.inl (vp_updL oO (0 : Int32).toNatClampNeg (v).toInt64))))] H := hP
    have hD : va_D A [(qX, .inr (7, [.ref qB, .ref qH, .ref qK, .ref qV, .ref qS, .ref qW])), (qB, .inr (0, [.ref qBT, .ref qBC, .ref qBN, .ref qBW, .ref qBL, .int bn, .int bk, .int bs])), (qBT, .inl (G.2.1, 16, .inl bT)), (qO, .inl (G.2.2.1, 1, .inr (.inl (vp_updL oO (0 : Int32).toNatClampNeg (v).toInt64))))] := hD
    refine lv_goto (tgt := 15) hx hb dL_tile_9 (by decide) ?_
    refine lv_iconst (v := 0) hx hb dL_tile_15 (by decide) ?_
    obtain rfl := Option.some.inj hq
    rw [hQ]
    refine vx_ret ?_
    refine W.widen (k := 1) (n := 6) (Nat.le_of_ble_eq_true rfl) (Nat.le_of_ble_eq_true rfl) ?_
    exact W.iret hx hb hr (fun t ht hW => ⟨⟨_, (), rfl, rfl, va_Pat ht hP⟩, hS.F ht⟩) hS.2.2 dL_tile_16

def kL_neighbour (F : Nat) (bn : Int32) (bN : Nat → Int32) (x1 : Int32) (x2 : Int32) (oO : Nat → Int64) : Option (Int32 × (Nat → Int64)) :=
  ((kX7_neighbour F bn bN x1 x2).bind fun q => onW q (fun u => (if ix 0 1 = true then some (0, vp_updL oO (0 : Int32).toNatClampNeg (u).toInt64) else none)) (fun e => (if e = 1 then some (1, oO) else none)))
abbrev rmL_neighbour : Room := { frames := 10, cells := 2, slots := 12, locals := 163 }
set_option maxHeartbeats 40000000 in
set_option maxRecDepth 100000 in
theorem tL_neighbour (G : GG) (l : Launch) (hfl : l.stackTraces = false) {qX qB qH qK qV qS qW qBT qBC qBN qBW qBL qO sz : Nat} {bn : Int32} {bk : Int32} {bs : Int32} {bN : Nat → Int32} {oO : Nat → Int64} {x1 : Int32} {x2 : Int32} {F : Nat} {r : Int32 × (Nat → Int64)} (hq : kL_neighbour F bn bN x1 x2 oO = some r) : vx_Met l yL_neighbour wsL_neighbour rmL_neighbour (pcL G [(qX, .inr (7, [.ref qB, .ref qH, .ref qK, .ref qV, .ref qS, .ref qW])), (qB, .inr (0, [.ref qBT, .ref qBC, .ref qBN, .ref qBW, .ref qBL, .int bn, .int bk, .int bs])), (qBN, .inl (G.2.1, 64, .inl bN)), (qO, .inl (G.2.2.1, 1, .inr (.inl oO)))] sz [.ref qX, .int x1, .int x2, .ref qO]) (va_Qi (S := Unit) (fun x _ => r.1 = x) (fun _ t => va_P G.1 vwCl [(qX, .inr (7, [.ref qB, .ref qH, .ref qK, .ref qV, .ref qS, .ref qW])), (qB, .inr (0, [.ref qBT, .ref qBC, .ref qBN, .ref qBW, .ref qBL, .int bn, .int bk, .int bs])), (qBN, .inl (G.2.1, 64, .inl bN)), (qO, .inl (G.2.2.1, 1, .inr (.inl r.2)))] t.heap) (va_A [(qX, .inr (7, [.ref qB, .ref qH, .ref qK, .ref qV, .ref qS, .ref qW])), (qB, .inr (0, [.ref qBT, .ref qBC, .ref qBN, .ref qBW, .ref qBL, .int bn, .int bk, .int bs])), (qBN, .inl (G.2.1, 64, .inl bN)), (qO, .inl (G.2.2.1, 1, .inr (.inl oO)))] sz)) (xcN (va_A [(qX, .inr (7, [.ref qB, .ref qH, .ref qK, .ref qV, .ref qS, .ref qW])), (qB, .inr (0, [.ref qBT, .ref qBC, .ref qBN, .ref qBW, .ref qBL, .int bn, .int bk, .int bs])), (qBN, .inl (G.2.1, 64, .inl bN)), (qO, .inl (G.2.2.1, 1, .inr (.inl oO)))] sz)) 2 12 (va_A [(qX, .inr (7, [.ref qB, .ref qH, .ref qK, .ref qV, .ref qS, .ref qW])), (qB, .inr (0, [.ref qBT, .ref qBC, .ref qBN, .ref qBW, .ref qBL, .int bn, .int bk, .int bs])), (qBN, .inl (G.2.1, 64, .inl bN)), (qO, .inl (G.2.2.1, 1, .inr (.inl oO)))] sz) := by
  refine vx_ofWH (cc := cL_neighbour) (maxL := 5) (ret := some .int) (hh := [(0, 10, 13, 23)]) (by decide) rfl ?_
  intro p e s m args below meth c s₁ B hml hv
  obtain ⟨rfl, hsz, hP, hKK, hD0, hT, hN⟩ := hv
  have hK := hKK.1
  have hx := B.exec
  have hb := B.bytes
  have hr := B.returns
  have hts := atoms_spec (ws := wsL_neighbour) B.pre
  have hown : s.vm.findClass RL = some m.cls := findClass_of_methodNamed B.named
  have hlocks := B.notSynchronized
  have hcw : (Cond.codeWith yL_neighbour cL_neighbour 5 (some .int) [(0, 10, 13, 23)]).before #[Value.ref qX, Value.int x1, Value.int x2, Value.ref qO] s = true := hts _ List.mem_cons_self
  have hk23 : (Cond.classLink RL 23 "java/lang/IndexOutOfBoundsException").before #[Value.ref qX, Value.int x1, Value.int x2, Value.ref qO] s = true := hts _ (by decide +kernel)
  subst hsz
  have hD := hD0.self (sz := s.heap.size)
  generalize hAe : va_A [(qX, .inr (7, [.ref qB, .ref qH, .ref qK, .ref qV, .ref qS, .ref qW])), (qB, .inr (0, [.ref qBT, .ref qBC, .ref qBN, .ref qBW, .ref qBL, .int bn, .int bk, .int bs])), (qBN, .inl (G.2.1, 64, .inl bN)), (qO, .inl (G.2.2.1, 1, .inr (.inl oO)))] s.heap.size = A at hD hT ⊢
  have hA : ∀ q : Nat, s.heap.size ≤ q → A q := fun q h => by rw [← hAe]; exact Or.inr h
  have hS : va_S A s.heap s.heap [] := va_S.rf
  have hl := lv_entry ([.ref qX, .int x1, .int x2, .ref qO] : List Value) (n := 5) (Nat.le_of_ble_eq_true rfl)
  rw [lg_entry_eq]
  generalize (lg_sl ([.ref qX, .int x1, .int x2, .ref qO] : List Value) ++ List.replicate (5 - (lg_sl ([.ref qX, .int x1, .int x2, .ref qO] : List Value)).length) Slot.unset).toArray = ls at hl ⊢
  have hl : lv_has ls 5 [(0, .ref qX), (1, .int x1), (2, .int x2), (3, .ref qO)] := hl
  refine wq (fun Q hQ => ?_)
  unfold kL_neighbour at hq
  obtain ⟨q, eq, hq⟩ := ob hq
  refine lv_aload_n hx hb dL_neighbour_0 rfl (lv_at hl 3 rfl) ?_
  refine lv_iconst (v := 0) hx hb dL_neighbour_1 (by decide) ?_
  refine lv_aload_n hx hb dL_neighbour_2 rfl (lv_at hl 0 rfl) ?_
  refine lv_iload_n hx hb dL_neighbour_3 rfl (lv_at hl 1 rfl) ?_
  refine lv_iload_n hx hb dL_neighbour_4 rfl (lv_at hl 2 rfl) ?_
  have hPc := hP.sub (ws' := [(qX, .inr (7, [.ref qB, .ref qH, .ref qK, .ref qV, .ref qS, .ref qW])), (qB, .inr (0, [.ref qBT, .ref qBC, .ref qBN, .ref qBW, .ref qBL, .int bn, .int bk, .int bs])), (qBN, .inl (G.2.1, 64, .inl bN))]) [0, 1, 2] rfl
  have hDc := hD.sub (ws' := [(qX, .inr (7, [.ref qB, .ref qH, .ref qK, .ref qV, .ref qS, .ref qW])), (qB, .inr (0, [.ref qBT, .ref qBC, .ref qBN, .ref qBW, .ref qBL, .int bn, .int bk, .int bs])), (qBN, .inl (G.2.1, 64, .inl bN))]) [0, 1, 2] (by decide) rfl
  have hFc := va_free (wc := [(qX, .inr (7, [.ref qB, .ref qH, .ref qK, .ref qV, .ref qS, .ref qW])), (qB, .inr (0, [.ref qBT, .ref qBC, .ref qBN, .ref qBW, .ref qBL, .int bn, .int bk, .int bs])), (qBN, .inl (G.2.1, 64, .inl bN))]) hD hS hA [0, 1, 2] rfl
  have hKc := hK
  refine vx_calli (vx_runV (As := [.int x1, .int x2]) (rest := [.int 0, .ref qO]) ⟨hx, hb, hml, hown, hts⟩ (tX7_neighbour G l hfl eq) (cwV 2 hts gL_neighbour_X7_neighbour rfl rfl rfl (by decide +kernel) ⟨Nat.le_of_ble_eq_true rfl, Nat.le_of_ble_eq_true rfl⟩) ⟨pcX_blind, va_recv hKc hPc (ci := 7) (q0 := 0) rfl rfl, pcX_pre hPc hKK hDc hT hS hFc⟩ rfl rfl hl.1 rfl (lv_room (Nat.le_of_ble_eq_true rfl)) dL_neighbour_5 ⟨Nat.le_of_ble_eq_true rfl, Nat.le_of_ble_eq_true rfl⟩) hS (fun q _ h => hFc q h) hFc (fun q _ h => hFc q h) (fun E ce q9 u t H1 locs ht hvm hpx hB hz1 hk1 hS hc1 hv1 hcl1 => ?_) (fun r0 u t H1 locs ht hvm hw hB hz1 hk1 hS => ?_)
  · obtain ⟨e, rfl⟩ : ∃ z, z = u := ⟨_, rfl⟩
    subst hpx
    have hq := onW_r hq
    obtain ⟨hE, hB⟩ := hB
    have hB := va_Pto ht hB
    obtain ⟨hP, hD⟩ := jn (ws' := [(qX, .inr (7, [.ref qB, .ref qH, .ref qK, .ref qV, .ref qS, .ref qW])), (qB, .inr (0, [.ref qBT, .ref qBC, .ref qBN, .ref qBW, .ref qBL, .int bn, .int bk, .int bs])), (qBN, .inl (G.2.1, 64, .inl bN)), (qO, .inl (G.2.2.1, 1, .inr (.inl oO)))]) hP hD hk1 hB [0, 1, 2] rfl rfl rfl rfl
    generalize H1 = H at hP hS hc1 ⊢
    by_cases c_e0 : e = 1
    · have hq := k_t c_e0 hq
      have hE : E = "java/lang/IndexOutOfBoundsException" := hE.trans (congrArg exN c_e0)
      subst hE
      refine vx_catch (name := "java/lang/IndexOutOfBoundsException") hown ([]) ({ startPc := 0, endPc := 10, handlerPc := 13, catchType := 23 } : Jvm.ClassFile.ExceptionTableEntry) ([]) ((vx_table (x := yL_neighbour) B hcw).trans rfl) (fun _ h => absurd h List.not_mem_nil) (by decide) (by decide) hk23 ((hT.2.2.2.1 1 (by decide)).use rfl) hc1 hv1 hcl1 ?_
      refine lv_astore (lv' := [(4, .ref q9), (0, .ref qX), (1, .int x1), (2, .int x2), (3, .ref qO)]) hx hb dL_neighbour_13 hl (by decide) rfl (fun ls hl => ?_)
      refine lv_iconst (v := 1) hx hb dL_neighbour_15 (by decide) ?_
      obtain rfl := Option.some.inj hq
      rw [hQ]
      refine vx_ret ?_
      refine W.widen (k := 2) (n := 12) (Nat.le_of_ble_eq_true rfl) (Nat.le_of_ble_eq_true rfl) ?_
      exact W.iret hx hb hr (fun t ht hW => ⟨⟨_, (), rfl, rfl, va_Pat ht hP⟩, hS.F ht⟩) hS.2.2 dL_neighbour_16
    · have hq := k_f c_e0 hq
      cases hq
  · obtain ⟨v, rfl⟩ : ∃ z, z = u := ⟨_, rfl⟩
    obtain ⟨hw, rfl⟩ := hw
    subst hw
    have hq := onW_l hq
    have hB := va_Pto ht hB
    obtain ⟨hP, hD⟩ := jn (ws' := [(qX, .inr (7, [.ref qB, .ref qH, .ref qK, .ref qV, .ref qS, .ref qW])), (qB, .inr (0, [.ref qBT, .ref qBC, .ref qBN, .ref qBW, .ref qBL, .int bn, .int bk, .int bs])), (qBN, .inl (G.2.1, 64, .inl bN)), (qO, .inl (G.2.2.1, 1, .inr (.inl oO)))]) hP hD hk1 hB [0, 1, 2] rfl rfl rfl rfl
    generalize H1 = H at hP hS ⊢
    refine lv_i2l hx hb dL_neighbour_8 rfl ?_
    obtain ⟨hg, hq⟩ := k_g hq
    refine va_last hx hb hK hP hD hS 3 1 rfl rfl (ix_in hg) dL_neighbour_9 (fun H locs hP hD hS => ?_)
    have hP : va_P G.1 vwCl [(qX, .inr (7, [.ref qB, .ref qH, .ref qK, .ref qV, .ref qS, .ref qW])), (qB, .inr (0, [.ref qBT, .ref qBC, .ref qBN, .ref qBW, .ref qBL, .int bn, .int bk, .int bs])), (qBN, .inl (G.2.1, 64, .inl bN)), (qO, .inl (G.2.2.1, 1, .inr (.inl (vp_updL oO (0 : Int32).toNatClampNeg (v).toInt64))))] H := hP
    have hD : va_D A [(qX, .inr (7, [.ref qB, .ref qH, .ref qK, .ref qV, .ref qS, .ref qW])), (qB, .inr (0, [.ref qBT, .ref qBC, .ref qBN, .ref qBW, .ref qBL, .int bn, .int bk, .int bs])), (qBN, .inl (G.2.1, 64, .inl bN)), (qO, .inl (G.2.2.1, 1, .inr (.inl (vp_updL oO (0 : Int32).toNatClampNeg (v).toInt64))))] := hD
    refine lv_goto (tgt := 17) hx hb dL_neighbour_10 (by decide) ?_
    refine lv_iconst (v := 0) hx hb dL_neighbour_17 (by decide) ?_
    obtain rfl := Option.some.inj hq
    rw [hQ]
    refine vx_ret ?_
    refine W.widen (k := 2) (n := 12) (Nat.le_of_ble_eq_true rfl) (Nat.le_of_ble_eq_true rfl) ?_
    exact W.iret hx hb hr (fun t ht hW => ⟨⟨_, (), rfl, rfl, va_Pat ht hP⟩, hS.F ht⟩) hS.2.2 dL_neighbour_18

def kL_isJoined (F : Nat) (bn : Int32) (bT : Nat → Int32) (bW : Nat → Int32) (x1 : Int32) (x2 : Int32) (oO : Nat → Int64) : Option (Int32 × (Nat → Int64)) :=
  ((kX7_isJoined F bn bT bW x1 x2).bind fun q => onW q (fun u => (if u = 0 then (if ix 0 1 = true then some (0, vp_updL oO (0 : Int32).toNatClampNeg 0) else none) else (if ix 0 1 = true then some (0, vp_updL oO (0 : Int32).toNatClampNeg 1) else none))) (fun e => (if e = 1 then some (1, oO) else none)))
abbrev rmL_isJoined : Room := { frames := 10, cells := 2, slots := 12, locals := 163 }
set_option maxHeartbeats 40000000 in
set_option maxRecDepth 100000 in
theorem tL_isJoined (G : GG) (l : Launch) (hfl : l.stackTraces = false) {qX qB qH qK qV qS qW qBT qBC qBN qBW qBL qO sz : Nat} {bn : Int32} {bk : Int32} {bs : Int32} {bT : Nat → Int32} {bW : Nat → Int32} {oO : Nat → Int64} {x1 : Int32} {x2 : Int32} {F : Nat} {r : Int32 × (Nat → Int64)} (hq : kL_isJoined F bn bT bW x1 x2 oO = some r) : vx_Met l yL_isJoined wsL_isJoined rmL_isJoined (pcL G [(qX, .inr (7, [.ref qB, .ref qH, .ref qK, .ref qV, .ref qS, .ref qW])), (qB, .inr (0, [.ref qBT, .ref qBC, .ref qBN, .ref qBW, .ref qBL, .int bn, .int bk, .int bs])), (qBT, .inl (G.2.1, 16, .inl bT)), (qBW, .inl (G.2.1, 64, .inl bW)), (qO, .inl (G.2.2.1, 1, .inr (.inl oO)))] sz [.ref qX, .int x1, .int x2, .ref qO]) (va_Qi (S := Unit) (fun x _ => r.1 = x) (fun _ t => va_P G.1 vwCl [(qX, .inr (7, [.ref qB, .ref qH, .ref qK, .ref qV, .ref qS, .ref qW])), (qB, .inr (0, [.ref qBT, .ref qBC, .ref qBN, .ref qBW, .ref qBL, .int bn, .int bk, .int bs])), (qBT, .inl (G.2.1, 16, .inl bT)), (qBW, .inl (G.2.1, 64, .inl bW)), (qO, .inl (G.2.2.1, 1, .inr (.inl r.2)))] t.heap) (va_A [(qX, .inr (7, [.ref qB, .ref qH, .ref qK, .ref qV, .ref qS, .ref qW])), (qB, .inr (0, [.ref qBT, .ref qBC, .ref qBN, .ref qBW, .ref qBL, .int bn, .int bk, .int bs])), (qBT, .inl (G.2.1, 16, .inl bT)), (qBW, .inl (G.2.1, 64, .inl bW)), (qO, .inl (G.2.2.1, 1, .inr (.inl oO)))] sz)) (xcN (va_A [(qX, .inr (7, [.ref qB, .ref qH, .ref qK, .ref qV, .ref qS, .ref qW])), (qB, .inr (0, [.ref qBT, .ref qBC, .ref qBN, .ref qBW, .ref qBL, .int bn, .int bk, .int bs])), (qBT, .inl (G.2.1, 16, .inl bT)), (qBW, .inl (G.2.1, 64, .inl bW)), (qO, .inl (G.2.2.1, 1, .inr (.inl oO)))] sz)) 2 12 (va_A [(qX, .inr (7, [.ref qB, .ref qH, .ref qK, .ref qV, .ref qS, .ref qW])), (qB, .inr (0, [.ref qBT, .ref qBC, .ref qBN, .ref qBW, .ref qBL, .int bn, .int bk, .int bs])), (qBT, .inl (G.2.1, 16, .inl bT)), (qBW, .inl (G.2.1, 64, .inl bW)), (qO, .inl (G.2.2.1, 1, .inr (.inl oO)))] sz) := by
  refine vx_ofWH (cc := cL_isJoined) (maxL := 5) (ret := some .int) (hh := [(0, 17, 20, 23)]) (by decide) rfl ?_
  intro p e s m args below meth c s₁ B hml hv
  obtain ⟨rfl, hsz, hP, hKK, hD0, hT, hN⟩ := hv
  have hK := hKK.1
  have hx := B.exec
  have hb := B.bytes
  have hr := B.returns
  have hts := atoms_spec (ws := wsL_isJoined) B.pre
  have hown : s.vm.findClass RL = some m.cls := findClass_of_methodNamed B.named
  have hlocks := B.notSynchronized
  have hcw : (Cond.codeWith yL_isJoined cL_isJoined 5 (some .int) [(0, 17, 20, 23)]).before #[Value.ref qX, Value.int x1, Value.int x2, Value.ref qO] s = true := hts _ List.mem_cons_self
  have hk23 : (Cond.classLink RL 23 "java/lang/IndexOutOfBoundsException").before #[Value.ref qX, Value.int x1, Value.int x2, Value.ref qO] s = true := hts _ (by decide +kernel)
  subst hsz
  have hD := hD0.self (sz := s.heap.size)
  generalize hAe : va_A [(qX, .inr (7, [.ref qB, .ref qH, .ref qK, .ref qV, .ref qS, .ref qW])), (qB, .inr (0, [.ref qBT, .ref qBC, .ref qBN, .ref qBW, .ref qBL, .int bn, .int bk, .int bs])), (qBT, .inl (G.2.1, 16, .inl bT)), (qBW, .inl (G.2.1, 64, .inl bW)), (qO, .inl (G.2.2.1, 1, .inr (.inl oO)))] s.heap.size = A at hD hT ⊢
  have hA : ∀ q : Nat, s.heap.size ≤ q → A q := fun q h => by rw [← hAe]; exact Or.inr h
  have hS : va_S A s.heap s.heap [] := va_S.rf
  have hl := lv_entry ([.ref qX, .int x1, .int x2, .ref qO] : List Value) (n := 5) (Nat.le_of_ble_eq_true rfl)
  rw [lg_entry_eq]
  generalize (lg_sl ([.ref qX, .int x1, .int x2, .ref qO] : List Value) ++ List.replicate (5 - (lg_sl ([.ref qX, .int x1, .int x2, .ref qO] : List Value)).length) Slot.unset).toArray = ls at hl ⊢
  have hl : lv_has ls 5 [(0, .ref qX), (1, .int x1), (2, .int x2), (3, .ref qO)] := hl
  refine wq (fun Q hQ => ?_)
  unfold kL_isJoined at hq
  obtain ⟨q, eq, hq⟩ := ob hq
  refine lv_aload_n hx hb dL_isJoined_0 rfl (lv_at hl 3 rfl) ?_
  refine lv_iconst (v := 0) hx hb dL_isJoined_1 (by decide) ?_
  refine lv_aload_n hx hb dL_isJoined_2 rfl (lv_at hl 0 rfl) ?_
  refine lv_iload_n hx hb dL_isJoined_3 rfl (lv_at hl 1 rfl) ?_
  refine lv_iload_n hx hb dL_isJoined_4 rfl (lv_at hl 2 rfl) ?_
  have hPc := hP.sub (ws' := [(qX, .inr (7, [.ref qB, .ref qH, .ref qK, .ref qV, .ref qS, .ref qW])), (qB, .inr (0, [.ref qBT, .ref qBC, .ref qBN, .ref qBW, .ref qBL, .int bn, .int bk, .int bs])), (qBT, .inl (G.2.1, 16, .inl bT)), (qBW, .inl (G.2.1, 64, .inl bW))]) [0, 1, 2, 3] rfl
  have hDc := hD.sub (ws' := [(qX, .inr (7, [.ref qB, .ref qH, .ref qK, .ref qV, .ref qS, .ref qW])), (qB, .inr (0, [.ref qBT, .ref qBC, .ref qBN, .ref qBW, .ref qBL, .int bn, .int bk, .int bs])), (qBT, .inl (G.2.1, 16, .inl bT)), (qBW, .inl (G.2.1, 64, .inl bW))]) [0, 1, 2, 3] (by decide) rfl
  have hFc := va_free (wc := [(qX, .inr (7, [.ref qB, .ref qH, .ref qK, .ref qV, .ref qS, .ref qW])), (qB, .inr (0, [.ref qBT, .ref qBC, .ref qBN, .ref qBW, .ref qBL, .int bn, .int bk, .int bs])), (qBT, .inl (G.2.1, 16, .inl bT)), (qBW, .inl (G.2.1, 64, .inl bW))]) hD hS hA [0, 1, 2, 3] rfl
  have hKc := hK
  refine vx_calli (vx_runV (As := [.int x1, .int x2]) (rest := [.int 0, .ref qO]) ⟨hx, hb, hml, hown, hts⟩ (tX7_isJoined G l hfl eq) (cwV 2 hts gL_isJoined_X7_isJoined rfl rfl rfl (by decide +kernel) ⟨Nat.le_of_ble_eq_true rfl, Nat.le_of_ble_eq_true rfl⟩) ⟨pcX_blind, va_recv hKc hPc (ci := 7) (q0 := 0) rfl rfl, pcX_pre hPc hKK hDc hT hS hFc⟩ rfl rfl hl.1 rfl (lv_room (Nat.le_of_ble_eq_true rfl)) dL_isJoined_5 ⟨Nat.le_of_ble_eq_true rfl, Nat.le_of_ble_eq_true rfl⟩) hS (fun q _ h => hFc q h) hFc (fun q _ h => hFc q h) (fun E ce q9 u t H1 locs ht hvm hpx hB hz1 hk1 hS hc1 hv1 hcl1 => ?_) (fun r0 u t H1 locs ht hvm hw hB hz1 hk1 hS => ?_)
  · obtain ⟨e, rfl⟩ : ∃ z, z = u := ⟨_, rfl⟩
    subst hpx
    have hq := onW_r hq
    obtain ⟨hE, hB⟩ := hB
    have hB := va_Pto ht hB
    obtain ⟨hP, hD⟩ := jn (ws' := [(qX, .inr (7, [.ref qB, .ref qH, .ref qK, .ref qV, .ref qS, .ref qW])), (qB, .inr (0, [.ref qBT, .ref qBC, .ref qBN, .ref qBW, .ref qBL, .int bn, .int bk, .int bs])), (qBT, .inl (G.2.1, 16, .inl bT)), (qBW, .inl (G.2.1, 64, .inl bW)), (qO, .inl (G.2.2.1, 1, .inr (.inl oO)))]) hP hD hk1 hB [0, 1, 2, 3] rfl rfl rfl rfl
    generalize H1 = H at hP hS hc1 ⊢
    by_cases c_e0 : e = 1
    · have hq := k_t c_e0 hq
      have hE : E = "java/lang/IndexOutOfBoundsException" := hE.trans (congrArg exN c_e0)
      subst hE
      refine vx_catch (name := "java/lang/IndexOutOfBoundsException") hown ([]) ({ startPc := 0, endPc := 17, handlerPc := 20, catchType := 23 } : Jvm.ClassFile.ExceptionTableEntry) ([]) ((vx_table (x := yL_isJoined) B hcw).trans rfl) (fun _ h => absurd h List.not_mem_nil) (by decide) (by decide) hk23 ((hT.2.2.2.1 1 (by decide)).use rfl) hc1 hv1 hcl1 ?_
      refine lv_astore (lv' := [(4, .ref q9), (0, .ref qX), (1, .int x1), (2, .int x2), (3, .ref qO)]) hx hb dL_isJoined_20 hl (by decide) rfl (fun ls hl => ?_)
      refine lv_iconst (v := 1) hx hb dL_isJoined_22 (by decide) ?_
      obtain rfl := Option.some.inj hq
      rw [hQ]
      refine vx_ret ?_
      refine W.widen (k := 2) (n := 12) (Nat.le_of_ble_eq_true rfl) (Nat.le_of_ble_eq_true rfl) ?_
      exact W.iret hx hb hr (fun t ht hW => ⟨⟨_, (), rfl, rfl, va_Pat ht hP⟩, hS.F ht⟩) hS.2.2 dL_isJoined_23
    · have hq := k_f c_e0 hq
      cases hq
  · obtain ⟨v, rfl⟩ : ∃ z, z = u := ⟨_, rfl⟩
    obtain ⟨hw, rfl⟩ := hw
    subst hw
    have hq := onW_l hq
    have hB := va_Pto ht hB
    obtain ⟨hP, hD⟩ := jn (ws' := [(qX, .inr (7, [.ref qB, .ref qH, .ref qK, .ref qV, .ref qS, .ref qW])), (qB, .inr (0, [.ref qBT, .ref qBC, .ref qBN, .ref qBW, .ref qBL, .int bn, .int bk, .int bs])), (qBT, .inl (G.2.1, 16, .inl bT)), (qBW, .inl (G.2.1, 64, .inl bW)), (qO, .inl (G.2.2.1, 1, .inr (.inl oO)))]) hP hD hk1 hB [0, 1, 2, 3] rfl rfl rfl rfl
    generalize H1 = H at hP hS ⊢
    refine lv_if_eq (tgt := 15) hx hb dL_isJoined_8 (by decide) (fun c_z => ?_) (fun c_z => ?_)
    · have hq := k_t c_z hq
      refine lv_lconst (v := 0) hx hb dL_isJoined_15 (by decide) ?_
      obtain ⟨hg, hq⟩ := k_g hq
      refine va_last hx hb hK hP hD hS 4 1 rfl rfl (ix_in hg) dL_isJoined_16 (fun H locs hP hD hS => ?_)
      have hP : va_P G.1 vwCl [(qX, .inr (7, [.ref qB, .ref qH, .ref qK, .ref qV, .ref qS, .ref qW])), (qB, .inr (0, [.ref qBT, .ref qBC, .ref qBN, .ref qBW, .ref qBL, .int bn, .int bk, .int bs])), (qBT, .inl (G.2.1, 16, .inl bT)), (qBW, .inl (G.2.1, 64, .inl bW)), (qO, .inl (G.2.2.1, 1, .inr (.inl (vp_updL oO (0 : Int32).toNatClampNeg 0))))] H := hP
      have hD : va_D A [(qX, .inr (7, [.ref qB, .ref qH, .ref qK, .ref qV, .ref qS, .ref qW])), (qB, .inr (0, [.ref qBT, .ref qBC, .ref qBN, .ref qBW, .ref qBL, .int bn, .int bk, .int bs])), (qBT, .inl (G.2.1, 16, .inl bT)), (qBW, .inl (G.2.1, 64, .inl bW)), (qO, .inl (G.2.2.1, 1, .inr (.inl (vp_updL oO (0 : Int32).toNatClampNeg 0))))] := hD
      refine lv_goto (tgt := 24) hx hb dL_isJoined_17 (by decide) ?_
      refine lv_iconst (v := 0) hx hb dL_isJoined_24 (by decide) ?_
      obtain rfl := Option.some.inj hq
      rw [hQ]
      refine vx_ret ?_
      refine W.widen (k := 2) (n := 12) (Nat.le_of_ble_eq_true rfl) (Nat.le_of_ble_eq_true rfl) ?_
      exact W.iret hx hb hr (fun t ht hW => ⟨⟨_, (), rfl, rfl, va_Pat ht hP⟩, hS.F ht⟩) hS.2.2 dL_isJoined_25
    · have hq := k_f c_z hq
      refine lv_lconst (v := 1) hx hb dL_isJoined_11 (by decide) ?_
      refine lv_goto (tgt := 16) hx hb dL_isJoined_12 (by decide) ?_
      obtain ⟨hg, hq⟩ := k_g hq
      refine va_last hx hb hK hP hD hS 4 1 rfl rfl (ix_in hg) dL_isJoined_16 (fun H locs hP hD hS => ?_)
      have hP : va_P G.1 vwCl [(qX, .inr (7, [.ref qB, .ref qH, .ref qK, .ref qV, .ref qS, .ref qW])), (qB, .inr (0, [.ref qBT, .ref qBC, .ref qBN, .ref qBW, .ref qBL, .int bn, .int bk, .int bs])), (qBT, .inl (G.2.1, 16, .inl bT)), (qBW, .inl (G.2.1, 64, .inl bW)), (qO, .inl (G.2.2.1, 1, .inr (.inl (vp_updL oO (0 : Int32).toNatClampNeg 1))))] H := hP
      have hD : va_D A [(qX, .inr (7, [.ref qB, .ref qH, .ref qK, .ref qV, .ref qS, .ref qW])), (qB, .inr (0, [.ref qBT, .ref qBC, .ref qBN, .ref qBW, .ref qBL, .int bn, .int bk, .int bs])), (qBT, .inl (G.2.1, 16, .inl bT)), (qBW, .inl (G.2.1, 64, .inl bW)), (qO, .inl (G.2.2.1, 1, .inr (.inl (vp_updL oO (0 : Int32).toNatClampNeg 1))))] := hD
      refine lv_goto (tgt := 24) hx hb dL_isJoined_17 (by decide) ?_
      refine lv_iconst (v := 0) hx hb dL_isJoined_24 (by decide) ?_
      obtain rfl := Option.some.inj hq
      rw [hQ]
      refine vx_ret ?_
      refine W.widen (k := 2) (n := 12) (Nat.le_of_ble_eq_true rfl) (Nat.le_of_ble_eq_true rfl) ?_
      exact W.iret hx hb hr (fun t ht hW => ⟨⟨_, (), rfl, rfl, va_Pat ht hP⟩, hS.F ht⟩) hS.2.2 dL_isJoined_25

def kL_isWatered (F : Nat) (bn : Int32) (bs : Int32) (bT : Nat → Int32) (bW : Nat → Int32) (bL : Nat → Int32) (x1 : Int32) (oO : Nat → Int64) : Option (Int32 × (Nat → Int32) × (Nat → Int64)) :=
  ((kX7_isWatered F bn bs bT bW bL x1).bind fun q => onW q (fun u => (if u.1 = 0 then (if ix 0 1 = true then some (0, u.2, vp_updL oO (0 : Int32).toNatClampNeg 0) else none) else (if ix 0 1 = true then some (0, u.2, vp_updL oO (0 : Int32).toNatClampNeg 1) else none))) (fun e => (if e.1 = 1 then some (1, e.2, oO) else none)))
abbrev rmL_isWatered : Room := { frames := 10, cells := 1, slots := 6, locals := 162 }
set_option maxHeartbeats 40000000 in
set_option maxRecDepth 100000 in
theorem tL_isWatered (G : GG) (l : Launch) (hfl : l.stackTraces = false) {qX qB qH qK qV qS qW qBT qBC qBN qBW qBL qO sz : Nat} {bn : Int32} {bk : Int32} {bs : Int32} {bT : Nat → Int32} {bW : Nat → Int32} {bL : Nat → Int32} {oO : Nat → Int64} {x1 : Int32} {F : Nat} {r : Int32 × (Nat → Int32) × (Nat → Int64)} (hq : kL_isWatered F bn bs bT bW bL x1 oO = some r) : vx_Met l yL_isWatered wsL_isWatered rmL_isWatered (pcL G [(qX, .inr (7, [.ref qB, .ref qH, .ref qK, .ref qV, .ref qS, .ref qW])), (qB, .inr (0, [.ref qBT, .ref qBC, .ref qBN, .ref qBW, .ref qBL, .int bn, .int bk, .int bs])), (qBT, .inl (G.2.1, 16, .inl bT)), (qBW, .inl (G.2.1, 64, .inl bW)), (qBL, .inl (G.2.1, 16, .inl bL)), (qO, .inl (G.2.2.1, 1, .inr (.inl oO)))] sz [.ref qX, .int x1, .ref qO]) (va_Qi (S := Unit) (fun x _ => r.1 = x) (fun _ t => va_P G.1 vwCl [(qX, .inr (7, [.ref qB, .ref qH, .ref qK, .ref qV, .ref qS, .ref qW])), (qB, .inr (0, [.ref qBT, .ref qBC, .ref qBN, .ref qBW, .ref qBL, .int bn, .int bk, .int bs])), (qBT, .inl (G.2.1, 16, .inl bT)), (qBW, .inl (G.2.1, 64, .inl bW)), (qBL, .inl (G.2.1, 16, .inl r.2.1)), (qO, .inl (G.2.2.1, 1, .inr (.inl r.2.2)))] t.heap) (va_A [(qX, .inr (7, [.ref qB, .ref qH, .ref qK, .ref qV, .ref qS, .ref qW])), (qB, .inr (0, [.ref qBT, .ref qBC, .ref qBN, .ref qBW, .ref qBL, .int bn, .int bk, .int bs])), (qBT, .inl (G.2.1, 16, .inl bT)), (qBW, .inl (G.2.1, 64, .inl bW)), (qBL, .inl (G.2.1, 16, .inl bL)), (qO, .inl (G.2.2.1, 1, .inr (.inl oO)))] sz)) (xcN (va_A [(qX, .inr (7, [.ref qB, .ref qH, .ref qK, .ref qV, .ref qS, .ref qW])), (qB, .inr (0, [.ref qBT, .ref qBC, .ref qBN, .ref qBW, .ref qBL, .int bn, .int bk, .int bs])), (qBT, .inl (G.2.1, 16, .inl bT)), (qBW, .inl (G.2.1, 64, .inl bW)), (qBL, .inl (G.2.1, 16, .inl bL)), (qO, .inl (G.2.2.1, 1, .inr (.inl oO)))] sz)) 1 6 (va_A [(qX, .inr (7, [.ref qB, .ref qH, .ref qK, .ref qV, .ref qS, .ref qW])), (qB, .inr (0, [.ref qBT, .ref qBC, .ref qBN, .ref qBW, .ref qBL, .int bn, .int bk, .int bs])), (qBT, .inl (G.2.1, 16, .inl bT)), (qBW, .inl (G.2.1, 64, .inl bW)), (qBL, .inl (G.2.1, 16, .inl bL)), (qO, .inl (G.2.2.1, 1, .inr (.inl oO)))] sz) := by
  refine vx_ofWH (cc := cL_isWatered) (maxL := 4) (ret := some .int) (hh := [(0, 16, 19, 23)]) (by decide) rfl ?_
  intro p e s m args below meth c s₁ B hml hv
  obtain ⟨rfl, hsz, hP, hKK, hD0, hT, hN⟩ := hv
  have hK := hKK.1
  have hx := B.exec
  have hb := B.bytes
  have hr := B.returns
  have hts := atoms_spec (ws := wsL_isWatered) B.pre
  have hown : s.vm.findClass RL = some m.cls := findClass_of_methodNamed B.named
  have hlocks := B.notSynchronized
  have hcw : (Cond.codeWith yL_isWatered cL_isWatered 4 (some .int) [(0, 16, 19, 23)]).before #[Value.ref qX, Value.int x1, Value.ref qO] s = true := hts _ List.mem_cons_self
  have hk23 : (Cond.classLink RL 23 "java/lang/IndexOutOfBoundsException").before #[Value.ref qX, Value.int x1, Value.ref qO] s = true := hts _ (by decide +kernel)
  subst hsz
  have hD := hD0.self (sz := s.heap.size)
  generalize hAe : va_A [(qX, .inr (7, [.ref qB, .ref qH, .ref qK, .ref qV, .ref qS, .ref qW])), (qB, .inr (0, [.ref qBT, .ref qBC, .ref qBN, .ref qBW, .ref qBL, .int bn, .int bk, .int bs])), (qBT, .inl (G.2.1, 16, .inl bT)), (qBW, .inl (G.2.1, 64, .inl bW)), (qBL, .inl (G.2.1, 16, .inl bL)), (qO, .inl (G.2.2.1, 1, .inr (.inl oO)))] s.heap.size = A at hD hT ⊢
  have hA : ∀ q : Nat, s.heap.size ≤ q → A q := fun q h => by rw [← hAe]; exact Or.inr h
  have hS : va_S A s.heap s.heap [] := va_S.rf
  have hl := lv_entry ([.ref qX, .int x1, .ref qO] : List Value) (n := 4) (Nat.le_of_ble_eq_true rfl)
  rw [lg_entry_eq]
  generalize (lg_sl ([.ref qX, .int x1, .ref qO] : List Value) ++ List.replicate (4 - (lg_sl ([.ref qX, .int x1, .ref qO] : List Value)).length) Slot.unset).toArray = ls at hl ⊢
  have hl : lv_has ls 4 [(0, .ref qX), (1, .int x1), (2, .ref qO)] := hl
  refine wq (fun Q hQ => ?_)
  unfold kL_isWatered at hq
  obtain ⟨q, eq, hq⟩ := ob hq
  refine lv_aload_n hx hb dL_isWatered_0 rfl (lv_at hl 2 rfl) ?_
  refine lv_iconst (v := 0) hx hb dL_isWatered_1 (by decide) ?_
  refine lv_aload_n hx hb dL_isWatered_2 rfl (lv_at hl 0 rfl) ?_
  refine lv_iload_n hx hb dL_isWatered_3 rfl (lv_at hl 1 rfl) ?_
  have hPc := hP.sub (ws' := [(qX, .inr (7, [.ref qB, .ref qH, .ref qK, .ref qV, .ref qS, .ref qW])), (qB, .inr (0, [.ref qBT, .ref qBC, .ref qBN, .ref qBW, .ref qBL, .int bn, .int bk, .int bs])), (qBT, .inl (G.2.1, 16, .inl bT)), (qBW, .inl (G.2.1, 64, .inl bW)), (qBL, .inl (G.2.1, 16, .inl bL))]) [0, 1, 2, 3, 4] rfl
  have hDc := hD.sub (ws' := [(qX, .inr (7, [.ref qB, .ref qH, .ref qK, .ref qV, .ref qS, .ref qW])), (qB, .inr (0, [.ref qBT, .ref qBC, .ref qBN, .ref qBW, .ref qBL, .int bn, .int bk, .int bs])), (qBT, .inl (G.2.1, 16, .inl bT)), (qBW, .inl (G.2.1, 64, .inl bW)), (qBL, .inl (G.2.1, 16, .inl bL))]) [0, 1, 2, 3, 4] (by decide) rfl
  have hFc := va_free (wc := [(qX, .inr (7, [.ref qB, .ref qH, .ref qK, .ref qV, .ref qS, .ref qW])), (qB, .inr (0, [.ref qBT, .ref qBC, .ref qBN, .ref qBW, .ref qBL, .int bn, .int bk, .int bs])), (qBT, .inl (G.2.1, 16, .inl bT)), (qBW, .inl (G.2.1, 64, .inl bW)), (qBL, .inl (G.2.1, 16, .inl bL))]) hD hS hA [0, 1, 2, 3, 4] rfl
  have hKc := hK
  refine vx_calli (vx_runV (As := [.int x1]) (rest := [.int 0, .ref qO]) ⟨hx, hb, hml, hown, hts⟩ (tX7_isWatered G l hfl eq) (cwV 1 hts gL_isWatered_X7_isWatered rfl rfl rfl (by decide +kernel) ⟨Nat.le_of_ble_eq_true rfl, Nat.le_of_ble_eq_true rfl⟩) ⟨pcX_blind, va_recv hKc hPc (ci := 7) (q0 := 0) rfl rfl, pcX_pre hPc hKK hDc hT hS hFc⟩ rfl rfl hl.1 rfl (lv_room (Nat.le_of_ble_eq_true rfl)) dL_isWatered_4 ⟨Nat.le_of_ble_eq_true rfl, Nat.le_of_ble_eq_true rfl⟩) hS (fun q _ h => hFc q h) hFc (fun q _ h => hFc q h) (fun E ce q9 u t H1 locs ht hvm hpx hB hz1 hk1 hS hc1 hv1 hcl1 => ?_) (fun r0 u t H1 locs ht hvm hw hB hz1 hk1 hS => ?_)
  · obtain ⟨e, rfl⟩ : ∃ z, z = u := ⟨_, rfl⟩
    subst hpx
    have hq := onW_r hq
    obtain ⟨hE, hB⟩ := hB
    have hB := va_Pto ht hB
    obtain ⟨hP, hD⟩ := jn (ws' := [(qX, .inr (7, [.ref qB, .ref qH, .ref qK, .ref qV, .ref qS, .ref qW])), (qB, .inr (0, [.ref qBT, .ref qBC, .ref qBN, .ref qBW, .ref qBL, .int bn, .int bk, .int bs])), (qBT, .inl (G.2.1, 16, .inl bT)), (qBW, .inl (G.2.1, 64, .inl bW)), (qBL, .inl (G.2.1, 16, .inl e.2)), (qO, .inl (G.2.2.1, 1, .inr (.inl oO)))]) hP hD hk1 hB [0, 1, 2, 3, 4] rfl rfl rfl rfl
    generalize H1 = H at hP hS hc1 ⊢
    by_cases c_e0 : e.1 = 1
    · have hq := k_t c_e0 hq
      have hE : E = "java/lang/IndexOutOfBoundsException" := hE.trans (congrArg exN c_e0)
      subst hE
      refine vx_catch (name := "java/lang/IndexOutOfBoundsException") hown ([]) ({ startPc := 0, endPc := 16, handlerPc := 19, catchType := 23 } : Jvm.ClassFile.ExceptionTableEntry) ([]) ((vx_table (x := yL_isWatered) B hcw).trans rfl) (fun _ h => absurd h List.not_mem_nil) (by decide) (by decide) hk23 ((hT.2.2.2.1 1 (by decide)).use rfl) hc1 hv1 hcl1 ?_
      refine lv_astore_n (lv' := [(3, .ref q9), (0, .ref qX), (1, .int x1), (2, .ref qO)]) hx hb dL_isWatered_19 rfl hl (by decide) rfl (fun ls hl => ?_)
      refine lv_iconst (v := 1) hx hb dL_isWatered_20 (by decide) ?_
      obtain rfl := Option.some.inj hq
      rw [hQ]
      refine vx_ret ?_
      refine W.widen (k := 1) (n := 6) (Nat.le_of_ble_eq_true rfl) (Nat.le_of_ble_eq_true rfl) ?_
      exact W.iret hx hb hr (fun t ht hW => ⟨⟨_, (), rfl, rfl, va_Pat ht hP⟩, hS.F ht⟩) hS.2.2 dL_isWatered_21
    · have hq := k_f c_e0 hq
      cases hq
  · obtain ⟨v, rfl⟩ : ∃ z, z = u := ⟨_, rfl⟩
    obtain ⟨hw, rfl⟩ := hw
    subst hw
    have hq := onW_l hq
    have hB := va_Pto ht hB
    obtain ⟨hP, hD⟩ := jn (ws' := [(qX, .inr (7, [.ref qB, .ref qH, .ref qK, .ref qV, .ref qS, .ref qW])), (qB, .inr (0, [.ref qBT, .ref qBC, .ref qBN, .ref qBW, .ref qBL, .int bn, .int bk, .int bs])), (qBT, .inl (G.2.1, 16, .inl bT)), (qBW, .inl (G.2.1, 64, .inl bW)), (qBL, .inl (G.2.1, 16, .inl v.2)), (qO, .inl (G.2.2.1, 1, .inr (.inl oO)))]) hP hD hk1 hB [0, 1, 2, 3, 4] rfl rfl rfl rfl
    generalize H1 = H at hP hS ⊢
    refine lv_if_eq (tgt := 14) hx hb dL_isWatered_7 (by decide) (fun c_z => ?_) (fun c_z => ?_)
    · have hq := k_t c_z hq
      refine lv_lconst (v := 0) hx hb dL_isWatered_14 (by decide) ?_
      obtain ⟨hg, hq⟩ := k_g hq
      refine va_last hx hb hK hP hD hS 5 1 rfl rfl (ix_in hg) dL_isWatered_15 (fun H locs hP hD hS => ?_)
      have hP : va_P G.1 vwCl [(qX, .inr (7, [.ref qB, .ref qH, .ref qK, .ref qV, .ref qS, .ref qW])), (qB, .inr (0, [.ref qBT, .ref qBC, .ref qBN, .ref qBW, .ref qBL, .int bn, .int bk, .int bs])), (qBT, .inl (G.2.1, 16, .inl bT)), (qBW, .inl (G.2.1, 64, .inl bW)), (qBL, .inl (G.2.1, 16, .inl v.2)), (qO, .inl (G.2.2.1, 1, .inr (.inl (vp_updL oO (0 : Int32).toNatClampNeg 0))))] H := hP
      have hD : va_D A [(qX, .inr (7, [.ref qB, .ref qH, .ref qK, .ref qV, .ref qS, .ref qW])), (qB, .inr (0, [.ref qBT, .ref qBC, .ref qBN, .ref qBW, .ref qBL, .int bn, .int bk, .int bs])), (qBT, .inl (G.2.1, 16, .inl bT)), (qBW, .inl (G.2.1, 64, .inl bW)), (qBL, .inl (G.2.1, 16, .inl v.2)), (qO, .inl (G.2.2.1, 1, .inr (.inl (vp_updL oO (0 : Int32).toNatClampNeg 0))))] := hD
      refine lv_goto (tgt := 22) hx hb dL_isWatered_16 (by decide) ?_
      refine lv_iconst (v := 0) hx hb dL_isWatered_22 (by decide) ?_
      obtain rfl := Option.some.inj hq
      rw [hQ]
      refine vx_ret ?_
      refine W.widen (k := 1) (n := 6) (Nat.le_of_ble_eq_true rfl) (Nat.le_of_ble_eq_true rfl) ?_
      exact W.iret hx hb hr (fun t ht hW => ⟨⟨_, (), rfl, rfl, va_Pat ht hP⟩, hS.F ht⟩) hS.2.2 dL_isWatered_23
    · have hq := k_f c_z hq
      refine lv_lconst (v := 1) hx hb dL_isWatered_10 (by decide) ?_
      refine lv_goto (tgt := 15) hx hb dL_isWatered_11 (by decide) ?_
      obtain ⟨hg, hq⟩ := k_g hq
      refine va_last hx hb hK hP hD hS 5 1 rfl rfl (ix_in hg) dL_isWatered_15 (fun H locs hP hD hS => ?_)
      have hP : va_P G.1 vwCl [(qX, .inr (7, [.ref qB, .ref qH, .ref qK, .ref qV, .ref qS, .ref qW])), (qB, .inr (0, [.ref qBT, .ref qBC, .ref qBN, .ref qBW, .ref qBL, .int bn, .int bk, .int bs])), (qBT, .inl (G.2.1, 16, .inl bT)), (qBW, .inl (G.2.1, 64, .inl bW)), (qBL, .inl (G.2.1, 16, .inl v.2)), (qO, .inl (G.2.2.1, 1, .inr (.inl (vp_updL oO (0 : Int32).toNatClampNeg 1))))] H := hP
      have hD : va_D A [(qX, .inr (7, [.ref qB, .ref qH, .ref qK, .ref qV, .ref qS, .ref qW])), (qB, .inr (0, [.ref qBT, .ref qBC, .ref qBN, .ref qBW, .ref qBL, .int bn, .int bk, .int bs])), (qBT, .inl (G.2.1, 16, .inl bT)), (qBW, .inl (G.2.1, 64, .inl bW)), (qBL, .inl (G.2.1, 16, .inl v.2)), (qO, .inl (G.2.2.1, 1, .inr (.inl (vp_updL oO (0 : Int32).toNatClampNeg 1))))] := hD
      refine lv_goto (tgt := 22) hx hb dL_isWatered_16 (by decide) ?_
      refine lv_iconst (v := 0) hx hb dL_isWatered_22 (by decide) ?_
      obtain rfl := Option.some.inj hq
      rw [hQ]
      refine vx_ret ?_
      refine W.widen (k := 1) (n := 6) (Nat.le_of_ble_eq_true rfl) (Nat.le_of_ble_eq_true rfl) ?_
      exact W.iret hx hb hr (fun t ht hW => ⟨⟨_, (), rfl, rfl, va_Pat ht hP⟩, hS.F ht⟩) hS.2.2 dL_isWatered_23

def kL_lays (F : Nat) (bn : Int32) (bk : Int32) (bT : Nat → Int32) (bW : Nat → Int32) (vL : Nat → Int32) (vS : Nat → Int32) (vA : Nat → Int32) (vT : Nat → Int32) (x1 : Int32) (oO : Nat → Int64) : Option (Int32 × (Nat → Int32) × (Nat → Int32) × (Nat → Int32) × (Nat → Int32) × (Nat → Int64)) :=
  ((kX7_lays F bn bk bT bW vL vS vA vT x1).bind fun q => onW q (fun u => (if ix 0 1 = true then some (0, u.2.1, u.2.2.1, u.2.2.2.1, u.2.2.2.2, vp_updL oO (0 : Int32).toNatClampNeg (u.1).toInt64) else none)) (fun e => (if e.1 = 1 then some (1, e.2.1, e.2.2.1, e.2.2.2.1, e.2.2.2.2, oO) else none)))
abbrev rmL_lays : Room := { frames := 10, cells := 1, slots := 6, locals := 166 }
set_option maxHeartbeats 40000000 in
set_option maxRecDepth 100000 in
theorem tL_lays (G : GG) (l : Launch) (hfl : l.stackTraces = false) {qX qB qH qK qV qS qW qBT qBC qBN qBW qBL qVL qVS qVA qVT qO sz : Nat} {bn : Int32} {bk : Int32} {bs : Int32} {bT : Nat → Int32} {bW : Nat → Int32} {vL : Nat → Int32} {vS : Nat → Int32} {vA : Nat → Int32} {vT : Nat → Int32} {oO : Nat → Int64} {x1 : Int32} {F : Nat} {r : Int32 × (Nat → Int32) × (Nat → Int32) × (Nat → Int32) × (Nat → Int32) × (Nat → Int64)} (hq : kL_lays F bn bk bT bW vL vS vA vT x1 oO = some r) : vx_Met l yL_lays wsL_lays rmL_lays (pcL G [(qX, .inr (7, [.ref qB, .ref qH, .ref qK, .ref qV, .ref qS, .ref qW])), (qB, .inr (0, [.ref qBT, .ref qBC, .ref qBN, .ref qBW, .ref qBL, .int bn, .int bk, .int bs])), (qBT, .inl (G.2.1, 16, .inl bT)), (qBW, .inl (G.2.1, 64, .inl bW)), (qV, .inr (5, [.ref qB, .ref qVL, .ref qVS, .ref qVA, .ref qVT])), (qVL, .inl (G.2.1, 16, .inl vL)), (qVS, .inl (G.2.1, 16, .inl vS)), (qVA, .inl (G.2.1, 16, .inl vA)), (qVT, .inl (G.2.1, 16, .inl vT)), (qO, .inl (G.2.2.1, 1, .inr (.inl oO)))] sz [.ref qX, .int x1, .ref qO]) (va_Qi (S := Unit) (fun x _ => r.1 = x) (fun _ t => va_P G.1 vwCl [(qX, .inr (7, [.ref qB, .ref qH, .ref qK, .ref qV, .ref qS, .ref qW])), (qB, .inr (0, [.ref qBT, .ref qBC, .ref qBN, .ref qBW, .ref qBL, .int bn, .int bk, .int bs])), (qBT, .inl (G.2.1, 16, .inl bT)), (qBW, .inl (G.2.1, 64, .inl bW)), (qV, .inr (5, [.ref qB, .ref qVL, .ref qVS, .ref qVA, .ref qVT])), (qVL, .inl (G.2.1, 16, .inl r.2.1)), (qVS, .inl (G.2.1, 16, .inl r.2.2.1)), (qVA, .inl (G.2.1, 16, .inl r.2.2.2.1)), (qVT, .inl (G.2.1, 16, .inl r.2.2.2.2.1)), (qO, .inl (G.2.2.1, 1, .inr (.inl r.2.2.2.2.2)))] t.heap) (va_A [(qX, .inr (7, [.ref qB, .ref qH, .ref qK, .ref qV, .ref qS, .ref qW])), (qB, .inr (0, [.ref qBT, .ref qBC, .ref qBN, .ref qBW, .ref qBL, .int bn, .int bk, .int bs])), (qBT, .inl (G.2.1, 16, .inl bT)), (qBW, .inl (G.2.1, 64, .inl bW)), (qV, .inr (5, [.ref qB, .ref qVL, .ref qVS, .ref qVA, .ref qVT])), (qVL, .inl (G.2.1, 16, .inl vL)), (qVS, .inl (G.2.1, 16, .inl vS)), (qVA, .inl (G.2.1, 16, .inl vA)), (qVT, .inl (G.2.1, 16, .inl vT)), (qO, .inl (G.2.2.1, 1, .inr (.inl oO)))] sz)) (xcN (va_A [(qX, .inr (7, [.ref qB, .ref qH, .ref qK, .ref qV, .ref qS, .ref qW])), (qB, .inr (0, [.ref qBT, .ref qBC, .ref qBN, .ref qBW, .ref qBL, .int bn, .int bk, .int bs])), (qBT, .inl (G.2.1, 16, .inl bT)), (qBW, .inl (G.2.1, 64, .inl bW)), (qV, .inr (5, [.ref qB, .ref qVL, .ref qVS, .ref qVA, .ref qVT])), (qVL, .inl (G.2.1, 16, .inl vL)), (qVS, .inl (G.2.1, 16, .inl vS)), (qVA, .inl (G.2.1, 16, .inl vA)), (qVT, .inl (G.2.1, 16, .inl vT)), (qO, .inl (G.2.2.1, 1, .inr (.inl oO)))] sz)) 1 6 (va_A [(qX, .inr (7, [.ref qB, .ref qH, .ref qK, .ref qV, .ref qS, .ref qW])), (qB, .inr (0, [.ref qBT, .ref qBC, .ref qBN, .ref qBW, .ref qBL, .int bn, .int bk, .int bs])), (qBT, .inl (G.2.1, 16, .inl bT)), (qBW, .inl (G.2.1, 64, .inl bW)), (qV, .inr (5, [.ref qB, .ref qVL, .ref qVS, .ref qVA, .ref qVT])), (qVL, .inl (G.2.1, 16, .inl vL)), (qVS, .inl (G.2.1, 16, .inl vS)), (qVA, .inl (G.2.1, 16, .inl vA)), (qVT, .inl (G.2.1, 16, .inl vT)), (qO, .inl (G.2.2.1, 1, .inr (.inl oO)))] sz) := by
  refine vx_ofWH (cc := cL_lays) (maxL := 4) (ret := some .int) (hh := [(0, 9, 12, 23)]) (by decide) rfl ?_
  intro p e s m args below meth c s₁ B hml hv
  obtain ⟨rfl, hsz, hP, hKK, hD0, hT, hN⟩ := hv
  have hK := hKK.1
  have hx := B.exec
  have hb := B.bytes
  have hr := B.returns
  have hts := atoms_spec (ws := wsL_lays) B.pre
  have hown : s.vm.findClass RL = some m.cls := findClass_of_methodNamed B.named
  have hlocks := B.notSynchronized
  have hcw : (Cond.codeWith yL_lays cL_lays 4 (some .int) [(0, 9, 12, 23)]).before #[Value.ref qX, Value.int x1, Value.ref qO] s = true := hts _ List.mem_cons_self
  have hk23 : (Cond.classLink RL 23 "java/lang/IndexOutOfBoundsException").before #[Value.ref qX, Value.int x1, Value.ref qO] s = true := hts _ (by decide +kernel)
  subst hsz
  have hD := hD0.self (sz := s.heap.size)
  generalize hAe : va_A [(qX, .inr (7, [.ref qB, .ref qH, .ref qK, .ref qV, .ref qS, .ref qW])), (qB, .inr (0, [.ref qBT, .ref qBC, .ref qBN, .ref qBW, .ref qBL, .int bn, .int bk, .int bs])), (qBT, .inl (G.2.1, 16, .inl bT)), (qBW, .inl (G.2.1, 64, .inl bW)), (qV, .inr (5, [.ref qB, .ref qVL, .ref qVS, .ref qVA, .ref qVT])), (qVL, .inl (G.2.1, 16, .inl vL)), (qVS, .inl (G.2.1, 16, .inl vS)), (qVA, .inl (G.2.1, 16, .inl vA)), (qVT, .inl (G.2.1, 16, .inl vT)), (qO, .inl (G.2.2.1, 1, .inr (.inl oO)))] s.heap.size = A at hD hT ⊢
  have hA : ∀ q : Nat, s.heap.size ≤ q → A q := fun q h => by rw [← hAe]; exact Or.inr h
  have hS : va_S A s.heap s.heap [] := va_S.rf
  have hl := lv_entry ([.ref qX, .int x1, .ref qO] : List Value) (n := 4) (Nat.le_of_ble_eq_true rfl)
  rw [lg_entry_eq]
  generalize (lg_sl ([.ref qX, .int x1, .ref qO] : List Value) ++ List.replicate (4 - (lg_sl ([.ref qX, .int x1, .ref qO] : List Value)).length) Slot.unset).toArray = ls at hl ⊢
  have hl : lv_has ls 4 [(0, .ref qX), (1, .int x1), (2, .ref qO)] := hl
  refine wq (fun Q hQ => ?_)
  unfold kL_lays at hq
  obtain ⟨q, eq, hq⟩ := ob hq
  refine lv_aload_n hx hb dL_lays_0 rfl (lv_at hl 2 rfl) ?_
  refine lv_iconst (v := 0) hx hb dL_lays_1 (by decide) ?_
  refine lv_aload_n hx hb dL_lays_2 rfl (lv_at hl 0 rfl) ?_
  refine lv_iload_n hx hb dL_lays_3 rfl (lv_at hl 1 rfl) ?_
  have hPc := hP.sub (ws' := [(qX, .inr (7, [.ref qB, .ref qH, .ref qK, .ref qV, .ref qS, .ref qW])), (qB, .inr (0, [.ref qBT, .ref qBC, .ref qBN, .ref qBW, .ref qBL, .int bn, .int bk, .int bs])), (qBT, .inl (G.2.1, 16, .inl bT)), (qBW, .inl (G.2.1, 64, .inl bW)), (qV, .inr (5, [.ref qB, .ref qVL, .ref qVS, .ref qVA, .ref qVT])), (qVL, .inl (G.2.1, 16, .inl vL)), (qVS, .inl (G.2.1, 16, .inl vS)), (qVA, .inl (G.2.1, 16, .inl vA)), (qVT, .inl (G.2.1, 16, .inl vT))]) [0, 1, 2, 3, 4, 5, 6, 7, 8] rfl
  have hDc := hD.sub (ws' := [(qX, .inr (7, [.ref qB, .ref qH, .ref qK, .ref qV, .ref qS, .ref qW])), (qB, .inr (0, [.ref qBT, .ref qBC, .ref qBN, .ref qBW, .ref qBL, .int bn, .int bk, .int bs])), (qBT, .inl (G.2.1, 16, .inl bT)), (qBW, .inl (G.2.1, 64, .inl bW)), (qV, .inr (5, [.ref qB, .ref qVL, .ref qVS, .ref qVA, .ref qVT])), (qVL, .inl (G.2.1, 16, .inl vL)), (qVS, .inl (G.2.1, 16, .inl vS)), (qVA, .inl (G.2.1, 16, .inl vA)), (qVT, .inl (G.2.1, 16, .inl vT))]) [0, 1, 2, 3, 4, 5, 6, 7, 8] (by decide) rfl
  have hFc := va_free (wc := [(qX, .inr (7, [.ref qB, .ref qH, .ref qK, .ref qV, .ref qS, .ref qW])), (qB, .inr (0, [.ref qBT, .ref qBC, .ref qBN, .ref qBW, .ref qBL, .int bn, .int bk, .int bs])), (qBT, .inl (G.2.1, 16, .inl bT)), (qBW, .inl (G.2.1, 64, .inl bW)), (qV, .inr (5, [.ref qB, .ref qVL, .ref qVS, .ref qVA, .ref qVT])), (qVL, .inl (G.2.1, 16, .inl vL)), (qVS, .inl (G.2.1, 16, .inl vS)), (qVA, .inl (G.2.1, 16, .inl vA)), (qVT, .inl (G.2.1, 16, .inl vT))]) hD hS hA [0, 1, 2, 3, 4, 5, 6, 7, 8] rfl
  have hKc := hK
  refine vx_calli (vx_runV (As := [.int x1]) (rest := [.int 0, .ref qO]) ⟨hx, hb, hml, hown, hts⟩ (tX7_lays G l hfl eq) (cwV 1 hts gL_lays_X7_lays rfl rfl rfl (by decide +kernel) ⟨Nat.le_of_ble_eq_true rfl, Nat.le_of_ble_eq_true rfl⟩) ⟨pcX_blind, va_recv hKc hPc (ci := 7) (q0 := 0) rfl rfl, pcX_pre hPc hKK hDc hT hS hFc⟩ rfl rfl hl.1 rfl (lv_room (Nat.le_of_ble_eq_true rfl)) dL_lays_4 ⟨Nat.le_of_ble_eq_true rfl, Nat.le_of_ble_eq_true rfl⟩) hS (fun q _ h => hFc q h) hFc (fun q _ h => hFc q h) (fun E ce q9 u t H1 locs ht hvm hpx hB hz1 hk1 hS hc1 hv1 hcl1 => ?_) (fun r0 u t H1 locs ht hvm hw hB hz1 hk1 hS => ?_)
  · obtain ⟨e, rfl⟩ : ∃ z, z = u := ⟨_, rfl⟩
    subst hpx
    have hq := onW_r hq
    obtain ⟨hE, hB⟩ := hB
    have hB := va_Pto ht hB
    obtain ⟨hP, hD⟩ := jn (ws' := [(qX, .inr (7, [.ref qB, .ref qH, .ref qK, .ref qV, .ref qS, .ref qW])), (qB, .inr (0, [.ref qBT, .ref qBC, .ref qBN, .ref qBW, .ref qBL, .int bn, .int bk, .int bs])), (qBT, .inl (G.2.1, 16, .inl bT)), (qBW, .inl (G.2.1, 64, .inl bW)), (qV, .inr (5, [.ref qB, .ref qVL, .ref qVS, .ref qVA, .ref qVT])), (qVL, .inl (G.2.1, 16, .inl e.2.1)), (qVS, .inl (G.2.1, 16, .inl e.2.2.1)), (qVA, .inl (G.2.1, 16, .inl e.2.2.2.1)), (qVT, .inl (G.2.1, 16, .inl e.2.2.2.2)), (qO, .inl (G.2.2.1, 1, .inr (.inl oO)))]) hP hD hk1 hB [0, 1, 2, 3, 4, 5, 6, 7, 8] rfl rfl rfl rfl
    generalize H1 = H at hP hS hc1 ⊢
    by_cases c_e0 : e.1 = 1
    · have hq := k_t c_e0 hq
      have hE : E = "java/lang/IndexOutOfBoundsException" := hE.trans (congrArg exN c_e0)
      subst hE
      refine vx_catch (name := "java/lang/IndexOutOfBoundsException") hown ([]) ({ startPc := 0, endPc := 9, handlerPc := 12, catchType := 23 } : Jvm.ClassFile.ExceptionTableEntry) ([]) ((vx_table (x := yL_lays) B hcw).trans rfl) (fun _ h => absurd h List.not_mem_nil) (by decide) (by decide) hk23 ((hT.2.2.2.1 1 (by decide)).use rfl) hc1 hv1 hcl1 ?_
      refine lv_astore_n (lv' := [(3, .ref q9), (0, .ref qX), (1, .int x1), (2, .ref qO)]) hx hb dL_lays_12 rfl hl (by decide) rfl (fun ls hl => ?_)
      refine lv_iconst (v := 1) hx hb dL_lays_13 (by decide) ?_
      obtain rfl := Option.some.inj hq
      rw [hQ]
      refine vx_ret ?_
      refine W.widen (k := 1) (n := 6) (Nat.le_of_ble_eq_true rfl) (Nat.le_of_ble_eq_true rfl) ?_
      exact W.iret hx hb hr (fun t ht hW => ⟨⟨_, (), rfl, rfl, va_Pat ht hP⟩, hS.F ht⟩) hS.2.2 dL_lays_14
    · have hq := k_f c_e0 hq
      cases hq
  · obtain ⟨v, rfl⟩ : ∃ z, z = u := ⟨_, rfl⟩
    obtain ⟨hw, rfl⟩ := hw
    subst hw
    have hq := onW_l hq
    have hB := va_Pto ht hB
    obtain ⟨hP, hD⟩ := jn (ws' := [(qX, .inr (7, [.ref qB, .ref qH, .ref qK, .ref qV, .ref qS, .ref qW])), (qB, .inr (0, [.ref qBT, .ref qBC, .ref qBN, .ref qBW, .ref qBL, .int bn, .int bk, .int bs])), (qBT, .inl (G.2.1, 16, .inl bT)), (qBW, .inl (G.2.1, 64, .inl bW)), (qV, .inr (5, [.ref qB, .ref qVL, .ref qVS, .ref qVA, .ref qVT])), (qVL, .inl (G.2.1, 16, .inl v.2.1)), (qVS, .inl (G.2.1, 16, .inl v.2.2.1)), (qVA, .inl (G.2.1, 16, .inl v.2.2.2.1)), (qVT, .inl (G.2.1, 16, .inl v.2.2.2.2)), (qO, .inl (G.2.2.1, 1, .inr (.inl oO)))]) hP hD hk1 hB [0, 1, 2, 3, 4, 5, 6, 7, 8] rfl rfl rfl rfl
    generalize H1 = H at hP hS ⊢
    refine lv_i2l hx hb dL_lays_7 rfl ?_
    obtain ⟨hg, hq⟩ := k_g hq
    refine va_last hx hb hK hP hD hS 9 1 rfl rfl (ix_in hg) dL_lays_8 (fun H locs hP hD hS => ?_)
    have hP : va_P G.1 vwCl [(qX, .inr (7, [.ref qB, .ref qH, .ref qK, .ref qV, .ref qS, .ref qW])), (qB, .inr (0, [.ref qBT, .ref qBC, .ref qBN, .ref qBW, .ref qBL, .int bn, .int bk, .int bs])), (qBT, .inl (G.2.1, 16, .inl bT)), (qBW, .inl (G.2.1, 64, .inl bW)), (qV, .inr (5, [.ref qB, .ref qVL, .ref qVS, .ref qVA, .ref qVT])), (qVL, .inl (G.2.1, 16, .inl v.2.1)), (qVS, .inl (G.2.1, 16, .inl v.2.2.1)), (qVA, .inl (G.2.1, 16, .inl v.2.2.2.1)), (qVT, .inl (G.2.1, 16, .inl v.2.2.2.2)), (qO, .inl (G.2.2.1, 1, .inr (.inl (vp_updL oO (0 : Int32).toNatClampNeg (v.1).toInt64))))] H := hP
    have hD : va_D A [(qX, .inr (7, [.ref qB, .ref qH, .ref qK, .ref qV, .ref qS, .ref qW])), (qB, .inr (0, [.ref qBT, .ref qBC, .ref qBN, .ref qBW, .ref qBL, .int bn, .int bk, .int bs])), (qBT, .inl (G.2.1, 16, .inl bT)), (qBW, .inl (G.2.1, 64, .inl bW)), (qV, .inr (5, [.ref qB, .ref qVL, .ref qVS, .ref qVA, .ref qVT])), (qVL, .inl (G.2.1, 16, .inl v.2.1)), (qVS, .inl (G.2.1, 16, .inl v.2.2.1)), (qVA, .inl (G.2.1, 16, .inl v.2.2.2.1)), (qVT, .inl (G.2.1, 16, .inl v.2.2.2.2)), (qO, .inl (G.2.2.1, 1, .inr (.inl (vp_updL oO (0 : Int32).toNatClampNeg (v.1).toInt64))))] := hD
    refine lv_goto (tgt := 15) hx hb dL_lays_9 (by decide) ?_
    refine lv_iconst (v := 0) hx hb dL_lays_15 (by decide) ?_
    obtain rfl := Option.some.inj hq
    rw [hQ]
    refine vx_ret ?_
    refine W.widen (k := 1) (n := 6) (Nat.le_of_ble_eq_true rfl) (Nat.le_of_ble_eq_true rfl) ?_
    exact W.iret hx hb hr (fun t ht hW => ⟨⟨_, (), rfl, rfl, va_Pat ht hP⟩, hS.F ht⟩) hS.2.2 dL_lays_16

def kL_first (F : Nat) (bn : Int32) (bk : Int32) (bT : Nat → Int32) (bW : Nat → Int32) (vL : Nat → Int32) (vS : Nat → Int32) (vA : Nat → Int32) (vT : Nat → Int32) (so : Int32) (sw : Int32) (sR : Nat → Int32) (sI : Nat → Int32) (sP : Nat → Nat → Int32) (sF : Nat → Int32) (x1 : Int32) (oO : Nat → Int64) : Option (Int32 × (Nat → Int32) × (Nat → Int32) × (Nat → Int32) × (Nat → Int32) × Int32 × Int32 × (Nat → Int32) × (Nat → Int32) × (Nat → Nat → Int32) × (Nat → Int32) × (Nat → Int64)) :=
  ((kX7_first F bn bk bT bW vL vS vA vT so sw sR sI sP sF x1).bind fun q => onW q (fun u => (if ix 0 1 = true then some (0, u.2.1, u.2.2.1, u.2.2.2.1, u.2.2.2.2.1, u.2.2.2.2.2.1, u.2.2.2.2.2.2.1, u.2.2.2.2.2.2.2.1, u.2.2.2.2.2.2.2.2.1, u.2.2.2.2.2.2.2.2.2.1, u.2.2.2.2.2.2.2.2.2.2, vp_updL oO (0 : Int32).toNatClampNeg (u.1).toInt64) else none)) (fun e => (if e.1 = 1 then some (1, e.2.1, e.2.2.1, e.2.2.2.1, e.2.2.2.2.1, e.2.2.2.2.2.1, e.2.2.2.2.2.2.1, e.2.2.2.2.2.2.2.1, e.2.2.2.2.2.2.2.2.1, e.2.2.2.2.2.2.2.2.2.1, e.2.2.2.2.2.2.2.2.2.2, oO) else (if e.1 = 2 then some (2, e.2.1, e.2.2.1, e.2.2.2.1, e.2.2.2.2.1, e.2.2.2.2.2.1, e.2.2.2.2.2.2.1, e.2.2.2.2.2.2.2.1, e.2.2.2.2.2.2.2.2.1, e.2.2.2.2.2.2.2.2.2.1, e.2.2.2.2.2.2.2.2.2.2, oO) else none))))
abbrev rmL_first : Room := { frames := 46, cells := 2, slots := 12, locals := 1088 }
set_option maxHeartbeats 40000000 in
set_option maxRecDepth 100000 in
theorem tL_first (G : GG) (l : Launch) (hfl : l.stackTraces = false) {qX qB qH qK qV qS qW qBT qBC qBN qBW qBL qVL qVS qVA qVT qSR qSI qSP qSF qO sz : Nat} {qR : Nat → Nat} {bn : Int32} {bk : Int32} {bs : Int32} {bT : Nat → Int32} {bW : Nat → Int32} {vL : Nat → Int32} {vS : Nat → Int32} {vA : Nat → Int32} {vT : Nat → Int32} {so : Int32} {sw : Int32} {sR : Nat → Int32} {sI : Nat → Int32} {sP : Nat → Nat → Int32} {sF : Nat → Int32} {oO : Nat → Int64} {x1 : Int32} {F : Nat} {r : Int32 × (Nat → Int32) × (Nat → Int32) × (Nat → Int32) × (Nat → Int32) × Int32 × Int32 × (Nat → Int32) × (Nat → Int32) × (Nat → Nat → Int32) × (Nat → Int32) × (Nat → Int64)} (hq : kL_first F bn bk bT bW vL vS vA vT so sw sR sI sP sF x1 oO = some r) : vx_Met l yL_first wsL_first rmL_first (pcL G ([(qX, .inr (7, [.ref qB, .ref qH, .ref qK, .ref qV, .ref qS, .ref qW])), (qB, .inr (0, [.ref qBT, .ref qBC, .ref qBN, .ref qBW, .ref qBL, .int bn, .int bk, .int bs])), (qBT, .inl (G.2.1, 16, .inl bT)), (qBW, .inl (G.2.1, 64, .inl bW)), (qV, .inr (5, [.ref qB, .ref qVL, .ref qVS, .ref qVA, .ref qVT])), (qVL, .inl (G.2.1, 16, .inl vL)), (qVS, .inl (G.2.1, 16, .inl vS)), (qVA, .inl (G.2.1, 16, .inl vA)), (qVT, .inl (G.2.1, 16, .inl vT)), (qS, .inr (4, [.ref qB, .ref qV, .ref qSR, .ref qSI, .ref qSP, .ref qSF, .int so, .int sw])), (qSR, .inl (G.2.1, 16, .inl sR)), (qSI, .inl (G.2.1, 16, .inl sI)), (qSP, .inl (G.2.2.2.2, 17, .inr (.inr (.inr (.inr (outR qR)))))), (qSF, .inl (G.2.1, 16, .inl sF)), (qO, .inl (G.2.2.1, 1, .inr (.inl oO)))] ++ rws G qR sP) sz [.ref qX, .int x1, .ref qO]) (va_Qi (S := Unit) (fun x _ => r.1 = x) (fun _ t => va_P G.1 vwCl ([(qX, .inr (7, [.ref qB, .ref qH, .ref qK, .ref qV, .ref qS, .ref qW])), (qB, .inr (0, [.ref qBT, .ref qBC, .ref qBN, .ref qBW, .ref qBL, .int bn, .int bk, .int bs])), (qBT, .inl (G.2.1, 16, .inl bT)), (qBW, .inl (G.2.1, 64, .inl bW)), (qV, .inr (5, [.ref qB, .ref qVL, .ref qVS, .ref qVA, .ref qVT])), (qVL, .inl (G.2.1, 16, .inl r.2.1)), (qVS, .inl (G.2.1, 16, .inl r.2.2.1)), (qVA, .inl (G.2.1, 16, .inl r.2.2.2.1)), (qVT, .inl (G.2.1, 16, .inl r.2.2.2.2.1)), (qS, .inr (4, [.ref qB, .ref qV, .ref qSR, .ref qSI, .ref qSP, .ref qSF, .int r.2.2.2.2.2.1, .int r.2.2.2.2.2.2.1])), (qSR, .inl (G.2.1, 16, .inl r.2.2.2.2.2.2.2.1)), (qSI, .inl (G.2.1, 16, .inl r.2.2.2.2.2.2.2.2.1)), (qSP, .inl (G.2.2.2.2, 17, .inr (.inr (.inr (.inr (outR qR)))))), (qSF, .inl (G.2.1, 16, .inl r.2.2.2.2.2.2.2.2.2.2.1)), (qO, .inl (G.2.2.1, 1, .inr (.inl r.2.2.2.2.2.2.2.2.2.2.2)))] ++ rws G qR r.2.2.2.2.2.2.2.2.2.1) t.heap) (va_A ([(qX, .inr (7, [.ref qB, .ref qH, .ref qK, .ref qV, .ref qS, .ref qW])), (qB, .inr (0, [.ref qBT, .ref qBC, .ref qBN, .ref qBW, .ref qBL, .int bn, .int bk, .int bs])), (qBT, .inl (G.2.1, 16, .inl bT)), (qBW, .inl (G.2.1, 64, .inl bW)), (qV, .inr (5, [.ref qB, .ref qVL, .ref qVS, .ref qVA, .ref qVT])), (qVL, .inl (G.2.1, 16, .inl vL)), (qVS, .inl (G.2.1, 16, .inl vS)), (qVA, .inl (G.2.1, 16, .inl vA)), (qVT, .inl (G.2.1, 16, .inl vT)), (qS, .inr (4, [.ref qB, .ref qV, .ref qSR, .ref qSI, .ref qSP, .ref qSF, .int so, .int sw])), (qSR, .inl (G.2.1, 16, .inl sR)), (qSI, .inl (G.2.1, 16, .inl sI)), (qSP, .inl (G.2.2.2.2, 17, .inr (.inr (.inr (.inr (outR qR)))))), (qSF, .inl (G.2.1, 16, .inl sF)), (qO, .inl (G.2.2.1, 1, .inr (.inl oO)))] ++ rws G qR sP) sz)) (xcN (va_A ([(qX, .inr (7, [.ref qB, .ref qH, .ref qK, .ref qV, .ref qS, .ref qW])), (qB, .inr (0, [.ref qBT, .ref qBC, .ref qBN, .ref qBW, .ref qBL, .int bn, .int bk, .int bs])), (qBT, .inl (G.2.1, 16, .inl bT)), (qBW, .inl (G.2.1, 64, .inl bW)), (qV, .inr (5, [.ref qB, .ref qVL, .ref qVS, .ref qVA, .ref qVT])), (qVL, .inl (G.2.1, 16, .inl vL)), (qVS, .inl (G.2.1, 16, .inl vS)), (qVA, .inl (G.2.1, 16, .inl vA)), (qVT, .inl (G.2.1, 16, .inl vT)), (qS, .inr (4, [.ref qB, .ref qV, .ref qSR, .ref qSI, .ref qSP, .ref qSF, .int so, .int sw])), (qSR, .inl (G.2.1, 16, .inl sR)), (qSI, .inl (G.2.1, 16, .inl sI)), (qSP, .inl (G.2.2.2.2, 17, .inr (.inr (.inr (.inr (outR qR)))))), (qSF, .inl (G.2.1, 16, .inl sF)), (qO, .inl (G.2.2.1, 1, .inr (.inl oO)))] ++ rws G qR sP) sz)) 2 12 (va_A ([(qX, .inr (7, [.ref qB, .ref qH, .ref qK, .ref qV, .ref qS, .ref qW])), (qB, .inr (0, [.ref qBT, .ref qBC, .ref qBN, .ref qBW, .ref qBL, .int bn, .int bk, .int bs])), (qBT, .inl (G.2.1, 16, .inl bT)), (qBW, .inl (G.2.1, 64, .inl bW)), (qV, .inr (5, [.ref qB, .ref qVL, .ref qVS, .ref qVA, .ref qVT])), (qVL, .inl (G.2.1, 16, .inl vL)), (qVS, .inl (G.2.1, 16, .inl vS)), (qVA, .inl (G.2.1, 16, .inl vA)), (qVT, .inl (G.2.1, 16, .inl vT)), (qS, .inr (4, [.ref qB, .ref qV, .ref qSR, .ref qSI, .ref qSP, .ref qSF, .int so, .int sw])), (qSR, .inl (G.2.1, 16, .inl sR)), (qSI, .inl (G.2.1, 16, .inl sI)), (qSP, .inl (G.2.2.2.2, 17, .inr (.inr (.inr (.inr (outR qR)))))), (qSF, .inl (G.2.1, 16, .inl sF)), (qO, .inl (G.2.2.1, 1, .inr (.inl oO)))] ++ rws G qR sP) sz) := by
  refine vx_ofWH (cc := cL_first) (maxL := 4) (ret := some .int) (hh := [(0, 9, 12, 23), (0, 9, 15, 29)]) (by decide) rfl ?_
  intro p e s m args below meth c s₁ B hml hv
  obtain ⟨rfl, hsz, hP, hKK, hD0, hT, hN⟩ := hv
  have hK := hKK.1
  have hx := B.exec
  have hb := B.bytes
  have hr := B.returns
  have hts := atoms_spec (ws := wsL_first) B.pre
  have hown : s.vm.findClass RL = some m.cls := findClass_of_methodNamed B.named
  have hlocks := B.notSynchronized
  have hcw : (Cond.codeWith yL_first cL_first 4 (some .int) [(0, 9, 12, 23), (0, 9, 15, 29)]).before #[Value.ref qX, Value.int x1, Value.ref qO] s = true := hts _ List.mem_cons_self
  have hk23 : (Cond.classLink RL 23 "java/lang/IndexOutOfBoundsException").before #[Value.ref qX, Value.int x1, Value.ref qO] s = true := hts _ (by decide +kernel)
  have hk29 : (Cond.classLink RL 29 "java/lang/IllegalStateException").before #[Value.ref qX, Value.int x1, Value.ref qO] s = true := hts _ (by decide +kernel)
  subst hsz
  have hD := hD0.self (sz := s.heap.size)
  generalize hAe : va_A ([(qX, .inr (7, [.ref qB, .ref qH, .ref qK, .ref qV, .ref qS, .ref qW])), (qB, .inr (0, [.ref qBT, .ref qBC, .ref qBN, .ref qBW, .ref qBL, .int bn, .int bk, .int bs])), (qBT, .inl (G.2.1, 16, .inl bT)), (qBW, .inl (G.2.1, 64, .inl bW)), (qV, .inr (5, [.ref qB, .ref qVL, .ref qVS, .ref qVA, .ref qVT])), (qVL, .inl (G.2.1, 16, .inl vL)), (qVS, .inl (G.2.1, 16, .inl vS)), (qVA, .inl (G.2.1, 16, .inl vA)), (qVT, .inl (G.2.1, 16, .inl vT)), (qS, .inr (4, [.ref qB, .ref qV, .ref qSR, .ref qSI, .ref qSP, .ref qSF, .int so, .int sw])), (qSR, .inl (G.2.1, 16, .inl sR)), (qSI, .inl (G.2.1, 16, .inl sI)), (qSP, .inl (G.2.2.2.2, 17, .inr (.inr (.inr (.inr (outR qR)))))), (qSF, .inl (G.2.1, 16, .inl sF)), (qO, .inl (G.2.2.1, 1, .inr (.inl oO)))] ++ rws G qR sP) s.heap.size = A at hD hT ⊢
  have hA : ∀ q : Nat, s.heap.size ≤ q → A q := fun q h => by rw [← hAe]; exact Or.inr h
  have hS : va_S A s.heap s.heap [] := va_S.rf
  have hl := lv_entry ([.ref qX, .int x1, .ref qO] : List Value) (n := 4) (Nat.le_of_ble_eq_true rfl)
  rw [lg_entry_eq]
  generalize (lg_sl ([.ref qX, .int x1, .ref qO] : List Value) ++ List.replicate (4 - (lg_sl ([.ref qX, .int x1, .ref qO] : List Value)).length) Slot.unset).toArray = ls at hl ⊢
  have hl : lv_has ls 4 [(0, .ref qX), (1, .int x1), (2, .ref qO)] := hl
  refine wq (fun Q hQ => ?_)
  unfold kL_first at hq
  obtain ⟨q, eq, hq⟩ := ob hq
  refine lv_aload_n hx hb dL_first_0 rfl (lv_at hl 2 rfl) ?_
  refine lv_iconst (v := 0) hx hb dL_first_1 (by decide) ?_
  refine lv_aload_n hx hb dL_first_2 rfl (lv_at hl 0 rfl) ?_
  refine lv_iload_n hx hb dL_first_3 rfl (lv_at hl 1 rfl) ?_
  have hPc := hP.part (cx := [(qX, .inr (7, [.ref qB, .ref qH, .ref qK, .ref qV, .ref qS, .ref qW])), (qB, .inr (0, [.ref qBT, .ref qBC, .ref qBN, .ref qBW, .ref qBL, .int bn, .int bk, .int bs])), (qBT, .inl (G.2.1, 16, .inl bT)), (qBW, .inl (G.2.1, 64, .inl bW)), (qV, .inr (5, [.ref qB, .ref qVL, .ref qVS, .ref qVA, .ref qVT])), (qVL, .inl (G.2.1, 16, .inl vL)), (qVS, .inl (G.2.1, 16, .inl vS)), (qVA, .inl (G.2.1, 16, .inl vA)), (qVT, .inl (G.2.1, 16, .inl vT)), (qS, .inr (4, [.ref qB, .ref qV, .ref qSR, .ref qSI, .ref qSP, .ref qSF, .int so, .int sw])), (qSR, .inl (G.2.1, 16, .inl sR)), (qSI, .inl (G.2.1, 16, .inl sI)), (qSP, .inl (G.2.2.2.2, 17, .inr (.inr (.inr (.inr (outR qR)))))), (qSF, .inl (G.2.1, 16, .inl sF))]) [0, 1, 2, 3, 4, 5, 6, 7, 8, 9, 10, 11, 12, 13] rfl
  have hDc := hD.part (cx := [(qX, .inr (7, [.ref qB, .ref qH, .ref qK, .ref qV, .ref qS, .ref qW])), (qB, .inr (0, [.ref qBT, .ref qBC, .ref qBN, .ref qBW, .ref qBL, .int bn, .int bk, .int bs])), (qBT, .inl (G.2.1, 16, .inl bT)), (qBW, .inl (G.2.1, 64, .inl bW)), (qV, .inr (5, [.ref qB, .ref qVL, .ref qVS, .ref qVA, .ref qVT])), (qVL, .inl (G.2.1, 16, .inl vL)), (qVS, .inl (G.2.1, 16, .inl vS)), (qVA, .inl (G.2.1, 16, .inl vA)), (qVT, .inl (G.2.1, 16, .inl vT)), (qS, .inr (4, [.ref qB, .ref qV, .ref qSR, .ref qSI, .ref qSP, .ref qSF, .int so, .int sw])), (qSR, .inl (G.2.1, 16, .inl sR)), (qSI, .inl (G.2.1, 16, .inl sI)), (qSP, .inl (G.2.2.2.2, 17, .inr (.inr (.inr (.inr (outR qR)))))), (qSF, .inl (G.2.1, 16, .inl sF))]) [0, 1, 2, 3, 4, 5, 6, 7, 8, 9, 10, 11, 12, 13] (by decide) rfl
  have hFc := va_freeP (cx := [(qX, .inr (7, [.ref qB, .ref qH, .ref qK, .ref qV, .ref qS, .ref qW])), (qB, .inr (0, [.ref qBT, .ref qBC, .ref qBN, .ref qBW, .ref qBL, .int bn, .int bk, .int bs])), (qBT, .inl (G.2.1, 16, .inl bT)), (qBW, .inl (G.2.1, 64, .inl bW)), (qV, .inr (5, [.ref qB, .ref qVL, .ref qVS, .ref qVA, .ref qVT])), (qVL, .inl (G.2.1, 16, .inl vL)), (qVS, .inl (G.2.1, 16, .inl vS)), (qVA, .inl (G.2.1, 16, .inl vA)), (qVT, .inl (G.2.1, 16, .inl vT)), (qS, .inr (4, [.ref qB, .ref qV, .ref qSR, .ref qSI, .ref qSP, .ref qSF, .int so, .int sw])), (qSR, .inl (G.2.1, 16, .inl sR)), (qSI, .inl (G.2.1, 16, .inl sI)), (qSP, .inl (G.2.2.2.2, 17, .inr (.inr (.inr (.inr (outR qR)))))), (qSF, .inl (G.2.1, 16, .inl sF))]) hD hS hA [0, 1, 2, 3, 4, 5, 6, 7, 8, 9, 10, 11, 12, 13] rfl
  have hKc := hK
  refine vx_calli (vx_runV (As := [.int x1]) (rest := [.int 0, .ref qO]) ⟨hx, hb, hml, hown, hts⟩ (tX7_first G l hfl eq) (cwV 1 hts gL_first_X7_first rfl rfl rfl (by decide +kernel) ⟨Nat.le_of_ble_eq_true rfl, Nat.le_of_ble_eq_true rfl⟩) ⟨pcX_blind, va_recv hKc hPc (ci := 7) (q0 := 0) rfl rfl, pcX_pre hPc hKK hDc hT hS hFc⟩ rfl rfl hl.1 rfl (lv_room (Nat.le_of_ble_eq_true rfl)) dL_first_4 ⟨Nat.le_of_ble_eq_true rfl, Nat.le_of_ble_eq_true rfl⟩) hS (fun q _ h => hFc q h) hFc (fun q _ h => hFc q h) (fun E ce q9 u t H1 locs ht hvm hpx hB hz1 hk1 hS hc1 hv1 hcl1 => ?_) (fun r0 u t H1 locs ht hvm hw hB hz1 hk1 hS => ?_)
  · obtain ⟨e, rfl⟩ : ∃ z, z = u := ⟨_, rfl⟩
    subst hpx
    have hq := onW_r hq
    obtain ⟨hE, hB⟩ := hB
    have hB := va_Pto ht hB
    obtain ⟨hP, hD⟩ := jnR (X' := [(qX, .inr (7, [.ref qB, .ref qH, .ref qK, .ref qV, .ref qS, .ref qW])), (qB, .inr (0, [.ref qBT, .ref qBC, .ref qBN, .ref qBW, .ref qBL, .int bn, .int bk, .int bs])), (qBT, .inl (G.2.1, 16, .inl bT)), (qBW, .inl (G.2.1, 64, .inl bW)), (qV, .inr (5, [.ref qB, .ref qVL, .ref qVS, .ref qVA, .ref qVT])), (qVL, .inl (G.2.1, 16, .inl e.2.1)), (qVS, .inl (G.2.1, 16, .inl e.2.2.1)), (qVA, .inl (G.2.1, 16, .inl e.2.2.2.1)), (qVT, .inl (G.2.1, 16, .inl e.2.2.2.2.1)), (qS, .inr (4, [.ref qB, .ref qV, .ref qSR, .ref qSI, .ref qSP, .ref qSF, .int e.2.2.2.2.2.1, .int e.2.2.2.2.2.2.1])), (qSR, .inl (G.2.1, 16, .inl e.2.2.2.2.2.2.2.1)), (qSI, .inl (G.2.1, 16, .inl e.2.2.2.2.2.2.2.2.1)), (qSP, .inl (G.2.2.2.2, 17, .inr (.inr (.inr (.inr (outR qR)))))), (qSF, .inl (G.2.1, 16, .inl e.2.2.2.2.2.2.2.2.2.2)), (qO, .inl (G.2.2.1, 1, .inr (.inl oO)))]) hP hD hk1 hB [0, 1, 2, 3, 4, 5, 6, 7, 8, 9, 10, 11, 12, 13] rfl rfl rfl rfl
    generalize H1 = H at hP hS hc1 ⊢
    by_cases c_e0 : e.1 = 1
    · have hq := k_t c_e0 hq
      have hE : E = "java/lang/IndexOutOfBoundsException" := hE.trans (congrArg exN c_e0)
      subst hE
      refine vx_catch (name := "java/lang/IndexOutOfBoundsException") hown ([]) ({ startPc := 0, endPc := 9, handlerPc := 12, catchType := 23 } : Jvm.ClassFile.ExceptionTableEntry) ([({ startPc := 0, endPc := 9, handlerPc := 15, catchType := 29 } : Jvm.ClassFile.ExceptionTableEntry)]) ((vx_table (x := yL_first) B hcw).trans rfl) (fun _ h => absurd h List.not_mem_nil) (by decide) (by decide) hk23 ((hT.2.2.2.1 1 (by decide)).use rfl) hc1 hv1 hcl1 ?_
      refine lv_astore_n (lv' := [(3, .ref q9), (0, .ref qX), (1, .int x1), (2, .ref qO)]) hx hb dL_first_12 rfl hl (by decide) rfl (fun ls hl => ?_)
      refine lv_iconst (v := 1) hx hb dL_first_13 (by decide) ?_
      obtain rfl := Option.some.inj hq
      rw [hQ]
      refine vx_ret ?_
      refine W.widen (k := 2) (n := 12) (Nat.le_of_ble_eq_true rfl) (Nat.le_of_ble_eq_true rfl) ?_
      exact W.iret hx hb hr (fun t ht hW => ⟨⟨_, (), rfl, rfl, va_Pat ht hP⟩, hS.F ht⟩) hS.2.2 dL_first_14
    · have hq := k_f c_e0 hq
      by_cases c_e1 : e.1 = 2
      · have hq := k_t c_e1 hq
        have hE : E = "java/lang/IllegalStateException" := hE.trans (congrArg exN c_e1)
        subst hE
        refine vx_catch (name := "java/lang/IllegalStateException") hown ([({ startPc := 0, endPc := 9, handlerPc := 12, catchType := 23 } : Jvm.ClassFile.ExceptionTableEntry)]) ({ startPc := 0, endPc := 9, handlerPc := 15, catchType := 29 } : Jvm.ClassFile.ExceptionTableEntry) ([]) ((vx_table (x := yL_first) B hcw).trans rfl) (fun z hz => by rcases List.mem_singleton.mp hz with rfl; exact Or.inr ⟨by decide, _, hk23, hN.2⟩) (by decide) (by decide) hk29 ((hT.2.2.2.1 2 (by decide)).use rfl) hc1 hv1 hcl1 ?_
        refine lv_astore_n (lv' := [(3, .ref q9), (0, .ref qX), (1, .int x1), (2, .ref qO)]) hx hb dL_first_15 rfl hl (by decide) rfl (fun ls hl => ?_)
        refine lv_iconst (v := 2) hx hb dL_first_16 (by decide) ?_
        obtain rfl := Option.some.inj hq
        rw [hQ]
        refine vx_ret ?_
        refine W.widen (k := 2) (n := 12) (Nat.le_of_ble_eq_true rfl) (Nat.le_of_ble_eq_true rfl) ?_
        exact W.iret hx hb hr (fun t ht hW => ⟨⟨_, (), rfl, rfl, va_Pat ht hP⟩, hS.F ht⟩) hS.2.2 dL_first_17
      · have hq := k_f c_e1 hq
        cases hq
  · obtain ⟨v, rfl⟩ : ∃ z, z = u := ⟨_, rfl⟩
    obtain ⟨hw, rfl⟩ := hw
    subst hw
    have hq := onW_l hq
    have hB := va_Pto ht hB
    obtain ⟨hP, hD⟩ := jnR (X' := [(qX, .inr (7, [.ref qB, .ref qH, .ref qK, .ref qV, .ref qS, .ref qW])), (qB, .inr (0, [.ref qBT, .ref qBC, .ref qBN, .ref qBW, .ref qBL, .int bn, .int bk, .int bs])), (qBT, .inl (G.2.1, 16, .inl bT)), (qBW, .inl (G.2.1, 64, .inl bW)), (qV, .inr (5, [.ref qB, .ref qVL, .ref qVS, .ref qVA, .ref qVT])), (qVL, .inl (G.2.1, 16, .inl v.2.1)), (qVS, .inl (G.2.1, 16, .inl v.2.2.1)), (qVA, .inl (G.2.1, 16, .inl v.2.2.2.1)), (qVT, .inl (G.2.1, 16, .inl v.2.2.2.2.1)), (qS, .inr (4, [.ref qB, .ref qV, .ref qSR, .ref qSI, .ref qSP, .ref qSF, .int v.2.2.2.2.2.1, .int v.2.2.2.2.2.2.1])), (qSR, .inl (G.2.1, 16, .inl v.2.2.2.2.2.2.2.1)), (qSI, .inl (G.2.1, 16, .inl v.2.2.2.2.2.2.2.2.1)), (qSP, .inl (G.2.2.2.2, 17, .inr (.inr (.inr (.inr (outR qR)))))), (qSF, .inl (G.2.1, 16, .inl v.2.2.2.2.2.2.2.2.2.2)), (qO, .inl (G.2.2.1, 1, .inr (.inl oO)))]) hP hD hk1 hB [0, 1, 2, 3, 4, 5, 6, 7, 8, 9, 10, 11, 12, 13] rfl rfl rfl rfl
    generalize H1 = H at hP hS ⊢
    refine lv_i2l hx hb dL_first_7 rfl ?_
    obtain ⟨hg, hq⟩ := k_g hq
    refine va_last hx hb hK hP hD hS 14 1 rfl rfl (ix_in hg) dL_first_8 (fun H locs hP hD hS => ?_)
    have hP : va_P G.1 vwCl ([(qX, .inr (7, [.ref qB, .ref qH, .ref qK, .ref qV, .ref qS, .ref qW])), (qB, .inr (0, [.ref qBT, .ref qBC, .ref qBN, .ref qBW, .ref qBL, .int bn, .int bk, .int bs])), (qBT, .inl (G.2.1, 16, .inl bT)), (qBW, .inl (G.2.1, 64, .inl bW)), (qV, .inr (5, [.ref qB, .ref qVL, .ref qVS, .ref qVA, .ref qVT])), (qVL, .inl (G.2.1, 16, .inl v.2.1)), (qVS, .inl (G.2.1, 16, .inl v.2.2.1)), (qVA, .inl (G.2.1, 16, .inl v.2.2.2.1)), (qVT, .inl (G.2.1, 16, .inl v.2.2.2.2.1)), (qS, .inr (4, [.ref qB, .ref qV, .ref qSR, .ref qSI, .ref qSP, .ref qSF, .int v.2.2.2.2.2.1, .int v.2.2.2.2.2.2.1])), (qSR, .inl (G.2.1, 16, .inl v.2.2.2.2.2.2.2.1)), (qSI, .inl (G.2.1, 16, .inl v.2.2.2.2.2.2.2.2.1)), (qSP, .inl (G.2.2.2.2, 17, .inr (.inr (.inr (.inr (outR qR)))))), (qSF, .inl (G.2.1, 16, .inl v.2.2.2.2.2.2.2.2.2.2)), (qO, .inl (G.2.2.1, 1, .inr (.inl (vp_updL oO (0 : Int32).toNatClampNeg (v.1).toInt64))))] ++ rws G qR v.2.2.2.2.2.2.2.2.2.1) H := hP
    have hD : va_D A ([(qX, .inr (7, [.ref qB, .ref qH, .ref qK, .ref qV, .ref qS, .ref qW])), (qB, .inr (0, [.ref qBT, .ref qBC, .ref qBN, .ref qBW, .ref qBL, .int bn, .int bk, .int bs])), (qBT, .inl (G.2.1, 16, .inl bT)), (qBW, .inl (G.2.1, 64, .inl bW)), (qV, .inr (5, [.ref qB, .ref qVL, .ref qVS, .ref qVA, .ref qVT])), (qVL, .inl (G.2.1, 16, .inl v.2.1)), (qVS, .inl (G.2.1, 16, .inl v.2.2.1)), (qVA, .inl (G.2.1, 16, .inl v.2.2.2.1)), (qVT, .inl (G.2.1, 16, .inl v.2.2.2.2.1)), (qS, .inr (4, [.ref qB, .ref qV, .ref qSR, .ref qSI, .ref qSP, .ref qSF, .int v.2.2.2.2.2.1, .int v.2.2.2.2.2.2.1])), (qSR, .inl (G.2.1, 16, .inl v.2.2.2.2.2.2.2.1)), (qSI, .inl (G.2.1, 16, .inl v.2.2.2.2.2.2.2.2.1)), (qSP, .inl (G.2.2.2.2, 17, .inr (.inr (.inr (.inr (outR qR)))))), (qSF, .inl (G.2.1, 16, .inl v.2.2.2.2.2.2.2.2.2.2)), (qO, .inl (G.2.2.1, 1, .inr (.inl (vp_updL oO (0 : Int32).toNatClampNeg (v.1).toInt64))))] ++ rws G qR v.2.2.2.2.2.2.2.2.2.1) := hD
    refine lv_goto (tgt := 18) hx hb dL_first_9 (by decide) ?_
    refine lv_iconst (v := 0) hx hb dL_first_18 (by decide) ?_
    obtain rfl := Option.some.inj hq
    rw [hQ]
    refine vx_ret ?_
    refine W.widen (k := 2) (n := 12) (Nat.le_of_ble_eq_true rfl) (Nat.le_of_ble_eq_true rfl) ?_
    exact W.iret hx hb hr (fun t ht hW => ⟨⟨_, (), rfl, rfl, va_Pat ht hP⟩, hS.F ht⟩) hS.2.2 dL_first_19

def kL_fewestTurns (F : Nat) (bn : Int32) (bk : Int32) (bT : Nat → Int32) (bW : Nat → Int32) (vL : Nat → Int32) (vS : Nat → Int32) (vA : Nat → Int32) (vT : Nat → Int32) (so : Int32) (sw : Int32) (sR : Nat → Int32) (sI : Nat → Int32) (sP : Nat → Nat → Int32) (sF : Nat → Int32) (oO : Nat → Int64) : Option (Int32 × (Nat → Int32) × (Nat → Int32) × (Nat → Int32) × (Nat → Int32) × Int32 × Int32 × (Nat → Int32) × (Nat → Int32) × (Nat → Nat → Int32) × (Nat → Int32) × (Nat → Int64)) :=
  ((kX7_fewestTurns F bn bk bT bW vL vS vA vT so sw sR sI sP sF).bind fun q => onW q (fun u => (if ix 0 1 = true then some (0, u.2.1, u.2.2.1, u.2.2.2.1, u.2.2.2.2.1, u.2.2.2.2.2.1, u.2.2.2.2.2.2.1, u.2.2.2.2.2.2.2.1, u.2.2.2.2.2.2.2.2.1, u.2.2.2.2.2.2.2.2.2.1, u.2.2.2.2.2.2.2.2.2.2, vp_updL oO (0 : Int32).toNatClampNeg (u.1).toInt64) else none)) (fun e => (if e.1 = 2 then some (1, e.2.1, e.2.2.1, e.2.2.2.1, e.2.2.2.2.1, e.2.2.2.2.2.1, e.2.2.2.2.2.2.1, e.2.2.2.2.2.2.2.1, e.2.2.2.2.2.2.2.2.1, e.2.2.2.2.2.2.2.2.2.1, e.2.2.2.2.2.2.2.2.2.2, oO) else none)))
abbrev rmL_fewestTurns : Room := { frames := 46, cells := 1, slots := 6, locals := 1087 }
set_option maxHeartbeats 40000000 in
set_option maxRecDepth 100000 in
theorem tL_fewestTurns (G : GG) (l : Launch) (hfl : l.stackTraces = false) {qX qB qH qK qV qS qW qBT qBC qBN qBW qBL qVL qVS qVA qVT qSR qSI qSP qSF qO sz : Nat} {qR : Nat → Nat} {bn : Int32} {bk : Int32} {bs : Int32} {bT : Nat → Int32} {bW : Nat → Int32} {vL : Nat → Int32} {vS : Nat → Int32} {vA : Nat → Int32} {vT : Nat → Int32} {so : Int32} {sw : Int32} {sR : Nat → Int32} {sI : Nat → Int32} {sP : Nat → Nat → Int32} {sF : Nat → Int32} {oO : Nat → Int64} {F : Nat} {r : Int32 × (Nat → Int32) × (Nat → Int32) × (Nat → Int32) × (Nat → Int32) × Int32 × Int32 × (Nat → Int32) × (Nat → Int32) × (Nat → Nat → Int32) × (Nat → Int32) × (Nat → Int64)} (hq : kL_fewestTurns F bn bk bT bW vL vS vA vT so sw sR sI sP sF oO = some r) : vx_Met l yL_fewestTurns wsL_fewestTurns rmL_fewestTurns (pcL G ([(qX, .inr (7, [.ref qB, .ref qH, .ref qK, .ref qV, .ref qS, .ref qW])), (qB, .inr (0, [.ref qBT, .ref qBC, .ref qBN, .ref qBW, .ref qBL, .int bn, .int bk, .int bs])), (qBT, .inl (G.2.1, 16, .inl bT)), (qBW, .inl (G.2.1, 64, .inl bW)), (qV, .inr (5, [.ref qB, .ref qVL, .ref qVS, .ref qVA, .ref qVT])), (qVL, .inl (G.2.1, 16, .inl vL)), (qVS, .inl (G.2.1, 16, .inl vS)), (qVA, .inl (G.2.1, 16, .inl vA)), (qVT, .inl (G.2.1, 16, .inl vT)), (qS, .inr (4, [.ref qB, .ref qV, .ref qSR, .ref qSI, .ref qSP, .ref qSF, .int so, .int sw])), (qSR, .inl (G.2.1, 16, .inl sR)), (qSI, .inl (G.2.1, 16, .inl sI)), (qSP, .inl (G.2.2.2.2, 17, .inr (.inr (.inr (.inr (outR qR)))))), (qSF, .inl (G.2.1, 16, .inl sF)), (qO, .inl (G.2.2.1, 1, .inr (.inl oO)))] ++ rws G qR sP) sz [.ref qX, .ref qO]) (va_Qi (S := Unit) (fun x _ => r.1 = x) (fun _ t => va_P G.1 vwCl ([(qX, .inr (7, [.ref qB, .ref qH, .ref qK, .ref qV, .ref qS, .ref qW])), (qB, .inr (0, [.ref qBT, .ref qBC, .ref qBN, .ref qBW, .ref qBL, .int bn, .int bk, .int bs])), (qBT, .inl (G.2.1, 16, .inl bT)), (qBW, .inl (G.2.1, 64, .inl bW)), (qV, .inr (5, [.ref qB, .ref qVL, .ref qVS, .ref qVA, .ref qVT])), (qVL, .inl (G.2.1, 16, .inl r.2.1)), (qVS, .inl (G.2.1, 16, .inl r.2.2.1)), (qVA, .inl (G.2.1, 16, .inl r.2.2.2.1)), (qVT, .inl (G.2.1, 16, .inl r.2.2.2.2.1)), (qS, .inr (4, [.ref qB, .ref qV, .ref qSR, .ref qSI, .ref qSP, .ref qSF, .int r.2.2.2.2.2.1, .int r.2.2.2.2.2.2.1])), (qSR, .inl (G.2.1, 16, .inl r.2.2.2.2.2.2.2.1)), (qSI, .inl (G.2.1, 16, .inl r.2.2.2.2.2.2.2.2.1)), (qSP, .inl (G.2.2.2.2, 17, .inr (.inr (.inr (.inr (outR qR)))))), (qSF, .inl (G.2.1, 16, .inl r.2.2.2.2.2.2.2.2.2.2.1)), (qO, .inl (G.2.2.1, 1, .inr (.inl r.2.2.2.2.2.2.2.2.2.2.2)))] ++ rws G qR r.2.2.2.2.2.2.2.2.2.1) t.heap) (va_A ([(qX, .inr (7, [.ref qB, .ref qH, .ref qK, .ref qV, .ref qS, .ref qW])), (qB, .inr (0, [.ref qBT, .ref qBC, .ref qBN, .ref qBW, .ref qBL, .int bn, .int bk, .int bs])), (qBT, .inl (G.2.1, 16, .inl bT)), (qBW, .inl (G.2.1, 64, .inl bW)), (qV, .inr (5, [.ref qB, .ref qVL, .ref qVS, .ref qVA, .ref qVT])), (qVL, .inl (G.2.1, 16, .inl vL)), (qVS, .inl (G.2.1, 16, .inl vS)), (qVA, .inl (G.2.1, 16, .inl vA)), (qVT, .inl (G.2.1, 16, .inl vT)), (qS, .inr (4, [.ref qB, .ref qV, .ref qSR, .ref qSI, .ref qSP, .ref qSF, .int so, .int sw])), (qSR, .inl (G.2.1, 16, .inl sR)), (qSI, .inl (G.2.1, 16, .inl sI)), (qSP, .inl (G.2.2.2.2, 17, .inr (.inr (.inr (.inr (outR qR)))))), (qSF, .inl (G.2.1, 16, .inl sF)), (qO, .inl (G.2.2.1, 1, .inr (.inl oO)))] ++ rws G qR sP) sz)) (xcN (va_A ([(qX, .inr (7, [.ref qB, .ref qH, .ref qK, .ref qV, .ref qS, .ref qW])), (qB, .inr (0, [.ref qBT, .ref qBC, .ref qBN, .ref qBW, .ref qBL, .int bn, .int bk, .int bs])), (qBT, .inl (G.2.1, 16, .inl bT)), (qBW, .inl (G.2.1, 64, .inl bW)), (qV, .inr (5, [.ref qB, .ref qVL, .ref qVS, .ref qVA, .ref qVT])), (qVL, .inl (G.2.1, 16, .inl vL)), (qVS, .inl (G.2.1, 16, .inl vS)), (qVA, .inl (G.2.1, 16, .inl vA)), (qVT, .inl (G.2.1, 16, .inl vT)), (qS, .inr (4, [.ref qB, .ref qV, .ref qSR, .ref qSI, .ref qSP, .ref qSF, .int so, .int sw])), (qSR, .inl (G.2.1, 16, .inl sR)), (qSI, .inl (G.2.1, 16, .inl sI)), (qSP, .inl (G.2.2.2.2, 17, .inr (.inr (.inr (.inr (outR qR)))))), (qSF, .inl (G.2.1, 16, .inl sF)), (qO, .inl (G.2.2.1, 1, .inr (.inl oO)))] ++ rws G qR sP) sz)) 1 6 (va_A ([(qX, .inr (7, [.ref qB, .ref qH, .ref qK, .ref qV, .ref qS, .ref qW])), (qB, .inr (0, [.ref qBT, .ref qBC, .ref qBN, .ref qBW, .ref qBL, .int bn, .int bk, .int bs])), (qBT, .inl (G.2.1, 16, .inl bT)), (qBW, .inl (G.2.1, 64, .inl bW)), (qV, .inr (5, [.ref qB, .ref qVL, .ref qVS, .ref qVA, .ref qVT])), (qVL, .inl (G.2.1, 16, .inl vL)), (qVS, .inl (G.2.1, 16, .inl vS)), (qVA, .inl (G.2.1, 16, .inl vA)), (qVT, .inl (G.2.1, 16, .inl vT)), (qS, .inr (4, [.ref qB, .ref qV, .ref qSR, .ref qSI, .ref qSP, .ref qSF, .int so, .int sw])), (qSR, .inl (G.2.1, 16, .inl sR)), (qSI, .inl (G.2.1, 16, .inl sI)), (qSP, .inl (G.2.2.2.2, 17, .inr (.inr (.inr (.inr (outR qR)))))), (qSF, .inl (G.2.1, 16, .inl sF)), (qO, .inl (G.2.2.1, 1, .inr (.inl oO)))] ++ rws G qR sP) sz) := by
  refine vx_ofWH (cc := cL_fewestTurns) (maxL := 3) (ret := some .int) (hh := [(0, 8, 11, 29)]) (by decide) rfl ?_
  intro p e s m args below meth c s₁ B hml hv
  obtain ⟨rfl, hsz, hP, hKK, hD0, hT, hN⟩ := hv
  have hK := hKK.1
  have hx := B.exec
  have hb := B.bytes
  have hr := B.returns
  have hts := atoms_spec (ws := wsL_fewestTurns) B.pre
  have hown : s.vm.findClass RL = some m.cls := findClass_of_methodNamed B.named
  have hlocks := B.notSynchronized
  have hcw : (Cond.codeWith yL_fewestTurns cL_fewestTurns 3 (some .int) [(0, 8, 11, 29)]).before #[Value.ref qX, Value.ref qO] s = true := hts _ List.mem_cons_self
  have hk29 : (Cond.classLink RL 29 "java/lang/IllegalStateException").before #[Value.ref qX, Value.ref qO] s = true := hts _ (by decide +kernel)
  subst hsz
  have hD := hD0.self (sz := s.heap.size)
  generalize hAe : va_A ([(qX, .inr (7, [.ref qB, .ref qH, .ref qK, .ref qV, .ref qS, .ref qW])), (qB, .inr (0, [.ref qBT, .ref qBC, .ref qBN, .ref qBW, .ref qBL, .int bn, .int bk, .int bs])), (qBT, .inl (G.2.1, 16, .inl bT)), (qBW, .inl (G.2.1, 64, .inl bW)), (qV, .inr (5, [.ref qB, .ref qVL, .ref qVS, .ref qVA, .ref qVT])), (qVL, .inl (G.2.1, 16, .inl vL)), (qVS, .inl (G.2.1, 16, .inl vS)), (qVA, .inl (G.2.1, 16, .inl vA)), (qVT, .inl (G.2.1, 16, .inl vT)), (qS, .inr (4, [.ref qB, .ref qV, .ref qSR, .ref qSI, .ref qSP, .ref qSF, .int so, .int sw])), (qSR, .inl (G.2.1, 16, .inl sR)), (qSI, .inl (G.2.1, 16, .inl sI)), (qSP, .inl (G.2.2.2.2, 17, .inr (.inr (.inr (.inr (outR qR)))))), (qSF, .inl (G.2.1, 16, .inl sF)), (qO, .inl (G.2.2.1, 1, .inr (.inl oO)))] ++ rws G qR sP) s.heap.size = A at hD hT ⊢
  have hA : ∀ q : Nat, s.heap.size ≤ q → A q := fun q h => by rw [← hAe]; exact Or.inr h
  have hS : va_S A s.heap s.heap [] := va_S.rf
  have hl := lv_entry ([.ref qX, .ref qO] : List Value) (n := 3) (Nat.le_of_ble_eq_true rfl)
  rw [lg_entry_eq]
  generalize (lg_sl ([.ref qX, .ref qO] : List Value) ++ List.replicate (3 - (lg_sl ([.ref qX, .ref qO] : List Value)).length) Slot.unset).toArray = ls at hl ⊢
  have hl : lv_has ls 3 [(0, .ref qX), (1, .ref qO)] := hl
  refine wq (fun Q hQ => ?_)
  unfold kL_fewestTurns at hq
  obtain ⟨q, eq, hq⟩ := ob hq
  refine lv_aload_n hx hb dL_fewestTurns_0 rfl (lv_at hl 1 rfl) ?_
  refine lv_iconst (v := 0) hx hb dL_fewestTurns_1 (by decide) ?_
  refine lv_aload_n hx hb dL_fewestTurns_2 rfl (lv_at hl 0 rfl) ?_
  have hPc := hP.part (cx := [(qX, .inr (7, [.ref qB, .ref qH, .ref qK, .ref qV, .ref qS, .ref qW])), (qB, .inr (0, [.ref qBT, .ref qBC, .ref qBN, .ref qBW, .ref qBL, .int bn, .int bk, .int bs])), (qBT, .inl (G.2.1, 16, .inl bT)), (qBW, .inl (G.2.1, 64, .inl bW)), (qV, .inr (5, [.ref qB, .ref qVL, .ref qVS, .ref qVA, .ref qVT])), (qVL, .inl (G.2.1, 16, .inl vL)), (qVS, .inl (G.2.1, 16, .inl vS)), (qVA, .inl (G.2.1, 16, .inl vA)), (qVT, .inl (G.2.1, 16, .inl vT)), (qS, .inr (4, [.ref qB, .ref qV, .ref qSR, .ref qSI, .ref qSP, .ref qSF, .int so, .int sw])), (qSR, .inl (G.2.1, 16, .inl sR)), (qSI, .inl (G.2.1, 16, .inl sI)), (qSP, .inl (G.2.2.2.2, 17, .inr (.inr (.inr (.inr (outR qR)))))), (qSF, .inl (G.2.1, 16, .inl sF))]) [0, 1, 2, 3, 4, 5, 6, 7, 8, 9, 10, 11, 12, 13] rfl
  have hDc := hD.part (cx := [(qX, .inr (7, [.ref qB, .ref qH, .ref qK, .ref qV, .ref qS, .ref qW])), (qB, .inr (0, [.ref qBT, .ref qBC, .ref qBN, .ref qBW, .ref qBL, .int bn, .int bk, .int bs])), (qBT, .inl (G.2.1, 16, .inl bT)), (qBW, .inl (G.2.1, 64, .inl bW)), (qV, .inr (5, [.ref qB, .ref qVL, .ref qVS, .ref qVA, .ref qVT])), (qVL, .inl (G.2.1, 16, .inl vL)), (qVS, .inl (G.2.1, 16, .inl vS)), (qVA, .inl (G.2.1, 16, .inl vA)), (qVT, .inl (G.2.1, 16, .inl vT)), (qS, .inr (4, [.ref qB, .ref qV, .ref qSR, .ref qSI, .ref qSP, .ref qSF, .int so, .int sw])), (qSR, .inl (G.2.1, 16, .inl sR)), (qSI, .inl (G.2.1, 16, .inl sI)), (qSP, .inl (G.2.2.2.2, 17, .inr (.inr (.inr (.inr (outR qR)))))), (qSF, .inl (G.2.1, 16, .inl sF))]) [0, 1, 2, 3, 4, 5, 6, 7, 8, 9, 10, 11, 12, 13] (by decide) rfl
  have hFc := va_freeP (cx := [(qX, .inr (7, [.ref qB, .ref qH, .ref qK, .ref qV, .ref qS, .ref qW])), (qB, .inr (0, [.ref qBT, .ref qBC, .ref qBN, .ref qBW, .ref qBL, .int bn, .int bk, .int bs])), (qBT, .inl (G.2.1, 16, .inl bT)), (qBW, .inl (G.2.1, 64, .inl bW)), (qV, .inr (5, [.ref qB, .ref qVL, .ref qVS, .ref qVA, .ref qVT])), (qVL, .inl (G.2.1, 16, .inl vL)), (qVS, .inl (G.2.1, 16, .inl vS)), (qVA, .inl (G.2.1, 16, .inl vA)), (qVT, .inl (G.2.1, 16, .inl vT)), (qS, .inr (4, [.ref qB, .ref qV, .ref qSR, .ref qSI, .ref qSP, .ref qSF, .int so, .int sw])), (qSR, .inl (G.2.1, 16, .inl sR)), (qSI, .inl (G.2.1, 16, .inl sI)), (qSP, .inl (G.2.2.2.2, 17, .inr (.inr (.inr (.inr (outR qR)))))), (qSF, .inl (G.2.1, 16, .inl sF))]) hD hS hA [0, 1, 2, 3, 4, 5, 6, 7, 8, 9, 10, 11, 12, 13] rfl
  have hKc := hK
  refine vx_calli (vx_runV (As := []) (rest := [.int 0, .ref qO]) ⟨hx, hb, hml, hown, hts⟩ (tX7_fewestTurns G l hfl eq) (cwV 0 hts gL_fewestTurns_X7_fewestTurns rfl rfl rfl (by decide +kernel) ⟨Nat.le_of_ble_eq_true rfl, Nat.le_of_ble_eq_true rfl⟩) ⟨pcX_blind, va_recv hKc hPc (ci := 7) (q0 := 0) rfl rfl, pcX_pre hPc hKK hDc hT hS hFc⟩ rfl rfl hl.1 rfl (lv_room (Nat.le_of_ble_eq_true rfl)) dL_fewestTurns_3 ⟨Nat.le_of_ble_eq_true rfl, Nat.le_of_ble_eq_true rfl⟩) hS (fun q _ h => hFc q h) hFc (fun q _ h => hFc q h) (fun E ce q9 u t H1 locs ht hvm hpx hB hz1 hk1 hS hc1 hv1 hcl1 => ?_) (fun r0 u t H1 locs ht hvm hw hB hz1 hk1 hS => ?_)
  · obtain ⟨e, rfl⟩ : ∃ z, z = u := ⟨_, rfl⟩
    subst hpx
    have hq := onW_r hq
    obtain ⟨hE, hB⟩ := hB
    have hB := va_Pto ht hB
    obtain ⟨hP, hD⟩ := jnR (X' := [(qX, .inr (7, [.ref qB, .ref qH, .ref qK, .ref qV, .ref qS, .ref qW])), (qB, .inr (0, [.ref qBT, .ref qBC, .ref qBN, .ref qBW, .ref qBL, .int bn, .int bk, .int bs])), (qBT, .inl (G.2.1, 16, .inl bT)), (qBW, .inl (G.2.1, 64, .inl bW)), (qV, .inr (5, [.ref qB, .ref qVL, .ref qVS, .ref qVA, .ref qVT])), (qVL, .inl (G.2.1, 16, .inl e.2.1)), (qVS, .inl (G.2.1, 16, .inl e.2.2.1)), (qVA, .inl (G.2.1, 16, .inl e.2.2.2.1)), (qVT, .inl (G.2.1, 16, .inl e.2.2.2.2.1)), (qS, .inr (4, [.ref qB, .ref qV, .ref qSR, .ref qSI, .ref qSP, .ref qSF, .int e.2.2.2.2.2.1, .int e.2.2.2.2.2.2.1])), (qSR, .inl (G.2.1, 16, .inl e.2.2.2.2.2.2.2.1)), (qSI, .inl (G.2.1, 16, .inl e.2.2.2.2.2.2.2.2.1)), (qSP, .inl (G.2.2.2.2, 17, .inr (.inr (.inr (.inr (outR qR)))))), (qSF, .inl (G.2.1, 16, .inl e.2.2.2.2.2.2.2.2.2.2)), (qO, .inl (G.2.2.1, 1, .inr (.inl oO)))]) hP hD hk1 hB [0, 1, 2, 3, 4, 5, 6, 7, 8, 9, 10, 11, 12, 13] rfl rfl rfl rfl
    generalize H1 = H at hP hS hc1 ⊢
    by_cases c_e0 : e.1 = 2
    · have hq := k_t c_e0 hq
      have hE : E = "java/lang/IllegalStateException" := hE.trans (congrArg exN c_e0)
      subst hE
      refine vx_catch (name := "java/lang/IllegalStateException") hown ([]) ({ startPc := 0, endPc := 8, handlerPc := 11, catchType := 29 } : Jvm.ClassFile.ExceptionTableEntry) ([]) ((vx_table (x := yL_fewestTurns) B hcw).trans rfl) (fun _ h => absurd h List.not_mem_nil) (by decide) (by decide) hk29 ((hT.2.2.2.1 2 (by decide)).use rfl) hc1 hv1 hcl1 ?_
      refine lv_astore_n (lv' := [(2, .ref q9), (0, .ref qX), (1, .ref qO)]) hx hb dL_fewestTurns_11 rfl hl (by decide) rfl (fun ls hl => ?_)
      refine lv_iconst (v := 1) hx hb dL_fewestTurns_12 (by decide) ?_
      obtain rfl := Option.some.inj hq
      rw [hQ]
      refine vx_ret ?_
      refine W.widen (k := 1) (n := 6) (Nat.le_of_ble_eq_true rfl) (Nat.le_of_ble_eq_true rfl) ?_
      exact W.iret hx hb hr (fun t ht hW => ⟨⟨_, (), rfl, rfl, va_Pat ht hP⟩, hS.F ht⟩) hS.2.2 dL_fewestTurns_13
    · have hq := k_f c_e0 hq
      cases hq
  · obtain ⟨v, rfl⟩ : ∃ z, z = u := ⟨_, rfl⟩
    obtain ⟨hw, rfl⟩ := hw
    subst hw
    have hq := onW_l hq
    have hB := va_Pto ht hB
    obtain ⟨hP, hD⟩ := jnR (X' := [(qX, .inr (7, [.ref qB, .ref qH, .ref qK, .ref qV, .ref qS, .ref qW])), (qB, .inr (0, [.ref qBT, .ref qBC, .ref qBN, .ref qBW, .ref qBL, .int bn, .int bk, .int bs])), (qBT, .inl (G.2.1, 16, .inl bT)), (qBW, .inl (G.2.1, 64, .inl bW)), (qV, .inr (5, [.ref qB, .ref qVL, .ref qVS, .ref qVA, .ref qVT])), (qVL, .inl (G.2.1, 16, .inl v.2.1)), (qVS, .inl (G.2.1, 16, .inl v.2.2.1)), (qVA, .inl (G.2.1, 16, .inl v.2.2.2.1)), (qVT, .inl (G.2.1, 16, .inl v.2.2.2.2.1)), (qS, .inr (4, [.ref qB, .ref qV, .ref qSR, .ref qSI, .ref qSP, .ref qSF, .int v.2.2.2.2.2.1, .int v.2.2.2.2.2.2.1])), (qSR, .inl (G.2.1, 16, .inl v.2.2.2.2.2.2.2.1)), (qSI, .inl (G.2.1, 16, .inl v.2.2.2.2.2.2.2.2.1)), (qSP, .inl (G.2.2.2.2, 17, .inr (.inr (.inr (.inr (outR qR)))))), (qSF, .inl (G.2.1, 16, .inl v.2.2.2.2.2.2.2.2.2.2)), (qO, .inl (G.2.2.1, 1, .inr (.inl oO)))]) hP hD hk1 hB [0, 1, 2, 3, 4, 5, 6, 7, 8, 9, 10, 11, 12, 13] rfl rfl rfl rfl
    generalize H1 = H at hP hS ⊢
    refine lv_i2l hx hb dL_fewestTurns_6 rfl ?_
    obtain ⟨hg, hq⟩ := k_g hq
    refine va_last hx hb hK hP hD hS 14 1 rfl rfl (ix_in hg) dL_fewestTurns_7 (fun H locs hP hD hS => ?_)
    have hP : va_P G.1 vwCl ([(qX, .inr (7, [.ref qB, .ref qH, .ref qK, .ref qV, .ref qS, .ref qW])), (qB, .inr (0, [.ref qBT, .ref qBC, .ref qBN, .ref qBW, .ref qBL, .int bn, .int bk, .int bs])), (qBT, .inl (G.2.1, 16, .inl bT)), (qBW, .inl (G.2.1, 64, .inl bW)), (qV, .inr (5, [.ref qB, .ref qVL, .ref qVS, .ref qVA, .ref qVT])), (qVL, .inl (G.2.1, 16, .inl v.2.1)), (qVS, .inl (G.2.1, 16, .inl v.2.2.1)), (qVA, .inl (G.2.1, 16, .inl v.2.2.2.1)), (qVT, .inl (G.2.1, 16, .inl v.2.2.2.2.1)), (qS, .inr (4, [.ref qB, .ref qV, .ref qSR, .ref qSI, .ref qSP, .ref qSF, .int v.2.2.2.2.2.1, .int v.2.2.2.2.2.2.1])), (qSR, .inl (G.2.1, 16, .inl v.2.2.2.2.2.2.2.1)), (qSI, .inl (G.2.1, 16, .inl v.2.2.2.2.2.2.2.2.1)), (qSP, .inl (G.2.2.2.2, 17, .inr (.inr (.inr (.inr (outR qR)))))), (qSF, .inl (G.2.1, 16, .inl v.2.2.2.2.2.2.2.2.2.2)), (qO, .inl (G.2.2.1, 1, .inr (.inl (vp_updL oO (0 : Int32).toNatClampNeg (v.1).toInt64))))] ++ rws G qR v.2.2.2.2.2.2.2.2.2.1) H := hP
    have hD : va_D A ([(qX, .inr (7, [.ref qB, .ref qH, .ref qK, .ref qV, .ref qS, .ref qW])), (qB, .inr (0, [.ref qBT, .ref qBC, .ref qBN, .ref qBW, .ref qBL, .int bn, .int bk, .int bs])), (qBT, .inl (G.2.1, 16, .inl bT)), (qBW, .inl (G.2.1, 64, .inl bW)), (qV, .inr (5, [.ref qB, .ref qVL, .ref qVS, .ref qVA, .ref qVT])), (qVL, .inl (G.2.1, 16, .inl v.2.1)), (qVS, .inl (G.2.1, 16, .inl v.2.2.1)), (qVA, .inl (G.2.1, 16, .inl v.2.2.2.1)), (qVT, .inl (G.2.1, 16, .inl v.2.2.2.2.1)), (qS, .inr (4, [.ref qB, .ref qV, .ref qSR, .ref qSI, .ref qSP, .ref qSF, .int v.2.2.2.2.2.1, .int v.2.2.2.2.2.2.1])), (qSR, .inl (G.2.1, 16, .inl v.2.2.2.2.2.2.2.1)), (qSI, .inl (G.2.1, 16, .inl v.2.2.2.2.2.2.2.2.1)), (qSP, .inl (G.2.2.2.2, 17, .inr (.inr (.inr (.inr (outR qR)))))), (qSF, .inl (G.2.1, 16, .inl v.2.2.2.2.2.2.2.2.2.2)), (qO, .inl (G.2.2.1, 1, .inr (.inl (vp_updL oO (0 : Int32).toNatClampNeg (v.1).toInt64))))] ++ rws G qR v.2.2.2.2.2.2.2.2.2.1) := hD
    refine lv_goto (tgt := 14) hx hb dL_fewestTurns_8 (by decide) ?_
    refine lv_iconst (v := 0) hx hb dL_fewestTurns_14 (by decide) ?_
    obtain rfl := Option.some.inj hq
    rw [hQ]
    refine vx_ret ?_
    refine W.widen (k := 1) (n := 6) (Nat.le_of_ble_eq_true rfl) (Nat.le_of_ble_eq_true rfl) ?_
    exact W.iret hx hb hr (fun t ht hW => ⟨⟨_, (), rfl, rfl, va_Pat ht hP⟩, hS.F ht⟩) hS.2.2 dL_fewestTurns_15
