/-! methods that return or throw -/
def exN (n : Nat) : String := if n = 0 then "java/lang/IllegalArgumentException" else if n = 1 then "java/lang/IndexOutOfBoundsException" else "java/lang/IllegalStateException"
def strS : List (Nat × String) := [(72, "the number is 0 to 65535"), (87, "the open sides are 0 to 15"), (109, "there is no neighbour at this side"), (132, "the cell is locked"), (138, "an object is used for 512 calls at most"), (149, "there is no move to undo"), (157, "there is no move to do again"), (193, "there is no solution"), (205, "there is no board of this width and height"), (212, "there is no such cell"), (215, "there is no such side")]
def decW : List Cond := [.declares (Bundle.initS "java/lang/RuntimeException"), .declares (Bundle.initS "java/lang/Exception"), .declares (Bundle.initS Bundle.tN)]
theorem decW_form : ∀ w ∈ decW, ∃ x : MethodName, w = .declares x := by
  intro w h
  simp only [decW, List.mem_cons, List.not_mem_nil, or_false] at h
  rcases h with rfl | rfl | rfl <;> exact ⟨_, rfl⟩
def thB (n : Nat) : List Cond := .castable (exN n) (exN n) :: decW
def TH (A : Nat → Prop) (U : State) (H : Heap) : Prop := vx_Zq Bundle.tN "UNASSIGNED_STACK" Bundle.steD A U H ∧ vx_Zq Bundle.tN "SUPPRESSED_SENTINEL" Bundle.listD A U H ∧ (∀ q ∈ strS, ∃ sa, vk_R RX7 q.1 q.2 sa U) ∧ (∀ n, n < 3 → va_Nw (.castable (exN n) (exN n)) U) ∧ ∀ w ∈ decW, va_Nw w U
theorem TH.to {A B : Nat → Prop} {s U : State} {H : Heap} {locs : List Loc} (h : TH A s s.heap) (hS : va_S A s.heap H locs) (hF : ∀ q, B q → A q) (hU : U.heap = H) (hW : s.WarmedH U.vm) : TH B U U.heap := by
  obtain ⟨h1, h2, h3, h4, h5⟩ := h
  rw [hU]
  exact ⟨(vx_Zq.moved hW.alike (h1.kept hS.2.1)).narrow hF, (vx_Zq.moved hW.alike (h2.kept hS.2.1)).narrow hF, fun q hq => (h3 q hq).elim fun sa hs => ⟨sa, hs.warm hW⟩, fun n hn => va_Nw.warmC hW (h4 n hn), fun w hw => (decW_form w hw).elim fun x e => by have h6 := h5 w hw; subst e; exact va_Nw.warmD hW h6⟩
theorem TH.call {A : Nat → Prop} {U : State} {g : JFrame} {mk : MethodId} {a : Array Value} (h : TH A U U.heap) : TH A (U.calling g mk a) (U.calling g mk a).heap := by
  obtain ⟨h1, h2, h3, h4, h5⟩ := h
  exact ⟨vx_Zq.moved (u := U) (U := U.calling g mk a) (Vm.Alike.refl U.vm) h1, vx_Zq.moved (u := U) (U := U.calling g mk a) (Vm.Alike.refl U.vm) h2, fun q hq => (h3 q hq).elim fun sa hs => ⟨sa, hs.same (u := U) (U := U.calling g mk a) rfl⟩, fun n hn => va_Nw.same rfl (rfl : U.vm = (U.calling g mk a).vm) (h4 n hn), fun w hw => (decW_form w hw).elim fun x e => by have h6 := h5 w hw; subst e; exact va_Nw.same rfl (rfl : U.vm = (U.calling g mk a).vm) h6⟩
theorem TH.bad {A : Nat → Prop} {U : State} {H : Heap} {n : Nat} {args : Array Value} (h : TH A U H) (hn : n < 3) : ∀ w ∈ thB n, w.before args U = true := by
  intro w hw
  rcases List.mem_cons.mp hw with rfl | hw
  · exact (h.2.2.2.1 n hn).use rfl
  · obtain ⟨x, e⟩ := decW_form w hw
    have h6 := h.2.2.2.2 w hw
    subst e
    exact h6.use rfl
def pcX (G : GG) (W : va_W) (sz : Nat) (av : List Value) : Array Value → State → Prop := va_Pc av (fun U => U.heap.size = sz ∧ va_P G.1 vwCl W U.heap ∧ KK G U ∧ va_D (fun _ => True) W ∧ TH (va_A W sz) U U.heap)
theorem pcX_blind {G : GG} {W : va_W} {sz : Nat} {av : List Value} : FrameBlind (pcX G W sz av) := fun _ _ _ _ q => ⟨q.1, q.2.1, q.2.2.1, q.2.2.2.1.call, q.2.2.2.2.1, q.2.2.2.2.2.call⟩
theorem pcX_pre {G : GG} {W : va_W} {av : List Value} {s : State} {H : Heap} {A : Nat → Prop} {locs : List Loc} (hP : va_P G.1 vwCl W H) (hK : KK G s) (hD : va_D A W) (hT : TH A s s.heap) (hS : va_S A s.heap H locs) (hF : ∀ q, va_A W H.size q → A q) : ∀ U : State, U.heap = H → s.WarmedH U.vm → pcX G W H.size av av.toArray U := fun U hU hW => ⟨rfl, by rw [hU], by rw [hU]; exact hP, hK.warm hW, hD.weaken (fun _ _ _ _ => trivial), hT.to hS hF hU hW⟩
abbrev qxI (G : GG) {T ε : Type} (r : T ⊕ ε) (val : T → Int32) (Wf : T → va_W) (A : Nat → Prop) := va_Qi (S := T) (fun x u => r = .inl u ∧ val u = x) (fun u t => va_P G.1 vwCl (Wf u) t.heap) A
abbrev qxV (G : GG) {T ε : Type} (r : T ⊕ ε) (Wf : T → va_W) (A : Nat → Prop) := va_Qv (S := T) (fun u => r = .inl u) (fun u t => va_P G.1 vwCl (Wf u) t.heap) A
abbrev xcX (G : GG) {T ε : Type} (r : T ⊕ ε) (nn : ε → Nat) (Wf : ε → va_W) (A : Nat → Prop) := vx_X (S := ε) (fun u => r = .inr u) (fun E u t => E = exN (nn u) ∧ va_P G.1 vwCl (Wf u) t.heap) A
def onR {α β ε ε' : Type} (q : α ⊕ ε) (f : α → Option (β ⊕ ε')) (g : ε → ε') : Option (β ⊕ ε') := match q with
  | .inl a => f a
  | .inr n => some (.inr (g n))
theorem onR_l {α β ε ε' : Type} {a : α} {f : α → Option (β ⊕ ε')} {g : ε → ε'} {b : β ⊕ ε'} (h : onR (.inl a) f g = some b) : f a = some b := h
theorem onR_r {α β ε ε' : Type} {n : ε} {f : α → Option (β ⊕ ε')} {g : ε → ε'} {b : β ⊕ ε'} (h : onR (.inr n) f g = some b) : (Sum.inr (g n) : β ⊕ ε') = b := Option.some.inj h
theorem thP {D : va_G} {cl : List vw_C} {W : va_W} {H : Heap} {t : State} (hP : va_P D cl W H) (hk : ∀ q : Nat, q < H.size → t.heap[q]? = H[q]?) : va_P D cl W t.heap := hP.kept (fun k x hx => hk x.1 (hP k x hx).lt)
theorem thF {A : Nat → Prop} {s t : State} {H : Heap} {locs : List Loc} (hS : va_S A s.heap H locs) (hsz : H.size ≤ t.heap.size) (hk : ∀ q : Nat, q < H.size → t.heap[q]? = H[q]?) : va_F A s t := ⟨Nat.le_trans hS.1 hsz, fun q hq hA => (hk q (Nat.lt_of_lt_of_le hq hS.1)).trans (hS.2.1 q hq hA)⟩
