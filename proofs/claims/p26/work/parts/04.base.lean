abbrev vwCl : List vw_C := [(RX0, TX0, 8), (RX1, TX1, 3), (RX2, TX2, 3), (RX3, TX3, 5), (RX4, TX4, 8), (RX5, TX5, 5), (RX6, TX6, 5), (RX7, TX7, 6)]
/-! the ground: the constants of a launch in one name, what a method is given, joints of worlds, loops as numbers -/
abbrev GG : Type := va_G × ClassId × ClassId × ClassId × ClassId
abbrev tysG (G : GG) : List (ClassId × FieldType) := [(G.2.1, .int), (G.2.2.1, .long), (G.2.2.2.1, .byte), (G.2.2.2.2, .array .int)]
def nestW : List Cond := [.methodLinkNest RX7 9 yX0_init RX7, .methodLinkNest RX7 18 yX2_init RX7, .methodLinkNest RX6 20 yX1_init RX7, .methodLinkNest RX0 57 yX7_opposite RX7, .methodLinkNest RX0 61 yX7_at RX7, .methodLinkNest RX0 76 yX7_holds RX7, .methodLinkNest RX0 94 yX7_spread RX7, .methodLinkNest RX0 68 yX7_turned RX7, .methodLinkNest RX5 42 yX7_at RX7, .methodLinkNest RX5 61 yX7_holds RX7, .methodLinkNest RX5 68 yX7_turned RX7, .methodLinkNest RX5 75 yX7_opposite RX7, .methodLinkNest RX5 81 yX7_spread RX7, .methodLinkNest RX4 64 yX7_holds RX7, .methodLinkNest RX4 75 yX7_turned RX7, .methodLinkNest RX4 45 yX7_at RX7, .methodLinkNest RX4 88 yX7_opposite RX7, .methodLinkNest RX6 57 yX7_holds RX7, .methodLinkNest RX6 72 yX7_turned RX7, .methodLinkNest RX6 107 yX7_at RX7, .methodLinkNest RX3 35 yX7_at RX7, .methodLinkNest RX3 68 yX7_holds RX7, .methodLinkNest RX3 78 yX7_opposite RX7]
theorem nestW_form : ∀ w ∈ nestW, ∃ (a : String) (i : Nat) (x : MethodName) (h : String), w = .methodLinkNest a i x h := by
  intro w h
  simp only [nestW, List.mem_cons, List.not_mem_nil, or_false] at h
  rcases h with rfl | rfl | rfl | rfl | rfl | rfl | rfl | rfl | rfl | rfl | rfl | rfl | rfl | rfl | rfl | rfl | rfl | rfl | rfl | rfl | rfl | rfl | rfl <;> exact ⟨_, _, _, _, rfl⟩
def KK (G : GG) (U : State) : Prop := va_K G.1 vwCl (tysG G) U ∧ ∀ w ∈ nestW, va_Nw w U
theorem KK.warm {G : GG} {s U : State} (hW : s.WarmedH U.vm) (h : KK G s) : KK G U := by
  refine ⟨va_K.moved hW.alike h.1, fun w hw => ?_⟩
  have h1 := h.2 w hw
  obtain ⟨a, i, x, h, rfl⟩ := nestW_form w hw
  exact va_Nw.warmM hW h1
theorem KK.call {G : GG} {U : State} {g : JFrame} {mk : MethodId} {a : Array Value} (h : KK G U) : KK G (U.calling g mk a) := by
  refine ⟨va_K.moved (u := U) (U := U.calling g mk a) (Vm.Alike.refl U.vm) h.1, fun w hw => ?_⟩
  have h1 := h.2 w hw
  obtain ⟨a, i, x, h, rfl⟩ := nestW_form w hw
  exact va_Nw.same rfl (rfl : U.vm = (U.calling _ _ _).vm) h1
/-- what a method is given that writes nothing -/
def pcP (G : GG) (W : va_W) (av : List Value) : Array Value → State → Prop := va_Pc av (fun U => va_P G.1 vwCl W U.heap ∧ KK G U)
theorem pcP_blind {G : GG} {W : va_W} {av : List Value} : FrameBlind (pcP G W av) := fun _ _ _ _ q => ⟨q.1, q.2.1, q.2.2.call⟩
theorem pcP_pre {G : GG} {W : va_W} {av : List Value} {s : State} {H : Heap} (hP : va_P G.1 vwCl W H) (hK : KK G s) : ∀ U : State, U.heap = H → s.WarmedH U.vm → pcP G W av av.toArray U := fun U hU hW => ⟨rfl, by rw [hU]; exact hP, hK.warm hW⟩
/-- what a method is given that writes -/
def pcW (G : GG) (W : va_W) (sz : Nat) (av : List Value) : Array Value → State → Prop := va_Pc av (fun U => U.heap.size = sz ∧ va_P G.1 vwCl W U.heap ∧ KK G U ∧ va_D (fun _ => True) W)
theorem pcW_blind {G : GG} {W : va_W} {sz : Nat} {av : List Value} : FrameBlind (pcW G W sz av) := fun _ _ _ _ q => ⟨q.1, q.2.1, q.2.2.1, q.2.2.2.1.call, q.2.2.2.2⟩
theorem pcW_pre {G : GG} {W : va_W} {av : List Value} {s : State} {H : Heap} {A : Nat → Prop} (hP : va_P G.1 vwCl W H) (hK : KK G s) (hD : va_D A W) : ∀ U : State, U.heap = H → s.WarmedH U.vm → pcW G W H.size av av.toArray U := fun U hU hW => ⟨rfl, by rw [hU], by rw [hU]; exact hP, hK.warm hW, hD.weaken (fun _ _ _ _ => trivial)⟩
abbrev qcV (G : GG) (W : va_W) (A : Nat → Prop) := va_Qv (S := Unit) (fun _ => True) (fun _ t => va_P G.1 vwCl W t.heap) A
abbrev qcI (G : GG) (r : Int32) (W : va_W) (A : Nat → Prop) := va_Qi (S := Unit) (fun x _ => r = x) (fun _ t => va_P G.1 vwCl W t.heap) A
abbrev qcL (G : GG) (r : Int64) (W : va_W) (A : Nat → Prop) := va_Ql (S := Unit) (fun x _ => r = x) (fun _ t => va_P G.1 vwCl W t.heap) A
/-- a world with some cells set anew -/
def setAll : va_W → List Nat → va_W → va_W
  | ws, j :: js, e :: es => setAll (ws.set j e) js es
  | ws, _, _ => ws
theorem setAll_get : ∀ (js : List Nat) (es ws : va_W) (k : Nat) (q : Nat × va_E), js.length = es.length → (setAll ws js es)[k]? = some q → q ∈ es ∨ (ws[k]? = some q ∧ k ∉ js)
  | [], [], ws, k, q, _, h => Or.inr ⟨h, List.not_mem_nil⟩
  | [], _ :: _, _, _, _, hl, _ => by simp at hl
  | _ :: _, [], _, _, _, hl, _ => by simp at hl
  | j :: js, e :: es, ws, k, q, hl, h => by
    rcases setAll_get js es (ws.set j e) k q (by simpa using hl) h with h1 | ⟨h1, h2⟩
    · exact Or.inl (List.mem_cons_of_mem _ h1)
    · by_cases hk : k = j
      · subst hk
        rw [List.getElem?_set] at h1
        simp only [if_true] at h1
        split at h1
        · cases h1
          exact Or.inl List.mem_cons_self
        · cases h1
      · rw [List.getElem?_set_ne (fun x => hk x.symm)] at h1
        exact Or.inr ⟨h1, fun hm => (List.mem_cons.mp hm).elim hk h2⟩
theorem va_D.same {A : Nat → Prop} {ws ws' : va_W} (hD : va_D A ws) (h : ws'.map Prod.fst = ws.map Prod.fst) : va_D A ws' := by
  have key : ∀ (k : Nat) (q : Nat × va_E), ws'[k]? = some q → ∃ e, ws[k]? = some (q.1, e) := by
    intro k q hq
    have h1 : (ws'.map Prod.fst)[k]? = some q.1 := by rw [List.getElem?_map, hq]; rfl
    rw [h, List.getElem?_map] at h1
    cases hw : ws[k]? with
    | none => rw [hw] at h1; cases h1
    | some w =>
      rw [hw] at h1
      have : w.1 = q.1 := Option.some.inj h1
      exact ⟨w.2, by rw [← this]⟩
  refine ⟨fun i j p q hi hj hpq => ?_, fun k q hq => ?_⟩
  · obtain ⟨e, he⟩ := key i p hi
    obtain ⟨f, hf⟩ := key j q hj
    exact hD.1 i j _ _ he hf hpq
  · obtain ⟨e, he⟩ := key k q hq
    exact hD.2 k (q.1, e) he
/-- behind a call: the cells that it had are as it leaves them, the others as they were -/
theorem jn {D : va_G} {cl : List vw_C} {A : Nat → Prop} {ws wc w1 ws' : va_W} {H H1 : Heap} (hP : va_P D cl ws H) (hD : va_D A ws) (hk : ∀ q : Nat, q < H.size → ¬ va_A wc H.size q → H1[q]? = H[q]?) (hP1 : va_P D cl w1 H1) (js : List Nat) (h1 : js.map (fun i => ws[i]?) = wc.map some) (h2 : w1.map Prod.fst = wc.map Prod.fst) (h3 : ws' = setAll ws js w1) (h4 : ws'.map Prod.fst = ws.map Prod.fst) : va_P D cl ws' H1 ∧ va_D A ws' := by
  refine ⟨fun k q hq => ?_, hD.same h4⟩
  have hlen : js.length = w1.length := by
    have a := congrArg List.length h1
    have b := congrArg List.length h2
    simp only [List.length_map] at a b
    omega
  rw [h3] at hq
  rcases setAll_get js w1 ws k q hlen hq with h | ⟨h, hn⟩
  · obtain ⟨i, hi⟩ := List.getElem?_of_mem h
    exact hP1 i q hi
  · have hat := hP k q h
    refine va_at.kept hat (hk q.1 hat.lt ?_)
    rintro (⟨i, e, hi⟩ | hge)
    · have a : (wc.map some)[i]? = some (some (q.1, e)) := by rw [List.getElem?_map, hi]; rfl
      rw [← h1, List.getElem?_map] at a
      cases hj : js[i]? with
      | none => rw [hj] at a; cases a
      | some j =>
        rw [hj] at a
        have a : ws[j]? = some (q.1, e) := Option.some.inj a
        have e1 := hD.1 k j _ _ h a rfl
        exact hn (e1 ▸ List.mem_of_getElem? hj)
    · exact absurd hat.lt (Nat.not_lt.mpr hge)
section KW
variable {p : Program} {l : Launch} {e : Env} {R : Room} {s : State} {m : MethodId} {args : Array Value} {below : List Frame} {meth : Method} {c : Code} {H : Heap} {locs : List Loc} {cells slots : Nat}
theorem wq {Q : State → Prop} {g : JFrame} (h : ∀ Q' : State → Prop, Q' = Q → W p l e R s m args below meth c H locs cells slots Q' g) : W p l e R s m args below meth c H locs cells slots Q g := h Q rfl
end KW
-- what a program answers, as numbers: none where it would leave an array or divide by 0, or runs out of its count
theorem k_t {α : Sort _} {c : Prop} [Decidable c] {a b x : α} (h : c) (k : (if c then a else b) = x) : a = x := (if_pos h).symm.trans k
theorem k_f {α : Sort _} {c : Prop} [Decidable c] {a b x : α} (h : ¬ c) (k : (if c then a else b) = x) : b = x := (if_neg h).symm.trans k
theorem k_g {α : Type} {c : Bool} {a : Option α} {x : α} (k : (if c = true then a else none) = some x) : c = true ∧ a = some x := by
  cases c
  · cases k
  · exact ⟨rfl, k⟩
theorem ob {α β : Type} {x : Option α} {f : α → Option β} {b : β} (h : x.bind f = some b) : ∃ a, x = some a ∧ f a = some b := by
  cases x with
  | none => cases h
  | some a => exact ⟨a, rfl, h⟩
def ix (i : Int32) (n : Nat) : Bool := decide (¬ (i < 0 ∨ n ≤ i.toNatClampNeg))
theorem ix_in {i : Int32} {n : Nat} (h : ix i n = true) : vp_in i n := by
  show ¬ (i < 0 ∨ n ≤ i.toNatClampNeg)
  exact of_decide_eq_true h
def isZ (v : Int32) : Bool := v == 0 || v == 1
theorem isZ_n {v : Int32} (h : isZ v = true) : narrow .boolean (.int v) = .int v := by
  simp only [isZ, Bool.or_eq_true, beq_iff_eq] at h
  rcases h with rfl | rfl <;> rfl
def nz (v : Int32) : Bool := decide (¬ v = 0)
theorem nz_n {v : Int32} (h : nz v = true) : ¬ v = 0 := of_decide_eq_true h
def kloop {σ τ : Type} : Nat → (σ → Option (σ ⊕ τ)) → σ → Option τ
  | 0, _, _ => none
  | n + 1, f, s => (f s).bind fun x => match x with
    | .inl s' => kloop n f s'
    | .inr t => some t
theorem kl_0 {σ τ : Type} {f : σ → Option (σ ⊕ τ)} {s : σ} {t : τ} : ¬ kloop 0 f s = some t := fun h => by cases h
theorem kl_s {σ τ : Type} {n : Nat} {f : σ → Option (σ ⊕ τ)} {s : σ} {t : τ} (h : kloop (n + 1) f s = some t) : ∃ x, f s = some x ∧ ((∃ s', x = .inl s' ∧ kloop n f s' = some t) ∨ x = .inr t) := by
  obtain ⟨x, h1, h2⟩ := ob h
  cases x with
  | inl a => exact ⟨_, h1, Or.inl ⟨a, rfl, h2⟩⟩
  | inr b => exact ⟨_, h1, Or.inr (congrArg Sum.inr (Option.some.inj h2))⟩
theorem kl_back {σ τ : Type} {n : Nat} {f : σ → Option (σ ⊕ τ)} {a : σ} {t : τ} {x : σ ⊕ τ} (hq : some (Sum.inl a) = some x) (hx : (∃ s', x = .inl s' ∧ kloop n f s' = some t) ∨ x = .inr t) : kloop n f a = some t := by
  cases hq
  rcases hx with ⟨s', h, h2⟩ | h
  · cases h; exact h2
  · cases h
theorem kl_exit {σ τ : Type} {n : Nat} {f : σ → Option (σ ⊕ τ)} {b t : τ} {x : σ ⊕ τ} (hq : some (Sum.inr b) = some x) (hx : (∃ s', x = .inl s' ∧ kloop n f s' = some t) ∨ x = .inr t) : b = t := by
  cases hq
  rcases hx with ⟨s', h, h2⟩ | h
  · cases h
  · cases h; rfl
def cpok (sp dp n : Int32) (a b : Nat) : Bool := decide (¬ sp < 0 ∧ ¬ dp < 0 ∧ ¬ n < 0 ∧ sp.toNatClampNeg + n.toNatClampNeg ≤ a ∧ dp.toNatClampNeg + n.toNatClampNeg ≤ b)
theorem cp_1 {sp dp n : Int32} {a b : Nat} (h : cpok sp dp n a b = true) : ¬ sp < 0 := (of_decide_eq_true h).1
theorem cp_2 {sp dp n : Int32} {a b : Nat} (h : cpok sp dp n a b = true) : ¬ dp < 0 := (of_decide_eq_true h).2.1
theorem cp_3 {sp dp n : Int32} {a b : Nat} (h : cpok sp dp n a b = true) : ¬ n < 0 := (of_decide_eq_true h).2.2.1
theorem cp_4 {sp dp n : Int32} {a b : Nat} (h : cpok sp dp n a b = true) : sp.toNatClampNeg + n.toNatClampNeg ≤ a := (of_decide_eq_true h).2.2.2.1
theorem cp_5 {sp dp n : Int32} {a b : Nat} (h : cpok sp dp n a b = true) : dp.toNatClampNeg + n.toNatClampNeg ≤ b := (of_decide_eq_true h).2.2.2.2
theorem va_Pat {D : va_G} {cl : List vw_C} {ws : va_W} {t : State} {H : Heap} (ht : t.heap = H) (h : va_P D cl ws H) : va_P D cl ws t.heap := ht ▸ h
theorem va_Pto {D : va_G} {cl : List vw_C} {ws : va_W} {t : State} {H : Heap} (ht : t.heap = H) (h : va_P D cl ws t.heap) : va_P D cl ws H := ht ▸ h
theorem isZ_f {v : Int32} (h : isZ v = true) : fits .boolean (.int v) = true := by
  simp only [isZ, Bool.or_eq_true, beq_iff_eq] at h
  rcases h with rfl | rfl <;> rfl
