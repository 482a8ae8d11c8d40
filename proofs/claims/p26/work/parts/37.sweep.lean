/-! the sweep over a cell (laid by wip/whole/sweep.py) -/
def kX6_sweepOver_s25 (F : Nat) (nb0 : Nat) (nw0 : Nat) (bn : Int32) (bT : Nat → Int32) (bC : Nat → Int32) (bN : Nat → Int32) (bW : Nat → Int32) (lc0 : Int32) (lb0 : Nat → Int64) (lw0 : Nat → Int32) (x1 : Int32) (q1 : Int32) (s123 : Int32) (s188 : Int32) (s189 : Nat → Int32) (s190 : Nat → Int32) (s191 : Int32) (s192 : Nat) (s193 : Nat → Int64) (s194 : Nat) (s195 : Nat → Int32) : Option ((Int32 × (Nat → Int32) × (Nat → Int32) × Int32 × Nat × (Nat → Int64) × Nat × (Nat → Int32)) ⊕ ((Nat → Int32) × (Nat → Int32) × Int32 × Nat × (Nat → Int64) × Nat × (Nat → Int32))) :=
  (if 4 ≤ s188 then some (.inr (s189, s190, s191, s192, s193, s194, s195)) else ((kX7_holds F q1 s188).bind fun q198 => (if q198 = 0 then some (.inl (s188 + 1, s189, s190, s191, s192, s193, s194, s195)) else ((kX1_borderAt F lc0 nb0 lb0 s123).bind fun q218 => ((kX6_unpack F s189 q218).bind fun q219 => ((kX0_sidesOf F bT x1).bind fun q220 => ((kX7_turned F q220 s188).bind fun q221 => ((kX6_pass F bn bC bN bW q219 x1 q221).bind fun q222 => (if q222.1 = 0 then some (.inl (s188 + 1, q222.2, s190, s191, s192, s193, s194, s195)) else ((kX6_pack F q222.2 s190).bind fun q236 => ((kX1_waysAt F lc0 nw0 lw0 s123).bind fun q237 => ((kX1_add F s191 s192 s193 s194 s195 q236.1 q237).bind fun q238 => some (.inl (s188 + 1, q222.2, q236.2, q238.1, q238.2.1, q238.2.2.1, q238.2.2.2.1, q238.2.2.2.2))))))))))))))
def kX6_sweepOver_s11 (F : Nat) (nb0 : Nat) (nw0 : Nat) (bn : Int32) (bT : Nat → Int32) (bC : Nat → Int32) (bN : Nat → Int32) (bW : Nat → Int32) (lc0 : Int32) (lb0 : Nat → Int64) (lw0 : Nat → Int32) (x1 : Int32) (q1 : Int32) (s123 : Int32) (s124 : Nat → Int32) (s125 : Nat → Int32) (s126 : Int32) (s127 : Nat) (s128 : Nat → Int64) (s129 : Nat) (s130 : Nat → Int32) : Option ((Int32 × (Nat → Int32) × (Nat → Int32) × Int32 × Nat × (Nat → Int64) × Nat × (Nat → Int32)) ⊕ ((Nat → Int32) × (Nat → Int32) × Int32 × Nat × (Nat → Int64) × Nat × (Nat → Int32))) :=
  ((kX1_count F lc0).bind fun q133 => (if q133 ≤ s123 then some (.inr (s124, s125, s126, s127, s128, s129, s130)) else ((kloop F (fun s_ => kX6_sweepOver_s25 F nb0 nw0 bn bT bC bN bW lc0 lb0 lw0 x1 q1 s123 s_.1 s_.2.1 s_.2.2.1 s_.2.2.2.1 s_.2.2.2.2.1 s_.2.2.2.2.2.1 s_.2.2.2.2.2.2.1 s_.2.2.2.2.2.2.2) (0, s124, s125, s126, s127, s128, s129, s130)).bind fun q241 => some (.inl (s123 + 1, q241.1, q241.2.1, q241.2.2.1, q241.2.2.2.1, q241.2.2.2.2.1, q241.2.2.2.2.2.1, q241.2.2.2.2.2.2)))))
def kX6_sweepOver (F : Nat) (bn : Int32) (bk : Int32) (bT : Nat → Int32) (bC : Nat → Int32) (bN : Nat → Int32) (bW : Nat → Int32) (wP : Nat → Int32) (wN : Nat → Int32) (lc0 : Int32) (nb0 : Nat) (lb0 : Nat → Int64) (nw0 : Nat) (lw0 : Nat → Int32) (lc1 : Int32) (nb1 : Nat) (lb1 : Nat → Int64) (nw1 : Nat) (lw1 : Nat → Int32) (x1 : Int32) : Option ((Nat → Int32) × (Nat → Int32) × Int32 × Nat × (Nat → Int64) × Nat × (Nat → Int32)) :=
  ((kX0_ownLays F bk bT x1).bind fun q1 => ((kloop F (fun s_ => kX6_sweepOver_s11 F nb0 nw0 bn bT bC bN bW lc0 lb0 lw0 x1 q1 s_.1 s_.2.1 s_.2.2.1 s_.2.2.2.1 s_.2.2.2.2.1 s_.2.2.2.2.2.1 s_.2.2.2.2.2.2.1 s_.2.2.2.2.2.2.2) (0, wP, wN, lc1, nb1, lb1, nw1, lw1)).bind fun q244 => some (q244.1, q244.2.1, q244.2.2.1, q244.2.2.2.1, q244.2.2.2.2.1, q244.2.2.2.2.2.1, q244.2.2.2.2.2.2)))
theorem mo_kX6_sweepOver_s25 {F : Nat} {nb0 : Nat} {nw0 : Nat} {bn : Int32} {bT : Nat → Int32} {bC : Nat → Int32} {bN : Nat → Int32} {bW : Nat → Int32} {lc0 : Int32} {lb0 : Nat → Int64} {lw0 : Nat → Int32} {x1 : Int32} {q1 : Int32} {s123 : Int32} : ∀ {n : Nat} {s : Int32 × (Nat → Int32) × (Nat → Int32) × Int32 × Nat × (Nat → Int64) × Nat × (Nat → Int32)} {t : (Nat → Int32) × (Nat → Int32) × Int32 × Nat × (Nat → Int64) × Nat × (Nat → Int32)}, kloop n (fun s_ => kX6_sweepOver_s25 F nb0 nw0 bn bT bC bN bW lc0 lb0 lw0 x1 q1 s123 s_.1 s_.2.1 s_.2.2.1 s_.2.2.2.1 s_.2.2.2.2.1 s_.2.2.2.2.2.1 s_.2.2.2.2.2.2.1 s_.2.2.2.2.2.2.2) s = some t → s.2.2.2.2.1 ≤ t.2.2.2.1 ∧ s.2.2.2.2.2.2.1 ≤ t.2.2.2.2.2.1 := by
  intro n
  induction n with
  | zero => intro s t h; exact absurd h kl_0
  | succ n ih =>
    intro s t h
    obtain ⟨y, hq, hx⟩ := kl_s h
    have hq : kX6_sweepOver_s25 F nb0 nw0 bn bT bC bN bW lc0 lb0 lw0 x1 q1 s123 s.1 s.2.1 s.2.2.1 s.2.2.2.1 s.2.2.2.2.1 s.2.2.2.2.2.1 s.2.2.2.2.2.2.1 s.2.2.2.2.2.2.2 = some y := hq
    unfold kX6_sweepOver_s25 at hq
    split at hq
    · have e := kl_exit hq hx
      subst e
      exact ⟨Nat.le_refl _, Nat.le_refl _⟩
    · obtain ⟨_, -, hq⟩ := ob hq
      split at hq
      · have h9 := ih (kl_back hq hx)
        exact h9
      · obtain ⟨_, -, hq⟩ := ob hq
        obtain ⟨_, -, hq⟩ := ob hq
        obtain ⟨_, -, hq⟩ := ob hq
        obtain ⟨_, -, hq⟩ := ob hq
        obtain ⟨_, -, hq⟩ := ob hq
        split at hq
        · have h9 := ih (kl_back hq hx)
          exact h9
        · obtain ⟨_, -, hq⟩ := ob hq
          obtain ⟨_, -, hq⟩ := ob hq
          obtain ⟨q, eq, hq⟩ := ob hq
          have h8 := mo_X1_add eq
          have h9 := ih (kl_back hq hx)
          exact gz_t h8 h9
theorem mo_kX6_sweepOver_s11 {F : Nat} {nb0 : Nat} {nw0 : Nat} {bn : Int32} {bT : Nat → Int32} {bC : Nat → Int32} {bN : Nat → Int32} {bW : Nat → Int32} {lc0 : Int32} {lb0 : Nat → Int64} {lw0 : Nat → Int32} {x1 : Int32} {q1 : Int32} : ∀ {n : Nat} {s : Int32 × (Nat → Int32) × (Nat → Int32) × Int32 × Nat × (Nat → Int64) × Nat × (Nat → Int32)} {t : (Nat → Int32) × (Nat → Int32) × Int32 × Nat × (Nat → Int64) × Nat × (Nat → Int32)}, kloop n (fun s_ => kX6_sweepOver_s11 F nb0 nw0 bn bT bC bN bW lc0 lb0 lw0 x1 q1 s_.1 s_.2.1 s_.2.2.1 s_.2.2.2.1 s_.2.2.2.2.1 s_.2.2.2.2.2.1 s_.2.2.2.2.2.2.1 s_.2.2.2.2.2.2.2) s = some t → s.2.2.2.2.1 ≤ t.2.2.2.1 ∧ s.2.2.2.2.2.2.1 ≤ t.2.2.2.2.2.1 := by
  intro n
  induction n with
  | zero => intro s t h; exact absurd h kl_0
  | succ n ih =>
    intro s t h
    obtain ⟨y, hq, hx⟩ := kl_s h
    have hq : kX6_sweepOver_s11 F nb0 nw0 bn bT bC bN bW lc0 lb0 lw0 x1 q1 s.1 s.2.1 s.2.2.1 s.2.2.2.1 s.2.2.2.2.1 s.2.2.2.2.2.1 s.2.2.2.2.2.2.1 s.2.2.2.2.2.2.2 = some y := hq
    unfold kX6_sweepOver_s11 at hq
    obtain ⟨_, -, hq⟩ := ob hq
    split at hq
    · have e := kl_exit hq hx
      subst e
      exact ⟨Nat.le_refl _, Nat.le_refl _⟩
    · obtain ⟨q, eq, hq⟩ := ob hq
      have h8 := mo_kX6_sweepOver_s25 eq
      have h9 := ih (kl_back hq hx)
      exact gz_t h8 h9
theorem mo_X6_sweepOver {F : Nat} {bn : Int32} {bk : Int32} {bT : Nat → Int32} {bC : Nat → Int32} {bN : Nat → Int32} {bW : Nat → Int32} {wP : Nat → Int32} {wN : Nat → Int32} {lc0 : Int32} {nb0 : Nat} {lb0 : Nat → Int64} {nw0 : Nat} {lw0 : Nat → Int32} {lc1 : Int32} {nb1 : Nat} {lb1 : Nat → Int64} {nw1 : Nat} {lw1 : Nat → Int32} {x1 : Int32} {r : (Nat → Int32) × (Nat → Int32) × Int32 × Nat × (Nat → Int64) × Nat × (Nat → Int32)} (hq : kX6_sweepOver F bn bk bT bC bN bW wP wN lc0 nb0 lb0 nw0 lw0 lc1 nb1 lb1 nw1 lw1 x1 = some r) : nb1 ≤ r.2.2.2.1 ∧ nw1 ≤ r.2.2.2.2.2.1 := by
  unfold kX6_sweepOver at hq
  obtain ⟨_, -, hq⟩ := ob hq
  obtain ⟨q, eq, hq⟩ := ob hq
  cases hq
  have h9 := mo_kX6_sweepOver_s11 eq
  exact h9

set_option maxHeartbeats 40000000 in
set_option maxRecDepth 100000 in
theorem tX6_sweepOver (G : GG) (l : Launch) {qB qBT qBC qBN qBW qBL qW qWP qWN qL0 qL1 qL0b qL0w qL1b qL1w : Nat} {nb0 : Nat} {nw0 : Nat} {nb1 : Nat} {nw1 : Nat} {bn : Int32} {bk : Int32} {bs : Int32} {bT : Nat → Int32} {bC : Nat → Int32} {bN : Nat → Int32} {bW : Nat → Int32} {wP : Nat → Int32} {wN : Nat → Int32} {lc0 : Int32} {lb0 : Nat → Int64} {lw0 : Nat → Int32} {lc1 : Int32} {lb1 : Nat → Int64} {lw1 : Nat → Int32} {x1 : Int32} {sz : Nat} {F : Nat} {r : (Nat → Int32) × (Nat → Int32) × Int32 × Nat × (Nat → Int64) × Nat × (Nat → Int32)} (hq : kX6_sweepOver F bn bk bT bC bN bW wP wN lc0 nb0 lb0 nw0 lw0 lc1 nb1 lb1 nw1 lw1 x1 = some r) : Met l yX6_sweepOver wsX6_sweepOver ({ frames := 4, cells := gC nb1 r.2.2.2.1, slots := gS nb1 r.2.2.2.1 nw1 r.2.2.2.2.2.1, locals := 155 } : Room) (pcW G [(qB, .inr (0, [.ref qBT, .ref qBC, .ref qBN, .ref qBW, .ref qBL, .int bn, .int bk, .int bs])), (qBT, .inl (G.2.1, 16, .inl bT)), (qBC, .inl (G.2.1, 16, .inl bC)), (qBN, .inl (G.2.1, 64, .inl bN)), (qBW, .inl (G.2.1, 64, .inl bW)), (qW, .inr (6, [.ref qB, .ref qWP, .ref qWN, .ref qL0, .ref qL1])), (qWP, .inl (G.2.1, 12, .inl wP)), (qWN, .inl (G.2.1, 16, .inl wN)), (qL0, .inr (1, [.ref qL0b, .ref qL0w, .int lc0])), (qL0b, .inl (G.2.2.1, nb0, .inr (.inl lb0))), (qL0w, .inl (G.2.1, nw0, .inl lw0)), (qL1, .inr (1, [.ref qL1b, .ref qL1w, .int lc1])), (qL1b, .inl (G.2.2.1, nb1, .inr (.inl lb1))), (qL1w, .inl (G.2.1, nw1, .inl lw1))] sz [.ref qW, .int x1]) (va_Qv (S := Unit) (fun _ => True) (fun _ t => ∃ ga0 ga1 : Nat, va_P G.1 vwCl [(qB, .inr (0, [.ref qBT, .ref qBC, .ref qBN, .ref qBW, .ref qBL, .int bn, .int bk, .int bs])), (qBT, .inl (G.2.1, 16, .inl bT)), (qBC, .inl (G.2.1, 16, .inl bC)), (qBN, .inl (G.2.1, 64, .inl bN)), (qBW, .inl (G.2.1, 64, .inl bW)), (qW, .inr (6, [.ref qB, .ref qWP, .ref qWN, .ref qL0, .ref qL1])), (qWP, .inl (G.2.1, 12, .inl r.1)), (qWN, .inl (G.2.1, 16, .inl r.2.1)), (qL0, .inr (1, [.ref qL0b, .ref qL0w, .int lc0])), (qL0b, .inl (G.2.2.1, nb0, .inr (.inl lb0))), (qL0w, .inl (G.2.1, nw0, .inl lw0)), (qL1, .inr (1, [.ref ga0, .ref ga1, .int r.2.2.1])), (ga0, .inl (G.2.2.1, r.2.2.2.1, .inr (.inl r.2.2.2.2.1))), (ga1, .inl (G.2.1, r.2.2.2.2.2.1, .inl r.2.2.2.2.2.2))] t.heap ∧ va_D (va_A [(qB, .inr (0, [.ref qBT, .ref qBC, .ref qBN, .ref qBW, .ref qBL, .int bn, .int bk, .int bs])), (qBT, .inl (G.2.1, 16, .inl bT)), (qBC, .inl (G.2.1, 16, .inl bC)), (qBN, .inl (G.2.1, 64, .inl bN)), (qBW, .inl (G.2.1, 64, .inl bW)), (qW, .inr (6, [.ref qB, .ref qWP, .ref qWN, .ref qL0, .ref qL1])), (qWP, .inl (G.2.1, 12, .inl wP)), (qWN, .inl (G.2.1, 16, .inl wN)), (qL0, .inr (1, [.ref qL0b, .ref qL0w, .int lc0])), (qL0b, .inl (G.2.2.1, nb0, .inr (.inl lb0))), (qL0w, .inl (G.2.1, nw0, .inl lw0)), (qL1, .inr (1, [.ref qL1b, .ref qL1w, .int lc1])), (qL1b, .inl (G.2.2.1, nb1, .inr (.inl lb1))), (qL1w, .inl (G.2.1, nw1, .inl lw1))] sz) [(qB, .inr (0, [.ref qBT, .ref qBC, .ref qBN, .ref qBW, .ref qBL, .int bn, .int bk, .int bs])), (qBT, .inl (G.2.1, 16, .inl bT)), (qBC, .inl (G.2.1, 16, .inl bC)), (qBN, .inl (G.2.1, 64, .inl bN)), (qBW, .inl (G.2.1, 64, .inl bW)), (qW, .inr (6, [.ref qB, .ref qWP, .ref qWN, .ref qL0, .ref qL1])), (qWP, .inl (G.2.1, 12, .inl r.1)), (qWN, .inl (G.2.1, 16, .inl r.2.1)), (qL0, .inr (1, [.ref qL0b, .ref qL0w, .int lc0])), (qL0b, .inl (G.2.2.1, nb0, .inr (.inl lb0))), (qL0w, .inl (G.2.1, nw0, .inl lw0)), (qL1, .inr (1, [.ref ga0, .ref ga1, .int r.2.2.1])), (ga0, .inl (G.2.2.1, r.2.2.2.1, .inr (.inl r.2.2.2.2.1))), (ga1, .inl (G.2.1, r.2.2.2.2.2.1, .inl r.2.2.2.2.2.2))]) (va_A [(qB, .inr (0, [.ref qBT, .ref qBC, .ref qBN, .ref qBW, .ref qBL, .int bn, .int bk, .int bs])), (qBT, .inl (G.2.1, 16, .inl bT)), (qBC, .inl (G.2.1, 16, .inl bC)), (qBN, .inl (G.2.1, 64, .inl bN)), (qBW, .inl (G.2.1, 64, .inl bW)), (qW, .inr (6, [.ref qB, .ref qWP, .ref qWN, .ref qL0, .ref qL1])), (qWP, .inl (G.2.1, 12, .inl wP)), (qWN, .inl (G.2.1, 16, .inl wN)), (qL0, .inr (1, [.ref qL0b, .ref qL0w, .int lc0])), (qL0b, .inl (G.2.2.1, nb0, .inr (.inl lb0))), (qL0w, .inl (G.2.1, nw0, .inl lw0)), (qL1, .inr (1, [.ref qL1b, .ref qL1w, .int lc1])), (qL1b, .inl (G.2.2.1, nb1, .inr (.inl lb1))), (qL1w, .inl (G.2.1, nw1, .inl lw1))] sz)) (gC nb1 r.2.2.2.1) (gS nb1 r.2.2.2.1 nw1 r.2.2.2.2.2.1) (va_A [(qB, .inr (0, [.ref qBT, .ref qBC, .ref qBN, .ref qBW, .ref qBL, .int bn, .int bk, .int bs])), (qBT, .inl (G.2.1, 16, .inl bT)), (qBC, .inl (G.2.1, 16, .inl bC)), (qBN, .inl (G.2.1, 64, .inl bN)), (qBW, .inl (G.2.1, 64, .inl bW)), (qW, .inr (6, [.ref qB, .ref qWP, .ref qWN, .ref qL0, .ref qL1])), (qWP, .inl (G.2.1, 12, .inl wP)), (qWN, .inl (G.2.1, 16, .inl wN)), (qL0, .inr (1, [.ref qL0b, .ref qL0w, .int lc0])), (qL0b, .inl (G.2.2.1, nb0, .inr (.inl lb0))), (qL0w, .inl (G.2.1, nw0, .inl lw0)), (qL1, .inr (1, [.ref qL1b, .ref qL1w, .int lc1])), (qL1b, .inl (G.2.2.1, nb1, .inr (.inl lb1))), (qL1w, .inl (G.2.1, nw1, .inl lw1))] sz) := by
  refine Met.ofW (cc := cX6_sweepOver) (maxL := 5) (ret := none) (by decide) rfl ?_
  intro p e s m args below meth c s₁ B hml hv
  obtain ⟨rfl, hsz, hP, hKK, hD0⟩ := hv
  have hK := hKK.1
  have hx := B.exec
  have hb := B.bytes
  have hr := B.returns
  have hts := atoms_spec (ws := wsX6_sweepOver) B.pre
  have hown : s.vm.findClass RX6 = some m.cls := findClass_of_methodNamed B.named
  have hlocks := B.notSynchronized
  subst hsz
  have hD := hD0.self (sz := s.heap.size)
  generalize hAe : va_A [(qB, .inr (0, [.ref qBT, .ref qBC, .ref qBN, .ref qBW, .ref qBL, .int bn, .int bk, .int bs])), (qBT, .inl (G.2.1, 16, .inl bT)), (qBC, .inl (G.2.1, 16, .inl bC)), (qBN, .inl (G.2.1, 64, .inl bN)), (qBW, .inl (G.2.1, 64, .inl bW)), (qW, .inr (6, [.ref qB, .ref qWP, .ref qWN, .ref qL0, .ref qL1])), (qWP, .inl (G.2.1, 12, .inl wP)), (qWN, .inl (G.2.1, 16, .inl wN)), (qL0, .inr (1, [.ref qL0b, .ref qL0w, .int lc0])), (qL0b, .inl (G.2.2.1, nb0, .inr (.inl lb0))), (qL0w, .inl (G.2.1, nw0, .inl lw0)), (qL1, .inr (1, [.ref qL1b, .ref qL1w, .int lc1])), (qL1b, .inl (G.2.2.1, nb1, .inr (.inl lb1))), (qL1w, .inl (G.2.1, nw1, .inl lw1))] s.heap.size = A at hD ⊢
  have hA : ∀ q : Nat, s.heap.size ≤ q → A q := fun q h => by rw [← hAe]; exact Or.inr h
  have hS : va_S A s.heap s.heap [] := va_S.rf
  have hl := lv_entry ([.ref qW, .int x1] : List Value) (n := 5) (Nat.le_of_ble_eq_true rfl)
  rw [lg_entry_eq]
  generalize (lg_sl ([.ref qW, .int x1] : List Value) ++ List.replicate (5 - (lg_sl ([.ref qW, .int x1] : List Value)).length) Slot.unset).toArray = ls at hl ⊢
  have hl : lv_has ls 5 [(0, .ref qW), (1, .int x1)] := hl
  have hi6 : ∀ w ∈ u_ws RX6 TX6 5, w ∈ wsX6_sweepOver := by decide +kernel
  have hw0 : (Cond.fieldLink RX6 28 "NetPlumber$Sweep" "board" "LNetPlumber$Board;").before #[Value.ref qW, Value.int x1] s = true := hts _ (by decide +kernel)
  have hw1 : (Cond.fieldLink RX6 21 "NetPlumber$Sweep" "before" "LNetPlumber$BorderList;").before #[Value.ref qW, Value.int x1] s = true := hts _ (by decide +kernel)
  have hw2 : (Cond.initialized RX7).before #[Value.ref qW, Value.int x1] s = true := hts _ (by decide +kernel)
  have hw3 : (Cond.static yX7_holds).before #[Value.ref qW, Value.int x1] s = true := hts _ (by decide +kernel)
  have hw4 : (Cond.static yX7_turned).before #[Value.ref qW, Value.int x1] s = true := hts _ (by decide +kernel)
  have hw5 : (Cond.fieldLink RX6 25 "NetPlumber$Sweep" "after" "LNetPlumber$BorderList;").before #[Value.ref qW, Value.int x1] s = true := hts _ (by decide +kernel)
  refine wq (fun Q hQ => ?_)
  have hfi0 := mo_X6_sweepOver hq
  refine W.widen (k := gC nb1 nb1) (n := gS nb1 nb1 nw1 nw1) (Nat.zero_le _) (Nat.zero_le _) ?_
  have hm := And.intro (Nat.le_refl nb1) (Nat.le_refl nw1)
  have hz := gz hm hfi0
  unfold kX6_sweepOver at hq
  refine lv_aload_n hx hb dX6_sweepOver_0 rfl (lv_at hl 0 rfl) ?_
  refine va_get (D := G.1) (ci := 6) (v := .ref qB) (C := RX6) (T := TX6) (N := 5) hx hb hts hi6 hown hK hP 5 rfl rfl 0 (by decide) hw0 (fun _ h9 => h9) rfl dX6_sweepOver_1 ?_
  refine lv_iload_n hx hb dX6_sweepOver_4 rfl (lv_at hl 1 rfl) ?_
  obtain ⟨q1, eq1, hq⟩ := ob hq
  have hPc := hP.sub (ws' := [(qB, .inr (0, [.ref qBT, .ref qBC, .ref qBN, .ref qBW, .ref qBL, .int bn, .int bk, .int bs])), (qBT, .inl (G.2.1, 16, .inl bT))]) [0, 1] rfl
  have hKc := hK
  refine vp_callSi (va_Run.run (va_runV (As := [.int x1]) (rest := []) ⟨hx, hb, hml, hown, hts⟩ (tX0_ownLays G l eq1) (cwV 1 hts gX6_sweepOver_X0_ownLays rfl rfl rfl (by decide +kernel) ⟨Nat.le_of_ble_eq_true rfl, Nat.le_of_ble_eq_true rfl⟩) ⟨pcP_blind, va_recv hKc hPc (ci := 0) (q0 := 0) rfl rfl, pcP_pre hPc hKK⟩ rfl rfl hl.1 rfl (lv_room (Nat.le_of_ble_eq_true rfl)) dX6_sweepOver_5 ⟨hz.1, hz.2⟩)) (fun r0 hr0 => ?_)
  obtain rfl := hr0
  refine lv_istore_n (lv' := [(2, .int q1), (0, .ref qW), (1, .int x1)]) hx hb dX6_sweepOver_8 rfl hl (by decide) rfl (fun ls hl => ?_)
  refine lv_iconst (v := 0) hx hb dX6_sweepOver_9 (by decide) ?_
  refine lv_istore_n (lv' := [(3, .int 0), (2, .int q1), (0, .ref qW), (1, .int x1)]) hx hb dX6_sweepOver_10 rfl hl (by decide) rfl (fun ls hl => ?_)
  have L11 : ∀ (n : Nat) (s123 : Int32) (s124 : Nat → Int32) (s125 : Nat → Int32) (s126 : Int32) (s127 : Nat) (s128 : Nat → Int64) (s129 : Nat) (s130 : Nat → Int32) (t_11 : (Nat → Int32) × (Nat → Int32) × Int32 × Nat × (Nat → Int64) × Nat × (Nat → Int32)) (ls : Array Slot) (H : Heap) (locs : List Loc) (g131 g132 : Nat), kloop n (fun s_ => kX6_sweepOver_s11 F nb0 nw0 bn bT bC bN bW lc0 lb0 lw0 x1 q1 s_.1 s_.2.1 s_.2.2.1 s_.2.2.2.1 s_.2.2.2.2.1 s_.2.2.2.2.2.1 s_.2.2.2.2.2.2.1 s_.2.2.2.2.2.2.2) (s123, s124, s125, s126, s127, s128, s129, s130) = some t_11 → lv_has ls 5 [(0, .ref qW), (1, .int x1), (2, .int q1), (3, .int s123)] → va_P G.1 vwCl [(qB, .inr (0, [.ref qBT, .ref qBC, .ref qBN, .ref qBW, .ref qBL, .int bn, .int bk, .int bs])), (qBT, .inl (G.2.1, 16, .inl bT)), (qBC, .inl (G.2.1, 16, .inl bC)), (qBN, .inl (G.2.1, 64, .inl bN)), (qBW, .inl (G.2.1, 64, .inl bW)), (qW, .inr (6, [.ref qB, .ref qWP, .ref qWN, .ref qL0, .ref qL1])), (qWP, .inl (G.2.1, 12, .inl s124)), (qWN, .inl (G.2.1, 16, .inl s125)), (qL0, .inr (1, [.ref qL0b, .ref qL0w, .int lc0])), (qL0b, .inl (G.2.2.1, nb0, .inr (.inl lb0))), (qL0w, .inl (G.2.1, nw0, .inl lw0)), (qL1, .inr (1, [.ref g131, .ref g132, .int s126])), (g131, .inl (G.2.2.1, s127, .inr (.inl s128))), (g132, .inl (G.2.1, s129, .inl s130))] H → va_D A [(qB, .inr (0, [.ref qBT, .ref qBC, .ref qBN, .ref qBW, .ref qBL, .int bn, .int bk, .int bs])), (qBT, .inl (G.2.1, 16, .inl bT)), (qBC, .inl (G.2.1, 16, .inl bC)), (qBN, .inl (G.2.1, 64, .inl bN)), (qBW, .inl (G.2.1, 64, .inl bW)), (qW, .inr (6, [.ref qB, .ref qWP, .ref qWN, .ref qL0, .ref qL1])), (qWP, .inl (G.2.1, 12, .inl s124)), (qWN, .inl (G.2.1, 16, .inl s125)), (qL0, .inr (1, [.ref qL0b, .ref qL0w, .int lc0])), (qL0b, .inl (G.2.2.1, nb0, .inr (.inl lb0))), (qL0w, .inl (G.2.1, nw0, .inl lw0)), (qL1, .inr (1, [.ref g131, .ref g132, .int s126])), (g131, .inl (G.2.2.1, s127, .inr (.inl s128))), (g132, .inl (G.2.1, s129, .inl s130))] → va_S A s.heap H locs → (nb1 ≤ s127 ∧ nw1 ≤ s129) → (t_11.2.2.2.1 ≤ r.2.2.2.1 ∧ t_11.2.2.2.2.2.1 ≤ r.2.2.2.2.2.1) → (∀ (ls : Array Slot) (H : Heap) (locs : List Loc) (g131 g132 : Nat), lv_has ls 5 [] → va_P G.1 vwCl [(qB, .inr (0, [.ref qBT, .ref qBC, .ref qBN, .ref qBW, .ref qBL, .int bn, .int bk, .int bs])), (qBT, .inl (G.2.1, 16, .inl bT)), (qBC, .inl (G.2.1, 16, .inl bC)), (qBN, .inl (G.2.1, 64, .inl bN)), (qBW, .inl (G.2.1, 64, .inl bW)), (qW, .inr (6, [.ref qB, .ref qWP, .ref qWN, .ref qL0, .ref qL1])), (qWP, .inl (G.2.1, 12, .inl t_11.1)), (qWN, .inl (G.2.1, 16, .inl t_11.2.1)), (qL0, .inr (1, [.ref qL0b, .ref qL0w, .int lc0])), (qL0b, .inl (G.2.2.1, nb0, .inr (.inl lb0))), (qL0w, .inl (G.2.1, nw0, .inl lw0)), (qL1, .inr (1, [.ref g131, .ref g132, .int t_11.2.2.1])), (g131, .inl (G.2.2.1, t_11.2.2.2.1, .inr (.inl t_11.2.2.2.2.1))), (g132, .inl (G.2.1, t_11.2.2.2.2.2.1, .inl t_11.2.2.2.2.2.2))] H → va_D A [(qB, .inr (0, [.ref qBT, .ref qBC, .ref qBN, .ref qBW, .ref qBL, .int bn, .int bk, .int bs])), (qBT, .inl (G.2.1, 16, .inl bT)), (qBC, .inl (G.2.1, 16, .inl bC)), (qBN, .inl (G.2.1, 64, .inl bN)), (qBW, .inl (G.2.1, 64, .inl bW)), (qW, .inr (6, [.ref qB, .ref qWP, .ref qWN, .ref qL0, .ref qL1])), (qWP, .inl (G.2.1, 12, .inl t_11.1)), (qWN, .inl (G.2.1, 16, .inl t_11.2.1)), (qL0, .inr (1, [.ref qL0b, .ref qL0w, .int lc0])), (qL0b, .inl (G.2.2.1, nb0, .inr (.inl lb0))), (qL0w, .inl (G.2.1, nw0, .inl lw0)), (qL1, .inr (1, [.ref g131, .ref g132, .int t_11.2.2.1])), (g131, .inl (G.2.2.1, t_11.2.2.2.1, .inr (.inl t_11.2.2.2.2.1))), (g132, .inl (G.2.1, t_11.2.2.2.2.2.1, .inl t_11.2.2.2.2.2.2))] → va_S A s.heap H locs → (nb1 ≤ t_11.2.2.2.1 ∧ nw1 ≤ t_11.2.2.2.2.2.1) → W p l e (headSpec wsX6_sweepOver ({ frames := 4, cells := gC nb1 r.2.2.2.1, slots := gS nb1 r.2.2.2.1 nw1 r.2.2.2.2.2.1, locals := 155 } : Room)).room s m ([.ref qW, .int x1] : List Value).toArray below meth c H locs (gC nb1 t_11.2.2.2.1) (gS nb1 t_11.2.2.2.1 nw1 t_11.2.2.2.2.2.1) Q (F0 m 104 ls [])) → W p l e (headSpec wsX6_sweepOver ({ frames := 4, cells := gC nb1 r.2.2.2.1, slots := gS nb1 r.2.2.2.1 nw1 r.2.2.2.2.2.1, locals := 155 } : Room)).room s m ([.ref qW, .int x1] : List Value).toArray below meth c H locs (gC nb1 s127) (gS nb1 s127 nw1 s129) Q (F0 m 11 ls []) := by
    intro n
    induction n with
    | zero => 
      intro s123 s124 s125 s126 s127 s128 s129 s130 t_11 ls H locs g131 g132 hq hl hP hD hS hm hft11 kk11_104
      exact absurd hq kl_0
    | succ n ih11 =>
      intro s123 s124 s125 s126 s127 s128 s129 s130 t_11 ls H locs g131 g132 hq hl hP hD hS hm hft11 kk11_104
      have hfs := mo_kX6_sweepOver_s11 hq
      have hz := gz hm (gz_t hfs hft11)
      obtain ⟨y_11, hq, hx11⟩ := kl_s hq
      have hq : kX6_sweepOver_s11 F nb0 nw0 bn bT bC bN bW lc0 lb0 lw0 x1 q1 s123 s124 s125 s126 s127 s128 s129 s130 = some y_11 := hq
      unfold kX6_sweepOver_s11 at hq
      refine lv_iload_n hx hb dX6_sweepOver_11 rfl (lv_at hl 3 rfl) ?_
      refine lv_aload_n hx hb dX6_sweepOver_12 rfl (lv_at hl 0 rfl) ?_
      refine va_get (D := G.1) (ci := 6) (v := .ref qL0) (C := RX6) (T := TX6) (N := 5) hx hb hts hi6 hown hK hP 5 rfl rfl 3 (by decide) hw1 (fun _ h9 => h9) rfl dX6_sweepOver_13 ?_
      obtain ⟨q133, eq133, hq⟩ := ob hq
      have hPc := hP.sub (ws' := [(qL0, .inr (1, [.ref qL0b, .ref qL0w, .int lc0]))]) [8] rfl
      have hKc := hK
      refine vp_callSi (va_Run.run (va_runV (As := []) (rest := [.int s123]) ⟨hx, hb, hml, hown, hts⟩ (tX1_count G l eq133) (cwV 0 hts gX6_sweepOver_X1_count rfl rfl rfl (by decide +kernel) ⟨Nat.le_of_ble_eq_true rfl, Nat.le_of_ble_eq_true rfl⟩) ⟨pcP_blind, va_recv hKc hPc (ci := 1) (q0 := 0) rfl rfl, pcP_pre hPc hKK⟩ rfl rfl hl.1 rfl (lv_room (Nat.le_of_ble_eq_true rfl)) dX6_sweepOver_16 ⟨hz.1, hz.2⟩)) (fun r0 hr0 => ?_)
      obtain rfl := hr0
      refine lv_icmp_ge (tgt := 104) hx hb dX6_sweepOver_19 (by decide) (fun c_19 => ?_) (fun c_19 => ?_)
      · have hq := k_t c_19 hq
        have et := kl_exit hq hx11
        subst et
        exact kk11_104 ls _ _ _ _ (lv_sub hl [] rfl) hP hD hS hm
      · have hq := k_f c_19 hq
        refine lv_iconst (v := 0) hx hb dX6_sweepOver_22 (by decide) ?_
        refine lv_istore (lv' := [(4, .int 0), (0, .ref qW), (1, .int x1), (2, .int q1), (3, .int s123)]) hx hb dX6_sweepOver_23 hl (by decide) rfl (fun ls hl => ?_)
        have L25 : ∀ (n : Nat) (s188 : Int32) (s189 : Nat → Int32) (s190 : Nat → Int32) (s191 : Int32) (s192 : Nat) (s193 : Nat → Int64) (s194 : Nat) (s195 : Nat → Int32) (t_25 : (Nat → Int32) × (Nat → Int32) × Int32 × Nat × (Nat → Int64) × Nat × (Nat → Int32)) (ls : Array Slot) (H : Heap) (locs : List Loc) (g196 g197 : Nat), kloop n (fun s_ => kX6_sweepOver_s25 F nb0 nw0 bn bT bC bN bW lc0 lb0 lw0 x1 q1 s123 s_.1 s_.2.1 s_.2.2.1 s_.2.2.2.1 s_.2.2.2.2.1 s_.2.2.2.2.2.1 s_.2.2.2.2.2.2.1 s_.2.2.2.2.2.2.2) (s188, s189, s190, s191, s192, s193, s194, s195) = some t_25 → lv_has ls 5 [(0, .ref qW), (1, .int x1), (2, .int q1), (3, .int s123), (4, .int s188)] → va_P G.1 vwCl [(qB, .inr (0, [.ref qBT, .ref qBC, .ref qBN, .ref qBW, .ref qBL, .int bn, .int bk, .int bs])), (qBT, .inl (G.2.1, 16, .inl bT)), (qBC, .inl (G.2.1, 16, .inl bC)), (qBN, .inl (G.2.1, 64, .inl bN)), (qBW, .inl (G.2.1, 64, .inl bW)), (qW, .inr (6, [.ref qB, .ref qWP, .ref qWN, .ref qL0, .ref qL1])), (qWP, .inl (G.2.1, 12, .inl s189)), (qWN, .inl (G.2.1, 16, .inl s190)), (qL0, .inr (1, [.ref qL0b, .ref qL0w, .int lc0])), (qL0b, .inl (G.2.2.1, nb0, .inr (.inl lb0))), (qL0w, .inl (G.2.1, nw0, .inl lw0)), (qL1, .inr (1, [.ref g196, .ref g197, .int s191])), (g196, .inl (G.2.2.1, s192, .inr (.inl s193))), (g197, .inl (G.2.1, s194, .inl s195))] H → va_D A [(qB, .inr (0, [.ref qBT, .ref qBC, .ref qBN, .ref qBW, .ref qBL, .int bn, .int bk, .int bs])), (qBT, .inl (G.2.1, 16, .inl bT)), (qBC, .inl (G.2.1, 16, .inl bC)), (qBN, .inl (G.2.1, 64, .inl bN)), (qBW, .inl (G.2.1, 64, .inl bW)), (qW, .inr (6, [.ref qB, .ref qWP, .ref qWN, .ref qL0, .ref qL1])), (qWP, .inl (G.2.1, 12, .inl s189)), (qWN, .inl (G.2.1, 16, .inl s190)), (qL0, .inr (1, [.ref qL0b, .ref qL0w, .int lc0])), (qL0b, .inl (G.2.2.1, nb0, .inr (.inl lb0))), (qL0w, .inl (G.2.1, nw0, .inl lw0)), (qL1, .inr (1, [.ref g196, .ref g197, .int s191])), (g196, .inl (G.2.2.1, s192, .inr (.inl s193))), (g197, .inl (G.2.1, s194, .inl s195))] → va_S A s.heap H locs → (nb1 ≤ s192 ∧ nw1 ≤ s194) → (t_25.2.2.2.1 ≤ r.2.2.2.1 ∧ t_25.2.2.2.2.2.1 ≤ r.2.2.2.2.2.1) → (∀ (ls : Array Slot) (H : Heap) (locs : List Loc) (g196 g197 : Nat), lv_has ls 5 [(0, .ref qW), (1, .int x1), (2, .int q1), (3, .int s123)] → va_P G.1 vwCl [(qB, .inr (0, [.ref qBT, .ref qBC, .ref qBN, .ref qBW, .ref qBL, .int bn, .int bk, .int bs])), (qBT, .inl (G.2.1, 16, .inl bT)), (qBC, .inl (G.2.1, 16, .inl bC)), (qBN, .inl (G.2.1, 64, .inl bN)), (qBW, .inl (G.2.1, 64, .inl bW)), (qW, .inr (6, [.ref qB, .ref qWP, .ref qWN, .ref qL0, .ref qL1])), (qWP, .inl (G.2.1, 12, .inl t_25.1)), (qWN, .inl (G.2.1, 16, .inl t_25.2.1)), (qL0, .inr (1, [.ref qL0b, .ref qL0w, .int lc0])), (qL0b, .inl (G.2.2.1, nb0, .inr (.inl lb0))), (qL0w, .inl (G.2.1, nw0, .inl lw0)), (qL1, .inr (1, [.ref g196, .ref g197, .int t_25.2.2.1])), (g196, .inl (G.2.2.1, t_25.2.2.2.1, .inr (.inl t_25.2.2.2.2.1))), (g197, .inl (G.2.1, t_25.2.2.2.2.2.1, .inl t_25.2.2.2.2.2.2))] H → va_D A [(qB, .inr (0, [.ref qBT, .ref qBC, .ref qBN, .ref qBW, .ref qBL, .int bn, .int bk, .int bs])), (qBT, .inl (G.2.1, 16, .inl bT)), (qBC, .inl (G.2.1, 16, .inl bC)), (qBN, .inl (G.2.1, 64, .inl bN)), (qBW, .inl (G.2.1, 64, .inl bW)), (qW, .inr (6, [.ref qB, .ref qWP, .ref qWN, .ref qL0, .ref qL1])), (qWP, .inl (G.2.1, 12, .inl t_25.1)), (qWN, .inl (G.2.1, 16, .inl t_25.2.1)), (qL0, .inr (1, [.ref qL0b, .ref qL0w, .int lc0])), (qL0b, .inl (G.2.2.1, nb0, .inr (.inl lb0))), (qL0w, .inl (G.2.1, nw0, .inl lw0)), (qL1, .inr (1, [.ref g196, .ref g197, .int t_25.2.2.1])), (g196, .inl (G.2.2.1, t_25.2.2.2.1, .inr (.inl t_25.2.2.2.2.1))), (g197, .inl (G.2.1, t_25.2.2.2.2.2.1, .inl t_25.2.2.2.2.2.2))] → va_S A s.heap H locs → (nb1 ≤ t_25.2.2.2.1 ∧ nw1 ≤ t_25.2.2.2.2.2.1) → W p l e (headSpec wsX6_sweepOver ({ frames := 4, cells := gC nb1 r.2.2.2.1, slots := gS nb1 r.2.2.2.1 nw1 r.2.2.2.2.2.1, locals := 155 } : Room)).room s m ([.ref qW, .int x1] : List Value).toArray below meth c H locs (gC nb1 t_25.2.2.2.1) (gS nb1 t_25.2.2.2.1 nw1 t_25.2.2.2.2.2.1) Q (F0 m 98 ls [])) → W p l e (headSpec wsX6_sweepOver ({ frames := 4, cells := gC nb1 r.2.2.2.1, slots := gS nb1 r.2.2.2.1 nw1 r.2.2.2.2.2.1, locals := 155 } : Room)).room s m ([.ref qW, .int x1] : List Value).toArray below meth c H locs (gC nb1 s192) (gS nb1 s192 nw1 s194) Q (F0 m 25 ls []) := by
          intro n
          induction n with
          | zero => 
            intro s188 s189 s190 s191 s192 s193 s194 s195 t_25 ls H locs g196 g197 hq hl hP hD hS hm hft25 kk25_98
            exact absurd hq kl_0
          | succ n ih25 =>
            intro s188 s189 s190 s191 s192 s193 s194 s195 t_25 ls H locs g196 g197 hq hl hP hD hS hm hft25 kk25_98
            have hfs := mo_kX6_sweepOver_s25 hq
            have hz := gz hm (gz_t hfs hft25)
            obtain ⟨y_25, hq, hx25⟩ := kl_s hq
            have hq : kX6_sweepOver_s25 F nb0 nw0 bn bT bC bN bW lc0 lb0 lw0 x1 q1 s123 s188 s189 s190 s191 s192 s193 s194 s195 = some y_25 := hq
            unfold kX6_sweepOver_s25 at hq
            refine lv_iload hx hb dX6_sweepOver_25 (lv_at hl 4 rfl) ?_
            refine lv_iconst (v := 4) hx hb dX6_sweepOver_27 (by decide) ?_
            refine lv_icmp_ge (tgt := 98) hx hb dX6_sweepOver_28 (by decide) (fun c_28 => ?_) (fun c_28 => ?_)
            · have hq := k_t c_28 hq
              have et := kl_exit hq hx25
              subst et
              exact kk25_98 ls _ _ _ _ (lv_sub hl [0, 1, 2, 3] rfl) hP hD hS hm
            · have hq := k_f c_28 hq
              refine lv_iload_n hx hb dX6_sweepOver_31 rfl (lv_at hl 2 rfl) ?_
              refine lv_iload hx hb dX6_sweepOver_32 (lv_at hl 4 rfl) ?_
              obtain ⟨q198, eq198, hq⟩ := ob hq
              have hPc := hP.sub (ws' := []) [] rfl
              refine vp_callSi (va_Run.run (va_runSN (As := [.int q1, .int s188]) (rest := []) ⟨hx, hb, hml, hown, hts⟩ (tX7_holds G l eq198) ⟨va_cnB 2 hts gX6_sweepOver_X7_holds_n57 rfl rfl rfl (hKK.2 _ (List.mem_of_getElem? (i := 17) rfl)) hw2 (by decide +kernel) ⟨Nat.le_of_ble_eq_true rfl, Nat.le_of_ble_eq_true rfl⟩, hw3, trivial⟩ ⟨pcP_blind, pcP_pre hPc hKK⟩ rfl rfl hl.1 rfl (lv_room (Nat.le_of_ble_eq_true rfl)) dX6_sweepOver_34 ⟨hz.1, hz.2⟩)) (fun r0 hr0 => ?_)
              obtain rfl := hr0
              refine lv_if_eq (tgt := 92) hx hb dX6_sweepOver_37 (by decide) (fun c_37 => ?_) (fun c_37 => ?_)
              · have hq := k_t c_37 hq
                refine lv_iinc (v := (s188 + 1)) (lv' := [(4, .int (s188 + 1)), (0, .ref qW), (1, .int x1), (2, .int q1), (3, .int s123)]) hx hb dX6_sweepOver_92 hl (k := 4) rfl rfl (by decide) rfl (fun ls hl => ?_)
                refine lv_goto (tgt := 25) hx hb dX6_sweepOver_95 (by decide) ?_
                exact ih25 (s188 + 1) s189 s190 s191 s192 s193 s194 s195 t_25 ls _ _ _ _ (kl_back hq hx25) (lv_sub hl [1, 2, 3, 4, 0] rfl) hP hD hS hm hft25 kk25_98
              · have hq := k_f c_37 hq
                refine lv_aload_n hx hb dX6_sweepOver_40 rfl (lv_at hl 0 rfl) ?_
                refine lv_aload_n hx hb dX6_sweepOver_41 rfl (lv_at hl 0 rfl) ?_
                refine va_get (D := G.1) (ci := 6) (v := .ref qL0) (C := RX6) (T := TX6) (N := 5) hx hb hts hi6 hown hK hP 5 rfl rfl 3 (by decide) hw1 (fun _ h9 => h9) rfl dX6_sweepOver_42 ?_
                refine lv_iload_n hx hb dX6_sweepOver_45 rfl (lv_at hl 3 rfl) ?_
                obtain ⟨q218, eq218, hq⟩ := ob hq
                have hPc := hP.sub (ws' := [(qL0, .inr (1, [.ref qL0b, .ref qL0w, .int lc0])), (qL0b, .inl (G.2.2.1, nb0, .inr (.inl lb0)))]) [8, 9] rfl
                have hKc := hK
                refine vp_callSl (va_Run.run (va_runV (As := [.int s123]) (rest := [.ref qW]) ⟨hx, hb, hml, hown, hts⟩ (tX1_borderAt G l eq218) (cwV 1 hts gX6_sweepOver_X1_borderAt rfl rfl rfl (by decide +kernel) ⟨Nat.le_of_ble_eq_true rfl, Nat.le_of_ble_eq_true rfl⟩) ⟨pcP_blind, va_recv hKc hPc (ci := 1) (q0 := 0) rfl rfl, pcP_pre hPc hKK⟩ rfl rfl hl.1 rfl (lv_room (Nat.le_of_ble_eq_true rfl)) dX6_sweepOver_46 ⟨hz.1, hz.2⟩)) (fun r0 hr0 => ?_)
                obtain rfl := hr0
                obtain ⟨q219, eq219, hq⟩ := ob hq
                have hPc := hP.sub (ws' := [(qW, .inr (6, [.ref qB, .ref qWP, .ref qWN, .ref qL0, .ref qL1])), (qWP, .inl (G.2.1, 12, .inl s189))]) [5, 6] rfl
                have hKc := hK
                have hDc := hD.sub (ws' := [(qW, .inr (6, [.ref qB, .ref qWP, .ref qWN, .ref qL0, .ref qL1])), (qWP, .inl (G.2.1, 12, .inl s189))]) [5, 6] (by decide) rfl
                have hFc := va_free (wc := [(qW, .inr (6, [.ref qB, .ref qWP, .ref qWN, .ref qL0, .ref qL1])), (qWP, .inl (G.2.1, 12, .inl s189))]) hD hS hA [5, 6] rfl
                refine va_callv (va_runV (As := [.long q218]) (rest := []) ⟨hx, hb, hml, hown, hts⟩ (tX6_unpack G l eq219) (cwV 1 hts gX6_sweepOver_X6_unpack rfl rfl rfl (by decide +kernel) ⟨Nat.le_of_ble_eq_true rfl, Nat.le_of_ble_eq_true rfl⟩) ⟨pcW_blind, va_recv hKc hPc (ci := 6) (q0 := 0) rfl rfl, pcW_pre hPc hKK hDc⟩ rfl rfl hl.1 rfl (lv_room (Nat.le_of_ble_eq_true rfl)) dX6_sweepOver_49 ⟨hz.1, hz.2⟩) hS (fun q _ h => hFc q h) hFc (fun u t H1 locs ht hvm hw hB hz1 hk1 hS => ?_)
                have hB := va_Pto ht hB
                obtain ⟨hP, hD⟩ := jn (ws' := [(qB, .inr (0, [.ref qBT, .ref qBC, .ref qBN, .ref qBW, .ref qBL, .int bn, .int bk, .int bs])), (qBT, .inl (G.2.1, 16, .inl bT)), (qBC, .inl (G.2.1, 16, .inl bC)), (qBN, .inl (G.2.1, 64, .inl bN)), (qBW, .inl (G.2.1, 64, .inl bW)), (qW, .inr (6, [.ref qB, .ref qWP, .ref qWN, .ref qL0, .ref qL1])), (qWP, .inl (G.2.1, 12, .inl q219)), (qWN, .inl (G.2.1, 16, .inl s190)), (qL0, .inr (1, [.ref qL0b, .ref qL0w, .int lc0])), (qL0b, .inl (G.2.2.1, nb0, .inr (.inl lb0))), (qL0w, .inl (G.2.1, nw0, .inl lw0)), (qL1, .inr (1, [.ref g196, .ref g197, .int s191])), (g196, .inl (G.2.2.1, s192, .inr (.inl s193))), (g197, .inl (G.2.1, s194, .inl s195))]) hP hD hk1 hB [5, 6] rfl rfl rfl rfl
                generalize H1 = H at hP hS ⊢
                refine lv_aload_n hx hb dX6_sweepOver_52 rfl (lv_at hl 0 rfl) ?_
                refine lv_iload_n hx hb dX6_sweepOver_53 rfl (lv_at hl 1 rfl) ?_
                refine lv_aload_n hx hb dX6_sweepOver_54 rfl (lv_at hl 0 rfl) ?_
                refine va_get (D := G.1) (ci := 6) (v := .ref qB) (C := RX6) (T := TX6) (N := 5) hx hb hts hi6 hown hK hP 5 rfl rfl 0 (by decide) hw0 (fun _ h9 => h9) rfl dX6_sweepOver_55 ?_
                refine lv_iload_n hx hb dX6_sweepOver_58 rfl (lv_at hl 1 rfl) ?_
                obtain ⟨q220, eq220, hq⟩ := ob hq
                have hPc := hP.sub (ws' := [(qB, .inr (0, [.ref qBT, .ref qBC, .ref qBN, .ref qBW, .ref qBL, .int bn, .int bk, .int bs])), (qBT, .inl (G.2.1, 16, .inl bT))]) [0, 1] rfl
                have hKc := hK
                refine vp_callSi (va_Run.run (va_runV (As := [.int x1]) (rest := [.int x1, .ref qW]) ⟨hx, hb, hml, hown, hts⟩ (tX0_sidesOf G l eq220) (cwV 1 hts gX6_sweepOver_X0_sidesOf rfl rfl rfl (by decide +kernel) ⟨Nat.le_of_ble_eq_true rfl, Nat.le_of_ble_eq_true rfl⟩) ⟨pcP_blind, va_recv hKc hPc (ci := 0) (q0 := 0) rfl rfl, pcP_pre hPc hKK⟩ rfl rfl hl.1 rfl (lv_room (Nat.le_of_ble_eq_true rfl)) dX6_sweepOver_59 ⟨hz.1, hz.2⟩)) (fun r0 hr0 => ?_)
                obtain rfl := hr0
                refine lv_iload hx hb dX6_sweepOver_62 (lv_at hl 4 rfl) ?_
                obtain ⟨q221, eq221, hq⟩ := ob hq
                have hPc := hP.sub (ws' := []) [] rfl
                refine vp_callSi (va_Run.run (va_runSN (As := [.int q220, .int s188]) (rest := [.int x1, .ref qW]) ⟨hx, hb, hml, hown, hts⟩ (tX7_turned G l eq221) ⟨va_cnB 2 hts gX6_sweepOver_X7_turned_n72 rfl rfl rfl (hKK.2 _ (List.mem_of_getElem? (i := 18) rfl)) hw2 (by decide +kernel) ⟨Nat.le_of_ble_eq_true rfl, Nat.le_of_ble_eq_true rfl⟩, hw4, trivial⟩ ⟨pcP_blind, pcP_pre hPc hKK⟩ rfl rfl hl.1 rfl (lv_room (Nat.le_of_ble_eq_true rfl)) dX6_sweepOver_64 ⟨hz.1, hz.2⟩)) (fun r0 hr0 => ?_)
                obtain rfl := hr0
                obtain ⟨q222, eq222, hq⟩ := ob hq
                have hPc := hP.sub (ws' := [(qB, .inr (0, [.ref qBT, .ref qBC, .ref qBN, .ref qBW, .ref qBL, .int bn, .int bk, .int bs])), (qBC, .inl (G.2.1, 16, .inl bC)), (qBN, .inl (G.2.1, 64, .inl bN)), (qBW, .inl (G.2.1, 64, .inl bW)), (qW, .inr (6, [.ref qB, .ref qWP, .ref qWN, .ref qL0, .ref qL1])), (qWP, .inl (G.2.1, 12, .inl q219))]) [0, 2, 3, 4, 5, 6] rfl
                have hKc := hK
                have hDc := hD.sub (ws' := [(qB, .inr (0, [.ref qBT, .ref qBC, .ref qBN, .ref qBW, .ref qBL, .int bn, .int bk, .int bs])), (qBC, .inl (G.2.1, 16, .inl bC)), (qBN, .inl (G.2.1, 64, .inl bN)), (qBW, .inl (G.2.1, 64, .inl bW)), (qW, .inr (6, [.ref qB, .ref qWP, .ref qWN, .ref qL0, .ref qL1])), (qWP, .inl (G.2.1, 12, .inl q219))]) [0, 2, 3, 4, 5, 6] (by decide) rfl
                have hFc := va_free (wc := [(qB, .inr (0, [.ref qBT, .ref qBC, .ref qBN, .ref qBW, .ref qBL, .int bn, .int bk, .int bs])), (qBC, .inl (G.2.1, 16, .inl bC)), (qBN, .inl (G.2.1, 64, .inl bN)), (qBW, .inl (G.2.1, 64, .inl bW)), (qW, .inr (6, [.ref qB, .ref qWP, .ref qWN, .ref qL0, .ref qL1])), (qWP, .inl (G.2.1, 12, .inl q219))]) hD hS hA [0, 2, 3, 4, 5, 6] rfl
                refine va_calli (va_runV (As := [.int x1, .int q221]) (rest := []) ⟨hx, hb, hml, hown, hts⟩ (tX6_pass G l eq222) (cwV 2 hts gX6_sweepOver_X6_pass rfl rfl rfl (by decide +kernel) ⟨Nat.le_of_ble_eq_true rfl, Nat.le_of_ble_eq_true rfl⟩) ⟨pcW_blind, va_recv hKc hPc (ci := 6) (q0 := 4) rfl rfl, pcW_pre hPc hKK hDc⟩ rfl rfl hl.1 rfl (lv_room (Nat.le_of_ble_eq_true rfl)) dX6_sweepOver_67 ⟨hz.1, hz.2⟩) hS (fun q _ h => hFc q h) hFc (fun r0 u t H1 locs ht hvm hw hB hz1 hk1 hS => ?_)
                obtain rfl := hw
                have hB := va_Pto ht hB
                obtain ⟨hP, hD⟩ := jn (ws' := [(qB, .inr (0, [.ref qBT, .ref qBC, .ref qBN, .ref qBW, .ref qBL, .int bn, .int bk, .int bs])), (qBT, .inl (G.2.1, 16, .inl bT)), (qBC, .inl (G.2.1, 16, .inl bC)), (qBN, .inl (G.2.1, 64, .inl bN)), (qBW, .inl (G.2.1, 64, .inl bW)), (qW, .inr (6, [.ref qB, .ref qWP, .ref qWN, .ref qL0, .ref qL1])), (qWP, .inl (G.2.1, 12, .inl q222.2)), (qWN, .inl (G.2.1, 16, .inl s190)), (qL0, .inr (1, [.ref qL0b, .ref qL0w, .int lc0])), (qL0b, .inl (G.2.2.1, nb0, .inr (.inl lb0))), (qL0w, .inl (G.2.1, nw0, .inl lw0)), (qL1, .inr (1, [.ref g196, .ref g197, .int s191])), (g196, .inl (G.2.2.1, s192, .inr (.inl s193))), (g197, .inl (G.2.1, s194, .inl s195))]) hP hD hk1 hB [0, 2, 3, 4, 5, 6] rfl rfl rfl rfl
                generalize H1 = H at hP hS ⊢
                refine lv_if_eq (tgt := 92) hx hb dX6_sweepOver_70 (by decide) (fun c_70 => ?_) (fun c_70 => ?_)
                · have hq := k_t c_70 hq
                  refine lv_iinc (v := (s188 + 1)) (lv' := [(4, .int (s188 + 1)), (0, .ref qW), (1, .int x1), (2, .int q1), (3, .int s123)]) hx hb dX6_sweepOver_92 hl (k := 4) rfl rfl (by decide) rfl (fun ls hl => ?_)
                  refine lv_goto (tgt := 25) hx hb dX6_sweepOver_95 (by decide) ?_
                  exact ih25 (s188 + 1) q222.2 s190 s191 s192 s193 s194 s195 t_25 ls _ _ _ _ (kl_back hq hx25) (lv_sub hl [1, 2, 3, 4, 0] rfl) hP hD hS hm hft25 kk25_98
                · have hq := k_f c_70 hq
                  refine lv_aload_n hx hb dX6_sweepOver_73 rfl (lv_at hl 0 rfl) ?_
                  refine va_get (D := G.1) (ci := 6) (v := .ref qL1) (C := RX6) (T := TX6) (N := 5) hx hb hts hi6 hown hK hP 5 rfl rfl 4 (by decide) hw5 (fun _ h9 => h9) rfl dX6_sweepOver_74 ?_
                  refine lv_aload_n hx hb dX6_sweepOver_77 rfl (lv_at hl 0 rfl) ?_
                  obtain ⟨q236, eq236, hq⟩ := ob hq
                  have hPc := hP.sub (ws' := [(qW, .inr (6, [.ref qB, .ref qWP, .ref qWN, .ref qL0, .ref qL1])), (qWP, .inl (G.2.1, 12, .inl q222.2)), (qWN, .inl (G.2.1, 16, .inl s190))]) [5, 6, 7] rfl
                  have hKc := hK
                  have hDc := hD.sub (ws' := [(qW, .inr (6, [.ref qB, .ref qWP, .ref qWN, .ref qL0, .ref qL1])), (qWP, .inl (G.2.1, 12, .inl q222.2)), (qWN, .inl (G.2.1, 16, .inl s190))]) [5, 6, 7] (by decide) rfl
                  have hFc := va_free (wc := [(qW, .inr (6, [.ref qB, .ref qWP, .ref qWN, .ref qL0, .ref qL1])), (qWP, .inl (G.2.1, 12, .inl q222.2)), (qWN, .inl (G.2.1, 16, .inl s190))]) hD hS hA [5, 6, 7] rfl
                  refine va_calll (va_runV (As := []) (rest := [.ref qL1]) ⟨hx, hb, hml, hown, hts⟩ (tX6_pack G l eq236) (cwV 0 hts gX6_sweepOver_X6_pack rfl rfl rfl (by decide +kernel) ⟨Nat.le_of_ble_eq_true rfl, Nat.le_of_ble_eq_true rfl⟩) ⟨pcW_blind, va_recv hKc hPc (ci := 6) (q0 := 0) rfl rfl, pcW_pre hPc hKK hDc⟩ rfl rfl hl.1 rfl (lv_room (Nat.le_of_ble_eq_true rfl)) dX6_sweepOver_78 ⟨hz.1, hz.2⟩) hS (fun q _ h => hFc q h) hFc (fun r0 u t H1 locs ht hvm hw hB hz1 hk1 hS => ?_)
                  obtain rfl := hw
                  have hB := va_Pto ht hB
                  obtain ⟨hP, hD⟩ := jn (ws' := [(qB, .inr (0, [.ref qBT, .ref qBC, .ref qBN, .ref qBW, .ref qBL, .int bn, .int bk, .int bs])), (qBT, .inl (G.2.1, 16, .inl bT)), (qBC, .inl (G.2.1, 16, .inl bC)), (qBN, .inl (G.2.1, 64, .inl bN)), (qBW, .inl (G.2.1, 64, .inl bW)), (qW, .inr (6, [.ref qB, .ref qWP, .ref qWN, .ref qL0, .ref qL1])), (qWP, .inl (G.2.1, 12, .inl q222.2)), (qWN, .inl (G.2.1, 16, .inl q236.2)), (qL0, .inr (1, [.ref qL0b, .ref qL0w, .int lc0])), (qL0b, .inl (G.2.2.1, nb0, .inr (.inl lb0))), (qL0w, .inl (G.2.1, nw0, .inl lw0)), (qL1, .inr (1, [.ref g196, .ref g197, .int s191])), (g196, .inl (G.2.2.1, s192, .inr (.inl s193))), (g197, .inl (G.2.1, s194, .inl s195))]) hP hD hk1 hB [5, 6, 7] rfl rfl rfl rfl
                  generalize H1 = H at hP hS ⊢
                  refine lv_aload_n hx hb dX6_sweepOver_81 rfl (lv_at hl 0 rfl) ?_
                  refine va_get (D := G.1) (ci := 6) (v := .ref qL0) (C := RX6) (T := TX6) (N := 5) hx hb hts hi6 hown hK hP 5 rfl rfl 3 (by decide) hw1 (fun _ h9 => h9) rfl dX6_sweepOver_82 ?_
                  refine lv_iload_n hx hb dX6_sweepOver_85 rfl (lv_at hl 3 rfl) ?_
                  obtain ⟨q237, eq237, hq⟩ := ob hq
                  have hPc := hP.sub (ws' := [(qL0, .inr (1, [.ref qL0b, .ref qL0w, .int lc0])), (qL0w, .inl (G.2.1, nw0, .inl lw0))]) [8, 10] rfl
                  have hKc := hK
                  refine vp_callSi (va_Run.run (va_runV (As := [.int s123]) (rest := [.long q236.1, .ref qL1]) ⟨hx, hb, hml, hown, hts⟩ (tX1_waysAt G l eq237) (cwV 1 hts gX6_sweepOver_X1_waysAt rfl rfl rfl (by decide +kernel) ⟨Nat.le_of_ble_eq_true rfl, Nat.le_of_ble_eq_true rfl⟩) ⟨pcP_blind, va_recv hKc hPc (ci := 1) (q0 := 0) rfl rfl, pcP_pre hPc hKK⟩ rfl rfl hl.1 rfl (lv_room (Nat.le_of_ble_eq_true rfl)) dX6_sweepOver_86 ⟨hz.1, hz.2⟩)) (fun r0 hr0 => ?_)
                  obtain rfl := hr0
                  obtain ⟨q238, eq238, hq⟩ := ob hq
                  have hPc := hP.sub (ws' := [(qL1, .inr (1, [.ref g196, .ref g197, .int s191])), (g196, .inl (G.2.2.1, s192, .inr (.inl s193))), (g197, .inl (G.2.1, s194, .inl s195))]) [11, 12, 13] rfl
                  have hKc := hK
                  have hDc := hD.sub (ws' := [(qL1, .inr (1, [.ref g196, .ref g197, .int s191])), (g196, .inl (G.2.2.1, s192, .inr (.inl s193))), (g197, .inl (G.2.1, s194, .inl s195))]) [11, 12, 13] (by decide) rfl
                  have hFc := va_free (wc := [(qL1, .inr (1, [.ref g196, .ref g197, .int s191])), (g196, .inl (G.2.2.1, s192, .inr (.inl s193))), (g197, .inl (G.2.1, s194, .inl s195))]) hD hS hA [11, 12, 13] rfl
                  have hmo := mo_X1_add eq238
                  have hfi : q238.2.1 ≤ r.2.2.2.1 ∧ q238.2.2.2.1 ≤ r.2.2.2.2.2.1 := by
                    have h9 := mo_kX6_sweepOver_s25 (kl_back hq hx25)
                    exact gz_t h9 hft25
                  refine va_callv (va_runV (As := [.long q236.1, .int q237]) (rest := []) ⟨hx, hb, hml, hown, hts⟩ (tX1_add G l eq238) (cwV 2 hts gX6_sweepOver_X1_add rfl rfl rfl (by decide +kernel) ⟨Nat.le_of_ble_eq_true rfl, Nat.le_of_ble_eq_true rfl⟩) ⟨pcW_blind, va_recv hKc hPc (ci := 1) (q0 := 0) rfl rfl, pcW_pre hPc hKK hDc⟩ rfl rfl hl.1 rfl (lv_room (Nat.le_of_ble_eq_true rfl)) dX6_sweepOver_89 ⟨gz_c hm hmo hfi, gz_s hm hmo hfi⟩) hS (fun q _ h => hFc q h) hFc (fun u t H1 locs ht hvm hw hB hz1 hk1 hS => ?_)
                  obtain ⟨g239, g240, hB, hBD⟩ := hB
                  have hB := va_Pto ht hB
                  obtain ⟨hP, hD⟩ := va_join (wr := [(qB, .inr (0, [.ref qBT, .ref qBC, .ref qBN, .ref qBW, .ref qBL, .int bn, .int bk, .int bs])), (qBT, .inl (G.2.1, 16, .inl bT)), (qBC, .inl (G.2.1, 16, .inl bC)), (qBN, .inl (G.2.1, 64, .inl bN)), (qBW, .inl (G.2.1, 64, .inl bW)), (qW, .inr (6, [.ref qB, .ref qWP, .ref qWN, .ref qL0, .ref qL1])), (qWP, .inl (G.2.1, 12, .inl q222.2)), (qWN, .inl (G.2.1, 16, .inl q236.2)), (qL0, .inr (1, [.ref qL0b, .ref qL0w, .int lc0])), (qL0b, .inl (G.2.2.1, nb0, .inr (.inl lb0))), (qL0w, .inl (G.2.1, nw0, .inl lw0))]) (w1 := [(qL1, .inr (1, [.ref g239, .ref g240, .int q238.1])), (g239, .inl (G.2.2.1, q238.2.1, .inr (.inl q238.2.2.1))), (g240, .inl (G.2.1, q238.2.2.2.1, .inl q238.2.2.2.2))]) hP hD [11, 12, 13] [0, 1, 2, 3, 4, 5, 6, 7, 8, 9, 10] rfl rfl (by decide) (by decide) hk1 hFc hB hBD
                  generalize H1 = H at hP hS ⊢
                  have hP := hP.sub (ws' := [(qB, .inr (0, [.ref qBT, .ref qBC, .ref qBN, .ref qBW, .ref qBL, .int bn, .int bk, .int bs])), (qBT, .inl (G.2.1, 16, .inl bT)), (qBC, .inl (G.2.1, 16, .inl bC)), (qBN, .inl (G.2.1, 64, .inl bN)), (qBW, .inl (G.2.1, 64, .inl bW)), (qW, .inr (6, [.ref qB, .ref qWP, .ref qWN, .ref qL0, .ref qL1])), (qWP, .inl (G.2.1, 12, .inl q222.2)), (qWN, .inl (G.2.1, 16, .inl q236.2)), (qL0, .inr (1, [.ref qL0b, .ref qL0w, .int lc0])), (qL0b, .inl (G.2.2.1, nb0, .inr (.inl lb0))), (qL0w, .inl (G.2.1, nw0, .inl lw0)), (qL1, .inr (1, [.ref g239, .ref g240, .int q238.1])), (g239, .inl (G.2.2.1, q238.2.1, .inr (.inl q238.2.2.1))), (g240, .inl (G.2.1, q238.2.2.2.1, .inl q238.2.2.2.2))]) [0, 1, 2, 3, 4, 5, 6, 7, 8, 9, 10, 11, 12, 13] rfl
                  have hD := hD.sub (ws' := [(qB, .inr (0, [.ref qBT, .ref qBC, .ref qBN, .ref qBW, .ref qBL, .int bn, .int bk, .int bs])), (qBT, .inl (G.2.1, 16, .inl bT)), (qBC, .inl (G.2.1, 16, .inl bC)), (qBN, .inl (G.2.1, 64, .inl bN)), (qBW, .inl (G.2.1, 64, .inl bW)), (qW, .inr (6, [.ref qB, .ref qWP, .ref qWN, .ref qL0, .ref qL1])), (qWP, .inl (G.2.1, 12, .inl q222.2)), (qWN, .inl (G.2.1, 16, .inl q236.2)), (qL0, .inr (1, [.ref qL0b, .ref qL0w, .int lc0])), (qL0b, .inl (G.2.2.1, nb0, .inr (.inl lb0))), (qL0w, .inl (G.2.1, nw0, .inl lw0)), (qL1, .inr (1, [.ref g239, .ref g240, .int q238.1])), (g239, .inl (G.2.2.1, q238.2.1, .inr (.inl q238.2.2.1))), (g240, .inl (G.2.1, q238.2.2.2.1, .inl q238.2.2.2.2))]) [0, 1, 2, 3, 4, 5, 6, 7, 8, 9, 10, 11, 12, 13] (by decide) rfl
                  refine W.widen (k := (gC nb1 q238.2.1)) (n := (gS nb1 q238.2.1 nw1 q238.2.2.2.1)) (gC_add hm.1 hmo.1) (gS_add hm hmo) ?_
                  have hm : nb1 ≤ q238.2.1 ∧ nw1 ≤ q238.2.2.2.1 := ⟨Nat.le_trans hm.1 hmo.1, Nat.le_trans hm.2 hmo.2⟩
                  have hz := gz hm hfi
                  refine lv_iinc (v := (s188 + 1)) (lv' := [(4, .int (s188 + 1)), (0, .ref qW), (1, .int x1), (2, .int q1), (3, .int s123)]) hx hb dX6_sweepOver_92 hl (k := 4) rfl rfl (by decide) rfl (fun ls hl => ?_)
                  refine lv_goto (tgt := 25) hx hb dX6_sweepOver_95 (by decide) ?_
                  exact ih25 (s188 + 1) q222.2 q236.2 q238.1 q238.2.1 q238.2.2.1 q238.2.2.2.1 q238.2.2.2.2 t_25 ls _ _ _ _ (kl_back hq hx25) (lv_sub hl [1, 2, 3, 4, 0] rfl) hP hD hS hm hft25 kk25_98
        obtain ⟨q241, eq241, hq⟩ := ob hq
        have hft : (q241.2.2.2.1 ≤ r.2.2.2.1 ∧ q241.2.2.2.2.2.1 ≤ r.2.2.2.2.2.1) := by
          have h9 := mo_kX6_sweepOver_s11 (kl_back hq hx11)
          exact gz_t h9 hft11
        refine L25 F 0 s124 s125 s126 s127 s128 s129 s130 q241 ls _ _ _ _ (eq241) (lv_sub hl [1, 2, 3, 4, 0] rfl) hP hD hS hm hft (fun ls H locs g242 g243 hl hP hD hS hm => ?_)
        · have hz := gz hm hft
          refine lv_iinc (v := (s123 + 1)) (lv' := [(3, .int (s123 + 1)), (0, .ref qW), (1, .int x1), (2, .int q1)]) hx hb dX6_sweepOver_98 hl (k := 3) rfl rfl (by decide) rfl (fun ls hl => ?_)
          refine lv_goto (tgt := 11) hx hb dX6_sweepOver_101 (by decide) ?_
          exact ih11 (s123 + 1) q241.1 q241.2.1 q241.2.2.1 q241.2.2.2.1 q241.2.2.2.2.1 q241.2.2.2.2.2.1 q241.2.2.2.2.2.2 t_11 ls _ _ _ _ (kl_back hq hx11) (lv_sub hl [1, 2, 3, 0] rfl) hP hD hS hm hft11 kk11_104
  obtain ⟨q244, eq244, hq⟩ := ob hq
  have hft : (q244.2.2.2.1 ≤ r.2.2.2.1 ∧ q244.2.2.2.2.2.1 ≤ r.2.2.2.2.2.1) := by
    have h9 := Option.some.inj hq
    rw [← h9]
    exact ⟨Nat.le_refl _, Nat.le_refl _⟩
  refine L11 F 0 wP wN lc1 nb1 lb1 nw1 lw1 q244 ls _ _ _ _ (eq244) (lv_sub hl [2, 3, 1, 0] rfl) hP hD hS hm hft (fun ls H locs g245 g246 hl hP hD hS hm => ?_)
  · have hz := gz hm hft
    obtain rfl := Option.some.inj hq
    rw [hQ]
    exact W.vret hx hb hr (fun t ht hW => ⟨⟨(), rfl, trivial, _, _, va_Pat ht hP, hD⟩, hS.F ht⟩) hS.2.2 dX6_sweepOver_104
