/-! the law's loop (laid by wip/p26/lawwalk.py) -/
def CE (j B : Nat) : Nat := 100 + j + gC 32 B
def SE (j B V : Nat) : Nat := 6000 + 16 * j + gS 32 B 32 V
theorem ce_1 {j B : Nat} : CE (j + 1) B = CE j B + 1 := by unfold CE; omega
theorem se_1 {j B V : Nat} : SE (j + 1) B V = SE j B V + 16 := by unfold SE; omega
theorem ce_mx {j a b c d : Nat} (hj : j ≤ 50) (h1 : CP a b) (h2 : CP c d) : CE j (a + c) + 1 ≤ 600104 ∧ SE j (a + c) (b + d) + 16 ≤ 7301313 := by
  obtain ⟨e1, h3, h4⟩ := h1
  obtain ⟨e2, h5, h6⟩ := h2
  have h19 : (2 : Nat) ^ 19 = 524288 := by decide
  rw [h19] at h4 h6
  unfold CE SE gC gS
  omega
theorem ce_g {j a b c d B' V' : Nat} (h1 : CP a b) (h2 : CP c d) (h3 : a + c ≤ B') (h4 : b + d ≤ V') : CE j (a + c) + (gC (a + c) B' + 1) ≤ CE (j + 1) B' ∧ SE j (a + c) (b + d) + (gS (a + c) B' (b + d) V' + 16) ≤ SE (j + 1) B' V' := by
  obtain ⟨e1, h5, h6⟩ := h1
  obtain ⟨e2, h7, h8⟩ := h2
  unfold CE SE gC gS
  omega
theorem draw_nI (x : Int32) : ∃ k, k < 2 ^ 31 ∧ x &&& 2147483647 = nI k := pk_andE x 31 (by decide)
theorem q3 (j k : Nat) : (3 : Int32) * nI j + nI k = nI (3 * j + k) := by rw [i3, pk_mul, nI_add]
theorem q30 (j : Nat) : (3 : Int32) * nI j = nI (3 * j) := by rw [i3, pk_mul]
theorem c00 : (0 : Int32).toNatClampNeg = 0 := by decide
def LCX (p : Program) (l : Launch) (s : State) (m : MethodId) (b L : Nat) (xs : Nat → Int32) (c : Code) (G : GG) (A : Nat → Prop) : Prop :=
  p.tables.exec = Jvm.exec ∧ c.code = cL_law ∧ c.maxLocals = 7 ∧ s.vm.findClass RL = some m.cls ∧ (∀ w ∈ lw_tbl, w.before #[Value.ref b] s = true) ∧ va_X b L xs s s.heap ∧ b < s.heap.size ∧ ¬ A b ∧ (∀ q : Nat, s.heap.size ≤ q → A q) ∧ KK G s
def wLaw (G : GG) (qX qTT qTW qB qBT qBC qBN qBW qBL qH qHM qK qKC qKS qV qVL qVS qVA qVT qS qSR qSI qSP qSF qW qWP qWN qL0 qL0b qL0w qL1 qL1b qL1w : Nat) (qR : Nat → Nat) (bn : Int32) (bk : Int32) (bs : Int32) (bT : Nat → Int32) (bC : Nat → Int32) (bN : Nat → Int32) (bW : Nat → Int32) (bL : Nat → Int32) (hd : Int32) (hk : Int32) (hM : Nat → Int32) (kp : Int32) (ku : Int32) (kC : Nat → Int32) (kS : Nat → Int32) (vL : Nat → Int32) (vS : Nat → Int32) (vA : Nat → Int32) (vT : Nat → Int32) (so : Int32) (sw : Int32) (sR : Nat → Int32) (sI : Nat → Int32) (sP : Nat → Nat → Int32) (sF : Nat → Int32) (wP : Nat → Int32) (wN : Nat → Int32) (lc0 : Int32) (nb0 : Nat) (lb0 : Nat → Int64) (nw0 : Nat) (lw0 : Nat → Int32) (lc1 : Int32) (nb1 : Nat) (lb1 : Nat → Int64) (nw1 : Nat) (lw1 : Nat → Int32) (tT : Nat → Int32) (tW : Nat → Int32) : va_W := ([(qX, .inr (7, [.ref qB, .ref qH, .ref qK, .ref qV, .ref qS, .ref qW])), (qB, .inr (0, [.ref qBT, .ref qBC, .ref qBN, .ref qBW, .ref qBL, .int bn, .int bk, .int bs])), (qBT, .inl (G.2.1, 16, .inl bT)), (qBC, .inl (G.2.1, 16, .inl bC)), (qBN, .inl (G.2.1, 64, .inl bN)), (qBW, .inl (G.2.1, 64, .inl bW)), (qBL, .inl (G.2.1, 16, .inl bL)), (qH, .inr (2, [.ref qHM, .int hd, .int hk])), (qHM, .inl (G.2.1, 512, .inl hM)), (qK, .inr (3, [.ref qB, .ref qKC, .ref qKS, .int kp, .int ku])), (qKC, .inl (G.2.1, 32, .inl kC)), (qKS, .inl (G.2.1, 32, .inl kS)), (qV, .inr (5, [.ref qB, .ref qVL, .ref qVS, .ref qVA, .ref qVT])), (qVL, .inl (G.2.1, 16, .inl vL)), (qVS, .inl (G.2.1, 16, .inl vS)), (qVA, .inl (G.2.1, 16, .inl vA)), (qVT, .inl (G.2.1, 16, .inl vT)), (qS, .inr (4, [.ref qB, .ref qV, .ref qSR, .ref qSI, .ref qSP, .ref qSF, .int so, .int sw])), (qSR, .inl (G.2.1, 16, .inl sR)), (qSI, .inl (G.2.1, 16, .inl sI)), (qSP, .inl (G.2.2.2.2, 17, .inr (.inr (.inr (.inr (outR qR)))))), (qSF, .inl (G.2.1, 16, .inl sF)), (qW, .inr (6, [.ref qB, .ref qWP, .ref qWN, .ref qL0, .ref qL1])), (qWP, .inl (G.2.1, 12, .inl wP)), (qWN, .inl (G.2.1, 16, .inl wN)), (qL0, .inr (1, [.ref qL0b, .ref qL0w, .int lc0])), (qL0b, .inl (G.2.2.1, nb0, .inr (.inl lb0))), (qL0w, .inl (G.2.1, nw0, .inl lw0)), (qL1, .inr (1, [.ref qL1b, .ref qL1w, .int lc1])), (qL1b, .inl (G.2.2.1, nb1, .inr (.inl lb1))), (qL1w, .inl (G.2.1, nw1, .inl lw1)), (qTT, .inl (G.2.1, 64, .inl tT)), (qTW, .inl (G.2.1, 16, .inl tW))] ++ rws G qR sP)
