/-! the law between two calls (laid by wip/whole/lawwalk.py) -/
def CE (j B : Nat) : Nat := 100 + 3 * j + gC 32 B
def SE (j B V : Nat) : Nat := 6000 + 18 * j + gS 32 B 32 V
theorem ce_1 {j B : Nat} : CE (j + 1) B = CE j B + 3 := by unfold CE; omega
theorem se_1 {j B V : Nat} : SE (j + 1) B V = SE j B V + 18 := by unfold SE; omega
theorem ce_mx {j a b c d : Nat} (hj : j < 512) (h1 : CP a b) (h2 : CP c d) : CE j (a + c) + 3 ≤ 601024 ∧ SE j (a + c) (b + d) + 18 ≤ 7293034 := by
  obtain ⟨e1, h3, h4⟩ := h1
  obtain ⟨e2, h5, h6⟩ := h2
  have h19 : (2 : Nat) ^ 19 = 524288 := by decide
  rw [h19] at h4 h6
  unfold CE SE gC gS
  omega
theorem ce_g {j B B' V V' : Nat} (h1 : 32 ≤ B) (h2 : 32 ≤ V) (h3 : B ≤ B') (h4 : V ≤ V') : CE j B + gC B B' ≤ CE j B' ∧ SE j B V + gS B B' V V' ≤ SE j B' V' := by
  unfold CE SE gC gS
  omega
theorem cp_32 {a b c d : Nat} (h1 : CP a b) (h2 : CP c d) : 32 ≤ a + c ∧ 32 ≤ b + d := by
  obtain ⟨e1, h3, h4⟩ := h1
  obtain ⟨e2, h5, h6⟩ := h2
  omega
theorem sv {i k L : Nat} (h : i + k < L) (hL : L ≤ 2560) : vp_in (nI i + nI k) L := by
  rw [nI_add]; exact vp_in_nI h (by omega)
theorem lcz {x y : Int64} (h : x = y) : lg_cmp x y = 0 := by
  subst h
  unfold lg_cmp
  rw [if_neg (show ¬ x > x from Int64.lt_irrefl), if_pos rfl]
theorem b2z {x : Int32} (h : x = 0) : b2L x = 0 := if_pos h
theorem b2n {x : Int32} (h : ¬ x = 0) : b2L x = 1 := if_neg h
theorem and31 (x : Int32) : ∃ k, k < 32 ∧ x &&& 31 = nI k := by
  refine ⟨(x.toBitVec &&& 31#32).toNat, ?_, ?_⟩
  · rw [BitVec.toNat_and]
    exact Nat.lt_of_le_of_lt Nat.and_le_right (by decide)
  · apply Int32.toBitVec_inj.mp
    show x.toBitVec &&& 31#32 = BitVec.ofNat 32 _
    rw [BitVec.ofNat_toNat, BitVec.setWidth_eq]
theorem tbo : ∀ k, k < 32 → 23 ≤ k → (22 : Int) < (nI k).toInt := by decide +kernel
theorem gt5 {L j : Nat} (hL : L ≤ 2560) (hj : j ≤ 512) (h : ¬ Int32.ofNat L - 5 < nI (5 * j)) : 5 * j + 5 ≤ L := by
  by_cases h5 : 5 ≤ L
  · have e : Int32.ofNat L - 5 = nI (L - 5) := by
      have h1 : nI (L - 5) + 5 = Int32.ofNat L := by
        rw [i5, nI_add]; show nI _ = nI L; congr 1; omega
      rw [← h1, Int32.add_sub_cancel]
    rw [e] at h
    by_cases h2 : L - 5 < 5 * j
    · exact absurd (nI_lt h2 (by omega)) h
    · omega
  · exfalso
    apply h
    have k : ∀ L, L < 5 → Int32.ofNat L - 5 < 0 := by decide +kernel
    exact Int32.lt_of_lt_of_le (k L (by omega)) (show (0 : Int32) ≤ nI (5 * j) from Int32.not_lt.mp (nI_pos (by omega)))
def LCX (p : Program) (l : Launch) (s : State) (m : MethodId) (b L : Nat) (xs : Nat → Int32) (c : Code) (G : GG) (A : Nat → Prop) : Prop :=
  p.tables.exec = Jvm.exec ∧ c.code = cL_law ∧ c.maxLocals = 7 ∧ s.vm.findClass RL = some m.cls ∧ (∀ w ∈ lw_tbl, w.before #[Value.ref b] s = true) ∧ va_X b L xs s s.heap ∧ b < s.heap.size ∧ ¬ A b ∧ (∀ q : Nat, s.heap.size ≤ q → A q) ∧ KK G s ∧ TH A s s.heap ∧ NC s ∧ l.stackTraces = false
def wLaw (G : GG) (qX qM qO qB qBT qBC qBN qBW qBL qH qHM qK qKC qKS qV qVL qVS qVA qVT qS qSR qSI qSP qSF qW qWP qWN qL0 qL0b qL0w qL1 qL1b qL1w qMT qMW qMK qMM qMR qML qMP qMY qMF : Nat) (qR : Nat → Nat) (bn : Int32) (bk : Int32) (bs : Int32) (bT : Nat → Int32) (bC : Nat → Int32) (bN : Nat → Int32) (bW : Nat → Int32) (bL : Nat → Int32) (hd : Int32) (hk : Int32) (hM : Nat → Int32) (kp : Int32) (ku : Int32) (kC : Nat → Int32) (kS : Nat → Int32) (vL : Nat → Int32) (vS : Nat → Int32) (vA : Nat → Int32) (vT : Nat → Int32) (so : Int32) (sw : Int32) (sR : Nat → Int32) (sI : Nat → Int32) (sP : Nat → Nat → Int32) (sF : Nat → Int32) (wP : Nat → Int32) (wN : Nat → Int32) (lc0 : Int32) (nb0 : Nat) (lb0 : Nat → Int64) (nw0 : Nat) (lw0 : Nat → Int32) (lc1 : Int32) (nb1 : Nat) (lb1 : Nat → Int64) (nw1 : Nat) (lw1 : Nat → Int32) (mt : Int32) (mw : Int32) (mh : Int32) (mg : Int32) (ms : Int32) (mv : Int32) (md : Int32) (mu : Int32) (mo : Int32) (mf : Int32) (mT : Nat → Int32) (mW : Nat → Int32) (mK : Nat → Int32) (mM : Nat → Int32) (mR : Nat → Int32) (mL : Nat → Int32) (mP : Nat → Int32) (mY : Nat → Int32) (mF : Nat → Int32) (oO : Nat → Int64) : va_W := ([(qX, .inr (7, [.ref qB, .ref qH, .ref qK, .ref qV, .ref qS, .ref qW])), (qB, .inr (0, [.ref qBT, .ref qBC, .ref qBN, .ref qBW, .ref qBL, .int bn, .int bk, .int bs])), (qBT, .inl (G.2.1, 16, .inl bT)), (qBC, .inl (G.2.1, 16, .inl bC)), (qBN, .inl (G.2.1, 64, .inl bN)), (qBW, .inl (G.2.1, 64, .inl bW)), (qBL, .inl (G.2.1, 16, .inl bL)), (qH, .inr (2, [.ref qHM, .int hd, .int hk])), (qHM, .inl (G.2.1, 512, .inl hM)), (qK, .inr (3, [.ref qB, .ref qKC, .ref qKS, .int kp, .int ku])), (qKC, .inl (G.2.1, 32, .inl kC)), (qKS, .inl (G.2.1, 32, .inl kS)), (qV, .inr (5, [.ref qB, .ref qVL, .ref qVS, .ref qVA, .ref qVT])), (qVL, .inl (G.2.1, 16, .inl vL)), (qVS, .inl (G.2.1, 16, .inl vS)), (qVA, .inl (G.2.1, 16, .inl vA)), (qVT, .inl (G.2.1, 16, .inl vT)), (qS, .inr (4, [.ref qB, .ref qV, .ref qSR, .ref qSI, .ref qSP, .ref qSF, .int so, .int sw])), (qSR, .inl (G.2.1, 16, .inl sR)), (qSI, .inl (G.2.1, 16, .inl sI)), (qSP, .inl (G.2.2.2.2, 17, .inr (.inr (.inr (.inr (outR qR)))))), (qSF, .inl (G.2.1, 16, .inl sF)), (qW, .inr (6, [.ref qB, .ref qWP, .ref qWN, .ref qL0, .ref qL1])), (qWP, .inl (G.2.1, 12, .inl wP)), (qWN, .inl (G.2.1, 16, .inl wN)), (qL0, .inr (1, [.ref qL0b, .ref qL0w, .int lc0])), (qL0b, .inl (G.2.2.1, nb0, .inr (.inl lb0))), (qL0w, .inl (G.2.1, nw0, .inl lw0)), (qL1, .inr (1, [.ref qL1b, .ref qL1w, .int lc1])), (qL1b, .inl (G.2.2.1, nb1, .inr (.inl lb1))), (qL1w, .inl (G.2.1, nw1, .inl lw1)), (qM, .inr (8, [.int mt, .int mw, .int mh, .int mg, .int ms, .ref qMT, .ref qMW, .ref qMK, .ref qMM, .int mv, .int md, .ref qMR, .ref qML, .ref qMP, .int mu, .ref qMY, .ref qMF, .int mo, .int mf])), (qMT, .inl (G.2.1, 16, .inl mT)), (qMW, .inl (G.2.1, 16, .inl mW)), (qMK, .inl (G.2.2.2.1, 16, .inl mK)), (qMM, .inl (G.2.1, 4096, .inl mM)), (qMR, .inl (G.2.2.2.1, 16, .inl mR)), (qML, .inl (G.2.1, 16, .inl mL)), (qMP, .inl (G.2.1, 32, .inl mP)), (qMY, .inl (G.2.1, 16, .inl mY)), (qMF, .inl (G.2.1, 16, .inl mF)), (qO, .inl (G.2.2.1, 1, .inr (.inl oO)))] ++ rws G qR sP)
theorem ce_mx5 {j a b c d : Nat} (hj : j ≤ 512) (h1 : CP a b) (h2 : CP c d) : CE j (a + c) ≤ 601024 ∧ SE j (a + c) (b + d) ≤ 7293034 := by
  obtain ⟨e1, h3, h4⟩ := h1
  obtain ⟨e2, h5, h6⟩ := h2
  have h19 : (2 : Nat) ^ 19 = 524288 := by decide
  rw [h19] at h4 h6
  unfold CE SE gC gS
  omega
