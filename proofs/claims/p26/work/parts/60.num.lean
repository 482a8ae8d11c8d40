/-! numbers: what the k functions answer at small numbers; loops by their course -/
theorem q_and (a b : Nat) : nI a &&& nI b = nI (a &&& b) := by
  apply Int32.toBitVec_inj.1
  show BitVec.ofNat 32 a &&& BitVec.ofNat 32 b = BitVec.ofNat 32 (a &&& b)
  apply BitVec.eq_of_getLsbD_eq
  intro i hi
  simp [BitVec.getLsbD_and, BitVec.getLsbD_ofNat, hi, Nat.testBit_and]
theorem q_or (a b : Nat) : nI a ||| nI b = nI (a ||| b) := by
  apply Int32.toBitVec_inj.1
  show BitVec.ofNat 32 a ||| BitVec.ofNat 32 b = BitVec.ofNat 32 (a ||| b)
  apply BitVec.eq_of_getLsbD_eq
  intro i hi
  simp [BitVec.getLsbD_or, BitVec.getLsbD_ofNat, hi, Nat.testBit_or]
def bI (b : Bool) : Int32 := if b then nI 1 else nI 0
theorem bI_0 (b : Bool) : bI b = 0 ↔ b = false := by cases b <;> decide
theorem bI_t : bI true = 1 := rfl
theorem bI_f : bI false = 0 := rfl
theorem isZ_b (b : Bool) : isZ (bI b) = true := by cases b <;> rfl
theorem nar_b (b : Bool) : vp_nar .boolean (bI b) = bI b := by cases b <;> rfl
theorem ix_n {i n : Nat} (h : i < n) (hn : n < 2 ^ 31) : ix (nI i) n = true := by
  unfold ix
  exact decide_eq_true (vp_in_nI h hn)
theorem cl_n {n : Nat} (h : n < 2 ^ 31) : (nI n).toNatClampNeg = n := nI_clamp h
theorem sm_32 : ∀ k, k < 32 → ((nI k &&& 31).toBitVec.smod 32).toNat = k := by decide +kernel
theorem q_shl {n k : Nat} (hk : k < 32) (h : n * 2 ^ k < 2 ^ 32) : nI n <<< (nI k &&& 31) = nI (n * 2 ^ k) := pk_shlN _ k (sm_32 k hk) h
theorem q_shr {n k : Nat} (hk : k < 32) (h : n < 2 ^ 31) : nI n >>> (nI k &&& 31) = nI (n / 2 ^ k) := pk_shrN h _ k (sm_32 k hk)
theorem i0 : (0 : Int32) = nI 0 := rfl
theorem i1 : (1 : Int32) = nI 1 := rfl
theorem i2 : (2 : Int32) = nI 2 := rfl
theorem i3 : (3 : Int32) = nI 3 := rfl
theorem i4 : (4 : Int32) = nI 4 := rfl
theorem i5 : (5 : Int32) = nI 5 := rfl
theorem i12 : (12 : Int32) = nI 12 := rfl
theorem i15 : (15 : Int32) = nI 15 := rfl
theorem i16 : (16 : Int32) = nI 16 := rfl
theorem n_m1 {a : Nat} (h : a < 2 ^ 31) : ¬ nI a = -1 := by
  intro e
  have := congrArg Int32.toInt e
  rw [nI_toInt h] at this
  have h2 : (-1 : Int32).toInt = -1 := by decide
  omega
/-- a loop by its course: I i the state at the i-th time, N the last -/
theorem kl_run {σ τ : Type} {f : σ → Option (σ ⊕ τ)} {t : τ} (I : Nat → σ) (N : Nat) (hs : ∀ i, i < N → f (I i) = some (.inl (I (i + 1)))) (he : f (I N) = some (.inr t)) {F : Nat} (hF : N < F) : kloop F f (I 0) = some t := by
  have key : ∀ (k i n : Nat), i + k = N → k < n → kloop n f (I i) = some t := by
    intro k
    induction k with
    | zero =>
      intro i n hi hn
      obtain ⟨n, rfl⟩ : ∃ z, n = z + 1 := ⟨n - 1, by omega⟩
      have : i = N := by omega
      subst this
      show (f (I i)).bind _ = _
      rw [he]
      rfl
    | succ k ih =>
      intro i n hi hn
      obtain ⟨n, rfl⟩ : ∃ z, n = z + 1 := ⟨n - 1, by omega⟩
      show (f (I i)).bind _ = _
      rw [hs i (by omega)]
      exact ih (i + 1) n (by omega) (by omega)
  exact key N 0 F (by omega) (by omega)
theorem kl_run' {σ τ : Type} {f : σ → Option (σ ⊕ τ)} {t : τ} {s : σ} (I : Nat → σ) (N : Nat) (h0 : I 0 = s) (hs : ∀ i, i < N → f (I i) = some (.inl (I (i + 1)))) (he : f (I N) = some (.inr t)) {F : Nat} (hF : N < F) : kloop F f s = some t := h0 ▸ kl_run I N hs he hF
theorem ob_i {α β : Type} {x : Option α} {f : α → Option β} {a : α} {y : Option β} (h : x = some a) (h2 : f a = y) : x.bind f = y := by rw [h]; exact h2
theorem kg_i {α : Type} {c : Bool} {a : Option α} {x : Option α} (h : c = true) (h2 : a = x) : (if c = true then a else none) = x := by rw [if_pos h]; exact h2
/-- rows of small numbers -/
def fN (T : Nat → Nat) : Nat → Int32 := fun j => nI (T j)
def up {α : Type} (f : Nat → α) (k : Nat) (v : α) : Nat → α := fun j => if j = k then v else f j
theorem upd_fN (T : Nat → Nat) (k v : Nat) : upd (fN T) k (nI v) = fN (up T k v) := by
  funext j
  unfold upd fN up
  split <;> rfl
/-- a tile, turned by k quarters -/
def rot (t k : Nat) : Nat := ((t <<< k) ||| (t >>> (4 - k))) &&& 15
theorem rot_lt (t k : Nat) : rot t k < 16 := Nat.lt_of_le_of_lt Nat.and_le_right (by decide)
theorem a_turned {F t k : Nat} (ht : t < 16) (hk : k < 4) : kX7_turned F (nI t) (nI k) = some (nI (rot t k)) := by
  have h : ∀ t, t < 16 → ∀ k, k < 4 → kX7_turned 0 (nI t) (nI k) = some (nI (rot t k)) := by decide +kernel
  exact h t ht k hk
theorem a_opposite {F s : Nat} (hs : s < 4) : kX7_opposite F (nI s) = some (nI ((s + 2) % 4)) := by
  have h : ∀ s, s < 4 → kX7_opposite 0 (nI s) = some (nI ((s + 2) % 4)) := by decide +kernel
  exact h s hs
theorem tb_div (n k : Nat) : n.testBit k = (n / 2 ^ k % 2 == 1) := by
  rw [Nat.testBit_eq_decide_div_mod_eq]
  rfl
theorem a_holds {F m k : Nat} (hm : m < 2 ^ 31) (hk : k < 32) : kX7_holds F (nI m) (nI k) = some (bI (m.testBit k)) := by
  unfold kX7_holds
  rw [q_shr hk hm, i1, q_and, Nat.and_one_is_mod]
  have h2 : m / 2 ^ k % 2 < 2 := Nat.mod_lt _ (by decide)
  rw [tb_div]
  by_cases h : m / 2 ^ k % 2 = 0
  · rw [h]; rfl
  · have h1 : m / 2 ^ k % 2 = 1 := by omega
    rw [h1]; rfl
theorem a_at {F n i : Nat} {p : Nat → Int32} (hn : n < 2 ^ 31) (hi : i < n) : kX7_at F n p (nI i) = some (p i) := by
  unfold kX7_at
  have hi2 : i < 2 ^ 31 := by omega
  rw [if_neg (nI_pos hi2), if_neg (show ¬ Int32.ofNat n ≤ nI i from nI_ge hi hn), kg_i (ix_n hi hn) rfl, cl_n hi2]
theorem a_at_out {F n i : Nat} {p : Nat → Int32} (hi2 : i < 2 ^ 31) (hi : n ≤ i) : kX7_at F n p (nI i) = some 0 := by
  unfold kX7_at
  rw [if_neg (nI_pos hi2), if_pos (show Int32.ofNat n ≤ nI i from nI_le hi hi2)]
