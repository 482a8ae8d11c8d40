/-! what is reached: sets as numbers, the spread over links -/
def Rc (adj : Nat → Nat → Prop) (a b : Nat) : Prop := ∀ S : Nat → Prop, S a → (∀ x y, S x → adj x y → S y) → S b
theorem Rc.rf {adj : Nat → Nat → Prop} {a : Nat} : Rc adj a a := fun _ h _ => h
theorem Rc.tr {adj : Nat → Nat → Prop} {a b c : Nat} (h : Rc adj a b) (k : adj b c) : Rc adj a c := fun S h1 h2 => h2 b c (h S h1 h2) k
theorem Rc.trans {adj : Nat → Nat → Prop} {a b c : Nat} (h : Rc adj a b) (k : Rc adj b c) : Rc adj a c := fun S h1 h2 => k S (h S h1 h2) h2
theorem Rc.mono {adj adj' : Nat → Nat → Prop} {a b : Nat} (h : Rc adj a b) (k : ∀ x y, adj x y → adj' x y) : Rc adj' a b := fun S h1 h2 => h S h1 (fun x y hx hxy => h2 x y hx (k x y hxy))
theorem Rc.sym {adj : Nat → Nat → Prop} {a b : Nat} (h : Rc adj a b) (k : ∀ x y, adj x y → adj y x) : Rc adj b a :=
  h (fun z => Rc adj z a) Rc.rf (fun x y hx hxy => by
    have h1 : Rc adj y x := Rc.rf.tr (k x y hxy)
    exact h1.trans hx)
/-- how many of the first n are in a set told by its bits -/
def pop (m : Nat) : Nat → Nat
  | 0 => 0
  | n + 1 => pop m n + (if m.testBit n then 1 else 0)
theorem pop_le (m : Nat) : ∀ n, pop m n ≤ n
  | 0 => Nat.le_refl 0
  | n + 1 => by
    have h := pop_le m n
    unfold pop
    split <;> omega
theorem pop_mono {m m' : Nat} (h : ∀ i, m.testBit i = true → m'.testBit i = true) : ∀ n, pop m n ≤ pop m' n
  | 0 => Nat.le_refl 0
  | n + 1 => by
    have k := pop_mono h n
    unfold pop
    cases e : m.testBit n with
    | false =>
      rw [if_neg (by decide : ¬ false = true)]
      split <;> omega
    | true => rw [h n e]; simp; omega
theorem pop_lt {m m' : Nat} (h : ∀ i, m.testBit i = true → m'.testBit i = true) {i : Nat} (h1 : m.testBit i = false) (h2 : m'.testBit i = true) : ∀ n, i < n → pop m n < pop m' n
  | 0, hi => absurd hi (Nat.not_lt_zero i)
  | n + 1, hi => by
    unfold pop
    by_cases e : i = n
    · subst e
      have k := pop_mono h i
      rw [h1, h2]
      simp
      omega
    · have k := pop_lt h h1 h2 n (by omega)
      cases e : m.testBit n with
      | false =>
        rw [if_neg (by decide : ¬ false = true)]
        split <;> omega
      | true => rw [h n e]; simp; omega
theorem bit_ne {m m' : Nat} (hm : m < 2 ^ 16) (hm' : m' < 2 ^ 16) (h : ∀ i, m.testBit i = true → m'.testBit i = true) (hne : m' ≠ m) : ∃ i, i < 16 ∧ m.testBit i = false ∧ m'.testBit i = true := by
  apply Classical.byContradiction
  intro hn
  apply hne
  apply Nat.eq_of_testBit_eq
  intro i
  cases e : m'.testBit i with
  | false =>
    cases e2 : m.testBit i with
    | false => rfl
    | true => rw [h i e2] at e; cases e
  | true =>
    cases e2 : m.testBit i with
    | true => rfl
    | false =>
      have hi : i < 16 := by
        apply Classical.byContradiction
        intro hge
        have := Nat.testBit_lt_two_pow (Nat.lt_of_lt_of_le hm' (Nat.pow_le_pow_right (by decide) (show 16 ≤ i by omega)))
        rw [this] at e
        cases e
      exact absurd ⟨i, hi, e2, e⟩ hn
theorem or_lt {a b : Nat} (ha : a < 2 ^ 16) (hb : b < 2 ^ 16) : a ||| b < 2 ^ 16 := Nat.or_lt_two_pow ha hb
theorem p2_lt {d : Nat} (hd : d < 16) : 2 ^ d < 2 ^ 16 := Nat.pow_lt_pow_right (by decide) hd
theorem tb_p2 (d b : Nat) : (2 ^ d).testBit b = true ↔ b = d := by
  rw [Nat.testBit_two_pow]
  constructor
  · intro h; exact (of_decide_eq_true h).symm
  · intro h; exact decide_eq_true h.symm
theorem tb_or (a b i : Nat) : (a ||| b).testBit i = true ↔ a.testBit i = true ∨ b.testBit i = true := by
  rw [Nat.testBit_or, Bool.or_eq_true]
/-- the cells joined to c, over its first k sides -/
def jto (Wy : Nat → Nat → Option Nat) (T : Nat → Nat) (c : Nat) : Nat → Nat
  | 0 => 0
  | s + 1 => if jnd Wy T c s = true then (match Wy c s with
    | some d => jto Wy T c s ||| 2 ^ d
    | none => jto Wy T c s) else jto Wy T c s
theorem jto_lt {n : Nat} {Wy : Nat → Nat → Option Nat} {T : Nat → Nat} (hW : WOK n Wy) (c : Nat) : ∀ k, k ≤ 4 → jto Wy T c k < 2 ^ 16
  | 0, _ => by unfold jto; decide
  | s + 1, hs => by
    have h := jto_lt (T := T) hW c s (by omega)
    unfold jto
    split
    · cases e : Wy c s with
      | none => exact h
      | some d =>
        have hd := (hW.2.1 c s d (by omega) e).2.1
        exact or_lt h (p2_lt (Nat.lt_of_lt_of_le hd hW.1))
    · exact h
theorem jto_tb {Wy : Nat → Nat → Option Nat} {T : Nat → Nat} (c b : Nat) : ∀ k, (jto Wy T c k).testBit b = true ↔ ∃ s, s < k ∧ jnd Wy T c s = true ∧ Wy c s = some b
  | 0 => by
    unfold jto
    rw [Nat.zero_testBit]
    constructor
    · intro h; cases h
    · rintro ⟨s, h, -⟩; omega
  | k + 1 => by
    have ih := jto_tb (Wy := Wy) (T := T) c b k
    unfold jto
    constructor
    · intro h
      split at h
      · rename_i hj
        cases e : Wy c k with
        | none =>
          rw [e] at h
          obtain ⟨s, h1, h2, h3⟩ := ih.mp h
          exact ⟨s, by omega, h2, h3⟩
        | some d =>
          rw [e] at h
          rcases (tb_or _ _ _).mp h with h | h
          · obtain ⟨s, h1, h2, h3⟩ := ih.mp h
            exact ⟨s, by omega, h2, h3⟩
          · have := (tb_p2 d b).mp h
            subst this
            exact ⟨k, by omega, hj, e⟩
      · obtain ⟨s, h1, h2, h3⟩ := ih.mp h
        exact ⟨s, by omega, h2, h3⟩
    · rintro ⟨s, h1, h2, h3⟩
      by_cases hs : s = k
      · subst hs
        rw [if_pos h2, h3]
        exact (tb_or _ _ _).mpr (Or.inr ((tb_p2 b b).mpr rfl))
      · have h := ih.mpr ⟨s, by omega, h2, h3⟩
        split
        · cases e : Wy c k with
          | none => exact h
          | some d => exact (tb_or _ _ _).mpr (Or.inl h)
        · exact h
theorem a_joinedTo {F n c : Nat} {Wy : Nat → Nat → Option Nat} {T : Nat → Nat} {Y : Nat → Option Nat} (hW : WOK n Wy) (hT : ∀ j, T j < 16) (hY : ∀ c s, c < 16 → s < 4 → Y (c * 4 + s) = Wy c s) (hc : c < 16) (hF : 4 < F) : kX0_joinedTo F (fN T) (fE Y) (nI c) = some (nI (jto Wy T c 4)) := by
  unfold kX0_joinedTo
  refine ob_i (kl_run' (fun i => (nI (jto Wy T c i), nI i)) 4 rfl ?_ ?_ hF) rfl
  · intro i hi
    show kX0_joinedTo_s4 F (fN T) (fE Y) (nI c) (nI (jto Wy T c i)) (nI i) = _
    unfold kX0_joinedTo_s4
    rw [if_neg (show ¬ (3 : Int32) < nI i from nI_nlt (show i ≤ 3 by omega) (by decide))]
    refine ob_i (a_joins0 hW hT hY hc hi) ?_
    show _ = some (Sum.inl (nI (jto Wy T c (i + 1)), nI (i + 1)))
    cases e : jnd Wy T c i with
    | false =>
      rw [if_pos bI_f, i1, nI_add, show jto Wy T c (i + 1) = jto Wy T c i by
        show (if jnd Wy T c i = true then _ else _) = _
        rw [if_neg (by rw [e]; decide)]]
    | true =>
      rw [if_neg bI_n]
      refine ob_i (a_across hc hi) ?_
      rw [hY c i hc hi]
      cases e2 : Wy c i with
      | none => unfold jnd at e; rw [e2] at e; cases e
      | some d =>
        have hd := (hW.2.1 c i d hi e2).2.1
        have hd16 : d < 16 := Nat.lt_of_lt_of_le hd hW.1
        show some (Sum.inl (nI (jto Wy T c i) ||| (1 : Int32) <<< (nI d &&& 31), nI i + 1)) = _
        rw [i1, q_shl (by omega) (by have := p2_lt hd16; omega), q_or, nI_add, Nat.one_mul]
        show _ = some (Sum.inl (nI (jto Wy T c (i + 1)), nI (i + 1)))
        rw [show jto Wy T c (i + 1) = jto Wy T c i ||| 2 ^ d by
          show (if jnd Wy T c i = true then _ else _) = _
          rw [if_pos e, e2]]
  · show kX0_joinedTo_s4 F (fN T) (fE Y) (nI c) (nI (jto Wy T c 4)) (nI 4) = _
    unfold kX0_joinedTo_s4
    rw [if_pos (show (3 : Int32) < nI 4 by decide)]
/-- one round over the links: cells below i -/
def inn (Lk : Nat → Nat) (lo : Option Nat) (m : Nat) : Nat → Nat
  | 0 => m
  | i + 1 => if lo = some i then inn Lk lo m i else if (inn Lk lo m i).testBit i = true then inn Lk lo m i ||| Lk i else inn Lk lo m i
theorem inn_lt {Lk : Nat → Nat} {lo : Option Nat} {m : Nat} (hL : ∀ j, Lk j < 2 ^ 16) (hm : m < 2 ^ 16) : ∀ i, inn Lk lo m i < 2 ^ 16
  | 0 => hm
  | i + 1 => by
    have h := inn_lt (lo := lo) hL hm i
    unfold inn
    split
    · exact h
    · split
      · exact or_lt h (hL i)
      · exact h
theorem inn_up {Lk : Nat → Nat} {lo : Option Nat} {m b i : Nat} (h : (inn Lk lo m i).testBit b = true) : (inn Lk lo m (i + 1)).testBit b = true := by
  show (if lo = some i then _ else _ : Nat).testBit b = true
  split
  · exact h
  · split
    · exact (tb_or _ _ _).mpr (Or.inl h)
    · exact h
theorem inn_up' {Lk : Nat → Nat} {lo : Option Nat} {m b i : Nat} : ∀ k, (inn Lk lo m i).testBit b = true → (inn Lk lo m (i + k)).testBit b = true
  | 0, h => h
  | k + 1, h => inn_up (inn_up' k h)
theorem inn_ge {Lk : Nat → Nat} {lo : Option Nat} {m b i : Nat} (h : m.testBit b = true) : (inn Lk lo m i).testBit b = true := by
  have := inn_up' (Lk := Lk) (lo := lo) (m := m) (i := 0) (b := b) i h
  rwa [Nat.zero_add] at this
theorem inn_rc {Lk : Nat → Nat} {lo : Option Nat} {m : Nat} {S : Nat → Prop} (h0 : ∀ b, m.testBit b = true → S b) (hs : ∀ x y, S x → x < 16 → lo ≠ some x → (Lk x).testBit y = true → S y) : ∀ i, i ≤ 16 → ∀ b, (inn Lk lo m i).testBit b = true → S b
  | 0, _, b, h => h0 b h
  | i + 1, hi, b, h => by
    have ih := inn_rc h0 hs i (by omega)
    have h : (if lo = some i then inn Lk lo m i else if (inn Lk lo m i).testBit i = true then inn Lk lo m i ||| Lk i else inn Lk lo m i).testBit b = true := h
    split at h
    · exact ih b h
    · rename_i hlo
      split at h
      · rename_i hb
        rcases (tb_or _ _ _).mp h with h | h
        · exact ih b h
        · exact hs i b (ih i hb) (by omega) hlo h
      · exact ih b h
theorem inn_cl {Lk : Nat → Nat} {lo : Option Nat} {m : Nat} (h : inn Lk lo m 16 = m) {x y : Nat} (hx : x < 16) (hlo : lo ≠ some x) (hm : m.testBit x = true) (hy : (Lk x).testBit y = true) : m.testBit y = true := by
  have h1 : (inn Lk lo m (x + 1)).testBit y = true := by
    show (if lo = some x then _ else _ : Nat).testBit y = true
    rw [if_neg hlo, if_pos (inn_ge hm)]
    exact (tb_or _ _ _).mpr (Or.inr hy)
  have h2 := inn_up' (15 - x) h1
  rw [show x + 1 + (15 - x) = 16 by omega, h] at h2
  exact h2
/-- the rounds -/
def rnd (Lk : Nat → Nat) (lo : Option Nat) (a : Nat) : Nat → Nat
  | 0 => 2 ^ a
  | k + 1 => inn Lk lo (rnd Lk lo a k) 16
theorem rnd_lt {Lk : Nat → Nat} {lo : Option Nat} {a : Nat} (hL : ∀ j, Lk j < 2 ^ 16) (ha : a < 16) : ∀ k, rnd Lk lo a k < 2 ^ 16
  | 0 => p2_lt ha
  | k + 1 => inn_lt hL (rnd_lt hL ha k) 16
theorem rnd_pop {Lk : Nat → Nat} {lo : Option Nat} {a : Nat} (hL : ∀ j, Lk j < 2 ^ 16) (ha : a < 16) : ∀ k, (∀ j, j < k → rnd Lk lo a (j + 1) ≠ rnd Lk lo a j) → k + 1 ≤ pop (rnd Lk lo a k) 16
  | 0, _ => by
    have h := pop_lt (m := 0) (m' := 2 ^ a) (fun i h => by rw [Nat.zero_testBit] at h; cases h) (Nat.zero_testBit a) ((tb_p2 a a).mpr rfl) 16 ha
    show 0 + 1 ≤ pop (2 ^ a) 16
    omega
  | k + 1, h => by
    have ih := rnd_pop hL ha k (fun j hj => h j (by omega))
    obtain ⟨i, hi, h1, h2⟩ := bit_ne (rnd_lt (lo := lo) hL ha k) (rnd_lt hL ha (k + 1)) (fun i hb => inn_ge hb) (h k (by omega))
    have := pop_lt (m := rnd Lk lo a k) (m' := rnd Lk lo a (k + 1)) (fun i hb => inn_ge hb) h1 h2 16 hi
    omega
theorem rnd_fix {Lk : Nat → Nat} {lo : Option Nat} {a : Nat} (hL : ∀ j, Lk j < 2 ^ 16) (ha : a < 16) : ∃ N, N ≤ 15 ∧ rnd Lk lo a (N + 1) = rnd Lk lo a N ∧ ∀ j, j < N → rnd Lk lo a (j + 1) ≠ rnd Lk lo a j := by
  have h : ∃ k, rnd Lk lo a (k + 1) = rnd Lk lo a k := by
    apply Classical.byContradiction
    intro hn
    have := rnd_pop hL ha 16 (fun j _ e => hn ⟨j, e⟩)
    have := pop_le (rnd Lk lo a 16) 16
    omega
  obtain ⟨k, hk, hj⟩ := pk_least _ h
  refine ⟨k, ?_, hk, hj⟩
  have := rnd_pop hL ha k hj
  have := pop_le (rnd Lk lo a k) 16
  omega
theorem a_spread28 {F m : Nat} {Lk : Nat → Nat} {lo : Option Nat} {p : Nat → Int32} (hp : ∀ j, j < 16 → p j = nI (Lk j)) (hL : ∀ j, Lk j < 2 ^ 16) (hm : m < 2 ^ 16) (hlo : ∀ d, lo = some d → d < 16) (hF : 16 < F) : kloop F (fun s_ => kX7_spread_s28 F 16 p (enc lo) s_.1 s_.2) (nI m, 0) = some (nI (inn Lk lo m 16)) := by
  refine kl_run' (fun i => (nI (inn Lk lo m i), nI i)) 16 rfl ?_ ?_ hF
  · intro i hi
    show kX7_spread_s28 F 16 p (enc lo) (nI (inn Lk lo m i)) (nI i) = _
    unfold kX7_spread_s28
    rw [if_neg (show ¬ (Int32.ofNat 16) ≤ nI i from nI_ge hi (by decide))]
    have hb := inn_lt (lo := lo) hL hm i
    by_cases e : lo = some i
    · have e1 : inn Lk lo m (i + 1) = inn Lk lo m i := by
        show (if lo = some i then _ else _) = _
        rw [if_pos e]
      rw [if_pos (show nI i = enc lo by rw [e]; rfl), e1, i1, nI_add]
    · have hne : ¬ nI i = enc lo := by
        cases el : lo with
        | none => exact n_m1 (by omega)
        | some d =>
          intro h
          have h : nI i = nI d := h
          have hd := hlo d el
          rw [nI_eq (by omega) (by omega)] at h
          subst h
          exact e el
      rw [if_neg hne]
      refine ob_i (a_holds (by omega) (by omega)) ?_
      cases eb : (inn Lk lo m i).testBit i with
      | false =>
        have e1 : inn Lk lo m (i + 1) = inn Lk lo m i := by
          show (if lo = some i then _ else _) = _
          rw [if_neg e, if_neg (by rw [eb]; decide)]
        rw [if_pos bI_f, e1, i1, nI_add]
      | true =>
        have e1 : inn Lk lo m (i + 1) = inn Lk lo m i ||| Lk i := by
          show (if lo = some i then _ else _) = _
          rw [if_neg e, if_pos eb]
        rw [if_neg bI_n, kg_i (ix_n hi (by decide)) rfl, cl_n (by omega), hp i hi, e1, i1, nI_add, q_or]
  · show kX7_spread_s28 F 16 p (enc lo) (nI (inn Lk lo m 16)) (nI 16) = _
    unfold kX7_spread_s28
    rw [if_pos (show (Int32.ofNat 16) ≤ nI 16 by decide)]
theorem a_spread {F a : Nat} {Lk : Nat → Nat} {lo : Option Nat} {p : Nat → Int32} (hp : ∀ j, j < 16 → p j = nI (Lk j)) (hL : ∀ j, Lk j < 2 ^ 16) (ha : a < 16) (hlo : ∀ d, lo = some d → d < 16) (hF : 17 < F) : ∃ M, kX7_spread F 16 p (nI a) (enc lo) = some (nI M) ∧ M < 2 ^ 16 ∧ ∀ b, M.testBit b = true ↔ Rc (fun x y => x < 16 ∧ lo ≠ some x ∧ (Lk x).testBit y = true) a b := by
  obtain ⟨N, hN, hfix, hbe⟩ := rnd_fix (lo := lo) hL ha
  refine ⟨rnd Lk lo a N, ?_, rnd_lt hL ha N, fun b => ⟨?_, ?_⟩⟩
  · unfold kX7_spread
    refine ob_i (kl_run' (t := nI (rnd Lk lo a (N + 1))) (fun k => (nI (rnd Lk lo a k), (if k = 0 ∨ rnd Lk lo a k ≠ rnd Lk lo a (k - 1) then 1 else 0 : Int32), nI k)) (N + 1) ?_ ?_ ?_ (by omega)) (by rw [hfix])
    · show (nI (2 ^ a), _, _) = _
      rw [if_pos (Or.inl rfl), i1, q_shl (by omega) (by have := p2_lt ha; omega), Nat.one_mul]
      rfl
    · intro k hk
      have hk1 : (if k = 0 ∨ rnd Lk lo a k ≠ rnd Lk lo a (k - 1) then 1 else 0 : Int32) = 1 := by
        apply if_pos
        cases k with
        | zero => exact Or.inl rfl
        | succ k => exact Or.inr (hbe k (by omega))
      show kX7_spread_s10 F 16 p (enc lo) (nI (rnd Lk lo a k)) (if k = 0 ∨ rnd Lk lo a k ≠ rnd Lk lo a (k - 1) then 1 else 0 : Int32) (nI k) = some (Sum.inl (nI (rnd Lk lo a (k + 1)), (if k + 1 = 0 ∨ rnd Lk lo a (k + 1) ≠ rnd Lk lo a k then 1 else 0 : Int32), nI (k + 1)))
      rw [hk1]
      unfold kX7_spread_s10
      rw [if_neg (by decide), if_neg (show ¬ (Int32.ofNat 16) ≤ nI k from nI_ge (by omega) (by decide))]
      refine ob_i (a_spread28 hp hL (rnd_lt hL ha k) hlo (by omega)) ?_
      have hlt1 : inn Lk lo (rnd Lk lo a k) 16 < 2 ^ 16 := inn_lt hL (rnd_lt hL ha k) 16
      have hlt2 : rnd Lk lo a k < 2 ^ 16 := rnd_lt hL ha k
      by_cases e : rnd Lk lo a (k + 1) = rnd Lk lo a k
      · rw [if_pos (show nI (inn Lk lo (rnd Lk lo a k) 16) = nI (rnd Lk lo a k) from congrArg nI e), if_neg (show ¬ (k + 1 = 0 ∨ rnd Lk lo a (k + 1) ≠ rnd Lk lo a k) by rintro (h | h); omega; exact h e), i1, nI_add]
        rfl
      · rw [if_neg (show ¬ nI (inn Lk lo (rnd Lk lo a k) 16) = nI (rnd Lk lo a k) by rw [nI_eq (by omega) (by omega)]; exact e), if_pos (Or.inr e), i1, nI_add]
        rfl
    · show kX7_spread_s10 F 16 p (enc lo) (nI (rnd Lk lo a (N + 1))) (if N + 1 = 0 ∨ rnd Lk lo a (N + 1) ≠ rnd Lk lo a N then 1 else 0 : Int32) (nI (N + 1)) = _
      unfold kX7_spread_s10
      rw [if_neg (show ¬ (N + 1 = 0 ∨ rnd Lk lo a (N + 1) ≠ rnd Lk lo a N) by rintro (h | h); omega; exact h hfix), if_pos rfl]
  · have key : ∀ k b, (rnd Lk lo a k).testBit b = true → Rc (fun x y => x < 16 ∧ lo ≠ some x ∧ (Lk x).testBit y = true) a b := by
      intro k
      induction k with
      | zero =>
        intro b h
        have := (tb_p2 a b).mp h
        subst this
        exact Rc.rf
      | succ k ih => exact inn_rc ih (fun x y hx h1 h2 h3 => hx.tr ⟨h1, h2, h3⟩) 16 (Nat.le_refl _)
    exact key N b
  · intro h
    refine h (fun z => (rnd Lk lo a N).testBit z = true) ?_ ?_
    · have key : ∀ k, (rnd Lk lo a k).testBit a = true := by
        intro k
        induction k with
        | zero => exact (tb_p2 a a).mpr rfl
        | succ k ih => exact inn_ge ih
      exact key N
    · intro x y hx hxy
      exact inn_cl hfix hxy.1 hxy.2.1 hx hxy.2.2
