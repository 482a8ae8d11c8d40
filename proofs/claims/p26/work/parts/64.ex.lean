/-! a small logic of answers; sums; what is reached, on both sides -/
def Ex {α : Type} (x : Option α) (Q : α → Prop) : Prop := ∃ r, x = some r ∧ Q r
theorem Ex.v {α : Type} {a : α} {Q : α → Prop} (h : Q a) : Ex (some a) Q := ⟨a, rfl, h⟩
theorem Ex.b {α β : Type} {x : Option α} {f : α → Option β} {P : α → Prop} {Q : β → Prop} (h : Ex x P) (k : ∀ a, P a → Ex (f a) Q) : Ex (x.bind f) Q := by
  obtain ⟨a, rfl, h⟩ := h
  exact k a h
theorem Ex.o {α β : Type} {x : Option α} {f : α → Option β} {a : α} {Q : β → Prop} (h : x = some a) (k : Ex (f a) Q) : Ex (x.bind f) Q := by
  rw [h]; exact k
theorem Ex.t {α : Type} {c : Prop} [Decidable c] {a b : Option α} {Q : α → Prop} (h : c) (k : Ex a Q) : Ex (if c then a else b) Q := by
  rw [if_pos h]; exact k
theorem Ex.f {α : Type} {c : Prop} [Decidable c] {a b : Option α} {Q : α → Prop} (h : ¬ c) (k : Ex b Q) : Ex (if c then a else b) Q := by
  rw [if_neg h]; exact k
theorem Ex.e {α : Type} {x : Option α} {a : α} {Q : α → Prop} (h : x = some a) (k : Q a) : Ex x Q := ⟨a, h, k⟩
theorem Ex.m {α : Type} {x : Option α} {P Q : α → Prop} (h : Ex x P) (k : ∀ a, P a → Q a) : Ex x Q := by
  obtain ⟨a, h1, h2⟩ := h
  exact ⟨a, h1, k a h2⟩
def onS {σ τ : Type} (P : σ → Prop) (Q : τ → Prop) (x : σ ⊕ τ) : Prop := match x with
  | .inl s => P s
  | .inr t => Q t
/-- a loop that counts up to N, or leaves before -/
theorem Ex.fr {σ τ : Type} {f : σ → Option (σ ⊕ τ)} {Q : τ → Prop} (N : Nat) (P : Nat → σ → Prop) {s : σ} (h0 : P 0 s) (hs : ∀ i s, i < N → P i s → Ex (f s) (onS (P (i + 1)) Q)) (he : ∀ s, P N s → Ex (f s) (onS (fun _ => False) Q)) {F : Nat} (hF : N < F) : Ex (kloop F f s) Q := by
  have key : ∀ (k i n : Nat) (s : σ), i + k = N → k < n → P i s → Ex (kloop n f s) Q := by
    intro k
    induction k with
    | zero =>
      intro i n s hi hn hp
      obtain ⟨n, rfl⟩ : ∃ z, n = z + 1 := ⟨n - 1, by omega⟩
      have e : i = N := by omega
      subst e
      obtain ⟨x, h1, h2⟩ := he s hp
      show Ex ((f s).bind _) Q
      rw [h1]
      cases x with
      | inl a => exact absurd h2 id
      | inr b => exact ⟨b, rfl, h2⟩
    | succ k ih =>
      intro i n s hi hn hp
      obtain ⟨n, rfl⟩ : ∃ z, n = z + 1 := ⟨n - 1, by omega⟩
      obtain ⟨x, h1, h2⟩ := hs i s (by omega) hp
      show Ex ((f s).bind _) Q
      rw [h1]
      cases x with
      | inl a => exact ih (i + 1) n a (by omega) (by omega) h2
      | inr b => exact ⟨b, rfl, h2⟩
  exact key N 0 F s (by omega) hF h0
/-- a loop of at most k rounds more -/
theorem Ex.wh {σ τ : Type} {f : σ → Option (σ ⊕ τ)} {Q : τ → Prop} (P : Nat → σ → Prop) (hs : ∀ k s, P k s → Ex (f s) (onS (fun s' => ∃ k', k' < k ∧ P k' s') Q)) : ∀ {k F : Nat} {s : σ}, P k s → k < F → Ex (kloop F f s) Q := by
  intro k
  induction k using Nat.strongRecOn with
  | _ k ih =>
    intro F s hp hF
    obtain ⟨F, rfl⟩ : ∃ z, F = z + 1 := ⟨F - 1, by omega⟩
    obtain ⟨x, h1, h2⟩ := hs k s hp
    show Ex ((f s).bind _) Q
    rw [h1]
    cases x with
    | inl a =>
      obtain ⟨k', hk, h3⟩ := h2
      exact ih k' hk h3 (by omega)
    | inr b => exact ⟨b, rfl, h2⟩
-- sums
def sm (f : Nat → Nat) : Nat → Nat
  | 0 => 0
  | n + 1 => sm f n + f n
theorem sm_congr {f g : Nat → Nat} : ∀ {n : Nat}, (∀ i, i < n → f i = g i) → sm f n = sm g n
  | 0, _ => rfl
  | n + 1, h => by
    show sm f n + f n = sm g n + g n
    rw [sm_congr (fun i hi => h i (by omega)), h n (by omega)]
theorem sm_le {f : Nat → Nat} {b : Nat} : ∀ {n : Nat}, (∀ i, i < n → f i ≤ b) → sm f n ≤ n * b
  | 0, _ => by show 0 ≤ 0 * b; omega
  | n + 1, h => by
    have h1 := sm_le (n := n) (fun i hi => h i (by omega))
    have h2 := h n (by omega)
    show sm f n + f n ≤ (n + 1) * b
    rw [Nat.add_mul]
    omega
theorem sm_add (f g : Nat → Nat) : ∀ n : Nat, sm (fun i => f i + g i) n = sm f n + sm g n
  | 0 => rfl
  | n + 1 => by
    have h := sm_add f g n
    show sm (fun i => f i + g i) n + (f n + g n) = (sm f n + f n) + (sm g n + g n)
    omega
theorem sm_0 : ∀ n : Nat, sm (fun _ => 0) n = 0
  | 0 => rfl
  | n + 1 => by
    show sm (fun _ => 0) n + 0 = 0
    rw [sm_0 n]
theorem sm_swap (f : Nat → Nat → Nat) (m : Nat) : ∀ n : Nat, sm (fun i => sm (f i) m) n = sm (fun j => sm (fun i => f i j) n) m
  | 0 => by
    show 0 = sm (fun _ => 0) m
    rw [sm_0]
  | n + 1 => by
    show sm (fun i => sm (f i) m) n + sm (f n) m = sm (fun j => sm (fun i => f i j) n + f n j) m
    rw [sm_swap f m n, sm_add]
def num (p : Nat → Bool) (n : Nat) : Nat := sm (fun i => (p i).toNat) n
/-- how many of the first n have a property -/
noncomputable def nP (p : Nat → Prop) : Nat → Nat
  | 0 => 0
  | n + 1 => nP p n + @ite Nat (p n) (Classical.propDecidable _) 1 0
theorem nP_s1 {p : Nat → Prop} {n : Nat} (h : p n) : nP p (n + 1) = nP p n + 1 := by
  show nP p n + @ite Nat (p n) (Classical.propDecidable _) 1 0 = _
  rw [if_pos h]
theorem nP_s0 {p : Nat → Prop} {n : Nat} (h : ¬ p n) : nP p (n + 1) = nP p n := by
  show nP p n + @ite Nat (p n) (Classical.propDecidable _) 1 0 = _
  rw [if_neg h]; rfl
theorem nP_congr {p q : Nat → Prop} : ∀ {n : Nat}, (∀ i, i < n → (p i ↔ q i)) → nP p n = nP q n
  | 0, _ => rfl
  | n + 1, h => by
    have h1 := nP_congr (n := n) (fun i hi => h i (by omega))
    by_cases hp : p n
    · rw [nP_s1 hp, nP_s1 ((h n (by omega)).mp hp), h1]
    · rw [nP_s0 hp, nP_s0 (fun x => hp ((h n (by omega)).mpr x)), h1]
theorem nP_le (p : Nat → Prop) : ∀ n : Nat, nP p n ≤ n
  | 0 => Nat.le_refl 0
  | n + 1 => by
    have h := nP_le p n
    by_cases hp : p n
    · rw [nP_s1 hp]; omega
    · rw [nP_s0 hp]; omega
theorem nP_all {p : Nat → Prop} : ∀ {n : Nat}, nP p n = n ↔ ∀ i, i < n → p i
  | 0 => ⟨fun _ i hi => absurd hi (Nat.not_lt_zero i), fun _ => rfl⟩
  | n + 1 => by
    have h := nP_all (p := p) (n := n)
    have l := nP_le p n
    constructor
    · intro e i hi
      by_cases hp : p n
      · rw [nP_s1 hp] at e
        by_cases hin : i = n
        · subst hin; exact hp
        · exact h.mp (by omega) i (by omega)
      · rw [nP_s0 hp] at e; omega
    · intro e
      rw [nP_s1 (e n (by omega)), h.mpr (fun i hi => e i (by omega))]
theorem nP_up {p : Nat → Prop} {n : Nat} (h : ∀ i, n ≤ i → ¬ p i) : ∀ k : Nat, nP p (n + k) = nP p n
  | 0 => rfl
  | k + 1 => by
    show nP p ((n + k) + 1) = _
    rw [nP_s0 (h (n + k) (by omega)), nP_up h k]
theorem nP_pop {p : Nat → Prop} {M : Nat} : ∀ {n : Nat}, (∀ i, i < n → (M.testBit i = true ↔ p i)) → pop M n = nP p n
  | 0, _ => rfl
  | n + 1, h => by
    have h1 := nP_pop (n := n) (fun i hi => h i (by omega))
    have h2 := h n (by omega)
    show pop M n + (if M.testBit n then 1 else 0) = _
    by_cases hp : p n
    · rw [nP_s1 hp, if_pos (h2.mpr hp), h1]
    · rw [nP_s0 hp, if_neg (fun x => hp (h2.mp x)), h1]; rfl
theorem nP_num {p : Nat → Prop} {ρ : Nat → Bool} : ∀ {n : Nat}, (∀ i, i < n → (ρ i = true ↔ p i)) → num ρ n = nP p n
  | 0, _ => rfl
  | n + 1, h => by
    have h1 := nP_num (n := n) (fun i hi => h i (by omega))
    have h2 := h n (by omega)
    show num ρ n + (ρ n).toNat = _
    by_cases hp : p n
    · rw [nP_s1 hp, h2.mpr hp, h1]; rfl
    · rw [nP_s0 hp, h1]
      cases e : ρ n with
      | false => rfl
      | true => exact absurd (h2.mp e) hp
theorem num_le (ρ : Nat → Bool) (n : Nat) : num ρ n ≤ n := by
  have h := sm_le (f := fun i => (ρ i).toNat) (b := 1) (n := n) (fun i _ => by cases ρ i <;> decide)
  show sm _ n ≤ n
  omega
theorem num_mono {ρ ρ' : Nat → Bool} : ∀ {n : Nat}, (∀ i, i < n → ρ i = true → ρ' i = true) → num ρ n ≤ num ρ' n
  | 0, _ => Nat.le_refl 0
  | n + 1, h => by
    have h1 := num_mono (n := n) (fun i hi => h i (by omega))
    have h2 := h n (by omega)
    show num ρ n + (ρ n).toNat ≤ num ρ' n + (ρ' n).toNat
    cases e : ρ n with
    | false => show num ρ n + 0 ≤ _; omega
    | true => rw [h2 e]; omega
theorem num_eq {ρ ρ' : Nat → Bool} : ∀ {n : Nat}, (∀ i, i < n → ρ i = true → ρ' i = true) → num ρ n = num ρ' n → ∀ i, i < n → ρ i = ρ' i
  | 0, _, _, i, hi => absurd hi (Nat.not_lt_zero i)
  | n + 1, h, e, i, hi => by
    have h1 := num_mono (n := n) (fun i hi => h i (by omega))
    have h2 := h n (by omega)
    have e : num ρ n + (ρ n).toNat = num ρ' n + (ρ' n).toNat := e
    have key : ρ n = ρ' n := by
      cases e1 : ρ n with
      | false =>
        cases e2 : ρ' n with
        | false => rfl
        | true => rw [e1, e2] at e; exact absurd e (by show ¬ num ρ n + 0 = num ρ' n + 1; omega)
      | true => rw [h2 e1]
    by_cases hin : i = n
    · subst hin; exact key
    · rw [key] at e
      exact num_eq (n := n) (fun i hi => h i (by omega)) (by omega) i (by omega)
theorem num_pos {ρ : Nat → Bool} {a n : Nat} (ha : a < n) (h : ρ a = true) : 1 ≤ num ρ n := by
  have h1 := num_mono (ρ := fun i => decide (i = a)) (ρ' := ρ) (n := n) (fun i _ e => by rw [of_decide_eq_true e]; exact h)
  have h2 : ∀ n, a < n → 1 ≤ num (fun i => decide (i = a)) n := by
    intro n
    induction n with
    | zero => intro h; omega
    | succ n ih =>
      intro h
      show 1 ≤ num _ n + (decide (n = a)).toNat
      by_cases e : n = a
      · rw [decide_eq_true e]; show 1 ≤ _ + 1; omega
      · have := ih (by omega); omega
  exact Nat.le_trans (h2 n ha) h1
theorem pop_or {m d : Nat} (h : m.testBit d = false) : ∀ n : Nat, pop (m ||| 2 ^ d) n = pop m n + (if d < n then 1 else 0)
  | 0 => rfl
  | n + 1 => by
    have ih := pop_or h n
    show pop (m ||| 2 ^ d) n + (if (m ||| 2 ^ d).testBit n then 1 else 0) = (pop m n + (if m.testBit n then 1 else 0)) + _
    rw [ih]
    by_cases e : n = d
    · subst e
      rw [if_pos ((tb_or _ _ _).mpr (Or.inr ((tb_p2 n n).mpr rfl))), if_neg (by omega), h, if_neg (by decide), if_pos (by omega)]
    · have e1 : (m ||| 2 ^ d).testBit n = m.testBit n := by
        cases x : m.testBit n with
        | true => exact (tb_or _ _ _).mpr (Or.inl x)
        | false =>
          cases y : (m ||| 2 ^ d).testBit n with
          | false => rfl
          | true =>
            rcases (tb_or _ _ _).mp y with y | y
            · rw [x] at y; cases y
            · exact absurd ((tb_p2 d n).mp y) e
      rw [e1]
      by_cases l : d < n
      · rw [if_pos l, if_pos (show d < n + 1 by omega)]; omega
      · rw [if_neg l, if_neg (show ¬ d < n + 1 by omega)]; omega
theorem Rc.iff {adj adj' : Nat → Nat → Prop} (h : ∀ x y, adj x y ↔ adj' x y) (a b : Nat) : Rc adj a b ↔ Rc adj' a b := ⟨fun k => k.mono (fun x y e => (h x y).mp e), fun k => k.mono (fun x y e => (h x y).mpr e)⟩
-- joined cells
def JA (Wy : Nat → Nat → Option Nat) (T : Nat → Nat) (x y : Nat) : Prop := ∃ s, s < 4 ∧ jnd Wy T x s = true ∧ Wy x s = some y
theorem s22 {s : Nat} (h : s < 4) : ((s + 2) % 4 + 2) % 4 = s := by omega
theorem jnd_b {n c s d : Nat} {Wy : Nat → Nat → Option Nat} {T : Nat → Nat} (hW : WOK n Wy) (hs : s < 4) (e : Wy c s = some d) : jnd Wy T d ((s + 2) % 4) = jnd Wy T c s := by
  have h := (hW.2.1 c s d hs e).2.2.2
  unfold jnd
  rw [h, e]
  show ((T d).testBit ((s + 2) % 4) && (T c).testBit (((s + 2) % 4 + 2) % 4)) = ((T c).testBit s && (T d).testBit ((s + 2) % 4))
  rw [s22 hs, Bool.and_comm]
theorem JA.sym {n x y : Nat} {Wy : Nat → Nat → Option Nat} {T : Nat → Nat} (hW : WOK n Wy) (h : JA Wy T x y) : JA Wy T y x := by
  obtain ⟨s, hs, hj, e⟩ := h
  exact ⟨(s + 2) % 4, s2_lt s, by rw [jnd_b hW hs e]; exact hj, (hW.2.1 x s y hs e).2.2.2⟩
theorem JA.lt {n x y : Nat} {Wy : Nat → Nat → Option Nat} {T : Nat → Nat} (hW : WOK n Wy) (h : JA Wy T x y) : x < n ∧ y < n ∧ y ≠ x := by
  obtain ⟨s, hs, hj, e⟩ := h
  have := hW.2.1 x s y hs e
  exact ⟨this.1, this.2.1, this.2.2.1⟩
theorem JA.rlt {n a b : Nat} {Wy : Nat → Nat → Option Nat} {T : Nat → Nat} (hW : WOK n Wy) (ha : a < n) (h : Rc (JA Wy T) a b) : b < n := h (fun z => z < n) ha (fun _ _ _ h => (h.lt hW).2.1)
theorem a_reachedFrom {F n a : Nat} {Wy : Nat → Nat → Option Nat} {T : Nat → Nat} {Y : Nat → Option Nat} {bL : Nat → Int32} (hW : WOK n Wy) (hT : ∀ j, T j < 16) (hY : ∀ c s, c < 16 → s < 4 → Y (c * 4 + s) = Wy c s) (ha : a < 16) (hF : 1000 ≤ F) : Ex (kX0_reachedFrom F (fN T) (fE Y) bL (nI a)) (fun r => ∃ M, r.1 = nI M ∧ M < 2 ^ 16 ∧ ∀ b, M.testBit b = true ↔ Rc (JA Wy T) a b) := by
  unfold kX0_reachedFrom
  refine Ex.b (P := fun p => ∀ j, j < 16 → p j = nI (jto Wy T j 4)) (Ex.fr 16 (fun i s => s.1 = nI i ∧ ∀ j, j < i → s.2 j = nI (jto Wy T j 4)) ⟨rfl, fun j hj => absurd hj (Nat.not_lt_zero j)⟩ ?_ ?_ (by omega)) ?_
  · rintro i ⟨s1, s2⟩ hi ⟨h1, h2⟩
    have h1 : s1 = nI i := h1
    subst h1
    show Ex (kX0_reachedFrom_s2 F (fN T) (fE Y) (nI i) s2) _
    unfold kX0_reachedFrom_s2
    refine Ex.f (show ¬ (16 : Int32) ≤ nI i from nI_ge hi (by decide)) ?_
    refine Ex.o (a_joinedTo hW hT hY hi (by omega)) ?_
    refine Ex.t (ix_n hi (by decide)) (Ex.v ⟨nI_1 i, fun j hj => ?_⟩)
    show upd s2 (nI i).toNatClampNeg (nI (jto Wy T i 4)) j = _
    rw [cl_n (by omega)]
    by_cases e : j = i
    · subst e; exact pk_us
    · rw [pk_un e]; exact h2 j (by omega)
  · rintro ⟨s1, s2⟩ ⟨h1, h2⟩
    have h1 : s1 = nI 16 := h1
    subst h1
    show Ex (kX0_reachedFrom_s2 F (fN T) (fE Y) (nI 16) s2) _
    unfold kX0_reachedFrom_s2
    exact Ex.t (by decide) (Ex.v h2)
  · intro p hp
    obtain ⟨M, h1, h2, h3⟩ := a_spread (F := F) (a := a) (Lk := fun j => if j < 16 then jto Wy T j 4 else 0) (lo := none) (p := p) (fun j hj => by rw [if_pos hj]; exact hp j hj) (fun j => by
      show (if j < 16 then jto Wy T j 4 else 0) < 2 ^ 16
      split
      · exact jto_lt hW j 4 (Nat.le_refl 4)
      · decide) ha (fun d h => by cases h) (by omega)
    refine Ex.o h1 (Ex.v ⟨M, rfl, h2, fun b => (h3 b).trans (Rc.iff (fun x y => ?_) a b)⟩)
    constructor
    · rintro ⟨hx, -, h⟩
      have h : (if x < 16 then jto Wy T x 4 else 0).testBit y = true := h
      rw [if_pos hx] at h
      obtain ⟨s, a1, a2, a3⟩ := (jto_tb x y 4).mp h
      exact ⟨s, a1, a2, a3⟩
    · intro h
      have hx := (h.lt hW).1
      have hx : x < 16 := Nat.lt_of_lt_of_le hx hW.1
      obtain ⟨s, a1, a2, a3⟩ := h
      refine ⟨hx, (fun h => by cases h), ?_⟩
      show (if x < 16 then jto Wy T x 4 else 0).testBit y = true
      rw [if_pos hx]
      exact (jto_tb x y 4).mpr ⟨s, a1, a2, a3⟩
theorem a_countOpen {F n : Nat} {T : Nat → Nat} (hT : ∀ j, T j < 16) (hn : n ≤ 16) (hF : 1000 ≤ F) : kX0_countOpen F (nI n) (fN T) = some (nI (sm (fun c => pop (T c) 16) n)) := by
  unfold kX0_countOpen
  refine ob_i (kl_run' (fun i => (nI (sm (fun c => pop (T c) 16) i), nI i)) n rfl ?_ ?_ (by omega)) rfl
  · intro i hi
    show kX0_countOpen_s4 F (nI n) (fN T) (nI (sm (fun c => pop (T c) 16) i)) (nI i) = _
    unfold kX0_countOpen_s4
    rw [if_neg (nI_ge hi (by omega))]
    refine ob_i (a_sidesOf (by omega)) ?_
    refine ob_i (a_bc (show T i < 65536 by have := hT i; omega)) ?_
    rw [nI_add, nI_1]
    rfl
  · show kX0_countOpen_s4 F (nI n) (fN T) (nI (sm (fun c => pop (T c) 16) n)) (nI n) = _
    unfold kX0_countOpen_s4
    rw [if_pos (nI_le (Nat.le_refl n) (by omega))]
theorem a_countJoined {F n : Nat} {Wy : Nat → Nat → Option Nat} {T : Nat → Nat} {Y : Nat → Option Nat} (hW : WOK n Wy) (hT : ∀ j, T j < 16) (hY : ∀ c s, c < 16 → s < 4 → Y (c * 4 + s) = Wy c s) (hF : 1000 ≤ F) : kX0_countJoined F (nI n) (fN T) (fE Y) = some (nI (sm (fun c => pop (jto Wy T c 4) 16) n)) := by
  have hn := hW.1
  unfold kX0_countJoined
  refine ob_i (kl_run' (fun i => (nI (sm (fun c => pop (jto Wy T c 4) 16) i), nI i)) n rfl ?_ ?_ (by omega)) rfl
  · intro i hi
    show kX0_countJoined_s4 F (nI n) (fN T) (fE Y) (nI (sm (fun c => pop (jto Wy T c 4) 16) i)) (nI i) = _
    unfold kX0_countJoined_s4
    rw [if_neg (nI_ge hi (by omega))]
    refine ob_i (a_joinedTo hW hT hY (by omega) (by omega)) ?_
    refine ob_i (a_bc (show jto Wy T i 4 < 65536 from jto_lt hW i 4 (Nat.le_refl 4))) ?_
    rw [nI_add, nI_1]
    rfl
  · show kX0_countJoined_s4 F (nI n) (fN T) (fE Y) (nI (sm (fun c => pop (jto Wy T c 4) 16) n)) (nI n) = _
    unfold kX0_countJoined_s4
    rw [if_pos (nI_le (Nat.le_refl n) (by omega))]
theorem pop_jto {n c : Nat} {Wy : Nat → Nat → Option Nat} {T : Nat → Nat} (hW : WOK n Wy) : ∀ k, k ≤ 4 → pop (jto Wy T c k) 16 = sm (fun s => (jnd Wy T c s).toNat) k
  | 0, _ => by show pop 0 16 = 0; decide
  | k + 1, hk => by
    have ih := pop_jto (T := T) (c := c) hW k (by omega)
    show _ = sm (fun s => (jnd Wy T c s).toNat) k + (jnd Wy T c k).toNat
    cases e : jnd Wy T c k with
    | false =>
      rw [show jto Wy T c (k + 1) = jto Wy T c k by
        show (if jnd Wy T c k = true then _ else _) = _
        rw [if_neg (by rw [e]; decide)], ih]
      rfl
    | true =>
      cases e2 : Wy c k with
      | none => unfold jnd at e; rw [e2] at e; cases e
      | some d =>
        have hd := hW.2.1 c k d (by omega) e2
        have hb : (jto Wy T c k).testBit d = false := by
          cases x : (jto Wy T c k).testBit d with
          | false => rfl
          | true =>
            obtain ⟨s, h1, h2, h3⟩ := (jto_tb c d k).mp x
            have := hW.2.2 c s k d (by omega) (by omega) h3 e2
            omega
        rw [show jto Wy T c (k + 1) = jto Wy T c k ||| 2 ^ d by
          show (if jnd Wy T c k = true then _ else _) = _
          rw [if_pos e, e2], pop_or hb, ih, if_pos (Nat.lt_of_lt_of_le hd.2.1 hW.1)]
        rfl
/-- open sides, joined sides, in all -/
def opn (T : Nat → Nat) (n : Nat) : Nat := sm (fun c => pop (T c) 16) n
def jnn (Wy : Nat → Nat → Option Nat) (T : Nat → Nat) (n : Nat) : Nat := sm (fun c => sm (fun s => (jnd Wy T c s).toNat) 4) n
theorem opn_le (T : Nat → Nat) {n : Nat} (hn : n ≤ 16) : opn T n ≤ 256 := by
  have h := sm_le (f := fun c => pop (T c) 16) (b := 16) (n := n) (fun i _ => pop_le _ 16)
  show sm _ n ≤ 256
  omega
theorem jnn_le (Wy : Nat → Nat → Option Nat) (T : Nat → Nat) {n : Nat} (hn : n ≤ 16) : jnn Wy T n ≤ 64 := by
  have h := sm_le (f := fun c => sm (fun s => (jnd Wy T c s).toNat) 4) (b := 4) (n := n) (fun i _ => by
    have := sm_le (f := fun s => (jnd Wy T i s).toNat) (b := 1) (n := 4) (fun s _ => by cases jnd Wy T i s <;> decide)
    show sm _ 4 ≤ 4
    omega)
  show sm _ n ≤ 64
  omega
theorem a_countJoined' {F n : Nat} {Wy : Nat → Nat → Option Nat} {T : Nat → Nat} {Y : Nat → Option Nat} (hW : WOK n Wy) (hT : ∀ j, T j < 16) (hY : ∀ c s, c < 16 → s < 4 → Y (c * 4 + s) = Wy c s) (hF : 1000 ≤ F) : kX0_countJoined F (nI n) (fN T) (fE Y) = some (nI (jnn Wy T n)) := by
  rw [a_countJoined hW hT hY hF]
  unfold jnn
  rw [sm_congr (fun c _ => pop_jto hW 4 (Nat.le_refl 4))]
-- the reference