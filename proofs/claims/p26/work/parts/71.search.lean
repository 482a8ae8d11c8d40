/-! the search, told once for both sides -/
def iter {σ : Type} (f : Nat → σ → σ) : Nat → σ → σ
  | 0, s => s
  | k + 1, s => f k (iter f k s)
theorem iter_congr {σ : Type} {f g : Nat → σ → σ} : ∀ {k : Nat} {s : σ}, (∀ i s, i < k → f i s = g i s) → iter f k s = iter g k s
  | 0, _, _ => rfl
  | k + 1, s, h => by
    show f k (iter f k s) = g k (iter g k s)
    rw [iter_congr (fun i s hi => h i s (by omega)), h k _ (by omega)]
theorem iter_id {σ : Type} {f : Nat → σ → σ} : ∀ {k : Nat} {s : σ}, (∀ i s, i < k → f i s = s) → iter f k s = s
  | 0, _, _ => rfl
  | k + 1, s, h => by
    show f k (iter f k s) = s
    rw [h k _ (by omega), iter_id (fun i s hi => h i s (by omega))]
noncomputable def cif {σ : Type} (p : Prop) (a b : σ) : σ := @ite σ p (Classical.propDecidable p) a b
theorem cif_t {σ : Type} {p : Prop} {a b : σ} (h : p) : cif p a b = a := if_pos h
theorem cif_f {σ : Type} {p : Prop} {a b : σ} (h : ¬ p) : cif p a b = b := if_neg h
/-- all lays of the cells from n - m on are tried; pr cuts off, q asks at the end -/
noncomputable def srP {σ : Type} (pr : Nat → (Nat → Nat) → Prop) (q : (Nat → Nat) → Prop) (nt : (Nat → Nat) → σ → σ) (n : Nat) : Nat → (Nat → Nat) → σ → σ
  | 0, a, s => cif (q a) (nt a s) s
  | m + 1, a, s => iter (fun k s => cif (pr (n - (m + 1)) (up a (n - (m + 1)) k)) (srP pr q nt n m (up a (n - (m + 1)) k) s) s) 4 s
noncomputable def srU {σ : Type} (acc : (Nat → Nat) → Prop) (nt : (Nat → Nat) → σ → σ) (n : Nat) : Nat → (Nat → Nat) → σ → σ
  | 0, a, s => cif (acc a) (nt a s) s
  | m + 1, a, s => iter (fun k s => srU acc nt n m (up a (n - (m + 1)) k) s) 4 s
theorem srU_none {σ : Type} {acc : (Nat → Nat) → Prop} {nt : (Nat → Nat) → σ → σ} {n : Nat} : ∀ (m : Nat) (a : Nat → Nat) (s : σ), (∀ b : Nat → Nat, (∀ i, i < n - m → b i = a i) → ¬ acc b) → srU acc nt n m a s = s
  | 0, a, s, h => cif_f (h a (fun _ _ => rfl))
  | m + 1, a, s, h => iter_id (fun k s _ => srU_none m (up a (n - (m + 1)) k) s (fun b hb => h b (fun i hi => by rw [hb i (by omega), up_n (by omega)])))
theorem srP_U {σ : Type} {pr : Nat → (Nat → Nat) → Prop} {q : (Nat → Nat) → Prop} {nt : (Nat → Nat) → σ → σ} {n : Nat} (hpr : ∀ c a b, (∀ i, i ≤ c → a i = b i) → pr c a → pr c b) : ∀ (m : Nat) (a : Nat → Nat) (s : σ), m ≤ n → (∀ c, c < n - m → pr c a) → srP pr q nt n m a s = srU (fun a => (∀ c, c < n → pr c a) ∧ q a) nt n m a s
  | 0, a, s, _, h => by
    show cif (q a) (nt a s) s = cif _ (nt a s) s
    by_cases hq : q a
    · rw [cif_t hq, cif_t ⟨fun c hc => h c (by omega), hq⟩]
    · rw [cif_f hq, cif_f (fun x => hq x.2)]
  | m + 1, a, s, hm, h => by
    refine iter_congr (fun k s _ => ?_)
    by_cases hp : pr (n - (m + 1)) (up a (n - (m + 1)) k)
    · rw [cif_t hp]
      refine srP_U hpr m _ s (by omega) (fun c hc => ?_)
      by_cases e : c = n - (m + 1)
      · subst e; exact hp
      · exact hpr c a _ (fun i hi => (up_n (by omega)).symm) (h c (by omega))
    · rw [cif_f hp]
      refine (srU_none m _ s (fun b hb hacc => hp ?_)).symm
      exact hpr _ b _ (fun i hi => hb i (by omega)) (hacc.1 _ (by omega))
theorem srP_eq {σ : Type} {pr pr' : Nat → (Nat → Nat) → Prop} {q q' : (Nat → Nat) → Prop} {nt : (Nat → Nat) → σ → σ} {n : Nat} (h1 : ∀ c a b, (∀ i, i ≤ c → a i = b i) → pr c a → pr c b) (h2 : ∀ c a b, (∀ i, i ≤ c → a i = b i) → pr' c a → pr' c b) (h : ∀ a, ((∀ c, c < n → pr c a) ∧ q a) ↔ ((∀ c, c < n → pr' c a) ∧ q' a)) (a : Nat → Nat) (s : σ) : srP pr q nt n n a s = srP pr' q' nt n n a s := by
  rw [srP_U h1 n a s (Nat.le_refl n) (fun c hc => by omega), srP_U h2 n a s (Nat.le_refl n) (fun c hc => by omega)]
  have e : (fun a => (∀ c, c < n → pr c a) ∧ q a) = (fun a => (∀ c, c < n → pr' c a) ∧ q' a) := funext (fun a => propext (h a))
  rw [e]
section SO
variable {n : Nat} {Wy : Nat → Nat → Option Nat} {T U V O L a : Nat → Nat}
/-- the tiles after the lays -/
def tls (T a : Nat → Nat) : Nat → Nat := fun c => rot (T c) (a c)
theorem tls_lt (T a : Nat → Nat) (c : Nat) : tls T a c < 16 := rot_lt _ _
/-- the tile of c goes with the border, the walls and the cells before it -/
def fitU (Wy : Nat → Nat → Option Nat) (U : Nat → Nat) (c : Nat) : Prop := ∀ s, s < 4 → (Wy c s = none → (U c).testBit s = false) ∧ ∀ d, Wy c s = some d → d < c → (U c).testBit s = (U d).testBit ((s + 2) % 4)
/-- the same, of the cells before it alone -/
def fitC (Wy : Nat → Nat → Option Nat) (U : Nat → Nat) (c : Nat) : Prop := ∀ s, s < 4 → ∀ d, Wy c s = some d → d < c → (U c).testBit s = (U d).testBit ((s + 2) % 4)
def noLo (Wy : Nat → Nat → Option Nat) (U : Nat → Nat) (n : Nat) : Prop := ∀ c s, c < n → s < 4 → (U c).testBit s = true → ∃ d, Wy c s = some d ∧ (U d).testBit ((s + 2) % 4) = true
theorem noLo_iff (hW : WOK n Wy) : noLo Wy U n ↔ ∀ c, c < n → fitU Wy U c := by
  constructor
  · intro h c hc s hs
    refine ⟨fun e => ?_, fun d e hd => ?_⟩
    · cases x : (U c).testBit s with
      | false => rfl
      | true =>
        obtain ⟨d, h1, -⟩ := h c s hc hs x
        rw [e] at h1; cases h1
    · have hd' := hW.2.1 c s d hs e
      cases x : (U c).testBit s with
      | true =>
        obtain ⟨d', h1, h2⟩ := h c s hc hs x
        rw [e] at h1; cases h1
        exact h2.symm
      | false =>
        cases y : (U d).testBit ((s + 2) % 4) with
        | false => rfl
        | true =>
          obtain ⟨c', h1, h2⟩ := h d _ hd'.2.1 (s2_lt s) y
          rw [hd'.2.2.2] at h1; cases h1
          rw [s22 hs, x] at h2; cases h2
  · intro h c s hc hs x
    cases e : Wy c s with
    | none => rw [(h c hc s hs).1 e] at x; cases x
    | some d =>
      have hd := hW.2.1 c s d hs e
      refine ⟨d, rfl, ?_⟩
      by_cases hdc : d < c
      · rw [← (h c hc s hs).2 d e hdc]; exact x
      · have := (h d hd.2.1 _ (s2_lt s)).2 c hd.2.2.2 (by omega)
        rw [s22 hs] at this
        rw [this]; exact x
theorem noLo_jnd (hL : noLo Wy U n) {c s : Nat} (hc : c < n) (hs : s < 4) : jnd Wy U c s = (U c).testBit s := by
  unfold jnd
  cases x : (U c).testBit s with
  | false => cases Wy c s <;> rfl
  | true =>
    obtain ⟨d, h1, h2⟩ := hL c s hc hs x
    rw [h1]
    show (true && (U d).testBit ((s + 2) % 4)) = true
    rw [h2]; rfl
theorem pop4 {t : Nat} (ht : t < 16) : pop t 16 = sm (fun s => (t.testBit s).toNat) 4 := by
  have h : ∀ t, t < 16 → pop t 16 = sm (fun s => (t.testBit s).toNat) 4 := by decide +kernel
  exact h t ht
theorem pop_rot {t k : Nat} (ht : t < 16) (hk : k < 4) : pop (rot t k) 16 = pop t 16 := by
  have h : ∀ t, t < 16 → ∀ k, k < 4 → pop (rot t k) 16 = pop t 16 := by decide +kernel
  exact h t ht k hk
theorem noLo_opn (hU : ∀ j, U j < 16) (hL : noLo Wy U n) : opn U n = jnn Wy U n := by
  refine sm_congr (fun c hc => ?_)
  rw [pop4 (hU c)]
  exact sm_congr (fun s hs => by rw [noLo_jnd hL hc hs])
theorem opn_tls (hT : ∀ j, T j < 16) (ha : ∀ c, c < n → a c < 4) : opn (tls T a) n = opn T n := sm_congr (fun c hc => pop_rot (hT c) (ha c hc))
def conA (Wy : Nat → Nat → Option Nat) (U : Nat → Nat) (n : Nat) : Prop := ∀ c, c < n → Rc (JA Wy U) 0 c
/-- a solution -/
def Sol (Wy : Nat → Nat → Option Nat) (T O : Nat → Nat) (n : Nat) (a : Nat → Nat) : Prop := (∀ c, c < n → (O c).testBit (a c) = true) ∧ (∀ c, c < n → fitU Wy (tls T a) c) ∧ (∀ c, c < n → NoC Wy (tls T a) c) ∧ conA Wy (tls T a) n
theorem lt_of_tb {m i : Nat} (hm : m < 16) (h : m.testBit i = true) : i < 4 := Classical.byContradiction (fun hi => (by rw [tb_16 hm (by omega)] at h; cases h))
/-- as the reference asks it -/
theorem Sol_ref (hW : WOK n Wy) (hn : 1 ≤ n) (hT : ∀ j, T j < 16) (hO : ∀ j, O j < 16) : ((∀ c, c < n → ((O c).testBit (a c) = true ∧ fitU Wy (tls T a) c)) ∧ (opn T n = 2 * (n - 1) ∧ conA Wy (tls T a) n)) ↔ Sol Wy T O n a := by
  have key : (∀ c, c < n → (O c).testBit (a c) = true) → (∀ c, c < n → fitU Wy (tls T a) c) → conA Wy (tls T a) n → (opn T n = 2 * (n - 1) ↔ ∀ c, c < n → NoC Wy (tls T a) c) := by
    intro h1 h2 h3
    have hL := (noLo_iff hW).mpr h2
    rw [← opn_tls (a := a) hT (fun c hc => lt_of_tb (hO c) (h1 c hc)), noLo_opn (tls_lt T a) hL]
    exact tree_iff hW hn h3
  constructor
  · rintro ⟨h1, h2, h3⟩
    exact ⟨fun c hc => (h1 c hc).1, fun c hc => (h1 c hc).2, (key (fun c hc => (h1 c hc).1) (fun c hc => (h1 c hc).2) h3).mp h2, h3⟩
  · rintro ⟨h1, h2, h3, h4⟩
    exact ⟨fun c hc => ⟨h1 c hc, h2 c hc⟩, (key h1 h2 h4).mpr h3, h4⟩
-- no circle anywhere: without the joint of c and d1 they still hang together
def cutW (Wy : Nat → Nat → Option Nat) (c0 s0 d0 : Nat) : Nat → Nat → Option Nat := fun c s => if (c = c0 ∧ s = s0) ∨ (c = d0 ∧ s = (s0 + 2) % 4) then none else Wy c s
theorem cutW_e {c0 s0 d0 c s d : Nat} (h : cutW Wy c0 s0 d0 c s = some d) : ¬ ((c = c0 ∧ s = s0) ∨ (c = d0 ∧ s = (s0 + 2) % 4)) ∧ Wy c s = some d := by
  unfold cutW at h
  split at h
  · cases h
  · rename_i hn
    exact ⟨hn, h⟩
theorem cutW_ok (hW : WOK n Wy) {c0 s0 d0 : Nat} (hs : s0 < 4) (e : Wy c0 s0 = some d0) : WOK n (cutW Wy c0 s0 d0) := by
  have hd := hW.2.1 c0 s0 d0 hs e
  refine ⟨hW.1, fun c s d hs1 h => ?_, fun c s s' d h1 h2 h3 h4 => hW.2.2 c s s' d h1 h2 (cutW_e h3).2 (cutW_e h4).2⟩
  obtain ⟨h1, h2⟩ := cutW_e h
  have hh := hW.2.1 c s d hs1 h2
  refine ⟨hh.1, hh.2.1, hh.2.2.1, ?_⟩
  unfold cutW
  rw [if_neg, hh.2.2.2]
  rintro (⟨a1, a2⟩ | ⟨a1, a2⟩)
  · subst a1
    have e2 := hh.2.2.2
    rw [a2, e] at e2
    cases e2
    refine h1 (Or.inr ⟨rfl, ?_⟩)
    rw [← a2, s22 hs1]
  · have hs2 : s = s0 := by omega
    subst hs2
    have e3 := hd.2.2.2
    rw [← a1, hh.2.2.2] at e3
    cases e3
    exact h1 (Or.inl ⟨rfl, rfl⟩)
theorem no_circ (hW : WOK n Wy) (hn : 1 ≤ n) (hc : conA Wy U n) (hN : ∀ c, c < n → NoC Wy U c) {c s1 s2 d1 d2 : Nat} (hs : s2 < s1) (hs1 : s1 < 4) (e1 : Wy c s1 = some d1) (e2 : Wy c s2 = some d2) (j1 : jnd Wy U c s1 = true) (j2 : jnd Wy U c s2 = true) : ¬ Rc (fun x y => x ≠ c ∧ y ≠ c ∧ JA Wy U x y) d1 d2 := by
  intro hrc
  have hd1 := hW.2.1 c s1 d1 hs1 e1
  have hd2 := hW.2.1 c s2 d2 (by omega) e2
  have hne : d1 ≠ d2 := fun e => by
    have := hW.2.2 c s1 s2 d1 hs1 (by omega) e1 (by rw [e2, e])
    omega
  have hW' := cutW_ok hW hs1 e1
  have jeq : ∀ x s, ¬ ((x = c ∧ s = s1) ∨ (x = d1 ∧ s = (s1 + 2) % 4)) → jnd (cutW Wy c s1 d1) U x s = jnd Wy U x s := by
    intro x s h
    unfold jnd cutW
    rw [if_neg h]
  have jle : ∀ x s, (jnd (cutW Wy c s1 d1) U x s).toNat ≤ (jnd Wy U x s).toNat := by
    intro x s
    by_cases h : (x = c ∧ s = s1) ∨ (x = d1 ∧ s = (s1 + 2) % 4)
    · have : jnd (cutW Wy c s1 d1) U x s = false := by
        unfold jnd cutW
        rw [if_pos h]
      rw [this]; exact Nat.zero_le _
    · rw [jeq x s h]; exact Nat.le_refl _
  have jlt : jnn (cutW Wy c s1 d1) U n < jnn Wy U n := by
    have smle : ∀ (f g : Nat → Nat), (∀ i, f i ≤ g i) → ∀ k, sm f k ≤ sm g k := by
      intro f g h k
      induction k with
      | zero => exact Nat.le_refl 0
      | succ k ih =>
        have := h k
        show sm f k + f k ≤ sm g k + g k
        omega
    refine sm_lt (fun i _ => smle _ _ (fun s => jle i s) 4) ⟨c, hd1.1, sm_lt (fun s _ => jle c s) ⟨s1, hs1, ?_⟩⟩
    have : jnd (cutW Wy c s1 d1) U c s1 = false := by
      unfold jnd cutW
      rw [if_pos (Or.inl ⟨rfl, rfl⟩)]
    rw [this, j1]
    decide
  -- still joined
  have hJ : ∀ x y, x ≠ c → y ≠ c → JA Wy U x y → JA (cutW Wy c s1 d1) U x y := by
    rintro x y hx hy ⟨s, a1, a2, a3⟩
    have hno : ¬ ((x = c ∧ s = s1) ∨ (x = d1 ∧ s = (s1 + 2) % 4)) := by
      rintro (⟨h, -⟩ | ⟨h, h'⟩)
      · exact hx h
      · subst h h'
        rw [hd1.2.2.2] at a3
        cases a3
        exact hy rfl
    refine ⟨s, a1, by rw [jeq x s hno]; exact a2, ?_⟩
    unfold cutW
    rw [if_neg hno]; exact a3
  have hc2 : Rc (JA (cutW Wy c s1 d1) U) c d1 := by
    have hno : ¬ ((c = c ∧ s2 = s1) ∨ (c = d1 ∧ s2 = (s1 + 2) % 4)) := by
      rintro (⟨-, h⟩ | ⟨h, -⟩)
      · omega
      · exact hd1.2.2.1 h.symm
    have h1 : JA (cutW Wy c s1 d1) U c d2 := ⟨s2, by omega, by rw [jeq c s2 hno]; exact j2, by unfold cutW; rw [if_neg hno]; exact e2⟩
    have h2 : Rc (JA (cutW Wy c s1 d1) U) d1 d2 := hrc.mono (fun x y h => hJ x y h.1 h.2.1 h.2.2)
    exact (Rc.rf.tr h1).trans (h2.sym (fun x y h => h.sym hW'))
  have hcon : conA (cutW Wy c s1 d1) U n := by
    intro x hx
    refine (hc x hx) (fun z => Rc (JA (cutW Wy c s1 d1) U) 0 z) Rc.rf (fun y z hy hyz => ?_)
    obtain ⟨s, a1, a2, a3⟩ := hyz
    by_cases hno : (y = c ∧ s = s1) ∨ (y = d1 ∧ s = (s1 + 2) % 4)
    · rcases hno with ⟨h, h'⟩ | ⟨h, h'⟩
      · subst h h'
        rw [e1] at a3; cases a3
        exact hy.trans hc2
      · subst h h'
        rw [hd1.2.2.2] at a3; cases a3
        exact hy.trans (hc2.sym (fun x y h => h.sym hW'))
    · exact hy.tr ⟨s, a1, by rw [jeq y s hno]; exact a2, by unfold cutW; rw [if_neg hno]; exact a3⟩
  have t1 := (tree_iff hW hn hc).mpr hN
  have r1 := rts_all (U := U) hW' n
  have r2 := jnn_K (U := U) hW'
  rw [sq_half (KK2_sym hW') (KK2_ir hW')] at r2
  have hroot : rts (cutW Wy c s1 d1) U n ≤ 1 := by
    have hJ' : ∀ x y, Rc (JA (cutW Wy c s1 d1) U) x y → Rc (PJ (cutW Wy c s1 d1) U n) x y := fun x y h => h.mono (fun x y h => ⟨(h.lt hW').1, (h.lt hW').2.1, h⟩)
    have key : ∀ m, m ≤ n → nP (Rt (PJ (cutW Wy c s1 d1) U n)) m ≤ 1 := by
      intro m
      induction m with
      | zero => intro _; exact Nat.zero_le 1
      | succ m ih =>
        intro hm
        have h1 := ih (by omega)
        by_cases e : m = 0
        · subst e
          exact nP_le _ 1
        · have hno : ¬ Rt (PJ (cutW Wy c s1 d1) U n) m := fun h => by
            have := h 0 ((hJ' 0 m (hcon m (by omega))).sym (fun x y h => h.sym hW'))
            omega
          rw [nP_s0 hno]; exact h1
    exact key n (Nat.le_refl n)
  have := r1.1
  omega
/-- a solution's lays are never struck -/
theorem Sol_keep (hW : WOK n Wy) (hn : 1 ≤ n) (hO : ∀ j, O j < 16) (h : Sol Wy T O n a) {c : Nat} (hc : c < n) : Keep Wy T O n c (a c) := by
  obtain ⟨h1, h2, h3, h4⟩ := h
  have ha : ∀ c, c < n → a c < 4 := fun c hc => lt_of_tb (hO c) (h1 c hc)
  have hL := (noLo_iff hW).mpr h2
  have Sb : ∀ j i, (if j < n then 2 ^ a j else 0 : Nat).testBit i = true ↔ j < n ∧ i = a j := by
    intro j i
    by_cases hj : j < n
    · rw [if_pos hj, tb_p2]; exact ⟨fun h => ⟨hj, h⟩, fun h => h.2⟩
    · rw [if_neg hj, Nat.zero_testBit]; exact ⟨fun h => (by cases h), fun h => absurd h.1 hj⟩
  refine ⟨fun j => if j < n then 2 ^ a j else 0, fun j i hb => ?_, fun j i hj hi hb hst => ?_, (Sb c (a c)).mpr ⟨hc, rfl⟩⟩
  · obtain ⟨hj, e⟩ := (Sb j i).mp hb
    subst e
    exact h1 j hj
  · obtain ⟨-, e⟩ := (Sb j i).mp hb
    subst e
    have al : ∀ d s, d < n → allO T (fun j => if j < n then 2 ^ a j else 0) d s → (tls T a d).testBit s = true := fun d s hd hx => hx (a d) (ha d hd) ((Sb d (a d)).mpr ⟨hd, rfl⟩)
    rcases hst with ⟨s, hs, ⟨x1, x2⟩ | ⟨d, x1, x2, x3⟩ | ⟨d, x1, x2, x3⟩⟩ | ⟨s1, s2, d1, d2, x1, x2, x3, x4, x5, x6, x7⟩
    · obtain ⟨d, y, -⟩ := hL j s hj hs x1
      rw [x2] at y; cases y
    · obtain ⟨d', y1, y2⟩ := hL j s hj hs x1
      rw [x2] at y1; cases y1
      have hd := (hW.2.1 j s d hs x2).2.1
      exact x3 ⟨a d, ha d hd, (Sb d (a d)).mpr ⟨hd, rfl⟩, y2⟩
    · have hd := hW.2.1 j s d hs x2
      have y := al d _ hd.2.1 x3
      obtain ⟨c', y1, y2⟩ := hL d _ hd.2.1 (s2_lt s) y
      rw [hd.2.2.2] at y1; cases y1
      rw [s22 hs] at y2
      exact x1 y2
    · refine no_circ (U := tls T a) hW hn h4 h3 x1 x2 x3 x4 (by rw [noLo_jnd hL hj x2]; exact x5) (by rw [noLo_jnd hL hj (by omega)]; exact x6) (x7.mono (fun x y hxy => ⟨hxy.1, hxy.2.1, ?_⟩))
      obtain ⟨s, y1, y2, y3, y4⟩ := hxy.2.2
      have hx := hW.2.1 x s y y1 y2
      refine ⟨s, y1, ?_, y2⟩
      rw [noLo_jnd hL hx.1 y1]
      exact al x s hx.1 y3
/-- as the class asks it, over the lays that are left -/
theorem Sol_cls (hW : WOK n Wy) (hn : 1 ≤ n) (hO : ∀ j, O j < 16) (hL : ∀ c k, (L c).testBit k = true ↔ Keep Wy T O n c k) : ((∀ c, c < n → ((L c).testBit (a c) = true ∧ fitC Wy (tls T a) c ∧ NoC Wy (tls T a) c)) ∧ conA Wy (tls T a) n) ↔ Sol Wy T O n a := by
  constructor
  · rintro ⟨h1, h2⟩
    refine ⟨fun c hc => ((hL c _).mp (h1 c hc).1).own, fun c hc s hs => ⟨fun e => ?_, fun d e hd => (h1 c hc).2.1 s hs d e hd⟩, fun c hc => (h1 c hc).2.2, h2⟩
    have hk := (hL c _).mp (h1 c hc).1
    have hns := hk.nst (L := L) (fun c k h => (hL c k).mpr h) hc (lt_of_tb (hO c) hk.own)
    cases x : (tls T a c).testBit s with
    | false => rfl
    | true => exact absurd (Or.inl ⟨s, hs, Or.inl ⟨x, e⟩⟩) hns
  · intro h
    exact ⟨fun c hc => ⟨(hL c _).mpr (Sol_keep hW hn hO h hc), fun s hs d e hd => (h.2.1 c hc s hs).2 d e hd, h.2.2.1 c hc⟩, h.2.2.2⟩
-- what is asked of a cell hangs on the cells up to it alone
theorem jnd_loc {c s d : Nat} (h1 : U c = V c) (e : Wy c s = some d) (h2 : U d = V d) : jnd Wy U c s = jnd Wy V c s := by
  unfold jnd
  rw [e]
  show ((U c).testBit s && (U d).testBit _) = ((V c).testBit s && (V d).testBit _)
  rw [h1, h2]
theorem fitU_loc {c : Nat} (h : ∀ i, i ≤ c → U i = V i) (hf : fitU Wy U c) : fitU Wy V c := by
  intro s hs
  refine ⟨fun e => by rw [← h c (Nat.le_refl c)]; exact (hf s hs).1 e, fun d e hd => ?_⟩
  rw [← h c (Nat.le_refl c), ← h d (by omega)]
  exact (hf s hs).2 d e hd
theorem fitC_loc {c : Nat} (h : ∀ i, i ≤ c → U i = V i) (hf : fitC Wy U c) : fitC Wy V c := by
  intro s hs d e hd
  rw [← h c (Nat.le_refl c), ← h d (by omega)]
  exact hf s hs d e hd
theorem PJ_loc {c x y : Nat} (h : ∀ i, i < c → U i = V i) (hp : PJ Wy U c x y) : PJ Wy V c x y := by
  obtain ⟨h1, h2, s, h3, h4, h5⟩ := hp
  exact ⟨h1, h2, s, h3, by rw [← jnd_loc (h x h1) h5 (h y h2)]; exact h4, h5⟩
theorem eb_loc {c s : Nat} (h : ∀ i, i ≤ c → U i = V i) (hp : eb Wy U c s = true) : eb Wy V c s = true := by
  obtain ⟨d, h1, h2, h3⟩ := eb_t.mp hp
  exact eb_t.mpr ⟨d, h1, h2, by rw [← jnd_loc (h c (Nat.le_refl c)) h1 (h d (by omega))]; exact h3⟩
theorem NoC_loc {c : Nat} (h : ∀ i, i ≤ c → U i = V i) (hn : NoC Wy U c) : NoC Wy V c := by
  intro s1 s2 d1 d2 a1 a2 a3 a4 a5 a6 hrc
  have h' : ∀ i, i ≤ c → V i = U i := fun i hi => (h i hi).symm
  exact hn s1 s2 d1 d2 a1 a2 a3 a4 (eb_loc h' a5) (eb_loc h' a6) (hrc.mono (fun x y hp => PJ_loc (fun i hi => h' i (by omega)) hp))
theorem tls_loc {b : Nat → Nat} {c : Nat} (h : ∀ i, i ≤ c → a i = b i) : ∀ i, i ≤ c → tls T a i = tls T b i := fun i hi => by
  show rot (T i) (a i) = rot (T i) (b i)
  rw [h i hi]
/-- what is counted: how many, the least sum, the first -/
def note (n : Nat) (a : Nat → Nat) (st : Int32 × Nat × (Nat → Nat)) : Int32 × Nat × (Nat → Nat) := (st.1 + 1, if st.1 = 0 then sm a n else min st.2.1 (sm a n), if st.1 = 0 then a else st.2.2)
abbrev prR (Wy : Nat → Nat → Option Nat) (T O : Nat → Nat) (c : Nat) (a : Nat → Nat) : Prop := (O c).testBit (a c) = true ∧ fitU Wy (tls T a) c
abbrev prC (Wy : Nat → Nat → Option Nat) (T L : Nat → Nat) (c : Nat) (a : Nat → Nat) : Prop := (L c).testBit (a c) = true ∧ fitC Wy (tls T a) c ∧ NoC Wy (tls T a) c
abbrev qR (Wy : Nat → Nat → Option Nat) (T : Nat → Nat) (n : Nat) (a : Nat → Nat) : Prop := opn T n = 2 * (n - 1) ∧ conA Wy (tls T a) n
abbrev qC (Wy : Nat → Nat → Option Nat) (T : Nat → Nat) (n : Nat) (a : Nat → Nat) : Prop := conA Wy (tls T a) n
theorem prR_loc (c : Nat) (a b : Nat → Nat) (h : ∀ i, i ≤ c → a i = b i) (hp : prR Wy T O c a) : prR Wy T O c b := ⟨by rw [← h c (Nat.le_refl c)]; exact hp.1, fitU_loc (tls_loc h) hp.2⟩
theorem prC_loc (c : Nat) (a b : Nat → Nat) (h : ∀ i, i ≤ c → a i = b i) (hp : prC Wy T L c a) : prC Wy T L c b := ⟨by rw [← h c (Nat.le_refl c)]; exact hp.1, fitC_loc (tls_loc h) hp.2.1, NoC_loc (tls_loc h) hp.2.2⟩
theorem sr_same {σ : Type} {nt : (Nat → Nat) → σ → σ} (hW : WOK n Wy) (hn : 1 ≤ n) (hT : ∀ j, T j < 16) (hO : ∀ j, O j < 16) (hL : ∀ c k, (L c).testBit k = true ↔ Keep Wy T O n c k) (a : Nat → Nat) (s : σ) : srP (prC Wy T L) (qC Wy T n) nt n n a s = srP (prR Wy T O) (qR Wy T n) nt n n a s := srP_eq prC_loc prR_loc (fun a => (Sol_cls hW hn hO hL).trans (Sol_ref hW hn hT hO).symm) a s
end SO
