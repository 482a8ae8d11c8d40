/-! trees: joined pairs, components, circles -/
theorem sm_none {p : Nat → Bool} : ∀ {n : Nat}, (∀ i, i < n → p i = false) → sm (fun i => (p i).toNat) n = 0
  | 0, _ => rfl
  | n + 1, h => by
    show sm (fun i => (p i).toNat) n + (p n).toNat = 0
    rw [sm_none (fun i hi => h i (by omega)), h n (by omega)]
    rfl
theorem sm_uniq {p : Nat → Bool} {m : Nat} : ∀ {n : Nat}, m < n → p m = true → (∀ i, i < n → p i = true → i = m) → sm (fun i => (p i).toNat) n = 1
  | 0, h, _, _ => absurd h (Nat.not_lt_zero m)
  | n + 1, h, hp, hu => by
    show sm (fun i => (p i).toNat) n + (p n).toNat = 1
    by_cases e : m = n
    · subst e
      rw [hp, sm_none (fun i hi => by
        cases x : p i with
        | false => rfl
        | true => have := hu i (by omega) x; omega)]
      rfl
    · rw [sm_uniq (n := n) (by omega) hp (fun i hi => hu i (by omega))]
      cases x : p n with
      | false => rfl
      | true => exact absurd (hu n (by omega) x).symm e
section TR
variable {n : Nat} {Wy : Nat → Nat → Option Nat} {U : Nat → Nat}
def qK (Wy : Nat → Nat → Option Nat) (U : Nat → Nat) (c s d : Nat) : Bool := decide (Wy c s = some d) && jnd Wy U c s
def KK2 (Wy : Nat → Nat → Option Nat) (U : Nat → Nat) (c d : Nat) : Nat := sm (fun s => (qK Wy U c s d).toNat) 4
theorem qK_t {c s d : Nat} : qK Wy U c s d = true ↔ Wy c s = some d ∧ jnd Wy U c s = true := by
  unfold qK
  rw [Bool.and_eq_true, decide_eq_true_iff]
theorem KK2_1 {c d : Nat} (hW : WOK n Wy) (h : JA Wy U c d) : KK2 Wy U c d = 1 := by
  obtain ⟨s, hs, hj, e⟩ := h
  exact sm_uniq (p := fun s => qK Wy U c s d) hs (qK_t.mpr ⟨e, hj⟩) (fun i hi hq => hW.2.2 c i s d hi hs (qK_t.mp hq).1 e)
theorem KK2_0 {c d : Nat} (h : ¬ JA Wy U c d) : KK2 Wy U c d = 0 := by
  refine sm_none (p := fun s => qK Wy U c s d) (fun i hi => ?_)
  cases x : qK Wy U c i d with
  | false => rfl
  | true => exact absurd ⟨i, hi, (qK_t.mp x).2, (qK_t.mp x).1⟩ h
theorem KK2_sym (hW : WOK n Wy) (c d : Nat) : KK2 Wy U c d = KK2 Wy U d c := by
  by_cases h : JA Wy U c d
  · rw [KK2_1 hW h, KK2_1 hW (h.sym hW)]
  · rw [KK2_0 h, KK2_0 (fun x => h (x.sym hW))]
theorem KK2_ir (hW : WOK n Wy) (c : Nat) : KK2 Wy U c c = 0 := KK2_0 (fun h => (h.lt hW).2.2 rfl)
theorem sq_half {K : Nat → Nat → Nat} (hs : ∀ c d, K c d = K d c) (h0 : ∀ c, K c c = 0) : ∀ n, sm (fun c => sm (K c) n) n = 2 * sm (fun c => sm (K c) c) n
  | 0 => rfl
  | n + 1 => by
    have ih := sq_half hs h0 n
    have h1 : sm (fun c => sm (K c) (n + 1)) n = sm (fun c => sm (K c) n) n + sm (fun c => K c n) n := sm_add (fun c => sm (K c) n) (fun c => K c n) n
    have h2 : sm (fun c => K c n) n = sm (K n) n := sm_congr (fun i _ => hs i n)
    show sm (fun c => sm (K c) (n + 1)) n + (sm (K n) n + K n n) = 2 * (sm (fun c => sm (K c) c) n + sm (K n) n)
    rw [h1, h2, ih, h0]
    omega
theorem jnn_K (hW : WOK n Wy) : jnn Wy U n = sm (fun c => sm (KK2 Wy U c) n) n := by
  unfold jnn
  refine sm_congr (fun c hc => ?_)
  show _ = sm (fun d => sm (fun s => (qK Wy U c s d).toNat) 4) n
  rw [← sm_swap (fun s d => (qK Wy U c s d).toNat) n 4]
  refine sm_congr (fun s hs => ?_)
  cases e : jnd Wy U c s with
  | false =>
    rw [sm_none (p := fun d => qK Wy U c s d) (fun i _ => by
      show (decide _ && jnd Wy U c s) = false
      rw [e, Bool.and_false])]
    rfl
  | true =>
    cases e2 : Wy c s with
    | none => unfold jnd at e; rw [e2] at e; cases e
    | some d =>
      rw [sm_uniq (p := fun d => qK Wy U c s d) (hW.2.1 c s d hs e2).2.1 (qK_t.mpr ⟨e2, e⟩) (fun i _ hq => by
        have := (qK_t.mp hq).1
        rw [e2] at this
        cases this; rfl)]
      rfl
/-- whether the side s of c is joined to a cell before it -/
def eb (Wy : Nat → Nat → Option Nat) (U : Nat → Nat) (c s : Nat) : Bool := match Wy c s with
  | none => false
  | some d => decide (d < c) && jnd Wy U c s
theorem eb_t {c s : Nat} : eb Wy U c s = true ↔ ∃ d, Wy c s = some d ∧ d < c ∧ jnd Wy U c s = true := by
  unfold eb
  cases e : Wy c s with
  | none => exact ⟨fun h => (by cases h), fun ⟨d, h, _⟩ => (by cases h)⟩
  | some d =>
    show (decide (d < c) && jnd Wy U c s) = true ↔ _
    rw [Bool.and_eq_true, decide_eq_true_iff]
    exact ⟨fun h => ⟨d, rfl, h⟩, fun ⟨d', h, h'⟩ => by cases h; exact h'⟩
theorem eb_sum (c : Nat) : sm (KK2 Wy U c) c = sm (fun s => (eb Wy U c s).toNat) 4 := by
  show sm (fun d => sm (fun s => (qK Wy U c s d).toNat) 4) c = _
  rw [← sm_swap (fun s d => (qK Wy U c s d).toNat) c 4]
  refine sm_congr (fun s hs => ?_)
  cases e : eb Wy U c s with
  | false =>
    rw [sm_none (p := fun d => qK Wy U c s d) (fun i hi => by
      cases x : qK Wy U c s i with
      | false => rfl
      | true =>
        have := eb_t.mpr ⟨i, (qK_t.mp x).1, hi, (qK_t.mp x).2⟩
        rw [e] at this; cases this)]
    rfl
  | true =>
    obtain ⟨d, h1, h2, h3⟩ := eb_t.mp e
    rw [sm_uniq (p := fun d => qK Wy U c s d) h2 (qK_t.mpr ⟨h1, h3⟩) (fun i _ hq => by
      have := (qK_t.mp hq).1
      rw [h1] at this
      cases this; rfl)]
    rfl
-- one edge more
theorem nP_rm {p q : Nat → Prop} {m : Nat} (hm : p m) (h : ∀ i, q i ↔ p i ∧ i ≠ m) : ∀ {N : Nat}, m < N → nP q N + 1 = nP p N
  | 0, hN => absurd hN (Nat.not_lt_zero m)
  | N + 1, hN => by
    by_cases e : m = N
    · subst e
      rw [nP_s1 hm, nP_s0 (fun x => ((h m).mp x).2 rfl), nP_congr (q := p) (fun i hi => ⟨fun x => ((h i).mp x).1, fun x => (h i).mpr ⟨x, by omega⟩⟩)]
    · have ih := nP_rm hm h (N := N) (by omega)
      by_cases hp : p N
      · rw [nP_s1 hp, nP_s1 ((h N).mpr ⟨hp, fun x => e x.symm⟩)]; omega
      · rw [nP_s0 hp, nP_s0 (fun x => hp ((h N).mp x).1)]; exact ih
def Rt (A : Nat → Nat → Prop) (x : Nat) : Prop := ∀ y, Rc A x y → x ≤ y
def AE (A : Nat → Nat → Prop) (u v x y : Nat) : Prop := A x y ∨ (x = u ∧ y = v) ∨ (x = v ∧ y = u)
theorem AE_rc {A : Nat → Nat → Prop} (hs : ∀ x y, A x y → A y x) {u v x y : Nat} : Rc (AE A u v) x y ↔ Rc A x y ∨ (Rc A x u ∧ Rc A v y) ∨ (Rc A x v ∧ Rc A u y) := by
  constructor
  · intro h
    refine h (fun y => Rc A x y ∨ (Rc A x u ∧ Rc A v y) ∨ (Rc A x v ∧ Rc A u y)) (Or.inl Rc.rf) (fun y z hy hyz => ?_)
    rcases hyz with hyz | ⟨rfl, rfl⟩ | ⟨rfl, rfl⟩
    · rcases hy with h | ⟨h, h'⟩ | ⟨h, h'⟩
      · exact Or.inl (h.tr hyz)
      · exact Or.inr (Or.inl ⟨h, h'.tr hyz⟩)
      · exact Or.inr (Or.inr ⟨h, h'.tr hyz⟩)
    · rcases hy with h | ⟨h, h'⟩ | ⟨h, h'⟩
      · exact Or.inr (Or.inl ⟨h, Rc.rf⟩)
      · exact Or.inr (Or.inl ⟨h, Rc.rf⟩)
      · exact Or.inl h
    · rcases hy with h | ⟨h, h'⟩ | ⟨h, h'⟩
      · exact Or.inr (Or.inr ⟨h, Rc.rf⟩)
      · exact Or.inl h
      · exact Or.inr (Or.inr ⟨h, Rc.rf⟩)
  · have m : ∀ {x y}, Rc A x y → Rc (AE A u v) x y := fun h => h.mono (fun x y h => Or.inl h)
    rintro (h | ⟨h, h'⟩ | ⟨h, h'⟩)
    · exact m h
    · exact ((m h).tr (Or.inr (Or.inl ⟨rfl, rfl⟩))).trans (m h')
    · exact ((m h).tr (Or.inr (Or.inr ⟨rfl, rfl⟩))).trans (m h')
theorem AE_same {A : Nat → Nat → Prop} (hs : ∀ x y, A x y → A y x) {u v x y : Nat} (huv : Rc A u v) : Rc (AE A u v) x y ↔ Rc A x y := by
  rw [AE_rc hs]
  constructor
  · rintro (h | ⟨h, h'⟩ | ⟨h, h'⟩)
    · exact h
    · exact (h.trans huv).trans h'
    · exact (h.trans (huv.sym hs)).trans h'
  · exact Or.inl
theorem AE_lt {A : Nat → Nat → Prop} {N u v mu mv : Nat} (hs : ∀ x y, A x y → A y x) (huv : ¬ Rc A u v) (hu : Rc A u mu) (hv : Rc A v mv) (hul : ∀ y, Rc A u y → mu ≤ y) (hvl : ∀ y, Rc A v y → mv ≤ y) (hlt : mu < mv) (hN : mv < N) : nP (Rt (AE A u v)) N + 1 = nP (Rt A) N := by
  have hmv : Rt A mv := fun y hy => hvl y (hv.trans hy)
  refine nP_rm hmv (fun x => ?_) hN
  constructor
  · intro h
    refine ⟨fun y hy => h y ((AE_rc hs).mpr (Or.inl hy)), fun e => ?_⟩
    subst e
    have := h mu ((AE_rc hs).mpr (Or.inr (Or.inr ⟨hv.sym hs, hu⟩)))
    omega
  · rintro ⟨h, hne⟩ y hy
    rcases (AE_rc hs).mp hy with h1 | ⟨h1, h2⟩ | ⟨h1, h2⟩
    · exact h y h1
    · have e1 := h mu (h1.trans hu)
      have e2 := hvl y h2
      omega
    · have e1 := h mv (h1.trans hv)
      have e2 := hvl x (h1.sym hs)
      omega
theorem AE_less {A : Nat → Nat → Prop} {N u v : Nat} (hs : ∀ x y, A x y → A y x) (hb : ∀ x y, A x y → y < N) (hu : u < N) (hv : v < N) (huv : ¬ Rc A u v) : nP (Rt (AE A u v)) N + 1 = nP (Rt A) N := by
  have lt : ∀ {x y}, x < N → Rc A x y → y < N := fun hx h => h (fun z => z < N) hx (fun _ _ _ h => hb _ _ h)
  obtain ⟨mu, hmu, hml⟩ := pk_least (fun y => Rc A u y) ⟨u, Rc.rf⟩
  obtain ⟨mv, hmv, hmvl⟩ := pk_least (fun y => Rc A v y) ⟨v, Rc.rf⟩
  have hul : ∀ y, Rc A u y → mu ≤ y := fun y hy => Classical.byContradiction (fun h => hml y (by omega) hy)
  have hvl : ∀ y, Rc A v y → mv ≤ y := fun y hy => Classical.byContradiction (fun h => hmvl y (by omega) hy)
  have hne : mu ≠ mv := fun e => huv (hmu.trans (e ▸ hmv.sym hs))
  by_cases h : mu < mv
  · exact AE_lt hs huv hmu hmv hul hvl h (lt hv hmv)
  · have h2 := AE_lt (N := N) (u := v) (v := u) hs (fun x => huv (x.sym hs)) hmv hmu hvl hul (by omega) (lt hu hmu)
    rw [← h2]
    congr 1
    refine nP_congr (fun i _ => ?_)
    have e : ∀ x y, Rc (AE A u v) x y ↔ Rc (AE A v u) x y := fun x y => Rc.iff (fun x y => by
      unfold AE
      constructor
      · rintro (h | h | h); exact Or.inl h; exact Or.inr (Or.inr h); exact Or.inr (Or.inl h)
      · rintro (h | h | h); exact Or.inl h; exact Or.inr (Or.inr h); exact Or.inr (Or.inl h)) x y
    exact ⟨fun h y hy => h y ((e i y).mpr hy), fun h y hy => h y ((e i y).mp hy)⟩
-- cell by cell
def PJ (Wy : Nat → Nat → Option Nat) (U : Nat → Nat) (c x y : Nat) : Prop := x < c ∧ y < c ∧ JA Wy U x y
def PE (Wy : Nat → Nat → Option Nat) (U : Nat → Nat) (c k x y : Nat) : Prop := PJ Wy U c x y ∨ ∃ s d, s < k ∧ eb Wy U c s = true ∧ Wy c s = some d ∧ ((x = c ∧ y = d) ∨ (x = d ∧ y = c))
/-- no circle is closed by c over the cells before it -/
def NoC (Wy : Nat → Nat → Option Nat) (U : Nat → Nat) (c : Nat) : Prop := ∀ s1 s2 d1 d2, s2 < s1 → s1 < 4 → Wy c s1 = some d1 → Wy c s2 = some d2 → eb Wy U c s1 = true → eb Wy U c s2 = true → ¬ Rc (PJ Wy U c) d1 d2
theorem PJ.sym (hW : WOK n Wy) {c x y : Nat} (h : PJ Wy U c x y) : PJ Wy U c y x := ⟨h.2.1, h.1, h.2.2.sym hW⟩
theorem PE.sym (hW : WOK n Wy) {c k x y : Nat} (h : PE Wy U c k x y) : PE Wy U c k y x := by
  rcases h with h | ⟨s, d, h1, h2, h3, h4⟩
  · exact Or.inl (h.sym hW)
  · exact Or.inr ⟨s, d, h1, h2, h3, h4.elim (fun h => Or.inr ⟨h.2, h.1⟩) (fun h => Or.inl ⟨h.2, h.1⟩)⟩
theorem eb_d {c s d : Nat} (h : eb Wy U c s = true) (e : Wy c s = some d) : d < c ∧ jnd Wy U c s = true := by
  obtain ⟨d', h1, h2, h3⟩ := eb_t.mp h
  rw [e] at h1; cases h1
  exact ⟨h2, h3⟩
theorem PE.lt {c k x y : Nat} (h : PE Wy U c k x y) : y < c + 1 := by
  rcases h with h | ⟨s, d, h1, h2, h3, h4⟩
  · have := h.2.1; omega
  · have := (eb_d h2 h3).1
    rcases h4 with h | h <;> omega
theorem PE_at {c k d : Nat} (hd : d < c) : Rc (PE Wy U c k) c d ↔ ∃ s2 d2, s2 < k ∧ eb Wy U c s2 = true ∧ Wy c s2 = some d2 ∧ Rc (PJ Wy U c) d2 d := by
  constructor
  · intro h
    have := h (fun z => z = c ∨ ∃ s2 d2, s2 < k ∧ eb Wy U c s2 = true ∧ Wy c s2 = some d2 ∧ Rc (PJ Wy U c) d2 z) (Or.inl rfl) (fun x y hx hxy => by
      rcases hxy with hxy | ⟨s, d, h1, h2, h3, ⟨h4, h5⟩ | ⟨h4, h5⟩⟩
      · rcases hx with hx | ⟨s2, d2, a1, a2, a3, a4⟩
        · have := hxy.1; omega
        · exact Or.inr ⟨s2, d2, a1, a2, a3, a4.tr hxy⟩
      · subst h5; exact Or.inr ⟨s, y, h1, h2, h3, Rc.rf⟩
      · exact Or.inl h5)
    exact this.resolve_left (by omega)
  · rintro ⟨s2, d2, a1, a2, a3, a4⟩
    have h1 : Rc (PE Wy U c k) c d2 := Rc.rf.tr (Or.inr ⟨s2, d2, a1, a2, a3, Or.inl ⟨rfl, rfl⟩⟩)
    exact h1.trans (a4.mono (fun x y h => Or.inl h))
noncomputable def rts (Wy : Nat → Nat → Option Nat) (U : Nat → Nat) (c : Nat) : Nat := nP (Rt (PJ Wy U c)) c
theorem PE_0 {c x y : Nat} : Rc (PE Wy U c 0) x y ↔ Rc (PJ Wy U c) x y := Rc.iff (fun x y => ⟨fun h => h.elim id (fun ⟨s, _, h, _⟩ => absurd h (Nat.not_lt_zero s)), Or.inl⟩) x y
theorem PE_4 (hW : WOK n Wy) {c x y : Nat} : Rc (PE Wy U c 4) x y ↔ Rc (PJ Wy U (c + 1)) x y := by
  refine Rc.iff (fun x y => ⟨?_, ?_⟩) x y
  · rintro (h | ⟨s, d, h1, h2, h3, ⟨h4, h5⟩ | ⟨h4, h5⟩⟩)
    · exact ⟨by have := h.1; omega, by have := h.2.1; omega, h.2.2⟩
    · obtain ⟨a, b⟩ := eb_d h2 h3
      subst h4 h5
      exact ⟨by omega, by omega, s, h1, b, h3⟩
    · obtain ⟨a, b⟩ := eb_d h2 h3
      subst h4 h5
      exact ⟨by omega, by omega, JA.sym hW ⟨s, h1, b, h3⟩⟩
  · rintro ⟨hx, hy, h⟩
    have hl := h.lt hW
    by_cases ex : x = c
    · obtain ⟨s, h1, h2, h3⟩ := h
      subst ex
      exact Or.inr ⟨s, y, h1, eb_t.mpr ⟨y, h3, by omega, h2⟩, h3, Or.inl ⟨rfl, rfl⟩⟩
    · by_cases ey : y = c
      · obtain ⟨s, h1, h2, h3⟩ := h.sym hW
        subst ey
        exact Or.inr ⟨s, x, h1, eb_t.mpr ⟨x, h3, by omega, h2⟩, h3, Or.inr ⟨rfl, rfl⟩⟩
      · exact Or.inl ⟨by omega, by omega, h⟩
/-- no circle over the first k sides -/
def NoK (Wy : Nat → Nat → Option Nat) (U : Nat → Nat) (c k : Nat) : Prop := ∀ s1 s2 d1 d2, s2 < s1 → s1 < k → Wy c s1 = some d1 → Wy c s2 = some d2 → eb Wy U c s1 = true → eb Wy U c s2 = true → ¬ Rc (PJ Wy U c) d1 d2
theorem rts_k (hW : WOK n Wy) (c : Nat) : ∀ k, k ≤ 4 → (rts Wy U c + 1 ≤ nP (Rt (PE Wy U c k)) (c + 1) + sm (fun s => (eb Wy U c s).toNat) k) ∧ (nP (Rt (PE Wy U c k)) (c + 1) + sm (fun s => (eb Wy U c s).toNat) k = rts Wy U c + 1 ↔ NoK Wy U c k)
  | 0, _ => by
    have h : nP (Rt (PE Wy U c 0)) (c + 1) = rts Wy U c + 1 := by
      have hc : Rt (PE Wy U c 0) c := by
        intro y hy
        have := (PE_0.mp hy) (fun z => z = c) rfl (fun x y hx hxy => by have := hxy.1; omega)
        omega
      rw [nP_s1 hc]
      unfold rts
      rw [nP_congr (p := Rt (PE Wy U c 0)) (q := Rt (PJ Wy U c)) (fun i _ => ⟨fun h y hy => h y (PE_0.mpr hy), fun h y hy => h y (PE_0.mp hy)⟩)]
    show _ ≤ nP _ _ + 0 ∧ (nP _ _ + 0 = _ ↔ _)
    rw [h]
    exact ⟨Nat.le_refl _, fun _ => fun s1 s2 _ _ _ h => absurd h (Nat.not_lt_zero s1), fun _ => rfl⟩
  | k + 1, hk => by
    obtain ⟨ih1, ih2⟩ := rts_k hW c k (by omega)
    show _ ≤ nP (Rt (PE Wy U c (k + 1))) (c + 1) + (sm (fun s => (eb Wy U c s).toNat) k + (eb Wy U c k).toNat) ∧ (nP (Rt (PE Wy U c (k + 1))) (c + 1) + (sm (fun s => (eb Wy U c s).toNat) k + (eb Wy U c k).toNat) = _ ↔ _)
    cases e : eb Wy U c k with
    | false =>
      have h : nP (Rt (PE Wy U c (k + 1))) (c + 1) = nP (Rt (PE Wy U c k)) (c + 1) := by
        have e2 : ∀ x y, Rc (PE Wy U c (k + 1)) x y ↔ Rc (PE Wy U c k) x y := fun x y => Rc.iff (fun x y => by
          constructor
          · rintro (h | ⟨s, d, h1, h2, h3⟩)
            · exact Or.inl h
            · by_cases es : s = k
              · subst es; rw [e] at h2; cases h2
              · exact Or.inr ⟨s, d, by omega, h2, h3⟩
          · rintro (h | ⟨s, d, h1, h2, h3⟩)
            · exact Or.inl h
            · exact Or.inr ⟨s, d, by omega, h2, h3⟩) x y
        exact nP_congr (fun i _ => ⟨fun h y hy => h y ((e2 i y).mpr hy), fun h y hy => h y ((e2 i y).mp hy)⟩)
      rw [h]
      show _ ≤ _ + (_ + 0) ∧ (_ + (_ + 0) = _ ↔ _)
      rw [Nat.add_zero]
      refine ⟨ih1, ih2.trans ⟨fun h s1 s2 d1 d2 a1 a2 a3 a4 a5 a6 => ?_, fun h s1 s2 d1 d2 a1 a2 => h s1 s2 d1 d2 a1 (by omega)⟩⟩
      by_cases es : s1 = k
      · subst es; rw [e] at a5; cases a5
      · exact h s1 s2 d1 d2 a1 (by omega) a3 a4 a5 a6
    | true =>
      obtain ⟨d, h1, h2, h3⟩ := eb_t.mp e
      have e2 : ∀ x y, Rc (PE Wy U c (k + 1)) x y ↔ Rc (AE (PE Wy U c k) c d) x y := fun x y => Rc.iff (fun x y => by
        constructor
        · rintro (h | ⟨s, d', a1, a2, a3, a4⟩)
          · exact Or.inl (Or.inl h)
          · by_cases es : s = k
            · subst es; rw [h1] at a3; cases a3
              exact Or.inr a4
            · exact Or.inl (Or.inr ⟨s, d', by omega, a2, a3, a4⟩)
        · rintro ((h | ⟨s, d', a1, a2, a3, a4⟩) | h)
          · exact Or.inl h
          · exact Or.inr ⟨s, d', by omega, a2, a3, a4⟩
          · exact Or.inr ⟨k, d, by omega, e, h1, h⟩) x y
      have h : nP (Rt (PE Wy U c (k + 1))) (c + 1) = nP (Rt (AE (PE Wy U c k) c d)) (c + 1) := nP_congr (fun i _ => ⟨fun h y hy => h y ((e2 i y).mpr hy), fun h y hy => h y ((e2 i y).mp hy)⟩)
      rw [h]
      show _ ≤ _ + (_ + 1) ∧ (_ + (_ + 1) = _ ↔ _)
      have hsy : ∀ x y, PE Wy U c k x y → PE Wy U c k y x := fun x y h => h.sym hW
      by_cases hcd : Rc (PE Wy U c k) c d
      · have h5 : nP (Rt (AE (PE Wy U c k) c d)) (c + 1) = nP (Rt (PE Wy U c k)) (c + 1) := nP_congr (fun i _ => ⟨fun h y hy => h y ((AE_same hsy hcd).mpr hy), fun h y hy => h y ((AE_same hsy hcd).mp hy)⟩)
        rw [h5]
        refine ⟨by omega, fun he => by omega, fun hno => ?_⟩
        obtain ⟨s2, d2, a1, a2, a3, a4⟩ := (PE_at h2).mp hcd
        exact absurd (a4.sym (fun x y h => h.sym hW)) (hno k s2 d d2 a1 (by omega) h1 a3 e a2)
      · have h5 := AE_less (N := c + 1) hsy (fun x y h => h.lt) (by omega) (show d < c + 1 by omega) hcd
        refine ⟨by omega, ?_⟩
        rw [show nP (Rt (AE (PE Wy U c k) c d)) (c + 1) + (sm (fun s => (eb Wy U c s).toNat) k + 1) = nP (Rt (PE Wy U c k)) (c + 1) + sm (fun s => (eb Wy U c s).toNat) k by omega]
        refine ih2.trans ⟨fun hno s1 s2 d1 d2 a1 a2 a3 a4 a5 a6 hrc => ?_, fun h s1 s2 d1 d2 a1 a2 => h s1 s2 d1 d2 a1 (by omega)⟩
        by_cases es : s1 = k
        · subst es
          rw [h1] at a3; cases a3
          exact hcd ((PE_at h2).mpr ⟨s2, d2, a1, a6, a4, hrc.sym (fun x y h => h.sym hW)⟩)
        · exact hno s1 s2 d1 d2 a1 (by omega) a3 a4 a5 a6 hrc
theorem rts_s (hW : WOK n Wy) (c : Nat) : rts Wy U c + 1 ≤ rts Wy U (c + 1) + sm (KK2 Wy U c) c ∧ (rts Wy U (c + 1) + sm (KK2 Wy U c) c = rts Wy U c + 1 ↔ NoC Wy U c) := by
  have h := rts_k (U := U) hW c 4 (Nat.le_refl 4)
  rw [eb_sum]
  have e : nP (Rt (PE Wy U c 4)) (c + 1) = rts Wy U (c + 1) := nP_congr (fun i _ => ⟨fun h y hy => h y ((PE_4 hW).mpr hy), fun h y hy => h y ((PE_4 hW).mp hy)⟩)
  rw [e] at h
  exact h
theorem rts_all (hW : WOK n Wy) : ∀ m, m ≤ rts Wy U m + sm (fun c => sm (KK2 Wy U c) c) m ∧ (rts Wy U m + sm (fun c => sm (KK2 Wy U c) c) m = m ↔ ∀ c, c < m → NoC Wy U c)
  | 0 => ⟨Nat.zero_le _, fun _ c hc => absurd hc (Nat.not_lt_zero c), fun _ => rfl⟩
  | m + 1 => by
    obtain ⟨h1, h2⟩ := rts_all hW m
    obtain ⟨h3, h4⟩ := rts_s (U := U) hW m
    show m + 1 ≤ rts Wy U (m + 1) + (sm (fun c => sm (KK2 Wy U c) c) m + sm (KK2 Wy U m) m) ∧ (rts Wy U (m + 1) + (sm (fun c => sm (KK2 Wy U c) c) m + sm (KK2 Wy U m) m) = m + 1 ↔ _)
    refine ⟨by omega, fun he c hc => ?_, fun hall => ?_⟩
    · by_cases ec : c = m
      · subst ec; exact h4.mp (by omega)
      · exact h2.mp (by omega) c (by omega)
    · have a := h2.mpr (fun c hc => hall c (by omega))
      have b := h4.mpr (hall m (by omega))
      omega
/-- where all are joined: one tree exactly if there is no circle -/
theorem tree_iff (hW : WOK n Wy) (hn : 1 ≤ n) (hc : ∀ c, c < n → Rc (JA Wy U) 0 c) : jnn Wy U n = 2 * (n - 1) ↔ ∀ c, c < n → NoC Wy U c := by
  have hJ : ∀ x y, Rc (JA Wy U) x y ↔ Rc (PJ Wy U n) x y := fun x y => Rc.iff (fun x y => ⟨fun h => ⟨(h.lt hW).1, (h.lt hW).2.1, h⟩, fun h => h.2.2⟩) x y
  have hr : rts Wy U n = 1 := by
    have key : ∀ m, m ≤ n → nP (Rt (PJ Wy U n)) m = if m = 0 then 0 else 1 := by
      intro m
      induction m with
      | zero => intro _; rfl
      | succ m ih =>
        intro hm
        have h1 := ih (by omega)
        by_cases e : m = 0
        · subst e
          have h0 : Rt (PJ Wy U n) 0 := fun y _ => Nat.zero_le y
          rw [nP_s1 h0, h1]; rfl
        · have hno : ¬ Rt (PJ Wy U n) m := fun h => by
            have := h 0 (((hJ 0 m).mp (hc m (by omega))).sym (fun x y h => h.sym hW))
            omega
          rw [nP_s0 hno, h1, if_neg e, if_neg (by omega)]
    have := key n (Nat.le_refl n)
    rw [if_neg (by omega)] at this
    exact this
  obtain ⟨h1, h2⟩ := rts_all (U := U) hW n
  rw [hr] at h1 h2
  rw [jnn_K hW, sq_half (KK2_sym hW) (KK2_ir hW), ← h2]
  omega
end TR
