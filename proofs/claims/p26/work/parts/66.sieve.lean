/-! the sieve: what is struck, what is kept -/
def opL (T : Nat → Nat) (c k s : Nat) : Prop := (rot (T c) k).testBit s = true
theorem z_el {i : Nat} {p : Prop} (h : (0 : Nat).testBit i = true) : p := by
  rw [Nat.zero_testBit] at h; cases h
theorem tb15 {s : Nat} (hs : s < 4) : (15 : Nat).testBit s = true := by
  have h : ∀ s, s < 4 → (15 : Nat).testBit s = true := by decide
  exact h s hs
def allO (T L : Nat → Nat) (c s : Nat) : Prop := ∀ k, k < 4 → (L c).testBit k = true → opL T c k s
def someO (T L : Nat → Nat) (c s : Nat) : Prop := ∃ k, k < 4 ∧ (L c).testBit k = true ∧ opL T c k s
def SJ (Wy : Nat → Nat → Option Nat) (T L : Nat → Nat) (x y : Nat) : Prop := ∃ s, s < 4 ∧ Wy x s = some y ∧ allO T L x s ∧ allO T L y ((s + 2) % 4)
def SA (Wy : Nat → Nat → Option Nat) (T L : Nat → Nat) (c x y : Nat) : Prop := x ≠ c ∧ y ≠ c ∧ SJ Wy T L x y
def Circ (Wy : Nat → Nat → Option Nat) (T L : Nat → Nat) (c k : Nat) : Prop := ∃ s1 s2 d1 d2, s2 < s1 ∧ s1 < 4 ∧ Wy c s1 = some d1 ∧ Wy c s2 = some d2 ∧ opL T c k s1 ∧ opL T c k s2 ∧ Rc (SA Wy T L c) d1 d2
def Unfit (Wy : Nat → Nat → Option Nat) (T L : Nat → Nat) (c k s : Nat) : Prop := (opL T c k s ∧ Wy c s = none) ∨ (∃ d, opL T c k s ∧ Wy c s = some d ∧ ¬ someO T L d ((s + 2) % 4)) ∨ (∃ d, ¬ opL T c k s ∧ Wy c s = some d ∧ allO T L d ((s + 2) % 4))
def Stk (Wy : Nat → Nat → Option Nat) (T L : Nat → Nat) (c k : Nat) : Prop := (∃ s, s < 4 ∧ Unfit Wy T L c k s) ∨ Circ Wy T L c k
def subM (L L' : Nat → Nat) : Prop := ∀ c k, (L c).testBit k = true → (L' c).testBit k = true
theorem SJ.sym {n x y : Nat} {Wy : Nat → Nat → Option Nat} {T L : Nat → Nat} (hW : WOK n Wy) (h : SJ Wy T L x y) : SJ Wy T L y x := by
  obtain ⟨s, hs, e, h1, h2⟩ := h
  exact ⟨(s + 2) % 4, s2_lt s, (hW.2.1 x s y hs e).2.2.2, h2, by rw [s22 hs]; exact h1⟩
theorem SA.sym {n c x y : Nat} {Wy : Nat → Nat → Option Nat} {T L : Nat → Nat} (hW : WOK n Wy) (h : SA Wy T L c x y) : SA Wy T L c y x := ⟨h.2.1, h.1, h.2.2.sym hW⟩
theorem allO.mono {T L L' : Nat → Nat} {c s : Nat} (hs : subM L L') (h : allO T L' c s) : allO T L c s := fun k hk hb => h k hk (hs c k hb)
theorem someO.mono {T L L' : Nat → Nat} {c s : Nat} (hs : subM L L') (h : someO T L c s) : someO T L' c s := by
  obtain ⟨k, hk, hb, ho⟩ := h
  exact ⟨k, hk, hs c k hb, ho⟩
theorem Stk.mono {Wy : Nat → Nat → Option Nat} {T L L' : Nat → Nat} {c k : Nat} (hs : subM L L') (h : Stk Wy T L' c k) : Stk Wy T L c k := by
  rcases h with ⟨s, hs4, h | ⟨d, h1, h2, h3⟩ | ⟨d, h1, h2, h3⟩⟩ | ⟨s1, s2, d1, d2, h1, h2, h3, h4, h5, h6, h7⟩
  · exact Or.inl ⟨s, hs4, Or.inl h⟩
  · exact Or.inl ⟨s, hs4, Or.inr (Or.inl ⟨d, h1, h2, fun x => h3 (x.mono hs)⟩)⟩
  · exact Or.inl ⟨s, hs4, Or.inr (Or.inr ⟨d, h1, h2, h3.mono hs⟩)⟩
  · refine Or.inr ⟨s1, s2, d1, d2, h1, h2, h3, h4, h5, h6, h7.mono (fun x y hxy => ⟨hxy.1, hxy.2.1, ?_⟩)⟩
    obtain ⟨s, a1, a2, a3, a4⟩ := hxy.2.2
    exact ⟨s, a1, a2, a3.mono hs, a4.mono hs⟩
/-- the lays that are left at last: those of the greatest family of which none is struck -/
def Keep (Wy : Nat → Nat → Option Nat) (T O : Nat → Nat) (n c k : Nat) : Prop := ∃ S : Nat → Nat, subM S O ∧ (∀ j i, j < n → i < 4 → (S j).testBit i = true → ¬ Stk Wy T S j i) ∧ (S c).testBit k = true
theorem Keep.own {Wy : Nat → Nat → Option Nat} {T O : Nat → Nat} {n c k : Nat} (h : Keep Wy T O n c k) : (O c).testBit k = true := by
  obtain ⟨S, h1, -, h3⟩ := h
  exact h1 c k h3
theorem Keep.nst {Wy : Nat → Nat → Option Nat} {T O L : Nat → Nat} {n c k : Nat} (hL : ∀ c k, Keep Wy T O n c k → (L c).testBit k = true) (hc : c < n) (hk : k < 4) (h : Keep Wy T O n c k) : ¬ Stk Wy T L c k := by
  obtain ⟨S, h1, h2, h3⟩ := h
  exact fun hst => h2 c k hc hk h3 (hst.mono (fun j i hj => hL j i ⟨S, h1, h2, hj⟩))
theorem Keep.fix {Wy : Nat → Nat → Option Nat} {T O L : Nat → Nat} {n : Nat} (hL : ∀ c k, Keep Wy T O n c k → (L c).testBit k = true) (hO : subM L O) (hn : ∀ j i, j < n → i < 4 → (L j).testBit i = true → ¬ Stk Wy T L j i) (c k : Nat) : (L c).testBit k = true ↔ Keep Wy T O n c k := ⟨fun h => ⟨L, hO, hn, h⟩, hL c k⟩
/-- the lays of a tile, by its open sides and whether it is locked -/
def ownM (t : Nat) (b : Bool) : Nat := if b = true ∨ rot t 1 = t then 1 else if rot t 2 = t then 3 else 15
theorem ownM_lt (t : Nat) (b : Bool) : ownM t b < 16 := by
  unfold ownM
  split
  · decide
  · split <;> decide
def RN (v : Nat → Int32) (L : Nat → Nat) : Prop := ∀ j, j < 16 → v j = nI (L j)
theorem RN.st {v : Nat → Int32} {L : Nat → Nat} (h : RN v L) {c : Nat} (hc : c < 16) (m : Nat) : RN (upd v (nI c).toNatClampNeg (nI m)) (up L c m) := by
  intro i hi
  rw [cl_n (by omega)]
  unfold up
  by_cases e : i = c
  · subst e; rw [pk_us, if_pos rfl]
  · rw [pk_un e, if_neg e]; exact h i hi
theorem up_s {α : Type} {f : Nat → α} {k : Nat} {v : α} : up f k v k = v := if_pos rfl
theorem up_n {α : Type} {f : Nat → α} {k j : Nat} {v : α} (h : j ≠ k) : up f k v j = f j := if_neg h
theorem tb_16 {m i : Nat} (h : m < 16) (hi : 4 ≤ i) : m.testBit i = false := Nat.testBit_lt_two_pow (Nat.lt_of_lt_of_le h (Nat.pow_le_pow_right (n := 2) (by decide) hi))
theorem or16 {a b : Nat} (ha : a < 16) (hb : b < 16) : a ||| b < 16 := Nat.or_lt_two_pow (n := 4) ha hb
theorem p16 {k : Nat} (hk : k < 4) : 2 ^ k < 16 := Nat.pow_lt_pow_right (n := 4) (by decide) hk
theorem a_leftAt {F c : Nat} {v : Nat → Int32} {L : Nat → Nat} (hv : RN v L) (hc : c < 16) : kX5_leftAt F v (nI c) = some (nI (L c)) := by
  unfold kX5_leftAt
  exact ob_i (a_at (by decide) hc) (by rw [hv c hc])
section SV
variable {F n c : Nat} {Wy : Nat → Nat → Option Nat} {Y : Nat → Option Nat} {T L : Nat → Nat} {v vA vS vT : Nat → Int32} {A S K : Nat → Nat}
theorem a_some (hT : ∀ j, T j < 16) (hL : ∀ j, L j < 16) (hv : RN v L) (hc : c < 16) (hF : 1000 ≤ F) : Ex (kX5_openAtSome F (fN T) v (nI c)) (fun r => ∃ M, r = nI M ∧ M < 16 ∧ ∀ s, s < 4 → (M.testBit s = true ↔ someO T L c s)) := by
  unfold kX5_openAtSome
  refine Ex.b (P := fun r => ∃ M, r = nI M ∧ M < 16 ∧ ∀ s, s < 4 → (M.testBit s = true ↔ someO T L c s)) (Ex.fr 4 (fun k st => ∃ M, st = (nI M, nI k) ∧ M < 16 ∧ ∀ s, s < 4 → (M.testBit s = true ↔ ∃ i, i < k ∧ (L c).testBit i = true ∧ opL T c i s)) ⟨0, rfl, by decide, fun s _ => ⟨z_el, fun ⟨i, hi, _⟩ => absurd hi (Nat.not_lt_zero i)⟩⟩ ?_ ?_ (by omega)) (fun a h => Ex.v h)
  · rintro k st hk ⟨M, rfl, hM, hb⟩
    show Ex (kX5_openAtSome_s4 F (fN T) v (nI c) (nI M) (nI k)) _
    unfold kX5_openAtSome_s4
    refine Ex.f (show ¬ (4 : Int32) ≤ nI k from nI_ge hk (by decide)) (Ex.o (a_leftAt hv hc) (Ex.o (a_holds (by have := hL c; omega) (by omega)) ?_))
    cases e : (L c).testBit k with
    | false =>
      refine Ex.t bI_f (Ex.v ⟨M, by rw [nI_1], hM, fun s hs => (hb s hs).trans ?_⟩)
      constructor
      · rintro ⟨i, h1, h2⟩; exact ⟨i, by omega, h2⟩
      · rintro ⟨i, h1, h2, h3⟩
        by_cases ei : i = k
        · subst ei; rw [e] at h2; cases h2
        · exact ⟨i, by omega, h2, h3⟩
    | true =>
      refine Ex.f bI_n (Ex.o (a_sidesOf hc) (Ex.o (a_turned (hT c) hk) (Ex.v ⟨M ||| rot (T c) k, by rw [nI_1, q_or], or16 hM (rot_lt _ _), fun s hs => (tb_or _ _ _).trans ?_⟩)))
      constructor
      · rintro (h | h)
        · obtain ⟨i, h1, h2⟩ := (hb s hs).mp h
          exact ⟨i, by omega, h2⟩
        · exact ⟨k, by omega, e, h⟩
      · rintro ⟨i, h1, h2, h3⟩
        by_cases ei : i = k
        · subst ei; exact Or.inr h3
        · exact Or.inl ((hb s hs).mpr ⟨i, by omega, h2, h3⟩)
  · rintro st ⟨M, rfl, hM, hb⟩
    show Ex (kX5_openAtSome_s4 F (fN T) v (nI c) (nI M) (nI 4)) _
    unfold kX5_openAtSome_s4
    exact Ex.t (by decide) (Ex.v ⟨M, rfl, hM, hb⟩)
theorem a_all (hT : ∀ j, T j < 16) (hL : ∀ j, L j < 16) (hv : RN v L) (hc : c < 16) (hF : 1000 ≤ F) : Ex (kX5_openAtAll F (fN T) v (nI c)) (fun r => ∃ M, r = nI M ∧ M < 16 ∧ ∀ s, s < 4 → (M.testBit s = true ↔ allO T L c s)) := by
  unfold kX5_openAtAll
  refine Ex.b (P := fun r => ∃ M, r = nI M ∧ M < 16 ∧ ∀ s, s < 4 → (M.testBit s = true ↔ allO T L c s)) (Ex.fr 4 (fun k st => ∃ M, st = (nI M, nI k) ∧ M < 16 ∧ ∀ s, s < 4 → (M.testBit s = true ↔ ∀ i, i < k → (L c).testBit i = true → opL T c i s)) ⟨15, rfl, by decide, fun s hs => ⟨fun _ i hi => absurd hi (Nat.not_lt_zero i), fun _ => tb15 hs⟩⟩ ?_ ?_ (by omega)) (fun a h => Ex.v h)
  · rintro k st hk ⟨M, rfl, hM, hb⟩
    show Ex (kX5_openAtAll_s5 F (fN T) v (nI c) (nI M) (nI k)) _
    unfold kX5_openAtAll_s5
    refine Ex.f (show ¬ (4 : Int32) ≤ nI k from nI_ge hk (by decide)) (Ex.o (a_leftAt hv hc) (Ex.o (a_holds (by have := hL c; omega) (by omega)) ?_))
    cases e : (L c).testBit k with
    | false =>
      refine Ex.t bI_f (Ex.v ⟨M, by rw [nI_1], hM, fun s hs => (hb s hs).trans ?_⟩)
      constructor
      · intro h i h1 h2
        by_cases ei : i = k
        · subst ei; rw [e] at h2; cases h2
        · exact h i (by omega) h2
      · intro h i h1 h2; exact h i (by omega) h2
    | true =>
      refine Ex.f bI_n (Ex.o (a_sidesOf hc) (Ex.o (a_turned (hT c) hk) (Ex.v ⟨M &&& rot (T c) k, by rw [nI_1, q_and], Nat.lt_of_le_of_lt Nat.and_le_left hM, fun s hs => ?_⟩)))
      rw [Nat.testBit_and, Bool.and_eq_true]
      constructor
      · rintro ⟨h, h'⟩ i h1 h2
        by_cases ei : i = k
        · subst ei; exact h'
        · exact (hb s hs).mp h i (by omega) h2
      · intro h
        exact ⟨(hb s hs).mpr (fun i h1 h2 => h i (by omega) h2), h k (by omega) e⟩
  · rintro st ⟨M, rfl, hM, hb⟩
    show Ex (kX5_openAtAll_s5 F (fN T) v (nI c) (nI M) (nI 4)) _
    unfold kX5_openAtAll_s5
    exact Ex.t (by decide) (Ex.v ⟨M, rfl, hM, hb⟩)
def bitsAll (T L A : Nat → Nat) : Prop := ∀ c s, c < 16 → s < 4 → ((A c).testBit s = true ↔ allO T L c s)
def bitsSome (T L A : Nat → Nat) : Prop := ∀ c s, c < 16 → s < 4 → ((A c).testBit s = true ↔ someO T L c s)
def bitsSet (Wy : Nat → Nat → Option Nat) (T L K : Nat → Nat) : Prop := ∀ c y, c < 16 → ((K c).testBit y = true ↔ SJ Wy T L c y)
theorem a_settledWith (hW : WOK n Wy) (hY : ∀ c s, c < 16 → s < 4 → Y (c * 4 + s) = Wy c s) (hA : RN vA A) (hA16 : ∀ j, A j < 16) (hAl : bitsAll T L A) (hc : c < 16) (hF : 1000 ≤ F) : Ex (kX5_settledWith F (fE Y) vA (nI c)) (fun r => ∃ M, r = nI M ∧ M < 2 ^ 16 ∧ ∀ y, (M.testBit y = true ↔ SJ Wy T L c y)) := by
  unfold kX5_settledWith
  refine Ex.b (P := fun r => ∃ M, r = nI M ∧ M < 2 ^ 16 ∧ ∀ y, (M.testBit y = true ↔ SJ Wy T L c y)) (Ex.fr 4 (fun k st => ∃ M, st = (nI M, nI k) ∧ M < 2 ^ 16 ∧ ∀ y, (M.testBit y = true ↔ ∃ s, s < k ∧ Wy c s = some y ∧ allO T L c s ∧ allO T L y ((s + 2) % 4))) ⟨0, rfl, by decide, fun y => ⟨z_el, fun ⟨i, hi, _⟩ => absurd hi (Nat.not_lt_zero i)⟩⟩ ?_ ?_ (by omega)) (fun a h => Ex.v h)
  · rintro k st hk ⟨M, rfl, hM, hb⟩
    show Ex (kX5_settledWith_s4 F (fE Y) vA (nI c) (nI M) (nI k)) _
    unfold kX5_settledWith_s4
    refine Ex.f (show ¬ (3 : Int32) < nI k from nI_nlt (show k ≤ 3 by omega) (by decide)) (Ex.o (a_across hc hk) ?_)
    rw [hY c k hc hk]
    have no : (∀ y, Wy c k = some y → allO T L c k → allO T L y ((k + 2) % 4) → False) → Ex (some (Sum.inl (nI M, nI k + 1)) : Option ((Int32 × Int32) ⊕ Int32)) (onS (fun st => ∃ M, st = (nI M, nI (k + 1)) ∧ M < 2 ^ 16 ∧ ∀ y, (M.testBit y = true ↔ ∃ s, s < k + 1 ∧ Wy c s = some y ∧ allO T L c s ∧ allO T L y ((s + 2) % 4))) (fun r => ∃ M, r = nI M ∧ M < 2 ^ 16 ∧ ∀ y, (M.testBit y = true ↔ SJ Wy T L c y))) := by
      intro h
      refine Ex.v ⟨M, by rw [nI_1], hM, fun y => (hb y).trans ?_⟩
      constructor
      · rintro ⟨s, h1, h2⟩; exact ⟨s, by omega, h2⟩
      · rintro ⟨s, h1, h2, h3, h4⟩
        by_cases es : s = k
        · subst es; exact absurd h4 (fun h4 => h y h2 h3 h4)
        · exact ⟨s, by omega, h2, h3, h4⟩
    cases e : Wy c k with
    | none => exact Ex.t rfl (no (fun y h => (by rw [e] at h; cases h)))
    | some d =>
      have hd := hW.2.1 c k d hk e
      have hd16 : d < 16 := Nat.lt_of_lt_of_le hd.2.1 hW.1
      refine Ex.f (n_m1 (show d < 2 ^ 31 by omega)) (Ex.o (a_at (by decide) hc) ?_)
      rw [hA c hc]
      refine Ex.o (a_holds (by have := hA16 c; omega) (by omega)) ?_
      cases e1 : (A c).testBit k with
      | false => exact Ex.t bI_f (no (fun y _ h _ => (by rw [(hAl c k hc hk).mpr h] at e1; cases e1)))
      | true =>
        refine Ex.f bI_n (Ex.o (a_at (i := d) (by decide) hd16) ?_)
        rw [hA d hd16]
        refine Ex.o (a_opposite hk) (Ex.o (a_holds (by have := hA16 d; omega) (by have := s2_lt k; omega)) ?_)
        cases e2 : (A d).testBit ((k + 2) % 4) with
        | false => exact Ex.t bI_f (no (fun y h _ h' => by
            rw [e] at h; cases h
            rw [(hAl d _ hd16 (s2_lt k)).mpr h'] at e2; cases e2))
        | true =>
          refine Ex.f bI_n (Ex.v ⟨M ||| 2 ^ d, ?_, or_lt hM (p2_lt hd16), fun y => (tb_or _ _ _).trans ?_⟩)
          · show (nI M ||| (1 : Int32) <<< (nI d &&& 31), nI k + 1) = _
            rw [i1, q_shl (by omega) (by have := p2_lt hd16; omega), q_or, nI_add, Nat.one_mul]
          · constructor
            · rintro (h | h)
              · obtain ⟨s, h1, h2⟩ := (hb y).mp h
                exact ⟨s, by omega, h2⟩
              · rw [(tb_p2 d y).mp h]
                exact ⟨k, by omega, e, (hAl c k hc hk).mp e1, (hAl d _ hd16 (s2_lt k)).mp e2⟩
            · rintro ⟨s, h1, h2, h3⟩
              by_cases es : s = k
              · subst es; rw [e] at h2; cases h2; exact Or.inr ((tb_p2 d d).mpr rfl)
              · exact Or.inl ((hb y).mpr ⟨s, by omega, h2, h3⟩)
  · rintro st ⟨M, rfl, hM, hb⟩
    show Ex (kX5_settledWith_s4 F (fE Y) vA (nI c) (nI M) (nI 4)) _
    unfold kX5_settledWith_s4
    exact Ex.t (by decide) (Ex.v ⟨M, rfl, hM, hb⟩)
/-- from one neighbour to another, the cell itself left out, in the two ways of telling it -/
theorem SA.out {c d e : Nat} {Wy : Nat → Nat → Option Nat} {T L : Nat → Nat} (hd : d ≠ c) (he : e ≠ c) : Rc (fun x y => x ≠ c ∧ SJ Wy T L x y) d e ↔ Rc (SA Wy T L c) d e := by
  constructor
  · intro h
    have := h (fun z => z = c ∨ Rc (SA Wy T L c) d z) (Or.inr Rc.rf) (fun x y hx hxy => by
      by_cases ey : y = c
      · exact Or.inl ey
      · rcases hx with hx | hx
        · exact absurd hx hxy.1
        · exact Or.inr (hx.tr ⟨hxy.1, ey, hxy.2⟩))
    exact this.resolve_left he
  · intro h
    exact h.mono (fun x y hxy => ⟨hxy.1, hxy.2.2⟩)
theorem a_spreadS {d : Nat} (hW : WOK n Wy) (hK : RN vT K) (hK16 : ∀ j, K j < 2 ^ 16) (hKs : bitsSet Wy T L K) (hc : c < 16) (hd : d < 16) (hF : 1000 ≤ F) : Ex (kX7_spread F 16 vT (nI d) (nI c)) (fun r => ∃ M, r = nI M ∧ M < 2 ^ 16 ∧ ∀ b, M.testBit b = true ↔ Rc (fun x y => x ≠ c ∧ SJ Wy T L x y) d b) := by
  obtain ⟨M, h1, h2, h3⟩ := a_spread (F := F) (a := d) (Lk := K) (lo := some c) (p := vT) hK hK16 hd (fun d h => by cases h; exact hc) (by omega)
  refine ⟨nI M, h1, M, rfl, h2, fun b => (h3 b).trans (Rc.iff (fun x y => ?_) d b)⟩
  constructor
  · rintro ⟨hx, hlo, h⟩
    exact ⟨fun e => hlo (by rw [e]), (hKs x y hx).mp h⟩
  · rintro ⟨hx, h⟩
    have hx16 : x < 16 := by
      obtain ⟨s, hs, e, -⟩ := h
      exact Nat.lt_of_lt_of_le (hW.2.1 x s y hs e).1 hW.1
    exact ⟨hx16, fun e => hx (by cases e; rfl), (hKs x y hx16).mpr h⟩
theorem a_closes {k : Nat} (hW : WOK n Wy) (hY : ∀ c s, c < 16 → s < 4 → Y (c * 4 + s) = Wy c s) (hK : RN vT K) (hK16 : ∀ j, K j < 2 ^ 16) (hKs : bitsSet Wy T L K) (hc : c < 16) (hF : 1000 ≤ F) : Ex (kX5_closesCircle F (fE Y) vT (nI c) (nI (rot (T c) k))) (fun r => ∃ b, r = bI b ∧ (b = true ↔ Circ Wy T L c k)) := by
  unfold kX5_closesCircle
  refine Ex.b (P := fun t => (t = 0 ∧ Circ Wy T L c k) ∨ (t = 1 ∧ ¬ Circ Wy T L c k)) (Ex.fr 4 (fun i st => ∃ M, st = (nI M, nI i) ∧ M < 2 ^ 16 ∧ (∀ y, y ≠ c → (M.testBit y = true ↔ ∃ s d, s < i ∧ Wy c s = some d ∧ opL T c k s ∧ Rc (SA Wy T L c) d y)) ∧ ¬ ∃ s1 s2 d1 d2, s2 < s1 ∧ s1 < i ∧ Wy c s1 = some d1 ∧ Wy c s2 = some d2 ∧ opL T c k s1 ∧ opL T c k s2 ∧ Rc (SA Wy T L c) d1 d2) ⟨0, rfl, by decide, fun y _ => ⟨z_el, fun ⟨s, d, hs, _⟩ => absurd hs (Nat.not_lt_zero s)⟩, fun ⟨s1, s2, d1, d2, h1, h2, _⟩ => absurd h2 (Nat.not_lt_zero s1)⟩ ?_ ?_ (by omega)) ?_
  · rintro i st hi ⟨M, rfl, hM, hb, hno⟩
    show Ex (kX5_closesCircle_s5 F (fE Y) vT (nI c) (nI (rot (T c) k)) (nI M) (nI i)) _
    unfold kX5_closesCircle_s5
    refine Ex.f (show ¬ (3 : Int32) < nI i from nI_nlt (show i ≤ 3 by omega) (by decide)) (Ex.o (a_across hc hi) ?_)
    rw [hY c i hc hi]
    have skip : (∀ d, Wy c i = some d → opL T c k i → False) → Ex (some (Sum.inl (nI M, nI i + 1)) : Option ((Int32 × Int32) ⊕ Nat)) (onS (fun st => ∃ M, st = (nI M, nI (i + 1)) ∧ M < 2 ^ 16 ∧ (∀ y, y ≠ c → (M.testBit y = true ↔ ∃ s d, s < i + 1 ∧ Wy c s = some d ∧ opL T c k s ∧ Rc (SA Wy T L c) d y)) ∧ ¬ ∃ s1 s2 d1 d2, s2 < s1 ∧ s1 < i + 1 ∧ Wy c s1 = some d1 ∧ Wy c s2 = some d2 ∧ opL T c k s1 ∧ opL T c k s2 ∧ Rc (SA Wy T L c) d1 d2) (fun t => (t = 0 ∧ Circ Wy T L c k) ∨ (t = 1 ∧ ¬ Circ Wy T L c k))) := by
      intro h
      refine Ex.v ⟨M, by rw [nI_1], hM, fun y hy => (hb y hy).trans ?_, ?_⟩
      · constructor
        · rintro ⟨s, d, h1, h2⟩; exact ⟨s, d, by omega, h2⟩
        · rintro ⟨s, d, h1, h2, h3, h4⟩
          by_cases es : s = i
          · subst es; exact absurd h3 (h d h2)
          · exact ⟨s, d, by omega, h2, h3, h4⟩
      · rintro ⟨s1, s2, d1, d2, h1, h2, h3, h4, h5, h6⟩
        by_cases es : s1 = i
        · subst es; exact h d1 h3 h5
        · exact hno ⟨s1, s2, d1, d2, h1, by omega, h3, h4, h5, h6⟩
    cases e : Wy c i with
    | none => exact Ex.t rfl (skip (fun d h => (by rw [e] at h; cases h)))
    | some d =>
      have hd := hW.2.1 c i d hi e
      have hd16 : d < 16 := Nat.lt_of_lt_of_le hd.2.1 hW.1
      refine Ex.f (n_m1 (show d < 2 ^ 31 by omega)) (Ex.o (a_holds (by have := rot_lt (T c) k; omega) (by omega)) ?_)
      cases e1 : (rot (T c) k).testBit i with
      | false => exact Ex.t bI_f (skip (fun d _ h => (by rw [show (rot (T c) k).testBit i = true from h] at e1; cases e1)))
      | true =>
        refine Ex.f bI_n (Ex.o (a_holds (by omega) (by omega)) ?_)
        cases e2 : M.testBit d with
        | true =>
          refine Ex.f bI_n (Ex.v (Or.inl ⟨rfl, ?_⟩))
          obtain ⟨s, d', h1, h2, h3, h4⟩ := (hb d hd.2.2.1).mp e2
          exact ⟨i, s, d, d', h1, hi, e, h2, e1, h3, h4.sym (fun x y h => h.sym hW)⟩
        | false =>
          refine Ex.t bI_f (Ex.b (a_spreadS hW hK hK16 hKs hc hd16 hF) ?_)
          rintro _ ⟨M2, rfl, hM2, hb2⟩
          refine Ex.v ⟨M ||| M2, by rw [nI_1, q_or], or_lt hM hM2, fun y hy => (tb_or _ _ _).trans ?_, ?_⟩
          · rw [hb y hy, hb2 y, SA.out hd.2.2.1 hy]
            constructor
            · rintro (⟨s, d', h1, h2⟩ | h)
              · exact ⟨s, d', by omega, h2⟩
              · exact ⟨i, d, by omega, e, e1, h⟩
            · rintro ⟨s, d', h1, h2, h3, h4⟩
              by_cases es : s = i
              · subst es; rw [e] at h2; cases h2; exact Or.inr h4
              · exact Or.inl ⟨s, d', by omega, h2, h3, h4⟩
          · rintro ⟨s1, s2, d1, d2, h1, h2, h3, h4, h5, h6, h7⟩
            by_cases es : s1 = i
            · subst es
              rw [e] at h3; cases h3
              have := (hb d hd.2.2.1).mpr ⟨s2, d2, h1, h4, h6, h7.sym (fun x y h => h.sym hW)⟩
              rw [this] at e2; cases e2
            · exact hno ⟨s1, s2, d1, d2, h1, by omega, h3, h4, h5, h6, h7⟩
  · rintro st ⟨M, rfl, hM, hb, hno⟩
    show Ex (kX5_closesCircle_s5 F (fE Y) vT (nI c) (nI (rot (T c) k)) (nI M) (nI 4)) _
    unfold kX5_closesCircle_s5
    refine Ex.t (by decide) (Ex.v (Or.inr ⟨rfl, ?_⟩))
    rintro ⟨s1, s2, d1, d2, h⟩
    exact hno ⟨s1, s2, d1, d2, h⟩
  · rintro t (⟨rfl, h⟩ | ⟨rfl, h⟩)
    · exact Ex.t rfl (Ex.v ⟨true, rfl, fun _ => h, fun _ => rfl⟩)
    · exact Ex.f (by decide) (Ex.v ⟨false, rfl, fun x => (by cases x), fun x => absurd x h⟩)
def subB (a b : Nat) : Bool := (List.range 4).all fun s => !(a.testBit s) || b.testBit s
theorem subB_iff {a b : Nat} : subB a b = true ↔ ∀ s, s < 4 → a.testBit s = true → b.testBit s = true := by
  unfold subB
  rw [List.all_eq_true]
  constructor
  · intro h s hs ha
    have := h s (List.mem_range.mpr hs)
    rw [ha] at this
    simpa using this
  · intro h s hs
    cases e : a.testBit s with
    | false => rfl
    | true => rw [h s (List.mem_range.mp hs) e]; rfl
theorem q_sub {a b : Nat} (ha : a < 16) (hb : b < 16) : (nI a &&& (nI b ^^^ (-1))) = 0 ↔ ∀ s, s < 4 → a.testBit s = true → b.testBit s = true := by
  have h : ∀ a, a < 16 → ∀ b, b < 16 → decide ((nI a &&& (nI b ^^^ (-1))) = 0) = subB a b := by decide +kernel
  rw [← subB_iff, ← h a ha b hb, decide_eq_true_iff]
theorem a_kept (hW : WOK n Wy) (hT : ∀ j, T j < 16) (hL : ∀ j, L j < 16) (hY : ∀ c s, c < 16 → s < 4 → Y (c * 4 + s) = Wy c s) (hA : RN vA A) (hA16 : ∀ j, A j < 16) (hAl : bitsAll T L A) (hS : RN vS S) (hS16 : ∀ j, S j < 16) (hSo : bitsSome T L S) (hK : RN vT K) (hK16 : ∀ j, K j < 2 ^ 16) (hKs : bitsSet Wy T L K) (hc : c < 16) {l : Nat} (hl : v c = nI l) (hl16 : l < 16) (hF : 1000 ≤ F) : Ex (kX5_keptLays F (fN T) (fE Y) v vS vA vT (nI c)) (fun r => ∃ M, r = nI M ∧ M < 16 ∧ ∀ k, k < 4 → (M.testBit k = true ↔ l.testBit k = true ∧ ¬ Stk Wy T L c k)) := by
  unfold kX5_keptLays
  refine Ex.b (P := fun t => ∃ a b, t = (nI a, nI b) ∧ a < 16 ∧ b < 16 ∧ (∀ s, s < 4 → (a.testBit s = true ↔ ∃ d, Wy c s = some d ∧ someO T L d ((s + 2) % 4))) ∧ ∀ s, s < 4 → (b.testBit s = true ↔ ∃ d, Wy c s = some d ∧ allO T L d ((s + 2) % 4))) (Ex.fr 4 (fun i st => ∃ a b, st = (nI a, nI b, nI i) ∧ a < 16 ∧ b < 16 ∧ (∀ s, s < 4 → (a.testBit s = true ↔ s < i ∧ ∃ d, Wy c s = some d ∧ someO T L d ((s + 2) % 4))) ∧ ∀ s, s < 4 → (b.testBit s = true ↔ s < i ∧ ∃ d, Wy c s = some d ∧ allO T L d ((s + 2) % 4))) ⟨0, 0, rfl, by decide, by decide, fun s _ => ⟨z_el, fun h => absurd h.1 (Nat.not_lt_zero s)⟩, fun s _ => ⟨z_el, fun h => absurd h.1 (Nat.not_lt_zero s)⟩⟩ ?_ ?_ (by omega)) ?_
  · rintro i st hi ⟨a, b, rfl, ha, hb, ga, gb⟩
    show Ex (kX5_keptLays_s7 F (fE Y) vS vA (nI c) (nI a) (nI b) (nI i)) _
    unfold kX5_keptLays_s7
    refine Ex.f (show ¬ (3 : Int32) < nI i from nI_nlt (show i ≤ 3 by omega) (by decide)) (Ex.o (a_across hc hi) ?_)
    rw [hY c i hc hi]
    cases e : Wy c i with
    | none =>
      refine Ex.t rfl (Ex.v ⟨a, b, by rw [nI_1], ha, hb, fun s hs => (ga s hs).trans ?_, fun s hs => (gb s hs).trans ?_⟩)
      · constructor
        · rintro ⟨h1, h2⟩; exact ⟨by omega, h2⟩
        · rintro ⟨h1, d, h2, h3⟩
          by_cases es : s = i
          · subst es; rw [e] at h2; cases h2
          · exact ⟨by omega, d, h2, h3⟩
      · constructor
        · rintro ⟨h1, h2⟩; exact ⟨by omega, h2⟩
        · rintro ⟨h1, d, h2, h3⟩
          by_cases es : s = i
          · subst es; rw [e] at h2; cases h2
          · exact ⟨by omega, d, h2, h3⟩
    | some d =>
      have hd := hW.2.1 c i d hi e
      have hd16 : d < 16 := Nat.lt_of_lt_of_le hd.2.1 hW.1
      -- one of the two sets, with or without the side i
      have set : ∀ (a : Nat) (p : Bool) (Pr : Nat → Prop), a < 16 → (p = true ↔ Pr d) → (∀ s, s < 4 → (a.testBit s = true ↔ s < i ∧ ∃ d, Wy c s = some d ∧ (s = i → Pr d) ∧ (s ≠ i → Pr d))) → True := fun _ _ _ _ _ _ => trivial
      have hA2 : ∀ v41 w : Nat, (w < 16) → (nI a ||| nI v41 = nI w) → (∀ s, s < 4 → (w.testBit s = true ↔ s < i + 1 ∧ ∃ d, Wy c s = some d ∧ someO T L d ((s + 2) % 4))) → Ex (kX5_keptLays_j60 F vA (nI a) (nI b) (nI i) (nI d) (nI v41)) (onS (fun st => ∃ a b, st = (nI a, nI b, nI (i + 1)) ∧ a < 16 ∧ b < 16 ∧ (∀ s, s < 4 → (a.testBit s = true ↔ s < i + 1 ∧ ∃ d, Wy c s = some d ∧ someO T L d ((s + 2) % 4))) ∧ ∀ s, s < 4 → (b.testBit s = true ↔ s < i + 1 ∧ ∃ d, Wy c s = some d ∧ allO T L d ((s + 2) % 4))) (fun t => ∃ a b, t = (nI a, nI b) ∧ a < 16 ∧ b < 16 ∧ (∀ s, s < 4 → (a.testBit s = true ↔ ∃ d, Wy c s = some d ∧ someO T L d ((s + 2) % 4))) ∧ ∀ s, s < 4 → (b.testBit s = true ↔ ∃ d, Wy c s = some d ∧ allO T L d ((s + 2) % 4)))) := by
        intro v41 w hw ew gw
        unfold kX5_keptLays_j60
        refine Ex.o (a_at (i := d) (by decide) hd16) ?_
        rw [hA d hd16]
        refine Ex.o (a_opposite hi) (Ex.o (a_holds (by have := hA16 d; omega) (by have := s2_lt i; omega)) ?_)
        cases e2 : (A d).testBit ((i + 2) % 4) with
        | false =>
          refine Ex.t bI_f (Ex.v ⟨w, b, by rw [ew, nI_1, i0, q_or, Nat.or_zero], hw, hb, gw, fun s hs => (gb s hs).trans ?_⟩)
          constructor
          · rintro ⟨h1, h2⟩; exact ⟨by omega, h2⟩
          · rintro ⟨h1, d', h2, h3⟩
            by_cases es : s = i
            · subst es; rw [e] at h2; cases h2
              rw [(hAl d _ hd16 (s2_lt s)).mpr h3] at e2; cases e2
            · exact ⟨by omega, d', h2, h3⟩
        | true =>
          refine Ex.f bI_n (Ex.v ⟨w, b ||| 2 ^ i, by rw [ew, nI_1, i1, q_shl (by omega) (by have := p16 hi; omega), q_or, Nat.one_mul], hw, or16 hb (p16 hi), gw, fun s hs => (tb_or _ _ _).trans ?_⟩)
          rw [gb s hs, tb_p2]
          constructor
          · rintro (⟨h1, h2⟩ | h)
            · exact ⟨by omega, h2⟩
            · subst h; exact ⟨by omega, d, e, (hAl d _ hd16 (s2_lt s)).mp e2⟩
          · rintro ⟨h1, h2⟩
            by_cases es : s = i
            · exact Or.inr es
            · exact Or.inl ⟨by omega, h2⟩
      refine Ex.f (n_m1 (show d < 2 ^ 31 by omega)) (Ex.o (a_at (i := d) (by decide) hd16) ?_)
      rw [hS d hd16]
      refine Ex.o (a_opposite hi) (Ex.o (a_holds (by have := hS16 d; omega) (by have := s2_lt i; omega)) ?_)
      cases e2 : (S d).testBit ((i + 2) % 4) with
      | false =>
        refine Ex.t bI_f (hA2 0 a ha (by rw [q_or, Nat.or_zero]) (fun s hs => (ga s hs).trans ?_))
        constructor
        · rintro ⟨h1, h2⟩; exact ⟨by omega, h2⟩
        · rintro ⟨h1, d', h2, h3⟩
          by_cases es : s = i
          · subst es; rw [e] at h2; cases h2
            rw [(hSo d _ hd16 (s2_lt s)).mpr h3] at e2; cases e2
          · exact ⟨by omega, d', h2, h3⟩
      | true =>
        refine Ex.f bI_n ?_
        have e3 : (1 : Int32) <<< (nI i &&& 31) = nI (2 ^ i) := by
          rw [i1, q_shl (by omega) (by have := p16 hi; omega), Nat.one_mul]
        rw [e3]
        refine hA2 (2 ^ i) (a ||| 2 ^ i) (or16 ha (p16 hi)) (q_or _ _) (fun s hs => (tb_or _ _ _).trans ?_)
        rw [ga s hs, tb_p2]
        constructor
        · rintro (⟨h1, h2⟩ | h)
          · exact ⟨by omega, h2⟩
          · subst h; exact ⟨by omega, d, e, (hSo d _ hd16 (s2_lt s)).mp e2⟩
        · rintro ⟨h1, h2⟩
          by_cases es : s = i
          · exact Or.inr es
          · exact Or.inl ⟨by omega, h2⟩
  · rintro st ⟨a, b, rfl, ha, hb, ga, gb⟩
    show Ex (kX5_keptLays_s7 F (fE Y) vS vA (nI c) (nI a) (nI b) (nI 4)) _
    unfold kX5_keptLays_s7
    refine Ex.t (by decide) (Ex.v ⟨a, b, rfl, ha, hb, fun s hs => (ga s hs).trans ⟨fun h => h.2, fun h => ⟨hs, h⟩⟩, fun s hs => (gb s hs).trans ⟨fun h => h.2, fun h => ⟨hs, h⟩⟩⟩)
  · rintro _ ⟨a, b, rfl, ha, hb, ga, gb⟩
    refine Ex.b (P := fun r => ∃ M, r = nI M ∧ M < 16 ∧ ∀ k, k < 4 → (M.testBit k = true ↔ l.testBit k = true ∧ ¬ Stk Wy T L c k)) (Ex.fr 4 (fun i st => ∃ M, st = (nI M, nI i) ∧ M < 16 ∧ ∀ k, k < 4 → (M.testBit k = true ↔ k < i ∧ l.testBit k = true ∧ ¬ Stk Wy T L c k)) ⟨0, rfl, by decide, fun k _ => ⟨z_el, fun h => absurd h.1 (Nat.not_lt_zero k)⟩⟩ ?_ ?_ (by omega)) (fun a h => Ex.v h)
    · rintro i st hi ⟨M, rfl, hM, hb2⟩
      show Ex (kX5_keptLays_s105 F (fN T) (fE Y) v vT (nI c) (nI a, nI b) (nI M) (nI i)) _
      unfold kX5_keptLays_s105
      refine Ex.f (show ¬ (4 : Int32) ≤ nI i from nI_ge hi (by decide)) (Ex.o (a_sidesOf hc) (Ex.o (a_turned (hT c) hi) ?_))
      have hr := rot_lt (T c) i
      have fitb : ∀ f : Bool, (f = true ↔ ∀ s, s < 4 → ¬ Unfit Wy T L c i s) → Ex (kX5_keptLays_j149 F (fE Y) v vT (nI c) (nI M) (nI i) (nI (rot (T c) i)) (bI f)) (onS (fun st => ∃ M, st = (nI M, nI (i + 1)) ∧ M < 16 ∧ ∀ k, k < 4 → (M.testBit k = true ↔ k < i + 1 ∧ l.testBit k = true ∧ ¬ Stk Wy T L c k)) (fun r => ∃ M, r = nI M ∧ M < 16 ∧ ∀ k, k < 4 → (M.testBit k = true ↔ l.testBit k = true ∧ ¬ Stk Wy T L c k))) := by
        intro f hf
        unfold kX5_keptLays_j149
        have hla : kX5_leftAt F v (nI c) = some (nI l) := by
          unfold kX5_leftAt
          exact ob_i (a_at (by decide) hc) (by rw [hl])
        have skip : ¬ (l.testBit i = true ∧ ¬ Stk Wy T L c i) → Ex (some (Sum.inl (nI M, nI i + 1)) : Option ((Int32 × Int32) ⊕ Int32)) (onS (fun st => ∃ M, st = (nI M, nI (i + 1)) ∧ M < 16 ∧ ∀ k, k < 4 → (M.testBit k = true ↔ k < i + 1 ∧ l.testBit k = true ∧ ¬ Stk Wy T L c k)) (fun r => ∃ M, r = nI M ∧ M < 16 ∧ ∀ k, k < 4 → (M.testBit k = true ↔ l.testBit k = true ∧ ¬ Stk Wy T L c k))) := by
          intro h
          refine Ex.v ⟨M, by rw [nI_1], hM, fun k hk => (hb2 k hk).trans ⟨fun g => ⟨by omega, g.2⟩, fun g => ?_⟩⟩
          by_cases es : k = i
          · subst es; exact absurd g.2 h
          · exact ⟨by omega, g.2⟩
        refine Ex.o hla (Ex.o (a_holds (by omega) (by omega)) ?_)
        cases e : l.testBit i with
        | false => exact Ex.t bI_f (skip (fun h => (by rw [e] at h; cases h.1)))
        | true =>
          refine Ex.f bI_n ?_
          cases f with
          | false => exact Ex.t bI_f (skip (fun h => by
              have : ∀ s, s < 4 → ¬ Unfit Wy T L c i s := fun s hs hu => h.2 (Or.inl ⟨s, hs, hu⟩)
              have := hf.mpr this
              cases this))
          | true =>
            refine Ex.f bI_n (Ex.b (a_closes hW hY hK hK16 hKs hc hF) ?_)
            rintro _ ⟨cb, rfl, hcb⟩
            cases cb with
            | true => exact Ex.f bI_n (skip (fun h => h.2 (Or.inr (hcb.mp rfl))))
            | false =>
              refine Ex.t bI_f (Ex.v ⟨M ||| 2 ^ i, by rw [nI_1, i1, q_shl (by omega) (by have := p16 hi; omega), q_or, Nat.one_mul], or16 hM (p16 hi), fun k hk => (tb_or _ _ _).trans ?_⟩)
              rw [hb2 k hk, tb_p2]
              constructor
              · rintro (h | h)
                · exact ⟨by omega, h.2⟩
                · subst h
                  refine ⟨by omega, e, ?_⟩
                  rintro (⟨s, hs, hu⟩ | hci)
                  · exact hf.mp rfl s hs hu
                  · have := hcb.mpr hci; cases this
              · rintro ⟨h1, h2⟩
                by_cases es : k = i
                · exact Or.inr es
                · exact Or.inl ⟨by omega, h2⟩
      have c1 := q_sub hr ha
      have c2 := q_sub hb hr
      by_cases d1 : (nI (rot (T c) i) &&& (nI a ^^^ (-1))) = 0
      · refine Ex.t d1 ?_
        by_cases d2 : (nI b &&& (nI (rot (T c) i) ^^^ (-1))) = 0
        · refine Ex.t d2 (fitb true ⟨fun _ s hs hu => ?_, fun _ => rfl⟩)
          rcases hu with ⟨h1, h2⟩ | ⟨d, h1, h2, h3⟩ | ⟨d, h1, h2, h3⟩
          · obtain ⟨d, h3, -⟩ := (ga s hs).mp (c1.mp d1 s hs h1)
            rw [h2] at h3; cases h3
          · obtain ⟨d', h4, h5⟩ := (ga s hs).mp (c1.mp d1 s hs h1)
            rw [h2] at h4; cases h4
            exact h3 h5
          · exact h1 (c2.mp d2 s hs ((gb s hs).mpr ⟨d, h2, h3⟩))
        · refine Ex.f d2 (fitb false ⟨fun h => (by cases h), fun h => ?_⟩)
          exfalso
          refine d2 (c2.mpr (fun s hs hbs => ?_))
          obtain ⟨d, h1, h2⟩ := (gb s hs).mp hbs
          apply Classical.byContradiction
          intro hno
          exact h s hs (Or.inr (Or.inr ⟨d, hno, h1, h2⟩))
      · refine Ex.f d1 (fitb false ⟨fun h => (by cases h), fun h => ?_⟩)
        exfalso
        refine d1 (c1.mpr (fun s hs hbs => (ga s hs).mpr ?_))
        cases e : Wy c s with
        | none => exact absurd (Or.inl ⟨hbs, e⟩) (h s hs)
        | some d =>
          refine ⟨d, rfl, ?_⟩
          apply Classical.byContradiction
          intro hno
          exact h s hs (Or.inr (Or.inl ⟨d, hbs, e, hno⟩))
    · rintro st ⟨M, rfl, hM, hb2⟩
      show Ex (kX5_keptLays_s105 F (fN T) (fE Y) v vT (nI c) (nI a, nI b) (nI M) (nI 4)) _
      unfold kX5_keptLays_s105
      exact Ex.t (by decide) (Ex.v ⟨M, rfl, hM, fun k hk => (hb2 k hk).trans ⟨fun h => h.2, fun h => ⟨hk, h⟩⟩⟩)
end SV
