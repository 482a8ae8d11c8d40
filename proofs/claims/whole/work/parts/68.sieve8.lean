/-! the reference: what is struck -/
def RNi (n : Nat) (v : Nat → Int32) (L : Nat → Nat) : Prop := ∀ j, j < n → v j = nI (L j)
theorem bI_1 (b : Bool) : bI b = 1 ↔ b = true := by cases b <;> decide
theorem bI_e (a b : Bool) : bI a = bI b ↔ a = b := by cases a <;> cases b <;> decide
theorem q_bit {m k : Nat} (hm : m < 2 ^ 31) (hk : k < 32) : (nI m >>> (nI k &&& 31)) &&& 1 = bI (m.testBit k) := by
  rw [q_shr hk hm, i1, q_and, Nat.and_one_is_mod]
  have h2 : m / 2 ^ k % 2 < 2 := Nat.mod_lt _ (by decide)
  rw [tb_div]
  by_cases h : m / 2 ^ k % 2 = 0
  · rw [h]; rfl
  · have h1 : m / 2 ^ k % 2 = 1 := by omega
    rw [h1]; rfl
theorem a_turned8 {F t k : Nat} (ht : t < 16) (hk : k < 4) (hF : 1000 ≤ F) : kX8_turned F (nI t) (nI k) = some (nI (rot t k)) := by
  have h : ∀ t, t < 16 → ∀ i, i < 3 → (((nI (rot t i) <<< ((1 : Int32) &&& 31)) &&& 15) ||| (nI (rot t i) >>> ((3 : Int32) &&& 31))) = nI (rot t (i + 1)) := by decide +kernel
  have h0 : ∀ t, t < 16 → rot t 0 = t := by decide +kernel
  unfold kX8_turned
  refine ob_i (kl_run' (fun i => (nI (rot t i), nI i)) k (by show (nI (rot t 0), _) = _; rw [h0 t ht]; rfl) (fun i hi => ?_) ?_ (by omega)) rfl
  · show kX8_turned_s4 F (nI k) (nI (rot t i)) (nI i) = _
    unfold kX8_turned_s4
    rw [if_neg (nI_ge hi (by omega)), h t ht i (by omega), nI_1]
  · show kX8_turned_s4 F (nI k) (nI (rot t k)) (nI k) = _
    unfold kX8_turned_s4
    rw [if_pos (nI_le (Nat.le_refl k) (by omega))]
def clr (m k : Nat) : Nat := m &&& (15 - 2 ^ k)
theorem q_clr {m k : Nat} (hm : m < 16) (hk : k < 4) : nI m &&& (((1 : Int32) <<< (nI k &&& 31)) ^^^ (-1)) = nI (clr m k) := by
  have h : ∀ m, m < 16 → ∀ k, k < 4 → nI m &&& (((1 : Int32) <<< (nI k &&& 31)) ^^^ (-1)) = nI (clr m k) := by decide +kernel
  exact h m hm k hk
theorem clr_lt (m k : Nat) : clr m k < 16 := Nat.lt_of_le_of_lt Nat.and_le_right (Nat.lt_of_le_of_lt (Nat.sub_le 15 _) (by decide))
theorem clr_tb {m k i : Nat} (hk : k < 4) (hi : i < 4) : (clr m k).testBit i = true ↔ m.testBit i = true ∧ i ≠ k := by
  have h : ∀ k, k < 4 → ∀ i, i < 4 → (15 - 2 ^ k).testBit i = decide (i ≠ k) := by decide +kernel
  unfold clr
  rw [Nat.testBit_and, Bool.and_eq_true, h k hk i hi, decide_eq_true_iff]
section S8
variable {F n : Nat} {mw mh mg : Int32} {mW : Nat → Int32} {nb : Nat → Nat → Option Nat} {wl : Nat → Nat → Bool} {Wy : Nat → Nat → Option Nat} {T L : Nat → Nat} {v : Nat → Int32}
theorem a_canBe {c s : Nat} {x : Bool} (hn : n ≤ 16) (hT : ∀ j, T j < 16) (hL : ∀ j, L j < 16) (hv : RNi n v L) (hc : c < n) (hs : s < 4) (hF : 1000 ≤ F) : Ex (kX8_canBe F (fN T) v (nI c) (nI s) (bI x)) (fun r => ∃ b, r = bI b ∧ (b = true ↔ ∃ k, k < 4 ∧ (L c).testBit k = true ∧ (rot (T c) k).testBit s = x)) := by
  unfold kX8_canBe
  refine Ex.b (P := fun r => ∃ b, r = bI b ∧ (b = true ↔ ∃ k, k < 4 ∧ (L c).testBit k = true ∧ (rot (T c) k).testBit s = x)) (Ex.fr 4 (fun i st => ∃ b, st = (bI b, nI i) ∧ (b = true ↔ ∃ k, k < i ∧ (L c).testBit k = true ∧ (rot (T c) k).testBit s = x)) ⟨false, rfl, fun h => (by cases h), fun ⟨k, hk, _⟩ => absurd hk (Nat.not_lt_zero k)⟩ ?_ ?_ (by omega)) ?_
  · rintro i st hi ⟨b, rfl, hb⟩
    show Ex (kX8_canBe_s6 F (fN T) v (nI c) (nI s) (bI x) (bI b) (nI i)) _
    unfold kX8_canBe_s6
    refine Ex.f (show ¬ (4 : Int32) ≤ nI i from nI_ge hi (by decide)) ?_
    cases b with
    | true =>
      refine Ex.f bI_n (Ex.v ⟨true, by rw [nI_1]; rfl, fun _ => ?_, fun _ => rfl⟩)
      obtain ⟨k, h1, h2⟩ := hb.mp rfl
      exact ⟨k, by omega, h2⟩
    | false =>
      refine Ex.t bI_f (Ex.t (ix_n (by omega) (by decide)) ?_)
      rw [cl_n (by omega), hv c hc, q_bit (by have := hL c; omega) (by omega)]
      have no : ¬ ((L c).testBit i = true ∧ (rot (T c) i).testBit s = x) → Ex (some (Sum.inl (0, nI i + 1)) : Option ((Int32 × Int32) ⊕ Int32)) (onS (fun st => ∃ b, st = (bI b, nI (i + 1)) ∧ (b = true ↔ ∃ k, k < i + 1 ∧ (L c).testBit k = true ∧ (rot (T c) k).testBit s = x)) (fun r => ∃ b, r = bI b ∧ (b = true ↔ ∃ k, k < 4 ∧ (L c).testBit k = true ∧ (rot (T c) k).testBit s = x))) := by
        intro h
        refine Ex.v ⟨false, by rw [nI_1]; rfl, fun h => by (cases h), ?_⟩
        rintro ⟨k, h1, h2⟩
        by_cases e : k = i
        · subst e; exact absurd h2 h
        · exact hb.mpr ⟨k, by omega, h2⟩
      cases e1 : (L c).testBit i with
      | false => exact Ex.f (by rw [bI_1]; decide) (no (fun h => (by rw [e1] at h; cases h.1)))
      | true =>
        refine Ex.t bI_t (Ex.t (ix_n (by omega) (by decide)) (Ex.o (show kX8_turned F (fN T c) (nI i) = _ from a_turned8 (hT c) hi hF) (Ex.o (a_isOpen (by have := rot_lt (T c) i; omega) (by omega)) ?_)))
        by_cases e2 : (rot (T c) i).testBit s = x
        · refine Ex.t ((bI_e _ _).mpr e2) (Ex.v ⟨true, by rw [nI_1]; rfl, fun _ => ⟨i, by omega, e1, e2⟩, fun _ => rfl⟩)
        · exact Ex.f (fun h => e2 ((bI_e _ _).mp h)) (no (fun h => e2 h.2))
  · rintro st ⟨b, rfl, hb⟩
    show Ex (kX8_canBe_s6 F (fN T) v (nI c) (nI s) (bI x) (bI b) (nI 4)) _
    unfold kX8_canBe_s6
    exact Ex.t (by decide) (Ex.v ⟨b, rfl, hb⟩)
  · rintro _ ⟨b, rfl, hb⟩
    exact Ex.t (isZ_b b) (Ex.v ⟨b, rfl, hb⟩)
theorem a_settled8 {c s : Nat} (hW : WOK n Wy) (hM : MB n mw mh mg mW nb wl Wy) (hT : ∀ j, T j < 16) (hL : ∀ j, L j < 16) (hv : RNi n v L) (hc : c < n) (hs : s < 4) (hF : 1000 ≤ F) : Ex (kX8_isSettled F mw mh mg (fN T) mW v (nI c) (nI s)) (fun r => ∃ b, r = bI b ∧ (b = true ↔ ∃ d, Wy c s = some d ∧ allO T L c s ∧ allO T L d ((s + 2) % 4))) := by
  have hn := hW.1
  have end49 : ∀ b : Bool, (b = true ↔ ∃ d, Wy c s = some d ∧ allO T L c s ∧ allO T L d ((s + 2) % 4)) → Ex (kX8_isSettled_j49 F (bI b)) (fun r => ∃ b, r = bI b ∧ (b = true ↔ ∃ d, Wy c s = some d ∧ allO T L c s ∧ allO T L d ((s + 2) % 4))) := by
    intro b hb
    unfold kX8_isSettled_j49
    exact Ex.t (isZ_b b) (Ex.v ⟨b, rfl, hb⟩)
  have allOf : ∀ c s (b : Bool), (b = true ↔ ∃ k, k < 4 ∧ (L c).testBit k = true ∧ (rot (T c) k).testBit s = false) → (b = false ↔ allO T L c s) := by
    intro c s b hb
    constructor
    · intro h k hk hl
      show (rot (T c) k).testBit s = true
      cases e : (rot (T c) k).testBit s with
      | true => rfl
      | false =>
        have := hb.mpr ⟨k, hk, hl, e⟩
        rw [h] at this; cases this
    · intro h
      cases b with
      | false => rfl
      | true =>
        obtain ⟨k, hk, hl, e⟩ := hb.mp rfl
        have := h k hk hl
        rw [show (rot (T c) k).testBit s = true from this] at e; cases e
  unfold kX8_isSettled
  refine Ex.o (hM.1 F c s hc hs) ?_
  have hw := hM.2.2.1 c s hc hs
  cases e : nb c s with
  | none =>
    refine Ex.t rfl (end49 false ⟨fun h => by (cases h), fun ⟨d, h, _⟩ => ?_⟩)
    rw [hw, e] at h
    split at h <;> cases h
  | some d =>
    have hd : d < n := hM.2.2.2.1 c s d hc hs e
    refine Ex.f (n_m1 (show d < 2 ^ 31 by omega)) (Ex.o (hM.2.1 F c s (by omega) hs) ?_)
    cases ew : wl c s with
    | true =>
      refine Ex.f bI_n (end49 false ⟨fun h => by (cases h), fun ⟨d, h, _⟩ => ?_⟩)
      rw [hw, ew] at h; cases h
    | false =>
      have hWd : Wy c s = some d := by rw [hw, ew]; exact e
      refine Ex.t bI_f (Ex.b (a_canBe (x := false) hn hT hL hv hc hs hF) ?_)
      rintro _ ⟨b1, rfl, hb1⟩
      have q1 := allOf c s b1 hb1
      cases b1 with
      | true =>
        refine Ex.f bI_n (end49 false ⟨fun h => by (cases h), fun ⟨d', _, h, _⟩ => ?_⟩)
        have := q1.mpr h; cases this
      | false =>
        refine Ex.t bI_f (Ex.o (a_opposite8 hs) (Ex.b (a_canBe (x := false) hn hT hL hv hd (s2_lt s) hF) ?_))
        rintro _ ⟨b2, rfl, hb2⟩
        have q2 := allOf d _ b2 hb2
        cases b2 with
        | true =>
          refine Ex.f bI_n (end49 false ⟨fun h => by (cases h), fun ⟨d', h', _, h⟩ => ?_⟩)
          rw [hWd] at h'; cases h'
          have := q2.mpr h; cases this
        | false => exact Ex.t bI_f (end49 true ⟨fun _ => ⟨d, hWd, q1.mp rfl, q2.mp rfl⟩, fun _ => rfl⟩)
theorem a_hang3 {F a : Nat} {R : Nat → Int32} (ha : a < 16) (hF : 1000 ≤ F) : Ex (kloop F (fun s_ => kX8_hang_s3 F (nI a) s_.1 s_.2) (0, R)) (fun R' => RB R' (fun i => decide (i = a))) := a_reach2 ha hF
theorem a_hang69 {c z : Nat} {R : Nat → Int32} {ρ : Nat → Bool} {h : Bool} (hW : WOK n Wy) (hM : MB n mw mh mg mW nb wl Wy) (hT : ∀ j, T j < 16) (hL : ∀ j, L j < 16) (hv : RNi n v L) (hc : c < n) (hz : z < n) (hR : RB R ρ) (hF : 1000 ≤ F) : Ex (kloop F (fun s_ => kX8_hang_s69 F mw mh mg (fN T) mW v (nI z) (nI c) s_.1 s_.2.1 s_.2.2) (bI h, 0, R)) (fun r => ∃ ρ' h', r.1 = bI h' ∧ RB r.2 ρ' ∧ (∀ i, i ≠ c → ρ' i = ρ i) ∧ (ρ c = true → ρ' c = true) ∧ (ρ' c = true → ρ c = true ∨ (c ≠ z ∧ ∃ d, SJ Wy T L c d ∧ ρ d = true)) ∧ (ρ' c = false → c ≠ z → ∀ d, SJ Wy T L c d → ρ d = false) ∧ (h' = true ↔ h = true ∨ ρ' c ≠ ρ c)) := by
  have hn := hW.1
  have hc16 : c < 16 := by omega
  refine Ex.fr 4 (fun k s => s.2.1 = nI k ∧ ∃ ρ' h', s.1 = bI h' ∧ RB s.2.2 ρ' ∧ (∀ i, i ≠ c → ρ' i = ρ i) ∧ (ρ c = true → ρ' c = true) ∧ (ρ' c = true → ρ c = true ∨ (c ≠ z ∧ ∃ d, SJ Wy T L c d ∧ ρ d = true)) ∧ (ρ' c = false → c ≠ z → ∀ s, s < k → ∀ d, Wy c s = some d → allO T L c s → allO T L d ((s + 2) % 4) → ρ d = false) ∧ (h' = true ↔ h = true ∨ ρ' c ≠ ρ c)) ⟨rfl, ρ, h, rfl, hR, fun _ _ => rfl, id, Or.inl, fun _ _ s hs => absurd hs (Nat.not_lt_zero s), ⟨Or.inl, fun x => x.elim id (fun x => absurd rfl x)⟩⟩ ?_ ?_ (by omega)
  · rintro k ⟨s0, s1, R1⟩ hk ⟨h1, ρ1, hh, h0, hR1, g1, g2, g3, g4, g5⟩
    have h1 : s1 = nI k := h1
    have h0 : s0 = bI hh := h0
    subst h1 h0
    have hR1 : RB R1 ρ1 := hR1
    show Ex (kX8_hang_s69 F mw mh mg (fN T) mW v (nI z) (nI c) (bI hh) (nI k) R1) _
    unfold kX8_hang_s69
    refine Ex.f (show ¬ (4 : Int32) ≤ nI k from nI_ge hk (by decide)) (Ex.t (ix_n hc16 (by decide)) ?_)
    rw [cl_n (by omega), hR1 c hc16]
    cases e : ρ1 c with
    | true => exact Ex.f bI_n (Ex.v ⟨ρ1, hh, rfl, hR1, g1, fun _ => e, fun _ => g3 e, fun x => by (rw [e] at x; cases x), g5⟩)
    | false =>
      have eρ : ρ c = false := by
        cases x : ρ c with
        | false => rfl
        | true => rw [g2 x] at e; cases e
      refine Ex.t bI_f ?_
      by_cases ez : c = z
      · exact Ex.t (by rw [ez]) (Ex.v ⟨ρ1, hh, rfl, hR1, g1, g2, g3, fun _ x => absurd ez x, g5⟩)
      · refine Ex.f (by rw [nI_eq (by omega) (by omega)]; exact ez) (Ex.b (a_settled8 hW hM hT hL hv hc hk hF) ?_)
        rintro _ ⟨sb, rfl, hsb⟩
        have back : ∀ b : Bool, (b = true → ∃ d, SJ Wy T L c d ∧ ρ d = true) → (b = false → ∀ d, Wy c k = some d → allO T L c k → allO T L d ((k + 2) % 4) → ρ d = false) → Ex (kX8_hang_j123 F (nI c) (bI hh) (nI k) R1 (bI b)) (onS (fun s => s.2.1 = nI (k + 1) ∧ ∃ ρ' h', s.1 = bI h' ∧ RB s.2.2 ρ' ∧ (∀ i, i ≠ c → ρ' i = ρ i) ∧ (ρ c = true → ρ' c = true) ∧ (ρ' c = true → ρ c = true ∨ (c ≠ z ∧ ∃ d, SJ Wy T L c d ∧ ρ d = true)) ∧ (ρ' c = false → c ≠ z → ∀ s, s < k + 1 → ∀ d, Wy c s = some d → allO T L c s → allO T L d ((s + 2) % 4) → ρ d = false) ∧ (h' = true ↔ h = true ∨ ρ' c ≠ ρ c)) (fun r => ∃ ρ' h', r.1 = bI h' ∧ RB r.2 ρ' ∧ (∀ i, i ≠ c → ρ' i = ρ i) ∧ (ρ c = true → ρ' c = true) ∧ (ρ' c = true → ρ c = true ∨ (c ≠ z ∧ ∃ d, SJ Wy T L c d ∧ ρ d = true)) ∧ (ρ' c = false → c ≠ z → ∀ d, SJ Wy T L c d → ρ d = false) ∧ (h' = true ↔ h = true ∨ ρ' c ≠ ρ c))) := by
          intro b hb1 hb2
          have fin : ∀ h2 : Bool, (h2 = true ↔ hh = true ∨ b = true) → Ex (some (Sum.inl (bI h2, nI k + 1, upd R1 (nI c).toNatClampNeg (vp_nar .boolean (bI b)))) : Option ((Int32 × Int32 × (Nat → Int32)) ⊕ (Int32 × (Nat → Int32)))) (onS (fun s => s.2.1 = nI (k + 1) ∧ ∃ ρ' h', s.1 = bI h' ∧ RB s.2.2 ρ' ∧ (∀ i, i ≠ c → ρ' i = ρ i) ∧ (ρ c = true → ρ' c = true) ∧ (ρ' c = true → ρ c = true ∨ (c ≠ z ∧ ∃ d, SJ Wy T L c d ∧ ρ d = true)) ∧ (ρ' c = false → c ≠ z → ∀ s, s < k + 1 → ∀ d, Wy c s = some d → allO T L c s → allO T L d ((s + 2) % 4) → ρ d = false) ∧ (h' = true ↔ h = true ∨ ρ' c ≠ ρ c)) (fun r => ∃ ρ' h', r.1 = bI h' ∧ RB r.2 ρ' ∧ (∀ i, i ≠ c → ρ' i = ρ i) ∧ (ρ c = true → ρ' c = true) ∧ (ρ' c = true → ρ c = true ∨ (c ≠ z ∧ ∃ d, SJ Wy T L c d ∧ ρ d = true)) ∧ (ρ' c = false → c ≠ z → ∀ d, SJ Wy T L c d → ρ d = false) ∧ (h' = true ↔ h = true ∨ ρ' c ≠ ρ c))) := by
            intro h2 hh2
            refine Ex.v ⟨nI_1 k, up ρ1 c b, h2, rfl, hR1.st hc16 b, ?_, ?_, ?_, ?_, ?_⟩
            · intro i hi; rw [up_n hi]; exact g1 i hi
            · intro x; rw [eρ] at x; cases x
            · intro x; rw [up_s] at x; exact Or.inr ⟨ez, hb1 x⟩
            · intro x _ s hs d h5 h6 h7
              rw [up_s] at x
              by_cases es : s = k
              · subst es; exact hb2 x d h5 h6 h7
              · exact g4 e ez s (by omega) d h5 h6 h7
            · rw [up_s, eρ, hh2, g5, e, eρ]
              cases b <;> simp
          unfold kX8_hang_j123
          refine Ex.t (ix_n hc16 (by decide)) ?_
          cases hh with
          | false =>
            cases b with
            | false => exact Ex.t bI_f (Ex.t bI_f (fin false (by simp)))
            | true => exact Ex.t bI_f (Ex.f bI_n (fin true (by simp)))
          | true => exact Ex.f bI_n (fin true (by simp))
        cases sb with
        | false =>
          refine Ex.t bI_f (back false (fun x => (by cases x)) (fun _ d h5 h6 h7 => ?_))
          have := hsb.mpr ⟨d, h5, h6, h7⟩; cases this
        | true =>
          obtain ⟨d, h5, h6, h7⟩ := hsb.mp rfl
          have hd := hW.2.1 c k d hk h5
          have hd16 : d < 16 := by omega
          refine Ex.f bI_n (Ex.o (hM.1 F c k hc hk) ?_)
          rw [(hM.way hc hk h5).1]
          show Ex (if ix (nI d) 16 = true then _ else _) _
          refine Ex.t (ix_n hd16 (by decide)) ?_
          show Ex (if R1 (nI d).toNatClampNeg = 0 then _ else _) _
          rw [cl_n (by omega), hR1 d hd16, g1 d hd.2.2.1]
          cases er : ρ d with
          | false => exact Ex.t bI_f (back false (fun x => (by cases x)) (fun _ d' x _ _ => by rw [h5] at x; cases x; exact er))
          | true => exact Ex.f bI_n (back true (fun _ => ⟨d, ⟨k, hk, h5, h6, h7⟩, er⟩) (fun x => (by cases x)))
  · rintro ⟨s0, s1, R1⟩ ⟨h1, ρ1, hh, h0, hR1, g1, g2, g3, g4, g5⟩
    have h1 : s1 = nI 4 := h1
    subst h1
    show Ex (kX8_hang_s69 F mw mh mg (fN T) mW v (nI z) (nI c) s0 (nI 4) R1) _
    unfold kX8_hang_s69
    refine Ex.t (by decide) (Ex.v ⟨ρ1, hh, h0, hR1, g1, g2, g3, fun x hz d hd => ?_, g5⟩)
    obtain ⟨s, hs, h5, h6, h7⟩ := hd
    exact g4 x hz s hs d h5 h6 h7
theorem a_hang57 {a z : Nat} {R : Nat → Int32} {ρ : Nat → Bool} (hW : WOK n Wy) (hM : MB n mw mh mg mW nb wl Wy) (hT : ∀ j, T j < 16) (hL : ∀ j, L j < 16) (hv : RNi n v L) (hz : z < n) (hR : RB R ρ) (hS : ∀ j, ρ j = true → Rc (SA Wy T L z) a j) (hρz : ρ z = false) (hF : 1000 ≤ F) : Ex (kloop F (fun s_ => kX8_hang_s57 F mw mh mg (fN T) mW v (nI z) s_.1 s_.2.1 s_.2.2) (0, 0, R)) (fun r => ∃ ρ' h', r.1 = bI h' ∧ RB r.2 ρ' ∧ (∀ j, ρ j = true → ρ' j = true) ∧ (∀ j, ρ' j = true → Rc (SA Wy T L z) a j) ∧ ρ' z = false ∧ (h' = true → ∃ j, j < n ∧ ρ' j ≠ ρ j) ∧ (h' = false → (∀ j, ρ' j = ρ j) ∧ ∀ j, j < n → j ≠ z → ρ j = false → ∀ d, SJ Wy T L j d → ρ d = false)) := by
  have hn := hW.1
  have hcc := hM.2.2.2.2.2
  refine Ex.fr n (fun i s => s.2.1 = nI i ∧ ∃ ρ' h', s.1 = bI h' ∧ RB s.2.2 ρ' ∧ (∀ j, ρ j = true → ρ' j = true) ∧ (∀ j, ρ' j = true → Rc (SA Wy T L z) a j) ∧ ρ' z = false ∧ (∀ j, i ≤ j → ρ' j = ρ j) ∧ (h' = true → ∃ j, j < i ∧ ρ' j ≠ ρ j) ∧ (h' = false → (∀ j, j < i → ρ' j = ρ j) ∧ ∀ j, j < i → j ≠ z → ρ j = false → ∀ d, SJ Wy T L j d → ρ d = false)) ⟨rfl, ρ, false, rfl, hR, fun _ h => h, hS, hρz, fun _ _ => rfl, fun h => by (cases h), fun _ => ⟨fun j hj => absurd hj (Nat.not_lt_zero j), fun j hj => absurd hj (Nat.not_lt_zero j)⟩⟩ ?_ ?_ (by omega)
  · rintro i ⟨s0, s1, R1⟩ hi ⟨h1, ρ1, hh, h0, hR1, g1, g2, gz, g3, g4, g5⟩
    have h1 : s1 = nI i := h1
    have h0 : s0 = bI hh := h0
    subst h1 h0
    have hR1 : RB R1 ρ1 := hR1
    show Ex (kX8_hang_s57 F mw mh mg (fN T) mW v (nI z) (bI hh) (nI i) R1) _
    unfold kX8_hang_s57
    refine Ex.o (hcc F) (Ex.f (nI_ge hi (by omega)) (Ex.b (a_hang69 (h := hh) hW hM hT hL hv hi hz hR1 hF) ?_))
    rintro ⟨t0, R2⟩ ⟨ρ2, h2, e0, hR2, k1, k2, k3, k4, k5⟩
    have e0 : t0 = bI h2 := e0
    subst e0
    refine Ex.v ⟨nI_1 i, ρ2, h2, rfl, hR2, fun j hj => ?_, fun j hj => ?_, ?_, fun j hj => ?_, fun hx => ?_, fun hx => ?_⟩
    · by_cases e : j = i
      · subst e; exact k2 (g1 j hj)
      · rw [k1 j e]; exact g1 j hj
    · by_cases e : j = i
      · subst e
        rcases k3 hj with h | ⟨hne, d, h, h'⟩
        · exact g2 j h
        · have hdz : d ≠ z := fun e => by rw [e, gz] at h'; cases h'
          exact (g2 d h').tr ⟨hdz, hne, h.sym hW⟩
      · rw [k1 j e] at hj; exact g2 j hj
    · by_cases e : z = i
      · cases x : ρ2 z with
        | false => rfl
        | true =>
          rw [e] at x
          rcases k3 x with h | ⟨hne, -⟩
          · rw [← e, gz] at h; cases h
          · exact absurd e.symm hne
      · rw [k1 z e]; exact gz
    · rw [k1 j (by omega)]; exact g3 j (by omega)
    · rcases k5.mp hx with h | h
      · obtain ⟨j, hj, hne⟩ := g4 h
        exact ⟨j, by omega, by rw [k1 j (by omega)]; exact hne⟩
      · exact ⟨i, by omega, by rw [← g3 i (Nat.le_refl i)]; exact h⟩
    · have hhf : hh = false := by
        cases x : hh with
        | false => rfl
        | true => rw [k5.mpr (Or.inl x)] at hx; cases hx
      have h2i : ρ2 i = ρ1 i := by
        apply Classical.byContradiction
        intro hne
        rw [k5.mpr (Or.inr hne)] at hx; cases hx
      obtain ⟨m1, m2⟩ := g5 hhf
      have all1 : ∀ j, ρ1 j = ρ j := fun j => by
        by_cases hj : j < i
        · exact m1 j hj
        · exact g3 j (by omega)
      refine ⟨fun j hj => ?_, fun j hj hne hf d hd => ?_⟩
      · by_cases e : j = i
        · subst e; rw [h2i, all1]
        · rw [k1 j e, all1]
      · by_cases e : j = i
        · subst e
          have := k4 (by rw [h2i, all1]; exact hf) hne d hd
          rw [← all1 d]; exact this
        · exact m2 j (by omega) hne hf d hd
  · rintro ⟨s0, s1, R1⟩ ⟨h1, ρ1, hh, h0, hR1, g1, g2, gz, g3, g4, g5⟩
    have h1 : s1 = nI n := h1
    subst h1
    show Ex (kX8_hang_s57 F mw mh mg (fN T) mW v (nI z) s0 (nI n) R1) _
    unfold kX8_hang_s57
    refine Ex.o (hcc F) (Ex.t (nI_le (Nat.le_refl n) (by omega)) (Ex.v ⟨ρ1, hh, h0, hR1, g1, g2, gz, g4, fun hx => ⟨fun j => ?_, (g5 hx).2⟩⟩))
    by_cases hj : j < n
    · exact (g5 hx).1 j hj
    · exact g3 j (by omega)
theorem a_hang {a b z : Nat} {R : Nat → Int32} (hW : WOK n Wy) (hM : MB n mw mh mg mW nb wl Wy) (hT : ∀ j, T j < 16) (hL : ∀ j, L j < 16) (hv : RNi n v L) (ha : a < n) (hb : b < n) (hz : z < n) (haz : a ≠ z) (hF : 1000 ≤ F) : Ex (kX8_hang F mw mh mg (fN T) mW R v (nI a) (nI b) (nI z)) (fun r => ∃ x, r.1 = bI x ∧ (x = true ↔ Rc (SA Wy T L z) a b)) := by
  have hn := hW.1
  unfold kX8_hang
  refine Ex.b (a_hang3 (by omega) hF) ?_
  intro R0 hR0
  refine Ex.b (P := fun R' => ∃ x, R' b = bI x ∧ (x = true ↔ Rc (SA Wy T L z) a b)) (Ex.wh (P := fun k s => ∃ ρ h, s.1 = bI h ∧ RB s.2 ρ ∧ ρ a = true ∧ ρ z = false ∧ (∀ j, ρ j = true → Rc (SA Wy T L z) a j) ∧ (h = false → ∀ j, j < n → j ≠ z → ρ j = false → ∀ d, SJ Wy T L j d → ρ d = false) ∧ (h = true → 18 ≤ num ρ n + k)) ?_ (k := 18) ?_ (by omega)) ?_
  · rintro k ⟨s0, R1⟩ ⟨ρ, h, h0, hR1, hra, hrz, hS, hcl, hk⟩
    have h0 : s0 = bI h := h0
    subst h0
    have hR1 : RB R1 ρ := hR1
    show Ex (kX8_hang_s37 F mw mh mg (fN T) mW v (nI b) (nI z) (bI h) R1) _
    unfold kX8_hang_s37
    cases h with
    | false =>
      refine Ex.t bI_f (Ex.v ⟨ρ b, hR1 b (by omega), hS b, fun hrc => ?_⟩)
      have := hrc (fun y => ρ y = true ∧ y < n) ⟨hra, ha⟩ (fun x y hx hxy => by
        have hy : y < n := by
          obtain ⟨s, hs, e, -⟩ := hxy.2.2
          exact (hW.2.1 x s y hs e).2.1
        refine ⟨?_, hy⟩
        cases er : ρ y with
        | true => rfl
        | false =>
          have := hcl rfl y hy hxy.2.1 er x (hxy.2.2.sym hW)
          rw [this] at hx
          exact absurd hx.1 (by decide))
      exact this.1
    | true =>
      refine Ex.f bI_n (Ex.t (ix_n (by omega) (by decide)) ?_)
      rw [cl_n (by omega), show R1 b = bI (ρ b) from hR1 b (by omega)]
      cases e : ρ b with
      | true => exact Ex.f bI_n (Ex.v ⟨true, by rw [show R1 b = bI (ρ b) from hR1 b (by omega), e], fun _ => hS b e, fun _ => rfl⟩)
      | false =>
        refine Ex.t bI_f (Ex.b (a_hang57 hW hM hT hL hv hz hR1 hS hrz hF) ?_)
        rintro ⟨q0, R2⟩ ⟨ρ2, h2, e0, hR2, g1, g2, gz, g4, g5⟩
        have e0 : q0 = bI h2 := e0
        subst e0
        have hk := hk rfl
        have l1 := num_le ρ n
        refine Ex.v ⟨k - 1, by omega, ρ2, h2, rfl, hR2, g1 a hra, gz, g2, fun hx j hj hne hf d hd => ?_, fun hx => ?_⟩
        · obtain ⟨m1, m2⟩ := g5 hx
          rw [m1] at hf ⊢
          exact m2 j hj hne hf d hd
        · obtain ⟨j, hj, hne⟩ := g4 hx
          have h1 := num_mono (ρ := ρ) (ρ' := ρ2) (n := n) (fun i _ h => g1 i h)
          have h2 : num ρ n ≠ num ρ2 n := fun e => hne (num_eq (fun i _ h => g1 i h) e j hj).symm
          omega
  · refine ⟨fun i => decide (i = a), true, rfl, hR0, decide_eq_true rfl, decide_eq_false (fun e => haz e.symm), fun j hj => ?_, fun h => by (cases h), fun _ => by omega⟩
    rw [of_decide_eq_true hj]
    exact Rc.rf
  · rintro R' ⟨x, hx, hxr⟩
    refine Ex.t (ix_n (by omega) (by decide)) ?_
    rw [cl_n (by omega), hx]
    exact Ex.t (isZ_b x) (Ex.v ⟨x, rfl, hxr⟩)
end S8
