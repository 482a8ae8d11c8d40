/-! the reference: what is reached -/
def RB (R : Nat → Int32) (ρ : Nat → Bool) : Prop := ∀ i, i < 16 → R i = bI (ρ i)
theorem RB.st {R : Nat → Int32} {ρ : Nat → Bool} (h : RB R ρ) {c : Nat} (hc : c < 16) (b : Bool) : RB (upd R (nI c).toNatClampNeg (vp_nar .boolean (bI b))) (up ρ c b) := by
  intro i hi
  rw [cl_n (by omega), nar_b]
  unfold up
  by_cases e : i = c
  · subst e; rw [pk_us, if_pos rfl]
  · rw [pk_un e, if_neg e]; exact h i hi
theorem MB.way {n c s d : Nat} {mw mh mg : Int32} {mW : Nat → Int32} {nb : Nat → Nat → Option Nat} {wl : Nat → Nat → Bool} {Wy : Nat → Nat → Option Nat} (hM : MB n mw mh mg mW nb wl Wy) (hc : c < n) (hs : s < 4) (e : Wy c s = some d) : nb c s = some d ∧ wl c s = false := by
  have h := hM.2.2.1 c s hc hs
  rw [e] at h
  cases w : wl c s with
  | true => rw [w] at h; cases h
  | false => rw [w] at h; exact ⟨h.symm, rfl⟩
theorem a_reach2 {F a : Nat} {R : Nat → Int32} (ha : a < 16) (hF : 1000 ≤ F) : Ex (kloop F (fun s_ => kX8_reaches_s2 F (nI a) s_.1 s_.2) (0, R)) (fun R' => RB R' (fun i => decide (i = a))) := by
  refine Ex.fr 16 (fun i s => s.1 = nI i ∧ ∀ j, j < i → s.2 j = bI (decide (j = a))) ⟨rfl, fun j hj => absurd hj (Nat.not_lt_zero j)⟩ ?_ ?_ (by omega)
  · rintro i ⟨s1, s2⟩ hi ⟨h1, h2⟩
    have h1 : s1 = nI i := h1
    subst h1
    have h2 : ∀ j, j < i → s2 j = bI (decide (j = a)) := h2
    show Ex (kX8_reaches_s2 F (nI a) (nI i) s2) _
    unfold kX8_reaches_s2
    refine Ex.f (show ¬ (16 : Int32) ≤ nI i from nI_ge hi (by decide)) ?_
    have key : ∀ b : Bool, b = decide (i = a) → ∀ j, j < i + 1 → upd s2 (nI i).toNatClampNeg (vp_nar .boolean (bI b)) j = bI (decide (j = a)) := by
      intro b hb j hj
      rw [cl_n (by omega), nar_b]
      by_cases e : j = i
      · subst e; rw [pk_us, hb]
      · rw [pk_un e]; exact h2 j (by omega)
    by_cases e : i = a
    · exact Ex.t (by rw [e]) (Ex.t (ix_n hi (by decide)) (Ex.v ⟨nI_1 i, key true (decide_eq_true e).symm⟩))
    · exact Ex.f (by rw [nI_eq (by omega) (by omega)]; exact e) (Ex.t (ix_n hi (by decide)) (Ex.v ⟨nI_1 i, key false (decide_eq_false e).symm⟩))
  · rintro ⟨s1, s2⟩ ⟨h1, h2⟩
    have h1 : s1 = nI 16 := h1
    subst h1
    show Ex (kX8_reaches_s2 F (nI a) (nI 16) s2) _
    unfold kX8_reaches_s2
    exact Ex.t (by decide) (Ex.v h2)
section RE
variable {F n : Nat} {mw mh mg : Int32} {mW : Nat → Int32} {nb : Nat → Nat → Option Nat} {wl : Nat → Nat → Bool} {Wy : Nat → Nat → Option Nat} {T : Nat → Nat}
theorem a_reach58 {c : Nat} {R : Nat → Int32} {ρ : Nat → Bool} (hW : WOK n Wy) (hM : MB n mw mh mg mW nb wl Wy) (hT : ∀ j, T j < 16) (hc : c < n) (hR : RB R ρ) (hF : 1000 ≤ F) : Ex (kloop F (fun s_ => kX8_reaches_s58 F mw mh mg (fN T) mW (nI c) s_.1 s_.2) (0, R)) (fun R' => ∃ ρ', RB R' ρ' ∧ (∀ i, i ≠ c → ρ' i = ρ i) ∧ (ρ c = true → ρ' c = true) ∧ (ρ' c = true → ρ c = true ∨ ∃ d, JA Wy T c d ∧ ρ d = true) ∧ (ρ' c = false → ∀ d, JA Wy T c d → ρ d = false)) := by
  have hc16 : c < 16 := Nat.lt_of_lt_of_le hc hW.1
  refine Ex.fr 4 (fun k s => s.1 = nI k ∧ ∃ ρ', RB s.2 ρ' ∧ (∀ i, i ≠ c → ρ' i = ρ i) ∧ (ρ c = true → ρ' c = true) ∧ (ρ' c = true → ρ c = true ∨ ∃ d, JA Wy T c d ∧ ρ d = true) ∧ (ρ' c = false → ∀ s, s < k → ∀ d, jnd Wy T c s = true → Wy c s = some d → ρ d = false)) ⟨rfl, ρ, hR, fun _ _ => rfl, id, Or.inl, fun _ s hs => absurd hs (Nat.not_lt_zero s)⟩ ?_ ?_ (by omega)
  · rintro k ⟨s1, R1⟩ hk ⟨h1, ρ1, hR1, g1, g2, g3, g4⟩
    have h1 : s1 = nI k := h1
    subst h1
    have hR1 : RB R1 ρ1 := hR1
    show Ex (kX8_reaches_s58 F mw mh mg (fN T) mW (nI c) (nI k) R1) _
    unfold kX8_reaches_s58
    refine Ex.f (show ¬ (4 : Int32) ≤ nI k from nI_ge hk (by decide)) (Ex.t (ix_n hc16 (by decide)) ?_)
    rw [cl_n (by omega), hR1 c hc16]
    cases e : ρ1 c with
    | true =>
      refine Ex.f bI_n (Ex.v ⟨ρ1, hR1, g1, fun _ => e, fun _ => g3 e, fun h => by rw [e] at h; cases h⟩)
    | false =>
      refine Ex.t bI_f (Ex.o (a_joins8 hM hT hc hk) ?_)
      have back : ∀ b : Bool, (b = true → ∃ d, JA Wy T c d ∧ ρ d = true) → (b = false → ∀ d, jnd Wy T c k = true → Wy c k = some d → ρ d = false) → Ex (kX8_reaches_j112 F (nI c) (nI k) R1 (bI b)) (onS (fun s => s.1 = nI (k + 1) ∧ ∃ ρ', RB s.2 ρ' ∧ (∀ i, i ≠ c → ρ' i = ρ i) ∧ (ρ c = true → ρ' c = true) ∧ (ρ' c = true → ρ c = true ∨ ∃ d, JA Wy T c d ∧ ρ d = true) ∧ (ρ' c = false → ∀ s, s < k + 1 → ∀ d, jnd Wy T c s = true → Wy c s = some d → ρ d = false)) (fun R' => ∃ ρ', RB R' ρ' ∧ (∀ i, i ≠ c → ρ' i = ρ i) ∧ (ρ c = true → ρ' c = true) ∧ (ρ' c = true → ρ c = true ∨ ∃ d, JA Wy T c d ∧ ρ d = true) ∧ (ρ' c = false → ∀ d, JA Wy T c d → ρ d = false))) := by
        intro b hb1 hb2
        unfold kX8_reaches_j112
        refine Ex.t (ix_n hc16 (by decide)) (Ex.v ⟨nI_1 k, up ρ1 c b, hR1.st hc16 b, ?_, ?_, ?_, ?_⟩)
        · intro i hi
          show (if i = c then b else ρ1 i) = _
          rw [if_neg hi]; exact g1 i hi
        · intro h
          rw [g2 h] at e; cases e
        · intro h
          have h : (if c = c then b else ρ1 c) = true := h
          rw [if_pos rfl] at h
          exact Or.inr (hb1 h)
        · intro h s hs d h5 h6
          have h : (if c = c then b else ρ1 c) = false := h
          rw [if_pos rfl] at h
          by_cases es : s = k
          · subst es; exact hb2 h d h5 h6
          · exact g4 e s (by omega) d h5 h6
      cases ej : jnd Wy T c k with
      | false => exact Ex.t bI_f (back false (fun h => by cases h) (fun _ d h => by rw [ej] at h; cases h))
      | true =>
        refine Ex.f bI_n ?_
        cases e2 : Wy c k with
        | none => unfold jnd at ej; rw [e2] at ej; cases ej
        | some d =>
          have hd := hW.2.1 c k d hk e2
          have hd16 : d < 16 := Nat.lt_of_lt_of_le hd.2.1 hW.1
          refine Ex.o (hM.1 F c k hc hk) ?_
          rw [(hM.way hc hk e2).1]
          show Ex (if ix (nI d) 16 = true then _ else _) _
          refine Ex.t (ix_n hd16 (by decide)) ?_
          show Ex (if R1 (nI d).toNatClampNeg = 0 then _ else _) _
          rw [cl_n (by omega), hR1 d hd16, g1 d hd.2.2.1]
          cases er : ρ d with
          | false => exact Ex.t bI_f (back false (fun h => by cases h) (fun _ d' _ h => by rw [e2] at h; cases h; exact er))
          | true => exact Ex.f bI_n (back true (fun _ => ⟨d, ⟨k, hk, ej, e2⟩, er⟩) (fun h => by cases h))
  · rintro ⟨s1, R1⟩ ⟨h1, ρ1, hR1, g1, g2, g3, g4⟩
    have h1 : s1 = nI 4 := h1
    subst h1
    show Ex (kX8_reaches_s58 F mw mh mg (fN T) mW (nI c) (nI 4) R1) _
    unfold kX8_reaches_s58
    refine Ex.t (by decide) (Ex.v ⟨ρ1, hR1, g1, g2, g3, fun h d hd => ?_⟩)
    obtain ⟨s, hs, h5, h6⟩ := hd
    exact g4 h s hs d h5 h6
theorem a_reach46 {a : Nat} {R : Nat → Int32} {ρ : Nat → Bool} (hW : WOK n Wy) (hM : MB n mw mh mg mW nb wl Wy) (hT : ∀ j, T j < 16) (hR : RB R ρ) (hS : ∀ j, ρ j = true → Rc (JA Wy T) a j) (hF : 1000 ≤ F) : Ex (kloop F (fun s_ => kX8_reaches_s46 F mw mh mg (fN T) mW s_.1 s_.2.1 s_.2.2) (0, 0, R)) (fun r => ∃ ρ', r.1 = nI (num ρ' n) ∧ RB r.2 ρ' ∧ (∀ j, ρ j = true → ρ' j = true) ∧ (∀ j, ρ' j = true → Rc (JA Wy T) a j) ∧ ((∀ j, j < n → ρ j = ρ' j) → ∀ j, j < n → ρ j = false → ∀ d, JA Wy T j d → ρ d = false)) := by
  have hn := hW.1
  have hcc := hM.2.2.2.2.2
  refine Ex.fr n (fun i s => s.2.1 = nI i ∧ ∃ ρ', s.1 = nI (num ρ' i) ∧ RB s.2.2 ρ' ∧ (∀ j, ρ j = true → ρ' j = true) ∧ (∀ j, ρ' j = true → Rc (JA Wy T) a j) ∧ (∀ j, i ≤ j → ρ' j = ρ j) ∧ ((∀ j, j < i → ρ j = ρ' j) → ∀ j, j < i → ρ j = false → ∀ d, JA Wy T j d → ρ d = false)) ⟨rfl, ρ, rfl, hR, fun _ h => h, hS, fun _ _ => rfl, fun _ j hj => absurd hj (Nat.not_lt_zero j)⟩ ?_ ?_ (by omega)
  · rintro i ⟨s0, s1, R1⟩ hi ⟨h1, ρ1, h0, hR1, g1, g2, g3, g4⟩
    have h1 : s1 = nI i := h1
    have h0 : s0 = nI (num ρ1 i) := h0
    subst h1 h0
    have hR1 : RB R1 ρ1 := hR1
    show Ex (kX8_reaches_s46 F mw mh mg (fN T) mW (nI (num ρ1 i)) (nI i) R1) _
    unfold kX8_reaches_s46
    refine Ex.o (hcc F) (Ex.f (nI_ge hi (by omega)) (Ex.b (a_reach58 hW hM hT hi hR1 hF) ?_))
    rintro R2 ⟨ρ2, hR2, k1, k2, k3, k4⟩
    refine Ex.t (ix_n (by omega) (by decide)) ?_
    rw [cl_n (by omega), hR2 i (by omega)]
    have hnum : num ρ2 i = num ρ1 i := by
      refine sm_congr (fun j hj => ?_)
      rw [k1 j (by omega)]
    have fin : ∃ ρ', nI (num ρ2 i + (ρ2 i).toNat) = nI (num ρ' (i + 1)) ∧ RB R2 ρ' ∧ (∀ j, ρ j = true → ρ' j = true) ∧ (∀ j, ρ' j = true → Rc (JA Wy T) a j) ∧ (∀ j, i + 1 ≤ j → ρ' j = ρ j) ∧ ((∀ j, j < i + 1 → ρ j = ρ' j) → ∀ j, j < i + 1 → ρ j = false → ∀ d, JA Wy T j d → ρ d = false) := by
      refine ⟨ρ2, rfl, hR2, fun j hj => ?_, fun j hj => ?_, fun j hj => ?_, fun hall j hj e d hd => ?_⟩
      · by_cases e : j = i
        · subst e; exact k2 (g1 j hj)
        · rw [k1 j e]; exact g1 j hj
      · by_cases e : j = i
        · subst e
          rcases k3 hj with h | ⟨d, h, h'⟩
          · exact g2 j h
          · exact (g2 d h').tr (h.sym hW)
        · rw [k1 j e] at hj; exact g2 j hj
      · rw [k1 j (by omega)]; exact g3 j (by omega)
      · have h1 : ∀ j, j < i → ρ j = ρ1 j := fun j hj => by rw [← k1 j (by omega)]; exact hall j (by omega)
        by_cases ei : j = i
        · subst ei
          have e2 : ρ2 j = false := by rw [← hall j (by omega)]; exact e
          have h := k4 e2 d hd
          by_cases hdi : d < j
          · rw [h1 d hdi]; exact h
          · rw [← g3 d (by omega)]; exact h
        · exact g4 h1 j (by omega) e d hd
    cases e : ρ2 i with
    | false =>
      refine Ex.t bI_f (Ex.v ⟨nI_1 i, ?_⟩)
      rw [e] at fin
      show ∃ ρ', nI (num ρ1 i) + 0 = _ ∧ _
      rw [i0, nI_add, ← hnum]
      exact fin
    | true =>
      refine Ex.f bI_n (Ex.v ⟨nI_1 i, ?_⟩)
      rw [e] at fin
      show ∃ ρ', nI (num ρ1 i) + 1 = _ ∧ _
      rw [nI_1, ← hnum]
      exact fin
  · rintro ⟨s0, s1, R1⟩ ⟨h1, ρ1, h0, hR1, g1, g2, g3, g4⟩
    have h1 : s1 = nI n := h1
    subst h1
    show Ex (kX8_reaches_s46 F mw mh mg (fN T) mW s0 (nI n) R1) _
    unfold kX8_reaches_s46
    exact Ex.o (hcc F) (Ex.t (nI_le (Nat.le_refl n) (by omega)) (Ex.v ⟨ρ1, h0, hR1, g1, g2, g4⟩))
theorem a_reaches {a : Nat} {R : Nat → Int32} (hW : WOK n Wy) (hM : MB n mw mh mg mW nb wl Wy) (hT : ∀ j, T j < 16) (ha : a < n) (hF : 1000 ≤ F) : Ex (kX8_reaches F mw mh mg (fN T) mW R (nI a)) (fun r => ∃ ρ, r.1 = nI (num ρ n) ∧ RB r.2 ρ ∧ ∀ j, ρ j = true ↔ Rc (JA Wy T) a j) := by
  have hn := hW.1
  unfold kX8_reaches
  refine Ex.b (a_reach2 (by omega) hF) ?_
  intro R0 hR0
  have fin : Ex (kloop F (fun s_ => kX8_reaches_s34 F mw mh mg (fN T) mW s_.1 s_.2.1 s_.2.2) (0, (-1), R0)) (fun r => ∃ ρ, r.1 = nI (num ρ n) ∧ RB r.2 ρ ∧ ∀ j, ρ j = true ↔ Rc (JA Wy T) a j) := by
    refine Ex.wh (P := fun k s => ∃ ρ m0, s.1 = nI m0 ∧ m0 ≤ 16 ∧ RB s.2.2 ρ ∧ ρ a = true ∧ (∀ j, ρ j = true → Rc (JA Wy T) a j) ∧ (m0 = num ρ n ∨ m0 = 0) ∧ (s.1 = s.2.1 → m0 = num ρ n ∧ ∀ j, j < n → ρ j = false → ∀ d, JA Wy T j d → ρ d = false) ∧ (s.1 = s.2.1 ∨ 18 ≤ m0 + k)) ?_ (k := 18) ?_ (by omega)
    · rintro k ⟨s1, s2, R1⟩ ⟨ρ, m0, e1, hm, hR1, hra, hS, hm2, hcl, hk⟩
      have e1 : s1 = nI m0 := e1
      subst e1
      have hR1 : RB R1 ρ := hR1
      have hcl : nI m0 = s2 → _ := hcl
      have hk : nI m0 = s2 ∨ 18 ≤ m0 + k := hk
      show Ex (kX8_reaches_s34 F mw mh mg (fN T) mW (nI m0) s2 R1) _
      unfold kX8_reaches_s34
      by_cases e : nI m0 = s2
      · refine Ex.t e (Ex.v ⟨ρ, ?_, hR1, fun j => ⟨hS j, fun h => ?_⟩⟩)
        · show nI m0 = _
          rw [(hcl e).1]
        · have := h (fun z => ρ z = true ∧ z < n) ⟨hra, ha⟩ (fun x y hx hxy => by
            have hy := (hxy.lt hW).2.1
            refine ⟨?_, hy⟩
            cases er : ρ y with
            | true => rfl
            | false =>
              have := (hcl e).2 y hy er x (hxy.sym hW)
              rw [this] at hx
              exact absurd hx.1 (by decide))
          exact this.1
      · refine Ex.f e (Ex.b (a_reach46 hW hM hT hR1 hS hF) ?_)
        rintro ⟨q1, R2⟩ ⟨ρ2, h1, hR2, g1, g2, g3⟩
        have h1 : q1 = nI (num ρ2 n) := h1
        subst h1
        have hk : 18 ≤ m0 + k := hk.resolve_left e
        have l1 := num_le ρ2 n
        have l2 := num_mono (ρ := ρ) (ρ' := ρ2) (n := n) (fun i _ h => g1 i h)
        have l3 := num_pos ha (g1 a hra)
        refine Ex.v ⟨k - 1, by omega, ρ2, num ρ2 n, rfl, by omega, hR2, g1 a hra, g2, Or.inl rfl, ?_, ?_⟩
        · intro he
          have he : nI (num ρ2 n) = nI m0 := he
          rw [nI_eq (by omega) (by omega)] at he
          have h2 : num ρ n = num ρ2 n := by omega
          have h3 := num_eq (fun i _ h => g1 i h) h2
          refine ⟨rfl, fun j hj h d hd => ?_⟩
          rw [← h3 d (hd.lt hW).2.1]
          exact g3 h3 j hj (by rw [h3 j hj]; exact h) d hd
        · show nI (num ρ2 n) = nI m0 ∨ 18 ≤ num ρ2 n + (k - 1)
          by_cases h : num ρ2 n = m0
          · rw [h]; exact Or.inl rfl
          · right; omega
    · refine ⟨fun i => decide (i = a), 0, rfl, by omega, hR0, decide_eq_true rfl, fun j hj => ?_, Or.inr rfl, fun h => absurd h (show ¬ (0 : Int32) = -1 by decide), Or.inr (by omega)⟩
      rw [of_decide_eq_true hj]
      exact Rc.rf
  refine Ex.b fin ?_
  rintro ⟨r1, r2⟩ h
  exact Ex.v h
end RE
