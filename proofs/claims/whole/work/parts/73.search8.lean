/-! the search of the reference -/
section S9
variable {F n c : Nat} {mw mh mg : Int32} {mW : Nat → Int32} {nb : Nat → Nat → Option Nat} {wl : Nat → Nat → Bool} {Wy : Nat → Nat → Option Nat} {T a : Nat → Nat} {Yl : Nat → Int32}
theorem a_fits8 (hW : WOK n Wy) (hM : MB n mw mh mg mW nb wl Wy) (hT : ∀ j, T j < 16) (hc : c < n) (ha : ∀ j, j ≤ c → a j < 4) (hY : ∀ j, j ≤ c → Yl j = nI (a j)) (hF : 1000 ≤ F) : Ex (kX8_fits F mw mh mg (fN T) mW Yl (nI c)) (fun r => ∃ b, r = bI b ∧ (b = true ↔ fitU Wy (tls T a) c)) := by
  have hn := hW.1
  have hc16 : c < 16 := by omega
  have hr := tls_lt T a c
  unfold kX8_fits
  refine Ex.t (ix_n hc16 (by decide)) (Ex.t (ix_n hc16 (by decide)) ?_)
  rw [cl_n (by omega), hY c (Nat.le_refl c)]
  refine Ex.o (show kX8_turned F (fN T c) (nI (a c)) = some (nI (tls T a c)) from a_turned8 (hT c) (ha c (Nat.le_refl c)) hF) ?_
  have one : Prop := ∀ s, s < 4 → (Wy c s = none → (tls T a c).testBit s = false) ∧ ∀ d, Wy c s = some d → d < c → (tls T a c).testBit s = (tls T a d).testBit ((s + 2) % 4)
  refine Ex.b (P := fun r => ∃ b, r = bI b ∧ (b = true ↔ fitU Wy (tls T a) c)) (Ex.fr 4 (fun i st => ∃ b, st = (bI b, nI i) ∧ (b = true ↔ ∀ s, s < i → (Wy c s = none → (tls T a c).testBit s = false) ∧ ∀ d, Wy c s = some d → d < c → (tls T a c).testBit s = (tls T a d).testBit ((s + 2) % 4))) ⟨true, rfl, fun _ s hs => absurd hs (Nat.not_lt_zero s), fun _ => rfl⟩ ?_ ?_ (by omega)) ?_
  · rintro s st hs ⟨b, rfl, hb⟩
    show Ex (kX8_fits_s21 F mw mh mg (fN T) mW Yl (nI c) (nI (tls T a c)) (bI b) (nI s)) _
    unfold kX8_fits_s21
    refine Ex.f (show ¬ (4 : Int32) ≤ nI s from nI_ge hs (by decide)) ?_
    cases b with
    | false =>
      refine Ex.t bI_f (Ex.v ⟨false, rfl, fun x => (by cases x), fun x => ?_⟩)
      exact hb.mpr (fun s' hs' => x s' (by omega))
    | true =>
      have hb := hb.mp rfl
      refine Ex.f bI_n (Ex.o (hM.1 F c s hc hs) ?_)
      have fin : ∀ v : Bool, (v = true ↔ ((Wy c s = none → (tls T a c).testBit s = false) ∧ ∀ d, Wy c s = some d → d < c → (tls T a c).testBit s = (tls T a d).testBit ((s + 2) % 4))) → Ex (kX8_fits_j147 F (nI s) (bI v)) (onS (fun st => ∃ b, st = (bI b, nI (s + 1)) ∧ (b = true ↔ ∀ s', s' < s + 1 → (Wy c s' = none → (tls T a c).testBit s' = false) ∧ ∀ d, Wy c s' = some d → d < c → (tls T a c).testBit s' = (tls T a d).testBit ((s' + 2) % 4))) (fun r => ∃ b, r = bI b ∧ (b = true ↔ fitU Wy (tls T a) c))) := by
        intro v hv
        unfold kX8_fits_j147
        refine Ex.v ⟨v, by rw [nI_1], hv.trans ⟨fun h s' hs' => ?_, fun h => h s (by omega)⟩⟩
        by_cases es : s' = s
        · subst es; exact h
        · exact hb s' (by omega)
      have none_ : ∀ q : Int32, Wy c s = none → Ex (kX8_fits_j61 F (fN T) Yl (nI c) (nI (tls T a c)) (nI s) q 0) (onS (fun st => ∃ b, st = (bI b, nI (s + 1)) ∧ (b = true ↔ ∀ s', s' < s + 1 → (Wy c s' = none → (tls T a c).testBit s' = false) ∧ ∀ d, Wy c s' = some d → d < c → (tls T a c).testBit s' = (tls T a d).testBit ((s' + 2) % 4))) (fun r => ∃ b, r = bI b ∧ (b = true ↔ fitU Wy (tls T a) c))) := by
        intro q hno
        unfold kX8_fits_j61 kX8_fits_j79
        refine Ex.t rfl (Ex.t rfl (Ex.o (a_isOpen (by omega) (by omega)) ?_))
        cases e : (tls T a c).testBit s with
        | false => exact Ex.t bI_f (fin true ⟨fun _ => ⟨fun _ => e, fun d h => by rw [hno] at h; cases h⟩, fun _ => rfl⟩)
        | true => exact Ex.f bI_n (fin false ⟨fun x => (by cases x), fun x => by have := x.1 hno; rw [e] at this; cases this⟩)
      have hw := hM.2.2.1 c s hc hs
      cases e : nb c s with
      | none =>
        refine Ex.t rfl (none_ _ ?_)
        rw [hw, e]
        cases wl c s <;> rfl
      | some d =>
        have hd : d < n := hM.2.2.2.1 c s d hc hs e
        refine Ex.f (n_m1 (show d < 2 ^ 31 by omega)) (Ex.o (hM.2.1 F c s hc16 hs) ?_)
        cases ew : wl c s with
        | true => exact Ex.f bI_n (none_ _ (by rw [hw, ew]; rfl))
        | false =>
          have hWd : Wy c s = some d := by rw [hw, ew]; exact e
          refine Ex.t bI_f ?_
          show Ex (kX8_fits_j61 F (fN T) Yl (nI c) (nI (tls T a c)) (nI s) (nI d) 1) _
          unfold kX8_fits_j61
          refine Ex.f (by decide) ?_
          by_cases hdc : d < c
          · refine Ex.f (show ¬ nI c ≤ nI d from nI_ge hdc (by omega)) ?_
            unfold kX8_fits_j79
            refine Ex.f (by decide) (Ex.f (by decide) (Ex.o (a_isOpen (by omega) (by omega)) (Ex.t (ix_n (by omega) (by decide)) (Ex.t (ix_n (by omega) (by decide)) ?_))))
            rw [cl_n (show d < 2 ^ 31 by omega), hY d (by omega)]
            refine Ex.o (show kX8_turned F (fN T d) (nI (a d)) = some (nI (tls T a d)) from a_turned8 (hT d) (ha d (by omega)) hF) (Ex.o (a_opposite8 hs) (Ex.o (a_isOpen (by have := tls_lt T a d; omega) (by have := s2_lt s; omega)) ?_))
            by_cases eb : (tls T a c).testBit s = (tls T a d).testBit ((s + 2) % 4)
            · exact Ex.t ((bI_e _ _).mpr eb) (fin true ⟨fun _ => ⟨fun h => (by rw [hWd] at h; cases h), fun d' h _ => by rw [hWd] at h; cases h; exact eb⟩, fun _ => rfl⟩)
            · exact Ex.f (fun x => eb ((bI_e _ _).mp x)) (fin false ⟨fun x => (by cases x), fun x => absurd (x.2 d hWd hdc) eb⟩)
          · refine Ex.t (show nI c ≤ nI d from nI_le (by omega) (by omega)) ?_
            unfold kX8_fits_j79
            exact Ex.f (by decide) (Ex.t rfl (fin true ⟨fun _ => ⟨fun h => (by rw [hWd] at h; cases h), fun d' h x => by rw [hWd] at h; cases h; exact absurd x hdc⟩, fun _ => rfl⟩))
  · rintro st ⟨b, rfl, hb⟩
    show Ex (kX8_fits_s21 F mw mh mg (fN T) mW Yl (nI c) (nI (tls T a c)) (bI b) (nI 4)) _
    unfold kX8_fits_s21
    exact Ex.t (by decide) (Ex.v ⟨b, rfl, hb⟩)
  · rintro _ ⟨b, rfl, hb⟩
    exact Ex.t (isZ_b b) (Ex.v ⟨b, rfl, hb⟩)
theorem a_tree2 {R : Nat → Int32} (hF : 1000 ≤ F) : Ex (kloop F (fun s_ => kX8_isTree_s2 F s_.1 s_.2) (0, R)) (fun R' => RB R' (fun i => decide (i = 0))) := a_reach2 (a := 0) (by decide) hF
theorem a_tree70 {U : Nat → Nat} {m : Nat} {R : Nat → Int32} {ρ : Nat → Bool} (hW : WOK n Wy) (hM : MB n mw mh mg mW nb wl Wy) (hU : ∀ j, U j < 16) (hL : noLo Wy U n) (hc : c < n) (hR : RB R ρ) (hF : 1000 ≤ F) : Ex (kloop F (fun s_ => kX8_isTree_s70 F mw mh mg (nI c) (nI (U c)) s_.1 s_.2.1 s_.2.2) (nI m, 0, R)) (fun r => ∃ ρ' m', r.1 = nI m' ∧ m' + (ρ c).toNat = m + (ρ' c).toNat ∧ RB r.2 ρ' ∧ (∀ i, i ≠ c → ρ' i = ρ i) ∧ (ρ c = true → ρ' c = true) ∧ (ρ' c = true → ρ c = true ∨ ∃ d, JA Wy U c d ∧ ρ d = true) ∧ (ρ' c = false → ∀ d, JA Wy U c d → ρ d = false)) := by
  have hn := hW.1
  have hc16 : c < 16 := by omega
  refine Ex.fr 4 (fun k s => s.2.1 = nI k ∧ ∃ ρ' m', s.1 = nI m' ∧ m' + (ρ c).toNat = m + (ρ' c).toNat ∧ RB s.2.2 ρ' ∧ (∀ i, i ≠ c → ρ' i = ρ i) ∧ (ρ c = true → ρ' c = true) ∧ (ρ' c = true → ρ c = true ∨ ∃ d, JA Wy U c d ∧ ρ d = true) ∧ (ρ' c = false → ∀ s, s < k → ∀ d, jnd Wy U c s = true → Wy c s = some d → ρ d = false)) ⟨rfl, ρ, m, rfl, rfl, hR, fun _ _ => rfl, id, Or.inl, fun _ s hs => absurd hs (Nat.not_lt_zero s)⟩ ?_ ?_ (by omega)
  · rintro k ⟨s0, s1, R1⟩ hk ⟨h1, ρ1, m1, h0, hm, hR1, g1, g2, g3, g4⟩
    have h1 : s1 = nI k := h1
    have h0 : s0 = nI m1 := h0
    subst h1 h0
    have hR1 : RB R1 ρ1 := hR1
    show Ex (kX8_isTree_s70 F mw mh mg (nI c) (nI (U c)) (nI m1) (nI k) R1) _
    unfold kX8_isTree_s70
    refine Ex.f (show ¬ (4 : Int32) ≤ nI k from nI_ge hk (by decide)) (Ex.t (ix_n hc16 (by decide)) ?_)
    rw [cl_n (by omega), hR1 c hc16]
    cases e : ρ1 c with
    | true => exact Ex.f bI_n (Ex.v ⟨ρ1, m1, rfl, hm, hR1, g1, fun _ => e, fun _ => g3 e, fun h => by rw [e] at h; cases h⟩)
    | false =>
      have eρ : ρ c = false := by
        cases x : ρ c with
        | false => rfl
        | true => rw [g2 x] at e; cases e
      rw [e, eρ] at hm
      have hm : m1 = m := hm
      refine Ex.t bI_f (Ex.o (a_isOpen (by have := hU c; omega) (by omega)) ?_)
      have back : ∀ b : Bool, (b = true → ∃ d, JA Wy U c d ∧ ρ d = true) → (b = false → ∀ d, jnd Wy U c k = true → Wy c k = some d → ρ d = false) → Ex (kX8_isTree_j120 F (nI c) (nI m1) (nI k) R1 (bI b)) (onS (fun s => s.2.1 = nI (k + 1) ∧ ∃ ρ' m', s.1 = nI m' ∧ m' + (ρ c).toNat = m + (ρ' c).toNat ∧ RB s.2.2 ρ' ∧ (∀ i, i ≠ c → ρ' i = ρ i) ∧ (ρ c = true → ρ' c = true) ∧ (ρ' c = true → ρ c = true ∨ ∃ d, JA Wy U c d ∧ ρ d = true) ∧ (ρ' c = false → ∀ s, s < k + 1 → ∀ d, jnd Wy U c s = true → Wy c s = some d → ρ d = false)) (fun r => ∃ ρ' m', r.1 = nI m' ∧ m' + (ρ c).toNat = m + (ρ' c).toNat ∧ RB r.2 ρ' ∧ (∀ i, i ≠ c → ρ' i = ρ i) ∧ (ρ c = true → ρ' c = true) ∧ (ρ' c = true → ρ c = true ∨ ∃ d, JA Wy U c d ∧ ρ d = true) ∧ (ρ' c = false → ∀ d, JA Wy U c d → ρ d = false))) := by
        intro b hb1 hb2
        have hst := hR1.st hc16 b
        have rest : (∀ i, i ≠ c → up ρ1 c b i = ρ i) ∧ (ρ c = true → up ρ1 c b c = true) ∧ (up ρ1 c b c = true → ρ c = true ∨ ∃ d, JA Wy U c d ∧ ρ d = true) ∧ (up ρ1 c b c = false → ∀ s, s < k + 1 → ∀ d, jnd Wy U c s = true → Wy c s = some d → ρ d = false) := by
          refine ⟨fun i hi => by rw [up_n hi]; exact g1 i hi, fun h => (by rw [eρ] at h; cases h), fun h => ?_, fun h s hs d h5 h6 => ?_⟩
          · rw [up_s] at h; exact Or.inr (hb1 h)
          · rw [up_s] at h
            by_cases es : s = k
            · subst es; exact hb2 h d h5 h6
            · exact g4 e s (by omega) d h5 h6
        unfold kX8_isTree_j120
        refine Ex.t (ix_n hc16 (by decide)) (Ex.t (ix_n hc16 (by decide)) ?_)
        have e9 : upd R1 (nI c).toNatClampNeg (vp_nar .boolean (bI b)) (nI c).toNatClampNeg = bI b := by
          rw [nar_b]; exact pk_us
        rw [e9]
        cases b with
        | false =>
          refine Ex.t bI_f (Ex.v ⟨nI_1 k, up ρ1 c false, m1, by show nI m1 + 0 = _; rw [i0, nI_add]; rfl, ?_, hst, rest⟩)
          rw [eρ, up_s, hm]
        | true =>
          refine Ex.f bI_n (Ex.v ⟨nI_1 k, up ρ1 c true, m1 + 1, by show nI m1 + 1 = _; rw [nI_1], ?_, hst, rest⟩)
          rw [eρ, up_s, hm]; rfl
      cases eo : (U c).testBit k with
      | false => exact Ex.t bI_f (back false (fun h => (by cases h)) (fun _ d h _ => by rw [noLo_jnd hL hc hk, eo] at h; cases h))
      | true =>
        obtain ⟨d, e2, e3⟩ := hL c k hc hk eo
        have hd := hW.2.1 c k d hk e2
        have hd16 : d < 16 := by omega
        have ej : jnd Wy U c k = true := by rw [noLo_jnd hL hc hk]; exact eo
        refine Ex.f bI_n (Ex.o (hM.1 F c k hc hk) ?_)
        rw [(hM.way hc hk e2).1]
        show Ex (if ix (nI d) 16 = true then _ else _) _
        refine Ex.t (ix_n hd16 (by decide)) ?_
        show Ex (if R1 (nI d).toNatClampNeg = 0 then _ else _) _
        rw [cl_n (show d < 2 ^ 31 by omega), hR1 d hd16, g1 d hd.2.2.1]
        cases er : ρ d with
        | false => exact Ex.t bI_f (back false (fun h => (by cases h)) (fun _ d' _ h => by rw [e2] at h; cases h; exact er))
        | true => exact Ex.f bI_n (back true (fun _ => ⟨d, ⟨k, hk, ej, e2⟩, er⟩) (fun h => (by cases h)))
  · rintro ⟨s0, s1, R1⟩ ⟨h1, ρ1, m1, h0, hm, hR1, g1, g2, g3, g4⟩
    have h1 : s1 = nI 4 := h1
    subst h1
    show Ex (kX8_isTree_s70 F mw mh mg (nI c) (nI (U c)) s0 (nI 4) R1) _
    unfold kX8_isTree_s70
    refine Ex.t (by decide) (Ex.v ⟨ρ1, m1, h0, hm, hR1, g1, g2, g3, fun h d hd => ?_⟩)
    obtain ⟨s, hs, h5, h6⟩ := hd
    exact g4 h s hs d h5 h6
theorem a_tree42 {m : Nat} {R : Nat → Int32} {ρ : Nat → Bool} (hW : WOK n Wy) (hM : MB n mw mh mg mW nb wl Wy) (hT : ∀ j, T j < 16) (ha : ∀ j, j < n → a j < 4) (hY : ∀ j, j < n → Yl j = nI (a j)) (hL : noLo Wy (tls T a) n) (hn1 : 1 ≤ n) (hR : RB R ρ) (hS : ∀ j, ρ j = true → Rc (JA Wy (tls T a)) 0 j) (hF : 1000 ≤ F) : Ex (kloop F (fun s_ => kX8_isTree_s42 F mw mh mg (fN T) Yl s_.1 s_.2.1 s_.2.2) (nI m, 1, R)) (fun r => ∃ ρ' m', r.1 = nI m' ∧ m' + num ρ n = m + num ρ' n ∧ RB r.2 ρ' ∧ (∀ j, ρ j = true → ρ' j = true) ∧ (∀ j, ρ' j = true → Rc (JA Wy (tls T a)) 0 j) ∧ ((∀ j, j < n → ρ j = ρ' j) → ∀ j, 1 ≤ j → j < n → ρ j = false → ∀ d, JA Wy (tls T a) j d → ρ d = false)) := by
  have hn := hW.1
  have hcc := hM.2.2.2.2.2
  refine Ex.fr (n - 1) (fun i s => s.2.1 = nI (i + 1) ∧ ∃ ρ' m', s.1 = nI m' ∧ m' + num ρ (i + 1) = m + num ρ' (i + 1) ∧ RB s.2.2 ρ' ∧ (∀ j, ρ j = true → ρ' j = true) ∧ (∀ j, ρ' j = true → Rc (JA Wy (tls T a)) 0 j) ∧ (∀ j, i + 1 ≤ j → ρ' j = ρ j) ∧ ρ' 0 = ρ 0 ∧ ((∀ j, j < i + 1 → ρ j = ρ' j) → ∀ j, 1 ≤ j → j < i + 1 → ρ j = false → ∀ d, JA Wy (tls T a) j d → ρ d = false)) ⟨rfl, ρ, m, rfl, rfl, hR, fun _ h => h, hS, fun _ _ => rfl, rfl, fun _ j h1 h2 => by omega⟩ ?_ ?_ (by omega)
  · rintro i ⟨s0, s1, R1⟩ hi ⟨h1, ρ1, m1, h0, hm, hR1, g1, g2, g3, gz, g4⟩
    have h1 : s1 = nI (i + 1) := h1
    have h0 : s0 = nI m1 := h0
    subst h1 h0
    have hR1 : RB R1 ρ1 := hR1
    have hc : i + 1 < n := by omega
    show Ex (kX8_isTree_s42 F mw mh mg (fN T) Yl (nI m1) (nI (i + 1)) R1) _
    unfold kX8_isTree_s42
    refine Ex.o (hcc F) (Ex.f (nI_ge hc (by omega)) (Ex.t (ix_n (by omega) (by decide)) (Ex.t (ix_n (by omega) (by decide)) ?_)))
    rw [cl_n (show i + 1 < 2 ^ 31 by omega), hY (i + 1) hc]
    refine Ex.o (show kX8_turned F (fN T (i + 1)) (nI (a (i + 1))) = some (nI (tls T a (i + 1))) from a_turned8 (hT _) (ha _ hc) hF) (Ex.b (a_tree70 (m := m1) hW hM (tls_lt T a) hL hc hR1 hF) ?_)
    rintro ⟨t0, R2⟩ ⟨ρ2, m2, e0, hm2, hR2, k1, k2, k3, k4⟩
    have e0 : t0 = nI m2 := e0
    subst e0
    refine Ex.v ⟨nI_1 (i + 1), ρ2, m2, rfl, ?_, hR2, fun j hj => ?_, fun j hj => ?_, fun j hj => ?_, ?_, fun hall j hj1 hj e d hd => ?_⟩
    · have hnum : num ρ2 (i + 1) = num ρ1 (i + 1) := sm_congr (fun j hj => by rw [k1 j (by omega)])
      have q1 : num ρ (i + 1 + 1) = num ρ (i + 1) + (ρ (i + 1)).toNat := rfl
      have q2 : num ρ2 (i + 1 + 1) = num ρ2 (i + 1) + (ρ2 (i + 1)).toNat := rfl
      have q3 : ρ1 (i + 1) = ρ (i + 1) := g3 (i + 1) (Nat.le_refl _)
      rw [q3] at hm2
      rw [q1, q2, hnum]
      omega
    · by_cases e : j = i + 1
      · subst e; exact k2 (g1 _ hj)
      · rw [k1 j e]; exact g1 j hj
    · by_cases e : j = i + 1
      · subst e
        rcases k3 hj with h | ⟨d, h, h'⟩
        · exact g2 _ h
        · exact (g2 d h').tr (h.sym hW)
      · rw [k1 j e] at hj; exact g2 j hj
    · rw [k1 j (by omega)]; exact g3 j (by omega)
    · rw [k1 0 (by omega)]; exact gz
    · have h1 : ∀ j, j < i + 1 → ρ j = ρ1 j := fun j hj => by rw [← k1 j (by omega)]; exact hall j (by omega)
      by_cases ei : j = i + 1
      · subst ei
        have e2 : ρ2 (i + 1) = false := by rw [← hall _ (by omega)]; exact e
        have h := k4 e2 d hd
        by_cases hdi : d < i + 1
        · rw [h1 d hdi]; exact h
        · rw [← g3 d (by omega)]; exact h
      · exact g4 h1 j hj1 (by omega) e d hd
  · rintro ⟨s0, s1, R1⟩ ⟨h1, ρ1, m1, h0, hm, hR1, g1, g2, g3, gz, g4⟩
    have en : n - 1 + 1 = n := by omega
    rw [en] at hm g4
    have h1 : s1 = nI (n - 1 + 1) := h1
    rw [en] at h1
    subst h1
    show Ex (kX8_isTree_s42 F mw mh mg (fN T) Yl s0 (nI n) R1) _
    unfold kX8_isTree_s42
    exact Ex.o (hcc F) (Ex.t (nI_le (Nat.le_refl n) (by omega)) (Ex.v ⟨ρ1, m1, h0, hm, hR1, g1, g2, g4⟩))
theorem a_isTree {R : Nat → Int32} (hW : WOK n Wy) (hM : MB n mw mh mg mW nb wl Wy) (hT : ∀ j, T j < 16) (ha : ∀ j, j < n → a j < 4) (hY : ∀ j, j < n → Yl j = nI (a j)) (hL : noLo Wy (tls T a) n) (hn1 : 1 ≤ n) (hF : 1000 ≤ F) : Ex (kX8_isTree F mw mh mg (fN T) R Yl) (fun r => ∃ b, r.1 = bI b ∧ (b = true ↔ conA Wy (tls T a) n)) := by
  have hn := hW.1
  unfold kX8_isTree
  refine Ex.b (a_tree2 hF) ?_
  intro R0 hR0
  refine Ex.b (P := fun r => ∃ ρ, r.1 = nI (num ρ n) ∧ (∀ j, j < n → (ρ j = true ↔ Rc (JA Wy (tls T a)) 0 j))) (Ex.wh (P := fun k s => ∃ ρ b0, s.1 = nI (num ρ n) ∧ s.2.1 = nI b0 ∧ b0 ≤ 16 ∧ RB s.2.2 ρ ∧ ρ 0 = true ∧ (∀ j, ρ j = true → Rc (JA Wy (tls T a)) 0 j) ∧ (b0 = num ρ n → ∀ j, 1 ≤ j → j < n → ρ j = false → ∀ d, JA Wy (tls T a) j d → ρ d = false) ∧ (b0 = num ρ n ∨ 18 ≤ num ρ n + k)) ?_ (k := 18) ?_ (by omega)) ?_
  · rintro k ⟨s0, s1, R1⟩ ⟨ρ, b0, h0, h1, hb0, hR1, hr0, hS, hcl, hk⟩
    have h0 : s0 = nI (num ρ n) := h0
    have h1 : s1 = nI b0 := h1
    subst h0 h1
    have hR1 : RB R1 ρ := hR1
    have l1 := num_le ρ n
    show Ex (kX8_isTree_s33 F mw mh mg (fN T) Yl (nI (num ρ n)) (nI b0) R1) _
    unfold kX8_isTree_s33
    by_cases e : b0 = num ρ n
    · refine Ex.t (by rw [e]) (Ex.v ⟨ρ, rfl, fun j hj => ⟨hS j, fun h => ?_⟩⟩)
      have := h (fun z => ρ z = true ∧ z < n) ⟨hr0, by omega⟩ (fun x y hx hxy => by
        have hy := (hxy.lt hW).2.1
        refine ⟨?_, hy⟩
        by_cases hy0 : y = 0
        · rw [hy0]; exact hr0
        · cases er : ρ y with
          | true => rfl
          | false =>
            have := hcl e y (by omega) hy er x (hxy.sym hW)
            rw [this] at hx
            exact absurd hx.1 (by decide))
      exact this.1
    · refine Ex.f (fun h => e ((nI_eq (by omega) (by omega)).mp h).symm) (Ex.b (a_tree42 hW hM hT ha hY hL hn1 hR1 hS hF) ?_)
      rintro ⟨q0, R2⟩ ⟨ρ2, m2, e0, hm2, hR2, g1, g2, g3⟩
      have e0 : q0 = nI m2 := e0
      have hm2 : m2 = num ρ2 n := by omega
      subst e0 hm2
      have hk : 18 ≤ num ρ n + k := hk.resolve_left e
      have l2 := num_mono (ρ := ρ) (ρ' := ρ2) (n := n) (fun i _ h => g1 i h)
      refine Ex.v ⟨k - 1, by omega, ρ2, num ρ n, rfl, rfl, by omega, hR2, g1 0 hr0, g2, fun he => ?_, ?_⟩
      · have h3 := num_eq (fun i _ h => g1 i h) he
        intro j hj1 hj h d hd
        rw [← h3 d (hd.lt hW).2.1]
        exact g3 h3 j hj1 hj (by rw [h3 j hj]; exact h) d hd
      · by_cases h : num ρ n = num ρ2 n
        · exact Or.inl h
        · right; omega
  · have e1 : num (fun i => decide (i = 0)) n = 1 := sm_uniq (p := fun i => decide (i = 0)) (m := 0) (by omega) rfl (fun i _ h => of_decide_eq_true h)
    refine ⟨fun i => decide (i = 0), 0, by rw [e1]; rfl, rfl, by omega, hR0, rfl, fun j hj => ?_, fun h => (by rw [e1] at h; cases h), Or.inr (by omega)⟩
    rw [of_decide_eq_true hj]
    exact Rc.rf
  · rintro ⟨q0, R2⟩ ⟨ρ, e0, hρ⟩
    have e0 : q0 = nI (num ρ n) := e0
    subst e0
    have l1 := num_le ρ n
    refine Ex.o (hM.2.2.2.2.2 F) ?_
    have hall : num ρ n = n ↔ conA Wy (tls T a) n := by
      rw [nP_num (p := fun i => Rc (JA Wy (tls T a)) 0 i) hρ, nP_all]
      exact Iff.rfl
    by_cases e : num ρ n = n
    · exact Ex.t (show nI (num ρ n) = nI n by rw [e]) (Ex.v ⟨true, rfl, fun _ => hall.mp e, fun _ => rfl⟩)
    · exact Ex.f (show ¬ nI (num ρ n) = nI n from fun h => e ((nI_eq (by omega) (by omega)).mp h)) (Ex.v ⟨false, rfl, fun x => (by cases x), fun x => absurd (hall.mpr x) e⟩)
theorem a_notes {so sw : Int32} {Fi : Nat → Int32} {st : Int32 × Nat × (Nat → Nat)} (hn : n ≤ 16) (hcc : ∀ F, kX8_cells F mw mh = some (nI n)) (hr : RelS n so sw Fi st) (ha : ∀ j, j < n → a j < 4) (hY : ∀ j, j < n → Yl j = nI (a j)) (hF : 1000 ≤ F) : Ex (kX8_notes F mw mh so sw Yl Fi) (fun r => RelS n r.1 r.2.1 r.2.2 (note n a st)) := by
  have hsm : sm a n ≤ 48 := by
    have := sm_le (f := a) (b := 3) (n := n) (fun i hi => by have := ha i hi; omega)
    omega
  obtain ⟨hr1, hr2⟩ := hr
  subst hr1
  unfold kX8_notes
  refine Ex.b (P := fun q => q.1 = nI (sm a n) ∧ ∀ j, j < n → q.2 j = if st.1 = 0 then nI (a j) else Fi j) (Ex.fr n (fun i s => s.1 = nI (sm a i) ∧ s.2.1 = nI i ∧ (∀ j, j < i → s.2.2 j = if st.1 = 0 then nI (a j) else Fi j) ∧ ∀ j, i ≤ j → s.2.2 j = Fi j) ⟨rfl, rfl, fun j hj => absurd hj (Nat.not_lt_zero j), fun _ _ => rfl⟩ ?_ ?_ (by omega)) ?_
  · rintro i ⟨s0, s1, f1⟩ hi ⟨h0, h1, h2, h3⟩
    have h0 : s0 = nI (sm a i) := h0
    have h1 : s1 = nI i := h1
    subst h0 h1
    have h2 : ∀ j, j < i → f1 j = if st.1 = 0 then nI (a j) else Fi j := h2
    have h3 : ∀ j, i ≤ j → f1 j = Fi j := h3
    show Ex (kX8_notes_s4 F mw mh st.1 Yl (nI (sm a i)) (nI i) f1) _
    unfold kX8_notes_s4
    rw [cl_n (show i < 2 ^ 31 by omega), hY i hi, h3 i (Nat.le_refl i)]
    have fin : ∀ v : Int32, v = (if st.1 = 0 then nI (a i) else Fi i) → Ex (kX8_notes_j39 F Yl (nI (sm a i)) (nI i) f1 v) (onS (fun s => s.1 = nI (sm a (i + 1)) ∧ s.2.1 = nI (i + 1) ∧ (∀ j, j < i + 1 → s.2.2 j = if st.1 = 0 then nI (a j) else Fi j) ∧ ∀ j, i + 1 ≤ j → s.2.2 j = Fi j) (fun q => q.1 = nI (sm a n) ∧ ∀ j, j < n → q.2 j = if st.1 = 0 then nI (a j) else Fi j)) := by
      intro v hv
      unfold kX8_notes_j39
      rw [cl_n (show i < 2 ^ 31 by omega), hY i hi]
      refine Ex.t (ix_n (by omega) (by decide)) (Ex.t (ix_n (by omega) (by decide)) (Ex.v ⟨by rw [nI_add]; rfl, nI_1 i, fun j hj => ?_, fun j hj => ?_⟩))
      · show upd f1 i v j = _
        by_cases ej : j = i
        · subst ej; rw [pk_us, hv]
        · rw [pk_un ej]; exact h2 j (by omega)
      · show upd f1 i v j = _
        rw [pk_un (by omega)]; exact h3 j (by omega)
    refine Ex.o (hcc F) (Ex.f (nI_ge hi (by omega)) ?_)
    by_cases hso : st.1 = 0
    · exact Ex.t hso (Ex.t (ix_n (by omega) (by decide)) (fin _ (by rw [if_pos hso])))
    · exact Ex.f hso (Ex.t (ix_n (by omega) (by decide)) (fin _ (by rw [if_neg hso])))
  · rintro ⟨s0, s1, f1⟩ ⟨h0, h1, h2, h3⟩
    have h1 : s1 = nI n := h1
    subst h1
    show Ex (kX8_notes_s4 F mw mh st.1 Yl s0 (nI n) f1) _
    unfold kX8_notes_s4
    exact Ex.o (hcc F) (Ex.t (nI_le (Nat.le_refl n) (by omega)) (Ex.v ⟨h0, h2⟩))
  · rintro ⟨q0, q1⟩ ⟨h0, h2⟩
    have h0 : q0 = nI (sm a n) := h0
    subst h0
    have h2 : ∀ j, j < n → q1 j = if st.1 = 0 then nI (a j) else Fi j := h2
    by_cases hso : st.1 = 0
    · refine Ex.t hso ?_
      unfold kX8_notes_j79
      refine Ex.v ⟨rfl, fun _ => ⟨?_, ?_, fun j hj => ?_⟩⟩
      · show nI (sm a n) = nI (if st.1 = 0 then sm a n else min st.2.1 (sm a n))
        rw [if_pos hso]
      · show (if st.1 = 0 then sm a n else min st.2.1 (sm a n)) ≤ 64
        rw [if_pos hso]; omega
      · show q1 j = nI ((if st.1 = 0 then a else st.2.2) j)
        rw [h2 j hj, if_pos hso, if_pos hso]
    · obtain ⟨hr3, hr4, hr5⟩ := hr2 hso
      refine Ex.f hso ?_
      have fin : ∀ v : Int32, v = nI (min st.2.1 (sm a n)) → Ex (kX8_notes_j79 F st.1 (nI (sm a n), q1) v) (fun r => RelS n r.1 r.2.1 r.2.2 (note n a st)) := by
        intro v hv
        unfold kX8_notes_j79
        refine Ex.v ⟨rfl, fun _ => ⟨?_, ?_, fun j hj => ?_⟩⟩
        · show v = nI (if st.1 = 0 then sm a n else min st.2.1 (sm a n))
          rw [if_neg hso, hv]
        · show (if st.1 = 0 then sm a n else min st.2.1 (sm a n)) ≤ 64
          rw [if_neg hso]
          exact Nat.le_trans (Nat.min_le_left _ _) hr4
        · show q1 j = nI ((if st.1 = 0 then a else st.2.2) j)
          rw [h2 j hj, if_neg hso, if_neg hso]
          exact hr5 j hj
      rw [hr3]
      by_cases hle : st.2.1 ≤ sm a n
      · exact Ex.t (nI_le hle (by omega)) (fin _ (by rw [Nat.min_eq_left hle]))
      · exact Ex.f (show ¬ nI st.2.1 ≤ nI (sm a n) from nI_ge (by omega) (by omega)) (fin _ (by rw [Nat.min_eq_right (by omega)]))
end S9
theorem kl_le {σ τ : Type} {f : σ → Option (σ ⊕ τ)} {Q : τ → Prop} : ∀ {K K' : Nat} {s : σ}, K ≤ K' → Ex (kloop K f s) Q → Ex (kloop K' f s) Q
  | 0, _, s, _, h => by obtain ⟨r, h, -⟩ := h; cases h
  | K + 1, 0, s, hk, _ => absurd hk (Nat.not_succ_le_zero K)
  | K + 1, K' + 1, s, hk, h => by
    obtain ⟨r, h1, h2⟩ := h
    have h1 : (f s).bind _ = some r := h1
    obtain ⟨x, e, h1⟩ := ob h1
    show Ex ((f s).bind _) Q
    rw [e]
    cases x with
    | inl a => exact kl_le (by omega) ⟨r, h1, h2⟩
    | inr b => exact ⟨r, h1, h2⟩
theorem kl_step {σ τ : Type} {f : σ → Option (σ ⊕ τ)} {Q : τ → Prop} {K : Nat} {s : σ} (h : Ex (f s) (onS (fun s' => Ex (kloop K f s') Q) Q)) : Ex (kloop (K + 1) f s) Q := by
  obtain ⟨x, e, h⟩ := h
  show Ex ((f s).bind _) Q
  rw [e]
  cases x with
  | inl a => exact h
  | inr b => exact ⟨b, rfl, h⟩
/-- rounds enough for m cells -/
def rdsB : Nat → Nat
  | 0 => 0
  | m + 1 => 4 * (rdsB m + 1) + 1
section S10
variable {F n : Nat} {mw mh mg : Int32} {mW mK : Nat → Int32} {nb : Nat → Nat → Option Nat} {wl : Nat → Nat → Bool} {Wy : Nat → Nat → Option Nat} {T : Nat → Nat} {lm : Nat}
theorem ownM_tb {t k : Nat} (b : Bool) (ht : t < 16) (hk : k < 4) : (ownM t b).testBit k = decide (k < laysN t b) := by
  have h : ∀ t, t < 16 → ∀ b : Bool, ∀ k, k < 4 → (ownM t b).testBit k = decide (k < laysN t b) := by decide +kernel
  exact h t ht b k hk
theorem iter_up {σ : Type} {f : Nat → σ → σ} {s : σ} {k : Nat} (h : ∀ i s, k ≤ i → i < 4 → f i s = s) : ∀ j, k + j ≤ 4 → iter f (k + j) s = iter f k s
  | 0, _ => rfl
  | j + 1, hj => by
    show f (k + j) (iter f (k + j) s) = _
    rw [h (k + j) _ (by omega) (by omega), iter_up h j (by omega)]
theorem a_run {Q : Int32 × Int32 × (Nat → Int32) × (Nat → Int32) × (Nat → Int32) → Prop} (hW : WOK n Wy) (hM : MB n mw mh mg mW nb wl Wy) (hn1 : 1 ≤ n) (hT : ∀ j, T j < 16) (hK : ∀ j, j < 16 → mK j = bI (lm.testBit j)) (hop : opn T n = 2 * (n - 1)) (hF : 1000 ≤ F) : ∀ (m c : Nat) (a : Nat → Nat) (st : Int32 × Nat × (Nat → Nat)) (so sw : Int32) (R Yl Fi : Nat → Int32) (K : Nat), c + (m + 1) = n → (∀ j, j < c → a j < 4 ∧ Yl j = nI (a j) ∧ fitU Wy (tls T a) j) → Yl c = -1 → RelS n so sw Fi st → (∀ (so' sw' : Int32) (R' Y' Fi' : Nat → Int32), RelS n so' sw' Fi' (srP (prR Wy T (ownA T lm n)) (qR Wy T n) (note n) n (m + 1) a st) → (∀ j, j < c → Y' j = Yl j) → Ex (kloop K (fun s_ => kX8_searches_s35 F mw mh mg (fN T) mW mK 1 s_.1 s_.2.1 s_.2.2.1 s_.2.2.2.1 s_.2.2.2.2.1 s_.2.2.2.2.2) (nI c + (-1), so', sw', R', Y', Fi')) Q) → Ex (kloop (K + rdsB (m + 1)) (fun s_ => kX8_searches_s35 F mw mh mg (fN T) mW mK 1 s_.1 s_.2.1 s_.2.2.1 s_.2.2.2.1 s_.2.2.2.2.1 s_.2.2.2.2.2) (nI c, so, sw, R, Yl, Fi)) Q := by
  have hn := hW.1
  have hcc := hM.2.2.2.2.2
  generalize hS : (fun (s_ : Int32 × Int32 × Int32 × (Nat → Int32) × (Nat → Int32) × (Nat → Int32)) => kX8_searches_s35 F mw mh mg (fN T) mW mK 1 s_.1 s_.2.1 s_.2.2.1 s_.2.2.2.1 s_.2.2.2.2.1 s_.2.2.2.2.2) = S
  have hSe : ∀ c so sw R Yl Fi, S (c, so, sw, R, Yl, Fi) = kX8_searches_s35 F mw mh mg (fN T) mW mK 1 c so sw R Yl Fi := fun c so sw R Yl Fi => by rw [← hS]
  intro m
  induction m with
  | zero =>
    intro c a st so sw R Yl Fi K hcm ha hYc hr hk
    have hc : c < n := by omega
    have hc16 : c < 16 := by omega
    have hnc : n - (0 + 1) = c := by omega
    rw [show srP (prR Wy T (ownA T lm n)) (qR Wy T n) (note n) n (0 + 1) a st = iter (fun k s => cif (prR Wy T (ownA T lm n) (n - (0 + 1)) (up a (n - (0 + 1)) k)) (srP (prR Wy T (ownA T lm n)) (qR Wy T n) (note n) n 0 (up a (n - (0 + 1)) k) s) s) 4 st from rfl, hnc] at hk
    generalize hf : (fun (k : Nat) (s : Int32 × Nat × (Nat → Nat)) => cif (prR Wy T (ownA T lm n) c (up a c k)) (srP (prR Wy T (ownA T lm n)) (qR Wy T n) (note n) n 0 (up a c k) s) s) = f at hk
    have hfk : ∀ k s, f k s = cif (prR Wy T (ownA T lm n) c (up a c k)) (srP (prR Wy T (ownA T lm n)) (qR Wy T n) (note n) n 0 (up a c k) s) s := fun k s => by rw [← hf]
    have hlay := laysN_le (T c) (lm.testBit c)
    have hO : ∀ k, k < 4 → ((ownA T lm n c).testBit k = true ↔ k < laysN (T c) (lm.testBit c)) := fun k hk => by
      unfold ownA
      rw [if_pos hc, ownM_tb _ (hT c) hk, decide_eq_true_iff]
    have hup : ∀ k, up a c k c = k := fun k => up_s
    have inner : ∀ (i k : Nat), k + i = laysN (T c) (lm.testBit c) → ∀ (so sw : Int32) (R Y' Fi : Nat → Int32), RelS n so sw Fi (iter f k st) → Y' c + 1 = nI k → (∀ j, j < c → Y' j = Yl j) → Ex (kloop (K + i + 1) S (nI c, so, sw, R, Y', Fi)) Q := by
      intro i
      induction i with
      | zero =>
        intro k hki so sw R Y' Fi hr hyk hY'
        refine kl_step ?_
        rw [hSe]
        unfold kX8_searches_s35
        rw [cl_n (show c < 2 ^ 31 by omega), hyk, pk_us]
        refine Ex.f (nI_pos (by omega)) (Ex.f (by decide) (Ex.t (ix_n hc16 (by decide)) (Ex.t (ix_n hc16 (by decide)) (Ex.t (ix_n hc16 (by decide)) (Ex.o (a_laysOf hT hK hc16) (Ex.f (nI_nlt (show laysN (T c) (lm.testBit c) ≤ k by omega) (by omega)) (Ex.v ?_)))))))
        refine hk so sw R _ Fi ?_ (fun j hj => ?_)
        · have e := iter_up (f := f) (s := st) (k := k) (fun i s h1 h2 => by
            rw [hfk, cif_f (fun h => by
              have := (hO i h2).mp (by have := h.1; rwa [hup] at this)
              omega)]) (4 - k) (by omega)
          rw [show k + (4 - k) = 4 by omega] at e
          rw [e]; exact hr
        · rw [pk_un (by omega)]; exact hY' j hj
      | succ i ih =>
        intro k hki so sw R Y' Fi hr hyk hY'
        have hkl : k < laysN (T c) (lm.testBit c) := by omega
        have hk4 : k < 4 := by omega
        show Ex (kloop ((K + i + 1) + 1) S (nI c, so, sw, R, Y', Fi)) Q
        refine kl_step ?_
        rw [hSe]
        unfold kX8_searches_s35
        rw [cl_n (show c < 2 ^ 31 by omega), hyk, pk_us]
        refine Ex.f (nI_pos (by omega)) (Ex.f (by decide) (Ex.t (ix_n hc16 (by decide)) (Ex.t (ix_n hc16 (by decide)) (Ex.t (ix_n hc16 (by decide)) (Ex.o (a_laysOf hT hK hc16) (Ex.t (nI_lt hkl (by omega)) ?_))))))
        have ha2 : ∀ j, j ≤ c → up a c k j < 4 := fun j hj => by
          by_cases ej : j = c
          · subst ej; rw [hup]; exact hk4
          · rw [up_n ej]; exact (ha j (by omega)).1
        have hY2 : ∀ j, j ≤ c → upd Y' c (nI k) j = nI (up a c k j) := fun j hj => by
          by_cases ej : j = c
          · subst ej; rw [pk_us, hup]
          · rw [pk_un ej, up_n ej, hY' j (by omega)]; exact (ha j (by omega)).2.1
        have hnx : upd Y' c (nI k) c + 1 = nI (k + 1) := by rw [pk_us, nI_1]
        have hY3 : ∀ j, j < c → upd Y' c (nI k) j = Yl j := fun j hj => by rw [pk_un (by omega)]; exact hY' j hj
        have hob : (ownA T lm n c).testBit (up a c k c) = true := by rw [hup]; exact (hO k hk4).mpr hkl
        refine Ex.b (a_fits8 hW hM hT hc ha2 hY2 hF) ?_
        rintro _ ⟨b, rfl, hb⟩
        cases b with
        | false =>
          refine Ex.t bI_f (Ex.v (ih (k + 1) (by omega) so sw R _ Fi ?_ hnx hY3))
          show RelS n so sw Fi (f k (iter f k st))
          rw [hfk, cif_f (fun h => by have := hb.mpr h.2; cases this)]; exact hr
        | true =>
          refine Ex.f bI_n (Ex.o (hcc F) (Ex.t (show nI n - 1 ≤ nI c by rw [i1, pk_sub hn1]; exact nI_le (by omega) (by omega)) ?_))
          have hall : ∀ j, j < n → fitU Wy (tls T (up a c k)) j := fun j hj => by
            by_cases ej : j = c
            · subst ej; exact hb.mp rfl
            · exact fitU_loc (tls_loc (fun i hi => (up_n (by omega)).symm)) (ha j (by omega)).2.2
          refine Ex.b (a_isTree hW hM hT (fun j hj => ha2 j (by omega)) (fun j hj => hY2 j (by omega)) ((noLo_iff hW).mpr hall) hn1 hF) ?_
          rintro ⟨t0, R2⟩ ⟨x, ex, hx⟩
          have ex : t0 = bI x := ex
          subst ex
          have hsr : f k (iter f k st) = cif (qR Wy T n (up a c k)) (note n (up a c k) (iter f k st)) (iter f k st) := by
            rw [hfk, cif_t ⟨hob, hb.mp rfl⟩]; rfl
          cases x with
          | false =>
            refine Ex.t bI_f (Ex.v (ih (k + 1) (by omega) so sw R2 _ Fi ?_ hnx hY3))
            show RelS n so sw Fi (f k (iter f k st))
            rw [hsr, cif_f (fun h => by have := hx.mpr h.2; cases this)]; exact hr
          | true =>
            refine Ex.f bI_n (Ex.b (a_notes hn hcc hr (fun j hj => ha2 j (by omega)) (fun j hj => hY2 j (by omega)) hF) ?_)
            rintro ⟨r0, r1, r2⟩ hrn
            refine Ex.v (ih (k + 1) (by omega) r0 r1 R2 _ r2 ?_ hnx hY3)
            show RelS n r0 r1 r2 (f k (iter f k st))
            rw [hsr, cif_t ⟨hop, hx.mp rfl⟩]; exact hrn
    refine kl_le ?_ (inner (laysN (T c) (lm.testBit c)) 0 (by omega) so sw R Yl Fi hr (by rw [hYc]; rfl) (fun _ _ => rfl))
    show K + laysN (T c) (lm.testBit c) + 1 ≤ K + (4 * (0 + 1) + 1)
    omega
  | succ m ihm =>
    intro c a st so sw R Yl Fi K hcm ha hYc hr hk
    have hc : c < n := by omega
    have hc16 : c < 16 := by omega
    have hnc : n - (m + 1 + 1) = c := by omega
    rw [show srP (prR Wy T (ownA T lm n)) (qR Wy T n) (note n) n (m + 1 + 1) a st = iter (fun k s => cif (prR Wy T (ownA T lm n) (n - (m + 1 + 1)) (up a (n - (m + 1 + 1)) k)) (srP (prR Wy T (ownA T lm n)) (qR Wy T n) (note n) n (m + 1) (up a (n - (m + 1 + 1)) k) s) s) 4 st from rfl, hnc] at hk
    generalize hf : (fun (k : Nat) (s : Int32 × Nat × (Nat → Nat)) => cif (prR Wy T (ownA T lm n) c (up a c k)) (srP (prR Wy T (ownA T lm n)) (qR Wy T n) (note n) n (m + 1) (up a c k) s) s) = f at hk
    have hfk : ∀ k s, f k s = cif (prR Wy T (ownA T lm n) c (up a c k)) (srP (prR Wy T (ownA T lm n)) (qR Wy T n) (note n) n (m + 1) (up a c k) s) s := fun k s => by rw [← hf]
    have hlay := laysN_le (T c) (lm.testBit c)
    have hO : ∀ k, k < 4 → ((ownA T lm n c).testBit k = true ↔ k < laysN (T c) (lm.testBit c)) := fun k hk => by
      unfold ownA
      rw [if_pos hc, ownM_tb _ (hT c) hk, decide_eq_true_iff]
    have hup : ∀ k, up a c k c = k := fun k => up_s
    have inner : ∀ (i k : Nat), k + i = laysN (T c) (lm.testBit c) → ∀ (so sw : Int32) (R Y' Fi : Nat → Int32), RelS n so sw Fi (iter f k st) → Y' c + 1 = nI k → (∀ j, j < c → Y' j = Yl j) → Ex (kloop (K + i * (rdsB (m + 1) + 1) + 1) S (nI c, so, sw, R, Y', Fi)) Q := by
      intro i
      induction i with
      | zero =>
        intro k hki so sw R Y' Fi hr hyk hY'
        refine kl_step ?_
        rw [hSe]
        unfold kX8_searches_s35
        rw [cl_n (show c < 2 ^ 31 by omega), hyk, pk_us]
        refine Ex.f (nI_pos (by omega)) (Ex.f (by decide) (Ex.t (ix_n hc16 (by decide)) (Ex.t (ix_n hc16 (by decide)) (Ex.t (ix_n hc16 (by decide)) (Ex.o (a_laysOf hT hK hc16) (Ex.f (nI_nlt (show laysN (T c) (lm.testBit c) ≤ k by omega) (by omega)) (Ex.v ?_)))))))
        rw [show K + 0 * (rdsB (m + 1) + 1) = K by omega]
        refine hk so sw R _ Fi ?_ (fun j hj => ?_)
        · have e := iter_up (f := f) (s := st) (k := k) (fun i s h1 h2 => by
            rw [hfk, cif_f (fun h => by
              have := (hO i h2).mp (by have := h.1; rwa [hup] at this)
              omega)]) (4 - k) (by omega)
          rw [show k + (4 - k) = 4 by omega] at e
          rw [e]; exact hr
        · rw [pk_un (by omega)]; exact hY' j hj
      | succ i ih =>
        intro k hki so sw R Y' Fi hr hyk hY'
        have hkl : k < laysN (T c) (lm.testBit c) := by omega
        have hk4 : k < 4 := by omega
        rw [show K + (i + 1) * (rdsB (m + 1) + 1) + 1 = ((K + i * (rdsB (m + 1) + 1) + 1) + rdsB (m + 1)) + 1 by rw [Nat.add_mul]; omega]
        refine kl_step ?_
        rw [hSe]
        unfold kX8_searches_s35
        rw [cl_n (show c < 2 ^ 31 by omega), hyk, pk_us]
        refine Ex.f (nI_pos (by omega)) (Ex.f (by decide) (Ex.t (ix_n hc16 (by decide)) (Ex.t (ix_n hc16 (by decide)) (Ex.t (ix_n hc16 (by decide)) (Ex.o (a_laysOf hT hK hc16) (Ex.t (nI_lt hkl (by omega)) ?_))))))
        have ha2 : ∀ j, j ≤ c → up a c k j < 4 := fun j hj => by
          by_cases ej : j = c
          · subst ej; rw [hup]; exact hk4
          · rw [up_n ej]; exact (ha j (by omega)).1
        have hY2 : ∀ j, j ≤ c → upd Y' c (nI k) j = nI (up a c k j) := fun j hj => by
          by_cases ej : j = c
          · subst ej; rw [pk_us, hup]
          · rw [pk_un ej, up_n ej, hY' j (by omega)]; exact (ha j (by omega)).2.1
        have hnx : upd Y' c (nI k) c + 1 = nI (k + 1) := by rw [pk_us, nI_1]
        have hY3 : ∀ j, j < c → upd Y' c (nI k) j = Yl j := fun j hj => by rw [pk_un (by omega)]; exact hY' j hj
        have hob : (ownA T lm n c).testBit (up a c k c) = true := by rw [hup]; exact (hO k hk4).mpr hkl
        refine Ex.b (a_fits8 hW hM hT hc ha2 hY2 hF) ?_
        rintro _ ⟨b, rfl, hb⟩
        cases b with
        | false =>
          refine Ex.t bI_f (Ex.v (kl_le (by omega) (ih (k + 1) (by omega) so sw R _ Fi ?_ hnx hY3)))
          show RelS n so sw Fi (f k (iter f k st))
          rw [hfk, cif_f (fun h => by have := hb.mpr h.2; cases this)]; exact hr
        | true =>
          refine Ex.f bI_n (Ex.o (hcc F) (Ex.f (show ¬ nI n - 1 ≤ nI c by rw [i1, pk_sub hn1]; exact nI_ge (by omega) (by omega)) ?_))
          rw [nI_1 c, cl_n (show c + 1 < 2 ^ 31 by omega)]
          refine Ex.t (ix_n (show c + 1 < 16 by omega) (by decide)) (Ex.v ?_)
          refine ihm (c + 1) (up a c k) (iter f k st) so sw R _ Fi (K + i * (rdsB (m + 1) + 1) + 1) (by omega) (fun j hj => ⟨ha2 j (by omega), by rw [pk_un (by omega)]; exact hY2 j (by omega), ?_⟩) pk_us hr ?_
          · by_cases ej : j = c
            · subst ej; exact hb.mp rfl
            · exact fitU_loc (tls_loc (fun i hi => (up_n (by omega)).symm)) (ha j (by omega)).2.2
          · intro so' sw' R' Y'' Fi' hr' hY''
            rw [show nI (c + 1) + (-1) = nI c from pk_m1 c]
            have hYc2 : Y'' c = nI k := by rw [hY'' c (by omega), pk_un (by omega), pk_us]
            refine ih (k + 1) (by omega) so' sw' R' Y'' Fi' ?_ (by rw [hYc2, nI_1]) (fun j hj => ?_)
            · show RelS n so' sw' Fi' (f k (iter f k st))
              rw [hfk, cif_t ⟨hob, hb.mp rfl⟩]; exact hr'
            · rw [hY'' j (by omega), pk_un (by omega)]; exact hY3 j hj
    refine kl_le ?_ (inner (laysN (T c) (lm.testBit c)) 0 (by omega) so sw R Yl Fi hr (by rw [hYc]; rfl) (fun _ _ => rfl))
    show K + laysN (T c) (lm.testBit c) * (rdsB (m + 1) + 1) + 1 ≤ K + (4 * (rdsB (m + 1) + 1) + 1)
    have := Nat.mul_le_mul_right (rdsB (m + 1) + 1) hlay
    omega
theorem a_searches {mo mf : Int32} {mR mY mF : Nat → Int32} (hW : WOK n Wy) (hM : MB n mw mh mg mW nb wl Wy) (hn1 : 1 ≤ n) (hT : ∀ j, T j < 16) (hK : ∀ j, j < 16 → mK j = bI (lm.testBit j)) (hF : 1000 ≤ F) (hF2 : rdsB 16 < F) : Ex (kX8_searches F mw mh mg mo mf (fN T) mW mK mR mY mF) (fun r => RelS n r.1 r.2.1 r.2.2.2.2 (srE Wy T (ownA T lm n) n)) := by
  have hn := hW.1
  have hcc := hM.2.2.2.2.2
  have hop := opn_le T hn
  unfold kX8_searches
  refine Ex.o (a_open8 hcc hT hn hF) (Ex.o (hcc F) ?_)
  have e1 : 2 * (nI n - 1) = nI (2 * (n - 1)) := by rw [i1, pk_sub hn1, i2, pk_mul]
  rw [e1]
  have hr0 : RelS n 0 mf mF (0, 0, fun _ => 0) := ⟨rfl, fun h => absurd rfl h⟩
  by_cases ho : opn T n = 2 * (n - 1)
  · refine Ex.t (by rw [ho]) ?_
    unfold kX8_searches_j20
    refine Ex.t (by decide) (Ex.b (P := fun r => RelS n r.1 r.2.1 r.2.2.2.2 (srE Wy T (ownA T lm n) n)) ?_ ?_)
    · obtain ⟨n', rfl⟩ : ∃ z, n = z + 1 := ⟨n - 1, by omega⟩
      have h := a_run (Q := fun r => RelS (n' + 1) r.1 r.2.1 r.2.2.2.2 (srE Wy T (ownA T lm (n' + 1)) (n' + 1))) hW hM hn1 hT hK ho hF n' 0 (fun _ => 0) (0, 0, fun _ => 0) 0 mf mR (upd mY 0 (-1)) mF 1 (by omega) (fun j hj => absurd hj (Nat.not_lt_zero j)) pk_us hr0 (fun so' sw' R' Y' Fi' hr' _ => by
        refine kl_step ?_
        show Ex (kX8_searches_s35 F mw mh mg (fN T) mW mK 1 (nI 0 + (-1)) so' sw' R' Y' Fi') _
        unfold kX8_searches_s35
        exact Ex.t (by decide) (Ex.v hr'))
      refine kl_le ?_ h
      have mono : ∀ a b, a ≤ b → rdsB a ≤ rdsB b := by
        intro a b hab
        induction b with
        | zero => rw [show a = 0 by omega]; exact Nat.le_refl _
        | succ b ih =>
          by_cases e : a = b + 1
          · rw [e]; exact Nat.le_refl _
          · have := ih (by omega)
            show rdsB a ≤ 4 * (rdsB b + 1) + 1
            omega
      have := mono (n' + 1) 16 hn
      omega
    · rintro ⟨r1, r2, r3, r4, r5⟩ h
      exact Ex.v h
  · refine Ex.f (fun h => ho ((nI_eq (by omega) (by omega)).mp h)) ?_
    have hE : srE Wy T (ownA T lm n) n = (0, 0, fun _ => 0) := by
      unfold srE
      rw [srP_U prR_loc n _ _ (Nat.le_refl n) (fun c hc => by omega)]
      exact srU_none n _ _ (fun b _ h => ho h.2.1)
    unfold kX8_searches_j20
    refine Ex.t (by decide) (Ex.b (P := fun r => RelS n r.1 r.2.1 r.2.2.2.2 (srE Wy T (ownA T lm n) n)) ?_ ?_)
    · refine kl_le (K := 1) (by omega) (kl_step ?_)
      show Ex (kX8_searches_s35 F mw mh mg (fN T) mW mK 0 0 0 mf mR (upd mY (0 : Int32).toNatClampNeg (-1)) mF) _
      unfold kX8_searches_s35
      exact Ex.f (by decide) (Ex.t rfl (Ex.v (by rw [hE]; exact hr0)))
    · rintro ⟨r1, r2, r3, r4, r5⟩ h
      exact Ex.v h
end S10
