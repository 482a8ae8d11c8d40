/-! the reference: strikes, lays -/
section ST
variable {F n : Nat} {mw mh mg : Int32} {mW : Nat → Int32} {nb : Nat → Nat → Option Nat} {wl : Nat → Nat → Bool} {Wy : Nat → Nat → Option Nat} {T L : Nat → Nat} {v : Nat → Int32}
/-- a circle over the side s, whose neighbour is d, and a side before it -/
def CircAt (Wy : Nat → Nat → Option Nat) (T L : Nat → Nat) (c k s i : Nat) : Prop := ∃ d s2 d2, s2 < i ∧ Wy c s = some d ∧ Wy c s2 = some d2 ∧ opL T c k s ∧ opL T c k s2 ∧ Rc (SA Wy T L c) d d2
theorem a_struck104 {c k s d : Nat} {b : Bool} {R : Nat → Int32} (hW : WOK n Wy) (hM : MB n mw mh mg mW nb wl Wy) (hT : ∀ j, T j < 16) (hL : ∀ j, L j < 16) (hv : RNi n v L) (hc : c < n) (hs : s < 4) (hk : k < 4) (e : Wy c s = some d) (hF : 1000 ≤ F) : Ex (kloop F (fun s_ => kX8_isStruck_s104 F mw mh mg (fN T) mW v (nI c) (nI (rot (T c) k)) (nI s) (nI d) (bI true) s_.1 s_.2.1 s_.2.2) (bI b, 0, R)) (fun r => ∃ b', r.1 = bI b' ∧ (b' = true ↔ b = true ∨ CircAt Wy T L c k s s)) := by
  have hn := hW.1
  have hd := hW.2.1 c s d hs e
  have hr := rot_lt (T c) k
  refine Ex.fr s (fun i st => st.2.1 = nI i ∧ ∃ b', st.1 = bI b' ∧ (b' = true ↔ b = true ∨ CircAt Wy T L c k s i)) ⟨rfl, b, rfl, Or.inl, fun h => h.elim id (fun ⟨_, s2, _, h, _⟩ => absurd h (Nat.not_lt_zero s2))⟩ ?_ ?_ (by omega)
  · rintro i ⟨s0, s1, R1⟩ hi ⟨h1, b1, h0, g⟩
    have h1 : s1 = nI i := h1
    have h0 : s0 = bI b1 := h0
    subst h1 h0
    show Ex (kX8_isStruck_s104 F mw mh mg (fN T) mW v (nI c) (nI (rot (T c) k)) (nI s) (nI d) (bI true) (bI b1) (nI i) R1) _
    unfold kX8_isStruck_s104
    refine Ex.f (nI_ge hi (by omega)) ?_
    have up1 : CircAt Wy T L c k s i → CircAt Wy T L c k s s := fun ⟨d, s2, d2, h, h'⟩ => ⟨d, s2, d2, by omega, h'⟩
    cases b1 with
    | true => exact Ex.f bI_n (Ex.v ⟨true, rfl, fun _ => (g.mp rfl).imp id up1, fun _ => rfl⟩)
    | false =>
      refine Ex.t bI_f (Ex.f bI_n (Ex.o (hM.1 F c i hc (by omega)) (Ex.o (a_isOpen (by omega) (by omega)) ?_)))
      have no : ∀ q : Int32, (∀ d2, Wy c i = some d2 → opL T c k s → opL T c k i → False) → Ex (kX8_isStruck_j169 F mw mh mg (fN T) mW v (nI c) (nI d) (nI i) R1 q 0) (onS (fun st => st.2.1 = nI (i + 1) ∧ ∃ b', st.1 = bI b' ∧ (b' = true ↔ b = true ∨ CircAt Wy T L c k s (i + 1))) (fun r => ∃ b', r.1 = bI b' ∧ (b' = true ↔ b = true ∨ CircAt Wy T L c k s s))) := by
        intro q h
        unfold kX8_isStruck_j169
        refine Ex.t rfl (Ex.v ⟨nI_1 i, false, rfl, fun x => by (cases x), fun x => ?_⟩)
        refine g.mpr (x.imp id ?_)
        rintro ⟨d', s2, d2, h1, h2, h3, h4, h5, h6⟩
        by_cases es : s2 = i
        · subst es; exact absurd h5 (fun h5 => h d2 h3 h4 h5)
        · exact ⟨d', s2, d2, by omega, h2, h3, h4, h5, h6⟩
      cases e1 : (rot (T c) k).testBit s with
      | false => exact Ex.t bI_f (no _ (fun _ _ h _ => (by rw [show (rot (T c) k).testBit s = true from h] at e1; cases e1)))
      | true =>
        refine Ex.f bI_n (Ex.o (a_isOpen (by omega) (by omega)) ?_)
        cases e2 : (rot (T c) k).testBit i with
        | false => exact Ex.t bI_f (no _ (fun _ _ _ h => (by rw [show (rot (T c) k).testBit i = true from h] at e2; cases e2)))
        | true =>
          refine Ex.f bI_n ?_
          have hw := hM.2.2.1 c i hc (by omega)
          cases e3 : nb c i with
          | none =>
            refine Ex.t rfl (no _ (fun d2 h _ _ => ?_))
            rw [hw, e3] at h
            split at h <;> cases h
          | some d2 =>
            have hd2 : d2 < n := hM.2.2.2.1 c i d2 hc (by omega) e3
            refine Ex.f (n_m1 (show d2 < 2 ^ 31 by omega)) (Ex.o (hM.2.1 F c i (by omega) (by omega)) ?_)
            cases e4 : wl c i with
            | true => exact Ex.f bI_n (no _ (fun d2 h _ _ => (by rw [hw, e4] at h; cases h)))
            | false =>
              have hWi : Wy c i = some d2 := by rw [hw, e4]; exact e3
              refine Ex.t bI_f ?_
              show Ex (kX8_isStruck_j169 F mw mh mg (fN T) mW v (nI c) (nI d) (nI i) R1 (nI d2) 1) _
              unfold kX8_isStruck_j169
              refine Ex.f (by decide) (Ex.b (a_hang (z := c) hW hM hT hL hv hd.2.1 hd2 hc hd.2.2.1 hF) ?_)
              rintro ⟨q0, R2⟩ ⟨x, hx, hxr⟩
              have hx : q0 = bI x := hx
              subst hx
              cases x with
              | false =>
                refine Ex.t bI_f (Ex.v ⟨nI_1 i, false, rfl, fun x => by (cases x), fun x => ?_⟩)
                refine g.mpr (x.imp id ?_)
                rintro ⟨d', s2, d3, h1, h2, h3, h4, h5, h6⟩
                by_cases es : s2 = i
                · subst es
                  rw [e] at h2; cases h2
                  rw [hWi] at h3; cases h3
                  have := hxr.mpr h6; cases this
                · exact ⟨d', s2, d3, by omega, h2, h3, h4, h5, h6⟩
              | true => exact Ex.f bI_n (Ex.v ⟨nI_1 i, true, rfl, fun _ => Or.inr ⟨d, i, d2, by omega, e, hWi, e1, e2, hxr.mp rfl⟩, fun _ => rfl⟩)
  · rintro ⟨s0, s1, R1⟩ ⟨h1, b1, h0, g⟩
    have h1 : s1 = nI s := h1
    subst h1
    show Ex (kX8_isStruck_s104 F mw mh mg (fN T) mW v (nI c) (nI (rot (T c) k)) (nI s) (nI d) (bI true) s0 (nI s) R1) _
    unfold kX8_isStruck_s104
    exact Ex.t (nI_le (Nat.le_refl s) (by omega)) (Ex.v ⟨b1, h0, g⟩)
theorem a_isStruck {c k : Nat} {R : Nat → Int32} (hW : WOK n Wy) (hM : MB n mw mh mg mW nb wl Wy) (hT : ∀ j, T j < 16) (hL : ∀ j, L j < 16) (hv : RNi n v L) (hc : c < n) (hk : k < 4) (hF : 1000 ≤ F) : Ex (kX8_isStruck F mw mh mg (fN T) mW R v (nI c) (nI k)) (fun r => ∃ b, r.1 = bI b ∧ (b = true ↔ Stk Wy T L c k)) := by
  have hn := hW.1
  have hr := rot_lt (T c) k
  unfold kX8_isStruck
  refine Ex.t (ix_n (by omega) (by decide)) ?_
  rw [cl_n (by omega)]
  refine Ex.o (show kX8_turned F (fN T c) (nI k) = _ from a_turned8 (hT c) hk hF) ?_
  refine Ex.b (P := fun r => ∃ b, r.1 = bI b ∧ (b = true ↔ Stk Wy T L c k)) (Ex.fr 4 (fun i st => st.2.1 = nI i ∧ ∃ b, st.1 = bI b ∧ (b = true ↔ ∃ s, s < i ∧ (Unfit Wy T L c k s ∨ CircAt Wy T L c k s s))) ⟨rfl, false, rfl, fun h => by (cases h), fun ⟨s, h, _⟩ => absurd h (Nat.not_lt_zero s)⟩ ?_ ?_ (by omega)) ?_
  · rintro s ⟨s0, s1, R1⟩ hs ⟨h1, b1, h0, g⟩
    have h1 : s1 = nI s := h1
    have h0 : s0 = bI b1 := h0
    subst h1 h0
    show Ex (kX8_isStruck_s17 F mw mh mg (fN T) mW v (nI c) (nI (rot (T c) k)) (bI b1) (nI s) R1) _
    unfold kX8_isStruck_s17
    refine Ex.f (show ¬ (4 : Int32) ≤ nI s from nI_ge hs (by decide)) ?_
    cases b1 with
    | true =>
      refine Ex.f bI_n (Ex.v ⟨true, rfl, fun _ => ?_, fun _ => rfl⟩)
      obtain ⟨s2, h1, h2 | ⟨d, s3, d3, h2, h3, h4, h5, h6, h7⟩⟩ := g.mp rfl
      · exact Or.inl ⟨s2, by omega, h2⟩
      · exact Or.inr ⟨s2, s3, d, d3, h2, by omega, h3, h4, h5, h6, h7⟩
    | false =>
      have g0 : ∀ s', s' < s → ¬ (Unfit Wy T L c k s' ∨ CircAt Wy T L c k s' s') := fun s' h1 h2 => by
        have := g.mpr ⟨s', h1, h2⟩; cases this
      refine Ex.t bI_f (Ex.o (hM.1 F c s hc hs) ?_)
      have hw := hM.2.2.1 c s hc hs
      -- where there is no way
      have none_ : ∀ q : Int32, Wy c s = none → Ex (kX8_isStruck_j58 F mw mh mg (fN T) mW v (nI c) (nI (rot (T c) k)) (nI s) R1 q 0) (onS (fun st => st.2.1 = nI (s + 1) ∧ ∃ b, st.1 = bI b ∧ (b = true ↔ ∃ s', s' < s + 1 ∧ (Unfit Wy T L c k s' ∨ CircAt Wy T L c k s' s'))) (fun r => ∃ b, r.1 = bI b ∧ (b = true ↔ Stk Wy T L c k))) := by
        intro q hno
        unfold kX8_isStruck_j58
        refine Ex.t rfl (Ex.o (a_isOpen (by omega) (by omega)) ?_)
        unfold kX8_isStruck_j99
        refine Ex.b (P := fun r => r.1 = bI ((rot (T c) k).testBit s)) (Ex.wh (P := fun j st => st.1 = bI ((rot (T c) k).testBit s) ∧ st.2.1 = nI 0) ?_ (k := 0) ⟨rfl, rfl⟩ (by omega)) ?_
        · rintro j ⟨t0, t1, R2⟩ ⟨e0, e1⟩
          have e0 : t0 = bI ((rot (T c) k).testBit s) := e0
          have e1 : t1 = nI 0 := e1
          subst e0 e1
          show Ex (kX8_isStruck_s104 F mw mh mg (fN T) mW v (nI c) (nI (rot (T c) k)) (nI s) q 0 (bI ((rot (T c) k).testBit s)) (nI 0) R2) _
          unfold kX8_isStruck_s104
          by_cases h : nI s ≤ nI 0
          · exact Ex.t h (Ex.v rfl)
          · refine Ex.f h ?_
            cases ex : (rot (T c) k).testBit s with
            | false => exact Ex.t bI_f (Ex.t rfl (Ex.v rfl))
            | true => exact Ex.f bI_n (Ex.v rfl)
        · rintro ⟨t0, R2⟩ e0
          have e0 : t0 = bI ((rot (T c) k).testBit s) := e0
          subst e0
          refine Ex.v ⟨nI_1 s, _, rfl, fun h => ⟨s, by omega, Or.inl (Or.inl ⟨h, hno⟩)⟩, ?_⟩
          rintro ⟨s', h1, h2⟩
          by_cases es : s' = s
          · subst es
            rcases h2 with (⟨h, -⟩ | ⟨d, -, h, -⟩ | ⟨d, -, h, -⟩) | ⟨d, s2, d2, -, h, -⟩
            · exact h
            · rw [hno] at h; cases h
            · rw [hno] at h; cases h
            · rw [hno] at h; cases h
          · exact absurd h2 (g0 s' (by omega))
      cases e : nb c s with
      | none =>
        refine Ex.t rfl (none_ _ ?_)
        rw [hw, e]
        cases wl c s <;> rfl
      | some d =>
        have hd : d < n := hM.2.2.2.1 c s d hc hs e
        refine Ex.f (n_m1 (show d < 2 ^ 31 by omega)) (Ex.o (hM.2.1 F c s (by omega) hs) ?_)
        cases ew : wl c s with
        | true => exact Ex.f bI_n (none_ _ (by rw [hw, ew]; rfl))
        | false =>
          have hWd : Wy c s = some d := by rw [hw, ew]; exact e
          refine Ex.t bI_f ?_
          show Ex (kX8_isStruck_j58 F mw mh mg (fN T) mW v (nI c) (nI (rot (T c) k)) (nI s) R1 (nI d) 1) _
          unfold kX8_isStruck_j58
          refine Ex.f (by decide) (Ex.o (a_opposite8 hs) (Ex.o (a_isOpen (by omega) (by omega)) (Ex.b (a_canBe hn hT hL hv hd (s2_lt s) hF) ?_)))
          rintro _ ⟨cb, rfl, hcb⟩
          have unf : (cb = false ↔ Unfit Wy T L c k s) := by
            constructor
            · intro h
              have hno : ¬ ∃ i, i < 4 ∧ (L d).testBit i = true ∧ (rot (T d) i).testBit ((s + 2) % 4) = (rot (T c) k).testBit s := fun x => by
                have := hcb.mpr x; rw [h] at this; cases this
              cases ex : (rot (T c) k).testBit s with
              | true =>
                rw [ex] at hno
                exact Or.inr (Or.inl ⟨d, ex, hWd, hno⟩)
              | false =>
                rw [ex] at hno
                refine Or.inr (Or.inr ⟨d, fun h => (by rw [show (rot (T c) k).testBit s = true from h] at ex; cases ex), hWd, fun i hi hl => ?_⟩)
                show (rot (T d) i).testBit _ = true
                cases ey : (rot (T d) i).testBit ((s + 2) % 4) with
                | true => rfl
                | false => exact absurd ⟨i, hi, hl, ey⟩ hno
            · intro h
              cases cb with
              | false => rfl
              | true =>
                obtain ⟨i, hi, hl, ey⟩ := hcb.mp rfl
                rcases h with ⟨-, h⟩ | ⟨d', h1, h2, h3⟩ | ⟨d', h1, h2, h3⟩
                · rw [hWd] at h; cases h
                · rw [hWd] at h2; cases h2
                  exact absurd ⟨i, hi, hl, by rw [show (rot (T c) k).testBit s = true from h1] at ey; exact ey⟩ h3
                · rw [hWd] at h2; cases h2
                  have := h3 i hi hl
                  rw [show (rot (T d) i).testBit ((s + 2) % 4) = true from this] at ey
                  exact absurd ey.symm h1
          have go : ∀ b0 : Bool, (b0 = true ↔ Unfit Wy T L c k s) → Ex (kX8_isStruck_j99 F mw mh mg (fN T) mW v (nI c) (nI (rot (T c) k)) (nI s) R1 (nI d) 1 (bI b0)) (onS (fun st => st.2.1 = nI (s + 1) ∧ ∃ b, st.1 = bI b ∧ (b = true ↔ ∃ s', s' < s + 1 ∧ (Unfit Wy T L c k s' ∨ CircAt Wy T L c k s' s'))) (fun r => ∃ b, r.1 = bI b ∧ (b = true ↔ Stk Wy T L c k))) := by
            intro b0 hb0
            unfold kX8_isStruck_j99
            refine Ex.b (a_struck104 (b := b0) hW hM hT hL hv hc hs hk hWd hF) ?_
            rintro ⟨t0, R2⟩ ⟨b', e0, hb'⟩
            have e0 : t0 = bI b' := e0
            subst e0
            refine Ex.v ⟨nI_1 s, b', rfl, fun h => ⟨s, by omega, (hb'.mp h).imp hb0.mp id⟩, ?_⟩
            rintro ⟨s', h1, h2⟩
            by_cases es : s' = s
            · subst es; exact hb'.mpr (h2.imp hb0.mpr id)
            · exact absurd h2 (g0 s' (by omega))
          cases cb with
          | false => exact Ex.t bI_f (go true ⟨fun _ => unf.mp rfl, fun _ => rfl⟩)
          | true => exact Ex.f bI_n (go false ⟨fun h => by (cases h), fun h => (by have := unf.mpr h; cases this)⟩)
  · rintro ⟨s0, s1, R1⟩ ⟨h1, b1, h0, g⟩
    have h1 : s1 = nI 4 := h1
    have h0 : s0 = bI b1 := h0
    subst h1 h0
    show Ex (kX8_isStruck_s17 F mw mh mg (fN T) mW v (nI c) (nI (rot (T c) k)) (bI b1) (nI 4) R1) _
    unfold kX8_isStruck_s17
    refine Ex.t (by decide) (Ex.v ⟨b1, rfl, g.trans ⟨?_, ?_⟩⟩)
    · rintro ⟨s2, h1, h2 | ⟨d, s3, d3, h2, h3, h4, h5, h6, h7⟩⟩
      · exact Or.inl ⟨s2, by omega, h2⟩
      · exact Or.inr ⟨s2, s3, d, d3, h2, by omega, h3, h4, h5, h6, h7⟩
    · rintro (⟨s, hs, h⟩ | ⟨s2, s3, d, d3, h2, h1, h3, h4, h5, h6, h7⟩)
      · exact ⟨s, hs, Or.inl h⟩
      · exact ⟨s2, h1, Or.inr ⟨d, s3, d3, h2, h3, h4, h5, h6, h7⟩⟩
  · rintro ⟨q0, R2⟩ ⟨b, e0, hb⟩
    have e0 : q0 = bI b := e0
    subst e0
    exact Ex.t (isZ_b b) (Ex.v ⟨b, rfl, hb⟩)
/-- how many lays the reference gives a tile -/
def laysN (t : Nat) (b : Bool) : Nat := if b = true ∨ t = 0 ∨ t = 15 then 1 else if t = 5 ∨ t = 10 then 2 else 4
theorem own_lays {t : Nat} (b : Bool) (ht : t < 16) : 2 ^ laysN t b - 1 = ownM t b := by
  have h : ∀ t, t < 16 → ∀ b : Bool, 2 ^ laysN t b - 1 = ownM t b := by decide +kernel
  exact h t ht b
theorem laysN_le (t : Nat) (b : Bool) : laysN t b ≤ 4 := by
  unfold laysN
  split
  · decide
  · split <;> decide
theorem a_laysOf {c lm : Nat} {mK : Nat → Int32} (hT : ∀ j, T j < 16) (hK : ∀ j, j < 16 → mK j = bI (lm.testBit j)) (hc : c < 16) : kX8_laysOf F (fN T) mK (nI c) = some (nI (laysN (T c) (lm.testBit c))) := by
  unfold kX8_laysOf
  have ht := hT c
  have e : ∀ k, k < 2 ^ 31 → (nI (T c) = nI k ↔ T c = k) := fun k hk => nI_eq (by omega) hk
  rw [if_pos (ix_n hc (by decide)), cl_n (by omega), hK c hc]
  unfold laysN
  cases lm.testBit c with
  | true => rw [if_neg bI_n, if_pos (Or.inl rfl)]; rfl
  | false =>
    rw [if_pos bI_f, if_pos (ix_n hc (by decide))]
    show (if nI (T c) = nI 0 then _ else _ : Option Int32) = _
    by_cases e0 : T c = 0
    · rw [if_pos ((e 0 (by decide)).mpr e0), if_pos (Or.inr (Or.inl e0))]; rfl
    · rw [if_neg (fun h => e0 ((e 0 (by decide)).mp h)), if_pos (ix_n hc (by decide))]
      show (if nI (T c) = nI 15 then _ else _ : Option Int32) = _
      by_cases e1 : T c = 15
      · rw [if_pos ((e 15 (by decide)).mpr e1), if_pos (Or.inr (Or.inr e1))]; rfl
      · rw [if_neg (fun h => e1 ((e 15 (by decide)).mp h)), if_pos (ix_n hc (by decide)), if_neg (show ¬ (false = true ∨ T c = 0 ∨ T c = 15) by rintro (h | h | h); cases h; exact e0 h; exact e1 h)]
        show (if nI (T c) = nI 5 then _ else _ : Option Int32) = _
        by_cases e2 : T c = 5
        · rw [if_pos ((e 5 (by decide)).mpr e2), if_pos (Or.inl e2)]; rfl
        · rw [if_neg (fun h => e2 ((e 5 (by decide)).mp h)), if_pos (ix_n hc (by decide))]
          show (if nI (T c) = nI 10 then _ else _ : Option Int32) = _
          by_cases e3 : T c = 10
          · rw [if_pos ((e 10 (by decide)).mpr e3), if_pos (Or.inr e3)]; rfl
          · rw [if_neg (fun h => e3 ((e 10 (by decide)).mp h)), if_neg (show ¬ (T c = 5 ∨ T c = 10) by rintro (h | h); exact e2 h; exact e3 h)]; rfl
theorem RNi.st {L : Nat → Nat} (h : RNi n v L) {c : Nat} (hc : c < 16) (m : Nat) : RNi n (upd v (nI c).toNatClampNeg (nI m)) (up L c m) := by
  intro i hi
  rw [cl_n (by omega)]
  by_cases e : i = c
  · subst e; rw [pk_us, up_s]
  · rw [pk_un e, up_n e]; exact h i hi
theorem up_clr {L : Nat → Nat} {c k : Nat} (hL : ∀ j, L j < 16) (hk : k < 4) : (∀ j, up L c (clr (L c) k) j < 16) ∧ subM (up L c (clr (L c) k)) L := by
  have h1 : ∀ j, up L c (clr (L c) k) j < 16 := by
    intro j; unfold up; split
    · exact clr_lt _ _
    · exact hL j
  refine ⟨h1, subM.of h1 (fun j i hi hb => ?_)⟩
  by_cases e : j = c
  · subst e; rw [up_s] at hb; exact ((clr_tb hk hi).mp hb).1
  · rw [up_n e] at hb; exact hb
theorem a_strikes51 {c : Nat} {O : Nat → Nat} {b : Bool} {R : Nat → Int32} (hW : WOK n Wy) (hM : MB n mw mh mg mW nb wl Wy) (hT : ∀ j, T j < 16) (hL : ∀ j, L j < 16) (hv : RNi n v L) (hc : c < n) (hkp : ∀ c k, Keep Wy T O n c k → (L c).testBit k = true) (hF : 1000 ≤ F) : Ex (kloop F (fun s_ => kX8_strikes_s51 F mw mh mg (fN T) mW (nI c) s_.1 s_.2.1 s_.2.2.1 s_.2.2.2) (bI b, 0, R, v)) (fun r => ∃ L' b', r.1 = bI b' ∧ RNi n r.2.2 L' ∧ (∀ j, L' j < 16) ∧ subM L' L ∧ (∀ c k, Keep Wy T O n c k → (L' c).testBit k = true) ∧ (b' = true → b = true ∨ cnt L' < cnt L) ∧ (b = true → b' = true) ∧ (b' = false → L' = L ∧ ∀ k, k < 4 → (L c).testBit k = true → ¬ Stk Wy T L c k)) := by
  have hn := hW.1
  have hc16 : c < 16 := by omega
  refine Ex.fr 4 (fun i s => s.2.1 = nI i ∧ ∃ L' b', s.1 = bI b' ∧ RNi n s.2.2.2 L' ∧ (∀ j, L' j < 16) ∧ subM L' L ∧ (∀ c k, Keep Wy T O n c k → (L' c).testBit k = true) ∧ (b' = true → b = true ∨ cnt L' < cnt L) ∧ (b = true → b' = true) ∧ (b' = false → L' = L ∧ ∀ k, k < i → (L c).testBit k = true → ¬ Stk Wy T L c k)) ⟨rfl, L, b, rfl, hv, hL, fun _ _ h => h, hkp, Or.inl, id, fun _ => ⟨rfl, fun k hk => absurd hk (Nat.not_lt_zero k)⟩⟩ ?_ ?_ (by omega)
  · rintro i ⟨s0, s1, R1, w⟩ hi ⟨h1, L1, b1, h0, hw, hL1, hs1, hk1, g1, g2, g3⟩
    have h1 : s1 = nI i := h1
    have h0 : s0 = bI b1 := h0
    subst h1 h0
    have hw : RNi n w L1 := hw
    show Ex (kX8_strikes_s51 F mw mh mg (fN T) mW (nI c) (bI b1) (nI i) R1 w) _
    unfold kX8_strikes_s51
    refine Ex.f (show ¬ (4 : Int32) ≤ nI i from nI_ge hi (by decide)) (Ex.t (ix_n hc16 (by decide)) ?_)
    rw [cl_n (by omega), hw c hc, q_bit (by have := hL1 c; omega) (by omega)]
    have keep : ((L1 c).testBit i = true → ¬ Stk Wy T L1 c i) → ∀ R' : Nat → Int32, Ex (some (Sum.inl (bI b1, nI i + 1, R', w)) : Option ((Int32 × Int32 × (Nat → Int32) × (Nat → Int32)) ⊕ (Int32 × (Nat → Int32) × (Nat → Int32)))) (onS (fun s => s.2.1 = nI (i + 1) ∧ ∃ L' b', s.1 = bI b' ∧ RNi n s.2.2.2 L' ∧ (∀ j, L' j < 16) ∧ subM L' L ∧ (∀ c k, Keep Wy T O n c k → (L' c).testBit k = true) ∧ (b' = true → b = true ∨ cnt L' < cnt L) ∧ (b = true → b' = true) ∧ (b' = false → L' = L ∧ ∀ k, k < i + 1 → (L c).testBit k = true → ¬ Stk Wy T L c k)) (fun r => ∃ L' b', r.1 = bI b' ∧ RNi n r.2.2 L' ∧ (∀ j, L' j < 16) ∧ subM L' L ∧ (∀ c k, Keep Wy T O n c k → (L' c).testBit k = true) ∧ (b' = true → b = true ∨ cnt L' < cnt L) ∧ (b = true → b' = true) ∧ (b' = false → L' = L ∧ ∀ k, k < 4 → (L c).testBit k = true → ¬ Stk Wy T L c k))) := by
      intro h R'
      refine Ex.v ⟨nI_1 i, L1, b1, rfl, hw, hL1, hs1, hk1, g1, g2, fun hb => ?_⟩
      obtain ⟨e, g⟩ := g3 hb
      refine ⟨e, fun k hk hl => ?_⟩
      by_cases ek : k = i
      · subst ek; rw [← e] at hl ⊢; exact h hl
      · exact g k (by omega) hl
    cases e : (L1 c).testBit i with
    | false => exact Ex.f (by rw [bI_1]; decide) (keep (fun h => (by rw [e] at h; cases h)) _)
    | true =>
      refine Ex.t bI_t (Ex.b (a_isStruck hW hM hT hL1 hw hc hi hF) ?_)
      rintro ⟨q0, R2⟩ ⟨x, hx, hxs⟩
      have hx : q0 = bI x := hx
      subst hx
      cases x with
      | false => exact Ex.t bI_f (keep (fun _ h => (by have := hxs.mpr h; cases this)) _)
      | true =>
        refine Ex.f bI_n (Ex.t (ix_n hc16 (by decide)) (Ex.t (ix_n hc16 (by decide)) ?_))
        rw [q_clr (hL1 c) hi]
        have hwc := hw.st hc16 (clr (L1 c) i)
        rw [cl_n (show c < 2 ^ 31 by omega)] at hwc
        obtain ⟨u1, u2⟩ := up_clr (c := c) hL1 hi
        have hst := hxs.mp rfl
        have hlt : cnt (up L1 c (clr (L1 c) i)) < cnt L1 := by
          refine cnt_lt hL1 u1 u2 hc16 (fun heq => ?_)
          rw [up_s] at heq
          have := (clr_tb (m := L1 c) hi hi).mp (by rw [heq]; exact e)
          exact this.2 rfl
        have hle : cnt L1 ≤ cnt L := by
          by_cases h : ∃ j, j < 16 ∧ L1 j ≠ L j
          · obtain ⟨j, hj, hne⟩ := h
            exact Nat.le_of_lt (cnt_lt hL hL1 hs1 hj hne)
          · refine Nat.le_of_eq (sm_congr (fun j hj => ?_))
            have : L1 j = L j := Classical.byContradiction (fun hne => h ⟨j, hj, hne⟩)
            show pop (L1 j) 16 = pop (L j) 16
            rw [this]
        refine Ex.v ⟨nI_1 i, up L1 c (clr (L1 c) i), true, rfl, hwc, u1, u2.trans hs1, fun c' k' hK => ?_, fun _ => Or.inr (by omega), fun _ => rfl, fun h => (by cases h)⟩
        have h1 := hk1 c' k' hK
        have hk4 : k' < 4 := by
          apply Classical.byContradiction
          intro h
          rw [tb_16 (hL1 c') (by omega)] at h1; cases h1
        by_cases ec : c' = c
        · subst ec
          rw [up_s]
          refine (clr_tb hi hk4).mpr ⟨h1, fun ek => ?_⟩
          subst ek
          exact hK.nst hk1 hc hk4 hst
        · rw [up_n ec]; exact h1
  · rintro ⟨s0, s1, R1, w⟩ ⟨h1, L1, b1, h0, hw, hL1, hs1, hk1, g1, g2, g3⟩
    have h1 : s1 = nI 4 := h1
    subst h1
    show Ex (kX8_strikes_s51 F mw mh mg (fN T) mW (nI c) s0 (nI 4) R1 w) _
    unfold kX8_strikes_s51
    exact Ex.t (by decide) (Ex.v ⟨L1, b1, h0, hw, hL1, hs1, hk1, g1, g2, g3⟩)
theorem a_strikes41 {O : Nat → Nat} {R : Nat → Int32} (hW : WOK n Wy) (hM : MB n mw mh mg mW nb wl Wy) (hT : ∀ j, T j < 16) (hL : ∀ j, L j < 16) (hv : RNi n v L) (hkp : ∀ c k, Keep Wy T O n c k → (L c).testBit k = true) (hF : 1000 ≤ F) : Ex (kloop F (fun s_ => kX8_strikes_s41 F mw mh mg (fN T) mW s_.1 s_.2.1 s_.2.2.1 s_.2.2.2) (0, 0, R, v)) (fun r => ∃ L' b', r.1 = bI b' ∧ RNi n r.2.2 L' ∧ (∀ j, L' j < 16) ∧ subM L' L ∧ (∀ c k, Keep Wy T O n c k → (L' c).testBit k = true) ∧ (b' = true → cnt L' < cnt L) ∧ (b' = false → L' = L ∧ ∀ j k, j < n → k < 4 → (L j).testBit k = true → ¬ Stk Wy T L j k)) := by
  have hn := hW.1
  have hcc := hM.2.2.2.2.2
  refine Ex.fr n (fun i s => s.2.1 = nI i ∧ ∃ L' b', s.1 = bI b' ∧ RNi n s.2.2.2 L' ∧ (∀ j, L' j < 16) ∧ subM L' L ∧ (∀ c k, Keep Wy T O n c k → (L' c).testBit k = true) ∧ (b' = true → cnt L' < cnt L) ∧ (b' = false → L' = L ∧ ∀ j k, j < i → k < 4 → (L j).testBit k = true → ¬ Stk Wy T L j k)) ⟨rfl, L, false, rfl, hv, hL, fun _ _ h => h, hkp, fun h => by (cases h), fun _ => ⟨rfl, fun j k hj => absurd hj (Nat.not_lt_zero j)⟩⟩ ?_ ?_ (by omega)
  · rintro i ⟨s0, s1, R1, w⟩ hi ⟨h1, L1, b1, h0, hw, hL1, hs1, hk1, g1, g3⟩
    have h1 : s1 = nI i := h1
    have h0 : s0 = bI b1 := h0
    subst h1 h0
    have hw : RNi n w L1 := hw
    show Ex (kX8_strikes_s41 F mw mh mg (fN T) mW (bI b1) (nI i) R1 w) _
    unfold kX8_strikes_s41
    refine Ex.o (hcc F) (Ex.f (nI_ge hi (by omega)) (Ex.b (a_strikes51 (b := b1) hW hM hT hL1 hw hi hk1 hF) ?_))
    rintro ⟨t0, R2, w2⟩ ⟨L2, b2, e0, hw2, hL2, hs2, hk2, k1, k2, k3⟩
    have e0 : t0 = bI b2 := e0
    subst e0
    have hle : cnt L2 ≤ cnt L1 := by
      by_cases h : ∃ j, j < 16 ∧ L2 j ≠ L1 j
      · obtain ⟨j, hj, hne⟩ := h
        exact Nat.le_of_lt (cnt_lt hL1 hL2 hs2 hj hne)
      · refine Nat.le_of_eq (sm_congr (fun j hj => ?_))
        have : L2 j = L1 j := Classical.byContradiction (fun hne => h ⟨j, hj, hne⟩)
        show pop (L2 j) 16 = pop (L1 j) 16
        rw [this]
    have hle1 : cnt L1 ≤ cnt L := by
      by_cases h : ∃ j, j < 16 ∧ L1 j ≠ L j
      · obtain ⟨j, hj, hne⟩ := h
        exact Nat.le_of_lt (cnt_lt hL hL1 hs1 hj hne)
      · refine Nat.le_of_eq (sm_congr (fun j hj => ?_))
        have : L1 j = L j := Classical.byContradiction (fun hne => h ⟨j, hj, hne⟩)
        show pop (L1 j) 16 = pop (L j) 16
        rw [this]
    refine Ex.v ⟨nI_1 i, L2, b2, rfl, hw2, hL2, hs2.trans hs1, hk2, fun h => ?_, fun h => ?_⟩
    · rcases k1 h with h | h
      · have := g1 h; omega
      · omega
    · have hb1 : b1 = false := by
        cases x : b1 with
        | false => rfl
        | true => rw [k2 x] at h; cases h
      obtain ⟨e1, m1⟩ := g3 hb1
      obtain ⟨e2, m2⟩ := k3 h
      subst e1
      refine ⟨e2, fun j k hj hk hl => ?_⟩
      by_cases ej : j = i
      · subst ej; exact m2 k hk hl
      · exact m1 j k (by omega) hk hl
  · rintro ⟨s0, s1, R1, w⟩ ⟨h1, L1, b1, h0, hw, hL1, hs1, hk1, g1, g3⟩
    have h1 : s1 = nI n := h1
    subst h1
    show Ex (kX8_strikes_s41 F mw mh mg (fN T) mW s0 (nI n) R1 w) _
    unfold kX8_strikes_s41
    exact Ex.o (hcc F) (Ex.t (nI_le (Nat.le_refl n) (by omega)) (Ex.v ⟨L1, b1, h0, hw, hL1, hs1, hk1, g1, g3⟩))
theorem a_strikes {lm : Nat} {mK mR mL : Nat → Int32} (hW : WOK n Wy) (hM : MB n mw mh mg mW nb wl Wy) (hT : ∀ j, T j < 16) (hK : ∀ j, j < 16 → mK j = bI (lm.testBit j)) (hF : 1000 ≤ F) : Ex (kX8_strikes F mw mh mg (fN T) mW mK mR mL) (fun r => ∃ L, RNi n r.2 L ∧ (∀ j, L j < 16) ∧ ∀ c k, (L c).testBit k = true ↔ Keep Wy T (ownA T lm n) n c k) := by
  have hn := hW.1
  have hcc := hM.2.2.2.2.2
  unfold kX8_strikes
  refine Ex.b (P := fun r => RNi n r (ownA T lm n)) (Ex.fr n (fun i s => s.1 = nI i ∧ ∀ j, j < i → s.2 j = nI (ownA T lm n j)) ⟨rfl, fun j hj => absurd hj (Nat.not_lt_zero j)⟩ ?_ ?_ (by omega)) ?_
  · rintro i ⟨s0, s1⟩ hi ⟨h0, h1⟩
    have h0 : s0 = nI i := h0
    subst h0
    have h1 : ∀ j, j < i → s1 j = nI (ownA T lm n j) := h1
    show Ex (kX8_strikes_s2 F mw mh (fN T) mK (nI i) s1) _
    unfold kX8_strikes_s2
    refine Ex.o (hcc F) (Ex.f (nI_ge hi (by omega)) (Ex.o (a_laysOf hT hK (by omega)) (Ex.t (ix_n (by omega) (by decide)) (Ex.v ⟨nI_1 i, fun j hj => ?_⟩))))
    show upd s1 (nI i).toNatClampNeg _ j = _
    rw [cl_n (by omega)]
    by_cases e : j = i
    · subst e
      have hl := laysN_le (T j) (lm.testBit j)
      have hp : 2 ^ laysN (T j) (lm.testBit j) ≤ 2 ^ 4 := Nat.pow_le_pow_right (by decide) hl
      rw [pk_us, i1, q_shl (by omega) (by omega), Nat.one_mul, pk_sub (Nat.one_le_two_pow), own_lays _ (hT j)]
      unfold ownA
      rw [if_pos hi]
    · rw [pk_un e]; exact h1 j (by omega)
  · rintro ⟨s0, s1⟩ ⟨h0, h1⟩
    have h0 : s0 = nI n := h0
    subst h0
    show Ex (kX8_strikes_s2 F mw mh (fN T) mK (nI n) s1) _
    unfold kX8_strikes_s2
    exact Ex.o (hcc F) (Ex.t (nI_le (Nat.le_refl n) (by omega)) (Ex.v h1))
  · intro v0 hv0
    refine Ex.b (P := fun r => ∃ L, RNi n r.2 L ∧ (∀ j, L j < 16) ∧ ∀ c k, (L c).testBit k = true ↔ Keep Wy T (ownA T lm n) n c k) (Ex.wh (P := fun k s => ∃ L b, s.1 = bI b ∧ RNi n s.2.2 L ∧ (∀ j, L j < 16) ∧ subM L (ownA T lm n) ∧ (∀ c k, Keep Wy T (ownA T lm n) n c k → (L c).testBit k = true) ∧ (b = false → ∀ j k, j < n → k < 4 → (L j).testBit k = true → ¬ Stk Wy T L j k) ∧ (b = true → cnt L + 1 ≤ k)) ?_ (k := 65) ?_ (by omega)) (fun a h => Ex.v h)
    · rintro k ⟨s0, R1, w⟩ ⟨L, b, h0, hv, hL, hsub, hkp, hst, hct⟩
      have h0 : s0 = bI b := h0
      subst h0
      have hv : RNi n w L := hv
      show Ex (kX8_strikes_s33 F mw mh mg (fN T) mW (bI b) R1 w) _
      unfold kX8_strikes_s33
      cases b with
      | false => exact Ex.t bI_f (Ex.v ⟨L, hv, hL, Keep.fix hkp hsub (hst rfl)⟩)
      | true =>
        have hct := hct rfl
        refine Ex.f bI_n (Ex.b (a_strikes41 hW hM hT hL hv hkp hF) ?_)
        rintro ⟨r0, R2, w2⟩ ⟨L', b', e0, hv', hL', hs', hk', g1, g2⟩
        have e0 : r0 = bI b' := e0
        subst e0
        refine Ex.v ⟨k - 1, by omega, L', b', rfl, hv', hL', hs'.trans hsub, hk', fun hb j k hj hk hl => ?_, fun hb => ?_⟩
        · obtain ⟨e, g⟩ := g2 hb
          subst e
          exact g j k hj hk hl
        · have := g1 hb; omega
    · exact ⟨ownA T lm n, true, rfl, hv0, ownA_lt T lm n, fun c k h => h, fun c k h => h.own, fun h => by (cases h), fun _ => by have := cnt_le (ownA_lt T lm n); omega⟩
end ST
