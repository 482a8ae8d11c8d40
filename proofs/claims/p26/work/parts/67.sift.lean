/-! the sieve of the class, to its end -/
theorem sm_lt {f g : Nat → Nat} : ∀ {n : Nat}, (∀ i, i < n → f i ≤ g i) → (∃ i, i < n ∧ f i < g i) → sm f n < sm g n
  | 0, _, h => by obtain ⟨i, hi, -⟩ := h; omega
  | n + 1, h, hx => by
    obtain ⟨i, hi, hlt⟩ := hx
    show sm f n + f n < sm g n + g n
    have hn := h n (by omega)
    by_cases e : i = n
    · subst e
      have : ∀ k, k ≤ i → sm f k ≤ sm g k := by
        intro k
        induction k with
        | zero => intro _; exact Nat.le_refl 0
        | succ k ih =>
          intro hk
          have h1 := ih (by omega)
          have h2 := h k (by omega)
          show sm f k + f k ≤ sm g k + g k
          omega
      have := this i (Nat.le_refl i)
      omega
    · have := sm_lt (n := n) (fun i hi => h i (by omega)) ⟨i, by omega, hlt⟩
      omega
def cnt (L : Nat → Nat) : Nat := sm (fun c => pop (L c) 16) 16
theorem cnt_le {L : Nat → Nat} (h : ∀ j, L j < 16) : cnt L ≤ 64 := by
  have h4 : ∀ m, m < 16 → pop m 16 ≤ 4 := by decide +kernel
  have := sm_le (f := fun c => pop (L c) 16) (b := 4) (n := 16) (fun i _ => h4 _ (h i))
  show sm _ 16 ≤ 64
  omega
theorem cnt_lt {L L' : Nat → Nat} (hL : ∀ j, L j < 16) (hL' : ∀ j, L' j < 16) (hs : subM L' L) {j : Nat} (hj : j < 16) (hne : L' j ≠ L j) : cnt L' < cnt L := by
  refine sm_lt (fun i _ => pop_mono (hs i) 16) ⟨j, hj, ?_⟩
  have h1 : L' j < 2 ^ 16 := Nat.lt_trans (hL' j) (by decide)
  have h2 : L j < 2 ^ 16 := Nat.lt_trans (hL j) (by decide)
  obtain ⟨i, hi, a, b⟩ := bit_ne h1 h2 (hs j) (fun e => hne e.symm)
  exact pop_lt (hs j) a b 16 hi
theorem subM.of {L L' : Nat → Nat} (hL : ∀ j, L j < 16) (h : ∀ c k, k < 4 → (L c).testBit k = true → (L' c).testBit k = true) : subM L L' := by
  intro c k hk
  by_cases h4 : k < 4
  · exact h c k h4 hk
  · rw [tb_16 (hL c) (by omega)] at hk; cases hk
theorem subM.trans {L L' L'' : Nat → Nat} (h : subM L L') (h' : subM L' L'') : subM L L'' := fun c k hk => h' c k (h c k hk)
theorem eq16 {a b : Nat} (ha : a < 16) (hb : b < 16) (h : ∀ k, k < 4 → (a.testBit k = true ↔ b.testBit k = true)) : a = b := by
  apply Nat.eq_of_testBit_eq
  intro i
  by_cases hi : i < 4
  · cases e : a.testBit i with
    | true => exact ((h i hi).mp e).symm
    | false =>
      cases e2 : b.testBit i with
      | false => rfl
      | true => rw [(h i hi).mpr e2] at e; cases e
  · rw [tb_16 ha (by omega), tb_16 hb (by omega)]
section SI
variable {F n : Nat} {Wy : Nat → Nat → Option Nat} {Y : Nat → Option Nat} {T L : Nat → Nat} {v vA vS vT : Nat → Int32}
theorem a_strike2 (hT : ∀ j, T j < 16) (hL : ∀ j, L j < 16) (hv : RN v L) (hF : 1000 ≤ F) : Ex (kloop F (fun s_ => kX5_strikeOnce_s2 F (fN T) v s_.1 s_.2.1 s_.2.2) (0, vS, vA)) (fun r => ∃ S A, (∀ j, S j < 16) ∧ (∀ j, A j < 16) ∧ RN r.1 S ∧ RN r.2 A ∧ bitsSome T L S ∧ bitsAll T L A) := by
  refine Ex.fr 16 (fun i s => s.1 = nI i ∧ ∃ S A, (∀ j, S j < 16) ∧ (∀ j, A j < 16) ∧ (∀ j, j < i → s.2.1 j = nI (S j)) ∧ (∀ j, j < i → s.2.2 j = nI (A j)) ∧ (∀ c s, c < i → s < 4 → ((S c).testBit s = true ↔ someO T L c s)) ∧ (∀ c s, c < i → s < 4 → ((A c).testBit s = true ↔ allO T L c s))) ⟨rfl, fun _ => 0, fun _ => 0, fun _ => (by show 0 < 16; decide), fun _ => (by show 0 < 16; decide), fun j hj => absurd hj (Nat.not_lt_zero j), fun j hj => absurd hj (Nat.not_lt_zero j), fun c _ hc => absurd hc (Nat.not_lt_zero c), fun c _ hc => absurd hc (Nat.not_lt_zero c)⟩ ?_ ?_ (by omega)
  · rintro i ⟨s0, s1, s2⟩ hi ⟨h0, S, A, hS, hA, h1, h2, h3, h4⟩
    have h0 : s0 = nI i := h0
    subst h0
    have h1 : ∀ j, j < i → s1 j = nI (S j) := h1
    have h2 : ∀ j, j < i → s2 j = nI (A j) := h2
    show Ex (kX5_strikeOnce_s2 F (fN T) v (nI i) s1 s2) _
    unfold kX5_strikeOnce_s2
    refine Ex.f (show ¬ (16 : Int32) ≤ nI i from nI_ge hi (by decide)) (Ex.b (a_some hT hL hv hi hF) ?_)
    rintro _ ⟨M, rfl, hM, hMb⟩
    refine Ex.t (ix_n hi (by decide)) (Ex.b (a_all hT hL hv hi hF) ?_)
    rintro _ ⟨M2, rfl, hM2, hMb2⟩
    refine Ex.t (ix_n hi (by decide)) (Ex.v ⟨nI_1 i, up S i M, up A i M2, ?_, ?_, ?_, ?_, ?_, ?_⟩)
    · intro j; unfold up; split
      · exact hM
      · exact hS j
    · intro j; unfold up; split
      · exact hM2
      · exact hA j
    · intro j hj
      show upd s1 (nI i).toNatClampNeg (nI M) j = nI (up S i M j)
      rw [cl_n (by omega)]
      by_cases e : j = i
      · subst e; rw [pk_us, up_s]
      · rw [pk_un e, up_n e]; exact h1 j (by omega)
    · intro j hj
      show upd s2 (nI i).toNatClampNeg (nI M2) j = nI (up A i M2 j)
      rw [cl_n (by omega)]
      by_cases e : j = i
      · subst e; rw [pk_us, up_s]
      · rw [pk_un e, up_n e]; exact h2 j (by omega)
    · intro c s hc hs
      by_cases e : c = i
      · subst e; rw [up_s]; exact hMb s hs
      · rw [up_n e]; exact h3 c s (by omega) hs
    · intro c s hc hs
      by_cases e : c = i
      · subst e; rw [up_s]; exact hMb2 s hs
      · rw [up_n e]; exact h4 c s (by omega) hs
  · rintro ⟨s0, s1, s2⟩ ⟨h0, S, A, hS, hA, h1, h2, h3, h4⟩
    have h0 : s0 = nI 16 := h0
    subst h0
    show Ex (kX5_strikeOnce_s2 F (fN T) v (nI 16) s1 s2) _
    unfold kX5_strikeOnce_s2
    exact Ex.t (by decide) (Ex.v ⟨S, A, hS, hA, h1, h2, h3, h4⟩)
theorem a_strike38 {A : Nat → Nat} {q : (Nat → Int32) × (Nat → Int32)} (hW : WOK n Wy) (hY : ∀ c s, c < 16 → s < 4 → Y (c * 4 + s) = Wy c s) (hA : RN q.2 A) (hA16 : ∀ j, A j < 16) (hAl : bitsAll T L A) (hF : 1000 ≤ F) : Ex (kloop F (fun s_ => kX5_strikeOnce_s38 F (fE Y) q s_.1 s_.2) (0, vT)) (fun r => ∃ K, (∀ j, K j < 2 ^ 16) ∧ RN r K ∧ bitsSet Wy T L K) := by
  refine Ex.fr 16 (fun i s => s.1 = nI i ∧ ∃ K, (∀ j, K j < 2 ^ 16) ∧ (∀ j, j < i → s.2 j = nI (K j)) ∧ (∀ c y, c < i → ((K c).testBit y = true ↔ SJ Wy T L c y))) ⟨rfl, fun _ => 0, fun _ => (by show 0 < 2 ^ 16; decide), fun j hj => absurd hj (Nat.not_lt_zero j), fun c _ hc => absurd hc (Nat.not_lt_zero c)⟩ ?_ ?_ (by omega)
  · rintro i ⟨s0, s1⟩ hi ⟨h0, K, hK, h1, h2⟩
    have h0 : s0 = nI i := h0
    subst h0
    have h1 : ∀ j, j < i → s1 j = nI (K j) := h1
    show Ex (kX5_strikeOnce_s38 F (fE Y) q (nI i) s1) _
    unfold kX5_strikeOnce_s38
    refine Ex.f (show ¬ (16 : Int32) ≤ nI i from nI_ge hi (by decide)) (Ex.b (a_settledWith hW hY hA hA16 hAl hi hF) ?_)
    rintro _ ⟨M, rfl, hM, hMb⟩
    refine Ex.t (ix_n hi (by decide)) (Ex.v ⟨nI_1 i, up K i M, ?_, ?_, ?_⟩)
    · intro j; unfold up; split
      · exact hM
      · exact hK j
    · intro j hj
      show upd s1 (nI i).toNatClampNeg (nI M) j = nI (up K i M j)
      rw [cl_n (by omega)]
      by_cases e : j = i
      · subst e; rw [pk_us, up_s]
      · rw [pk_un e, up_n e]; exact h1 j (by omega)
    · intro c y hc
      by_cases e : c = i
      · subst e; rw [up_s]; exact hMb y
      · rw [up_n e]; exact h2 c y (by omega)
  · rintro ⟨s0, s1⟩ ⟨h0, K, hK, h1, h2⟩
    have h0 : s0 = nI 16 := h0
    subst h0
    show Ex (kX5_strikeOnce_s38 F (fE Y) q (nI 16) s1) _
    unfold kX5_strikeOnce_s38
    exact Ex.t (by decide) (Ex.v ⟨K, hK, h1, h2⟩)
theorem a_strike (hW : WOK n Wy) (hT : ∀ j, T j < 16) (hL : ∀ j, L j < 16) (hY : ∀ c s, c < 16 → s < 4 → Y (c * 4 + s) = Wy c s) (hv : RN v L) (hF : 1000 ≤ F) : Ex (kX5_strikeOnce F (fN T) (fE Y) v vS vA vT) (fun r => ∃ L' b, r.1 = bI b ∧ RN r.2.1 L' ∧ (∀ j, L' j < 16) ∧ (∀ j, j < 16 → ∀ k, k < 4 → ((L' j).testBit k = true ↔ (L j).testBit k = true ∧ ¬ Stk Wy T L j k)) ∧ (b = true ↔ ∃ j, j < 16 ∧ L' j ≠ L j) ∧ ∀ j, 16 ≤ j → L' j = L j) := by
  unfold kX5_strikeOnce
  refine Ex.b (a_strike2 hT hL hv hF) ?_
  rintro ⟨q1, q2⟩ ⟨S, A, hS16, hA16, hS, hA, hSo, hAl⟩
  have hS : RN q1 S := hS
  have hA : RN q2 A := hA
  refine Ex.b (a_strike38 (q := (q1, q2)) hW hY hA hA16 hAl hF) ?_
  rintro vT2 ⟨K, hK16, hK, hKs⟩
  refine Ex.b (P := fun r => ∃ L' b, r.1 = bI b ∧ RN r.2 L' ∧ (∀ j, L' j < 16) ∧ (∀ j, j < 16 → ∀ k, k < 4 → ((L' j).testBit k = true ↔ (L j).testBit k = true ∧ ¬ Stk Wy T L j k)) ∧ (b = true ↔ ∃ j, j < 16 ∧ L' j ≠ L j) ∧ ∀ j, 16 ≤ j → L' j = L j) (Ex.fr 16 (fun i s => s.2.1 = nI i ∧ ∃ L' b, s.1 = bI b ∧ RN s.2.2 L' ∧ (∀ j, L' j < 16) ∧ (∀ j, j < i → ∀ k, k < 4 → ((L' j).testBit k = true ↔ (L j).testBit k = true ∧ ¬ Stk Wy T L j k)) ∧ (b = true ↔ ∃ j, j < i ∧ L' j ≠ L j) ∧ ∀ j, i ≤ j → L' j = L j) ⟨rfl, L, false, rfl, hv, hL, fun j hj => absurd hj (Nat.not_lt_zero j), ⟨fun h => by (cases h), fun ⟨j, hj, _⟩ => absurd hj (Nat.not_lt_zero j)⟩, fun _ _ => rfl⟩ ?_ ?_ (by omega)) ?_
  · rintro i ⟨s0, s1, w⟩ hi ⟨h1, L1, b, h0, hw, hL1, g1, g2, g3⟩
    have h1 : s1 = nI i := h1
    have h0 : s0 = bI b := h0
    subst h1 h0
    have hw : RN w L1 := hw
    show Ex (kX5_strikeOnce_s65 F (fN T) (fE Y) (q1, q2) vT2 (bI b) (nI i) w) _
    unfold kX5_strikeOnce_s65
    refine Ex.f (show ¬ (16 : Int32) ≤ nI i from nI_ge hi (by decide)) (Ex.b (a_kept hW hT hL hY hA hA16 hAl hS hS16 hSo hK hK16 hKs hi (l := L i) (by rw [hw i hi, g3 i (Nat.le_refl i)]) (hL i) hF) ?_)
    rintro _ ⟨M, rfl, hM, hMb⟩
    refine Ex.t (ix_n hi (by decide)) ?_
    rw [cl_n (by omega), hw i hi, g3 i (Nat.le_refl i)]
    have hst1 : RN (upd w i (nI M)) (up L1 i M) := by
      have h := hw.st hi M
      rw [cl_n (by omega)] at h
      exact h
    have fin : ∀ b2 : Bool, (b2 = true ↔ b = true ∨ M ≠ L i) → ∃ L' b', bI b2 = bI b' ∧ RN (upd w i (nI M)) L' ∧ (∀ j, L' j < 16) ∧ (∀ j, j < i + 1 → ∀ k, k < 4 → ((L' j).testBit k = true ↔ (L j).testBit k = true ∧ ¬ Stk Wy T L j k)) ∧ (b' = true ↔ ∃ j, j < i + 1 ∧ L' j ≠ L j) ∧ ∀ j, i + 1 ≤ j → L' j = L j := by
      intro b2 hb2
      refine ⟨up L1 i M, b2, rfl, hst1, ?_, ?_, ?_, ?_⟩
      · intro j; unfold up; split
        · exact hM
        · exact hL1 j
      · intro j hj k hk
        by_cases e : j = i
        · subst e; rw [up_s]; exact hMb k hk
        · rw [up_n e]; exact g1 j (by omega) k hk
      · rw [hb2]
        constructor
        · rintro (h | h)
          · obtain ⟨j, hj, hne⟩ := g2.mp h
            exact ⟨j, by omega, by rw [up_n (by omega)]; exact hne⟩
          · exact ⟨i, by omega, by rw [up_s]; exact h⟩
        · rintro ⟨j, hj, hne⟩
          by_cases e : j = i
          · subst e; rw [up_s] at hne; exact Or.inr hne
          · rw [up_n e] at hne; exact Or.inl (g2.mpr ⟨j, by omega, hne⟩)
      · intro j hj
        rw [up_n (by omega)]; exact g3 j (by omega)
    by_cases e : M = L i
    · refine Ex.t (by rw [e]) (Ex.t (ix_n hi (by decide)) (Ex.v ⟨nI_1 i, ?_⟩))
      show ∃ L' b', bI b ||| 0 = bI b' ∧ RN (upd w i (nI M)) L' ∧ _
      rw [show bI b ||| 0 = bI b by cases b <;> decide]
      exact fin b ⟨Or.inl, fun h => h.elim id (fun h => absurd e h)⟩
    · refine Ex.f (by rw [nI_eq (by omega) (by have := hL i; omega)]; exact e) (Ex.t (ix_n hi (by decide)) (Ex.v ⟨nI_1 i, ?_⟩))
      show ∃ L' b', bI b ||| 1 = bI b' ∧ RN (upd w i (nI M)) L' ∧ _
      rw [show bI b ||| 1 = bI true by cases b <;> decide]
      exact fin true ⟨fun _ => Or.inr e, fun _ => rfl⟩
  · rintro ⟨s0, s1, w⟩ ⟨h1, L1, b, h0, hw, hL1, g1, g2, g3⟩
    have h1 : s1 = nI 16 := h1
    have h0 : s0 = bI b := h0
    subst h1 h0
    show Ex (kX5_strikeOnce_s65 F (fN T) (fE Y) (q1, q2) vT2 (bI b) (nI 16) w) _
    unfold kX5_strikeOnce_s65
    exact Ex.t (by decide) (Ex.v ⟨L1, b, rfl, hw, hL1, g1, g2, g3⟩)
  · rintro ⟨r1, r2⟩ ⟨L1, b, h0, hw, hL1, g1, g2, g3⟩
    have h0 : r1 = bI b := h0
    subst h0
    exact Ex.t (isZ_b b) (Ex.v ⟨L1, b, rfl, hw, hL1, g1, g2, g3⟩)
/-- the own lays of all cells -/
def ownA (T : Nat → Nat) (lm n : Nat) : Nat → Nat := fun c => if c < n then ownM (T c) (lm.testBit c) else 0
theorem ownA_lt (T : Nat → Nat) (lm n j : Nat) : ownA T lm n j < 16 := by
  unfold ownA
  split
  · exact ownM_lt _ _
  · decide
theorem a_has {F c : Nat} (hn : n ≤ 16) (hc : c < 2 ^ 31) : kX0_has F (nI n) (nI c) = some (bI (decide (c < n))) := by
  unfold kX0_has
  rw [if_neg (nI_pos hc)]
  by_cases h : c < n
  · rw [if_neg (nI_ge h (by omega)), if_neg (show ¬ (16 : Int32) ≤ nI c from nI_ge (show c < 16 by omega) (by decide)), decide_eq_true h]
    rfl
  · rw [if_pos (nI_le (by omega) hc), decide_eq_false h]
    rfl
theorem a_ownLays {F c lm : Nat} (hT : ∀ j, T j < 16) (hc : c < 16) (hlm : lm < 2 ^ 16) : kX0_ownLays F (nI lm) (fN T) (nI c) = some (nI (ownM (T c) (lm.testBit c))) := by
  unfold kX0_ownLays kX0_hasLock
  refine ob_i (a_sidesOf hc) (ob_i (ob_i (a_holds (by omega) (by omega)) (by rw [if_pos (isZ_b _)])) ?_)
  have hrl : ∀ k, rot (T c) k < 2 ^ 31 := fun k => by have := rot_lt (T c) k; omega
  have htl : T c < 2 ^ 31 := by have := hT c; omega
  unfold ownM
  cases lm.testBit c with
  | true => rw [if_neg bI_n, if_pos (Or.inl rfl)]; rfl
  | false =>
    rw [if_pos bI_f]
    refine ob_i (a_turned (hT c) (show 1 < 4 by omega)) ?_
    rw [show fN T c = nI (T c) from rfl]
    by_cases e : rot (T c) 1 = T c
    · rw [if_pos (show nI (rot (T c) 1) = nI (T c) from congrArg nI e), if_pos (Or.inr e)]; rfl
    · rw [if_neg (show ¬ nI (rot (T c) 1) = nI (T c) by rw [nI_eq (hrl 1) htl]; exact e), if_neg (by rintro (h | h); cases h; exact e h)]
      refine ob_i (a_turned (hT c) (show 2 < 4 by omega)) ?_
      by_cases e2 : rot (T c) 2 = T c
      · rw [if_pos (show nI (rot (T c) 2) = nI (T c) from congrArg nI e2), if_pos e2]; rfl
      · rw [if_neg (show ¬ nI (rot (T c) 2) = nI (T c) by rw [nI_eq (hrl 2) htl]; exact e2), if_neg e2]; rfl
theorem a_sift {lm : Nat} {vL : Nat → Int32} (hW : WOK n Wy) (hT : ∀ j, T j < 16) (hY : ∀ c s, c < 16 → s < 4 → Y (c * 4 + s) = Wy c s) (hlm : lm < 2 ^ 16) (hF : 1000 ≤ F) : Ex (kX5_sift F (nI n) (nI lm) (fN T) (fE Y) vL vS vA vT) (fun r => ∃ L, RN r.1 L ∧ (∀ j, L j < 16) ∧ ∀ c k, (L c).testBit k = true ↔ Keep Wy T (ownA T lm n) n c k) := by
  have hn := hW.1
  unfold kX5_sift
  refine Ex.b (P := fun r => RN r (ownA T lm n)) (Ex.fr 16 (fun i s => s.1 = nI i ∧ ∀ j, j < i → s.2 j = nI (ownA T lm n j)) ⟨rfl, fun j hj => absurd hj (Nat.not_lt_zero j)⟩ ?_ ?_ (by omega)) ?_
  · rintro i ⟨s0, s1⟩ hi ⟨h0, h1⟩
    have h0 : s0 = nI i := h0
    subst h0
    have h1 : ∀ j, j < i → s1 j = nI (ownA T lm n j) := h1
    show Ex (kX5_sift_s2 F (nI n) (nI lm) (fN T) (nI i) s1) _
    unfold kX5_sift_s2
    refine Ex.f (show ¬ (16 : Int32) ≤ nI i from nI_ge hi (by decide)) (Ex.o (a_has hn (by omega)) ?_)
    have fin : ∀ m, m = ownA T lm n i → ∀ j, j < i + 1 → upd s1 (nI i).toNatClampNeg (nI m) j = nI (ownA T lm n j) := by
      intro m hm j hj
      rw [cl_n (by omega)]
      by_cases e : j = i
      · subst e; rw [pk_us, hm]
      · rw [pk_un e]; exact h1 j (by omega)
    by_cases e : i < n
    · rw [decide_eq_true e]
      refine Ex.f bI_n (Ex.o (a_ownLays hT hi hlm) (Ex.t (ix_n hi (by decide)) (Ex.v ⟨nI_1 i, fin _ ?_⟩)))
      unfold ownA
      rw [if_pos e]
    · rw [decide_eq_false e]
      refine Ex.t bI_f (Ex.t (ix_n hi (by decide)) (Ex.v ⟨nI_1 i, fin 0 ?_⟩))
      unfold ownA
      rw [if_neg e]
  · rintro ⟨s0, s1⟩ ⟨h0, h1⟩
    have h0 : s0 = nI 16 := h0
    subst h0
    show Ex (kX5_sift_s2 F (nI n) (nI lm) (fN T) (nI 16) s1) _
    unfold kX5_sift_s2
    exact Ex.t (by decide) (Ex.v h1)
  · intro v0 hv0
    refine Ex.b (P := fun r => ∃ L, RN r.1 L ∧ (∀ j, L j < 16) ∧ ∀ c k, (L c).testBit k = true ↔ Keep Wy T (ownA T lm n) n c k) (Ex.wh (P := fun k s => ∃ L b i, s.1 = bI b ∧ s.2.1 = nI i ∧ RN s.2.2.1 L ∧ (∀ j, L j < 16) ∧ subM L (ownA T lm n) ∧ (∀ c k, Keep Wy T (ownA T lm n) n c k → (L c).testBit k = true) ∧ (b = false → ∀ j k, j < n → k < 4 → (L j).testBit k = true → ¬ Stk Wy T L j k) ∧ (b = true → cnt L + i ≤ 64) ∧ i + k = 66 ∧ i ≤ 65) ?_ (k := 66) ?_ (by omega)) (fun a h => Ex.v h)
    · rintro k ⟨s0, s1, s2, s3, s4, s5⟩ ⟨L, b, i, h0, h1, hv, hL, hsub, hkp, hst, hct, hk, hi65⟩
      have h0 : s0 = bI b := h0
      have h1 : s1 = nI i := h1
      subst h0 h1
      have hv : RN s2 L := hv
      show Ex (kX5_sift_s47 F (fN T) (fE Y) (bI b) (nI i) s2 s3 s4 s5) _
      unfold kX5_sift_s47
      cases b with
      | false => exact Ex.t bI_f (Ex.v ⟨L, hv, hL, Keep.fix hkp hsub (hst rfl)⟩)
      | true =>
        have hct := hct rfl
        refine Ex.f bI_n (Ex.f (show ¬ (64 : Int32) < nI i from nI_nlt (show i ≤ 64 by omega) (show (64 : Nat) < 2 ^ 31 by decide)) (Ex.b (a_strike hW hT hL hY hv hF) ?_))
        rintro ⟨r0, r1, r2, r3, r4⟩ ⟨L', b', e0, hv', hL', g1, g2, g3⟩
        have e0 : r0 = bI b' := e0
        subst e0
        have hsub' : subM L' L := subM.of hL' (fun c k hk hb => by
          by_cases hc : c < 16
          · exact ((g1 c hc k hk).mp hb).1
          · rw [g3 c (by omega)] at hb; exact hb)
        refine Ex.v ⟨k - 1, by omega, L', b', i + 1, rfl, nI_1 i, hv', hL', hsub'.trans hsub, ?_, ?_, ?_, by omega, by omega⟩
        · intro c k hK
          have h1 := hkp c k hK
          have hk4 : k < 4 := by
            apply Classical.byContradiction
            intro h
            rw [tb_16 (hL c) (by omega)] at h1; cases h1
          have hcn : c < n := by
            apply Classical.byContradiction
            intro h
            have h2 := hK.own
            unfold ownA at h2
            rw [if_neg h, Nat.zero_testBit] at h2; cases h2
          exact (g1 c (by omega) k hk4).mpr ⟨h1, hK.nst hkp hcn hk4⟩
        · intro hb j k hj hk hb1
          have hno : ∀ j, j < 16 → L' j = L j := by
            intro j hj
            apply Classical.byContradiction
            intro hne
            have := g2.mpr ⟨j, hj, hne⟩
            rw [hb] at this; cases this
          have h2 := ((g1 j (by omega) k hk).mp hb1).2
          have e : L' = L := by
            funext j
            by_cases hj : j < 16
            · exact hno j hj
            · exact g3 j (by omega)
          rw [e]; exact h2
        · intro hb
          obtain ⟨j, hj, hne⟩ := g2.mp hb
          have := cnt_lt hL hL' hsub' hj hne
          omega
    · refine ⟨ownA T lm n, true, 0, rfl, rfl, hv0, ownA_lt T lm n, fun c k h => h, fun c k h => h.own, fun h => (by cases h), fun _ => by have := cnt_le (ownA_lt T lm n); omega, by omega, by omega⟩
end SI
