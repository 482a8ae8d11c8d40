/-! what holds between two calls, on both sides; each call's answers -/
def BF (F : Nat) : Prop := 1000 ≤ F ∧ 2 ^ 20 ≤ F ∧ rdsB 16 < F
theorem BF_ex : ∃ F, BF F := ⟨2 ^ 20 + rdsB 16 + 1, by rw [p20]; omega, by omega, by omega⟩
def CP (nb nw : Nat) : Prop := nw = nb ∧ 16 ≤ nb ∧ nb ≤ 2 ^ 19
def INV (i : Nat) (bn bk bs : Int32) (bT bC bN bW : Nat → Int32) (hd hk : Int32) (hM : Nat → Int32) (nb0 nw0 nb1 nw1 : Nat) (mw mh mg ms mv md : Int32) (mT mW mK mM : Nat → Int32) : Prop := ∃ (w h : Nat) (g : Bool) (T Wm : Nat → Nat) (lm src : Nat) (hist : Nat → Nat) (dn ke : Nat) (N Y : Nat → Option Nat), okS w h g = true ∧ (∀ j, T j < 16) ∧ (∀ j, Wm j < 16) ∧ wsy w h g Wm ∧ lm < 2 ^ 16 ∧ src < w * h ∧ dn ≤ ke ∧ ke ≤ i ∧ (∀ j, j < ke → hist j < w * h) ∧ bn = nI (w * h) ∧ bk = nI lm ∧ bs = nI src ∧ bT = fN T ∧ (∀ c, c < w * h → bC c = nI (c % w)) ∧ bN = fE N ∧ bW = fE Y ∧ (∀ c s, c < w * h → s < 4 → N (c * 4 + s) = nbr w h g c s) ∧ (∀ c s, c < 16 → s < 4 → Y (c * 4 + s) = Wyf w h g Wm c s) ∧ hd = nI dn ∧ hk = nI ke ∧ (∀ j, j < ke → hM j = nI (hist j)) ∧ CP nb0 nw0 ∧ CP nb1 nw1 ∧ mw = nI w ∧ mh = nI h ∧ mg = bI g ∧ ms = nI src ∧ mv = nI ke ∧ md = nI dn ∧ mT = fN T ∧ RN mW Wm ∧ (∀ j, j < 16 → mK j = bI (lm.testBit j)) ∧ ∀ j, j < ke → mM j = nI (hist j)
theorem INV.up {i : Nat} {bn bk bs : Int32} {bT bC bN bW : Nat → Int32} {hd hk : Int32} {hM : Nat → Int32} {nb0 nw0 nb1 nw1 : Nat} {mw mh mg ms mv md : Int32} {mT mW mK mM : Nat → Int32} (h : INV i bn bk bs bT bC bN bW hd hk hM nb0 nw0 nb1 nw1 mw mh mg ms mv md mT mW mK mM) : INV (i + 1) bn bk bs bT bC bN bW hd hk hM nb0 nw0 nb1 nw1 mw mh mg ms mv md mT mW mK mM := by
  obtain ⟨w, h, g, T, Wm, lm, src, hist, dn, ke, N, Y, a1, a2, a3, a4, a5, a6, a7, a8, a9⟩ := h
  exact ⟨w, h, g, T, Wm, lm, src, hist, dn, ke, N, Y, a1, a2, a3, a4, a5, a6, a7, Nat.le_succ_of_le a8, a9⟩
theorem exRl {α β ε ε' : Type} {a : α} {f : α → Option (β ⊕ ε')} {g : ε → ε'} {Q : β ⊕ ε' → Prop} (h : Ex (f a) Q) : Ex (onR (.inl a) f g) Q := h
theorem exRr {α β ε ε' : Type} {e : ε} {f : α → Option (β ⊕ ε')} {g : ε → ε'} {Q : β ⊕ ε' → Prop} (h : Q (.inr (g e))) : Ex (onR (.inr e) f g) Q := ⟨_, rfl, h⟩
theorem exWl {α β ε : Type} {a : α} {f : α → Option β} {g : ε → Option β} {Q : β → Prop} (h : Ex (f a) Q) : Ex (onW (.inl a) f g) Q := h
theorem exWr {α β ε : Type} {e : ε} {f : α → Option β} {g : ε → Option β} {Q : β → Prop} (h : Ex (g e) Q) : Ex (onW (.inr e) f g) Q := h
section AR
variable {F n : Nat} {mw mh mt : Int32} {x : Int32}
theorem cellQ (hn : n ≤ 16) (hcc : ∀ F, kX8_cells F mw mh = some (nI n)) : (∃ c, c < n ∧ x = nI c) ∨ (kX7_requireCell F (nI n) x = some (.inr 1) ∧ kX8_isCell F mw mh x = some 0) := by
  rcases pk_ix x (show n < 2 ^ 31 by omega) with h | h | ⟨c, hc, rfl⟩
  · right
    refine ⟨?_, ?_⟩
    · unfold kX7_requireCell kX0_has
      rw [if_pos h]; rfl
    · unfold kX8_isCell
      rw [if_pos h]
  · by_cases h0 : x < 0
    · right
      refine ⟨?_, ?_⟩
      · unfold kX7_requireCell kX0_has
        rw [if_pos h0]; rfl
      · unfold kX8_isCell
        rw [if_pos h0]
    · right
      refine ⟨?_, ?_⟩
      · unfold kX7_requireCell kX0_has
        rw [if_neg h0, if_pos h]; rfl
      · unfold kX8_isCell
        rw [if_neg h0]
        exact ob_i (hcc F) (by rw [if_pos h])
  · exact Or.inl ⟨c, hc, rfl⟩
theorem cell_ok {c : Nat} (hn : n ≤ 16) (hcc : ∀ F, kX8_cells F mw mh = some (nI n)) (hc : c < n) : kX7_requireCell F (nI n) (nI c) = some (.inl ()) ∧ kX8_isCell F mw mh (nI c) = some 1 := by
  refine ⟨?_, ?_⟩
  · unfold kX7_requireCell
    refine ob_i (a_has hn (by omega)) ?_
    rw [decide_eq_true hc]; rfl
  · unfold kX8_isCell
    rw [if_neg (nI_pos (by omega))]
    exact ob_i (hcc F) (by rw [if_neg (nI_ge hc (by omega))])
theorem sideQ : (∃ s, s < 4 ∧ x = nI s) ∨ (kX7_requireSide F x = some (.inr 1) ∧ kX8_isSide F x = some 0) := by
  rcases pk_ix x (show 4 < 2 ^ 31 by decide) with h | h | ⟨c, hc, rfl⟩
  · right
    unfold kX7_requireSide kX8_isSide
    exact ⟨if_pos h, if_pos h⟩
  · by_cases h0 : x < 0
    · right
      unfold kX7_requireSide kX8_isSide
      exact ⟨if_pos h0, if_pos h0⟩
    · right
      have h3 : ¬ x ≤ 3 := fun h3 => absurd (Int32.le_trans h h3) (by decide)
      unfold kX7_requireSide kX8_isSide
      exact ⟨by rw [if_neg h0, if_neg h3], by rw [if_neg h0]; exact if_pos h⟩
  · exact Or.inl ⟨c, hc, rfl⟩
theorem side_ok {s : Nat} (hs : s < 4) : kX7_requireSide F (nI s) = some (.inl ()) ∧ kX8_isSide F (nI s) = some 1 := by
  have h : ∀ s, s < 4 → (¬ nI s < 0 ∧ nI s ≤ 3 ∧ ¬ (4 : Int32) ≤ nI s) := by decide
  obtain ⟨h1, h2, h3⟩ := h s hs
  unfold kX7_requireSide kX8_isSide
  exact ⟨by rw [if_neg h1, if_pos h2], by rw [if_neg h1, if_neg h3]⟩
theorem holds8_0 : kX8_holds F mt 0 = some (1, 0) := rfl
theorem holds8_1 : kX8_holds F mt 1 = some (0, 1) := rfl
theorem holds8_2 : kX8_holds F mt 2 = some (0, 2) := rfl
theorem n10 : ¬ (1 : Int32) = 0 := by decide
theorem n20 : ¬ (2 : Int32) = 0 := by decide
theorem n21 : ¬ (2 : Int32) = 1 := by decide
theorem n01 : ¬ (0 : Nat) = 1 := by decide
theorem out0 : ix (0 : Int32) 1 = true := by decide
theorem boardQ {x1 x2 : Int32} {g : Bool} : (∃ w h, x1 = nI w ∧ x2 = nI h ∧ okS w h g = true ∧ kX7_requireBoard F x1 x2 (bI g) = some (.inl ()) ∧ kX8_isBoard F x1 x2 (bI g) = some 1) ∨ (kX7_requireBoard F x1 x2 (bI g) = some (.inr 0) ∧ kX8_isBoard F x1 x2 (bI g) = some 0) := by
  have j0 : kX8_isBoard_j33 F x1 x2 (bI g) 0 = some 0 := rfl
  have r0 : kX0_allows F x1 x2 (bI g) = some 0 → kX7_requireBoard F x1 x2 (bI g) = some (.inr 0) := fun h => by
    unfold kX7_requireBoard
    exact ob_i h rfl
  by_cases a1 : x1 < 2
  · right
    refine ⟨r0 ?_, ?_⟩
    · unfold kX0_allows; rw [if_pos a1]
    · unfold kX8_isBoard; rw [if_pos a1]; exact j0
  · by_cases a2 : 5 < x1
    · right
      refine ⟨r0 ?_, ?_⟩
      · unfold kX0_allows; rw [if_neg a1, if_pos a2]
      · unfold kX8_isBoard; rw [if_neg a1, if_pos a2]; exact j0
    · by_cases b1 : x2 < 2
      · right
        refine ⟨r0 ?_, ?_⟩
        · unfold kX0_allows; rw [if_neg a1, if_neg a2, if_pos b1]
        · unfold kX8_isBoard; rw [if_neg a1, if_neg a2, if_pos b1]; exact j0
      · by_cases b2 : 5 < x2
        · right
          have b3 : ¬ x2 ≤ 5 := Int32.not_le.mpr b2
          refine ⟨r0 ?_, ?_⟩
          · unfold kX0_allows; rw [if_neg a1, if_neg a2, if_neg b1, if_neg b3]
          · unfold kX8_isBoard; rw [if_neg a1, if_neg a2, if_neg b1, if_pos b2]; exact j0
        · have neg : ∀ x : Int32, ¬ x < 2 → ¬ 5 < x → ∃ k, 2 ≤ k ∧ k < 6 ∧ x = nI k := by
            intro x h1 h2
            have h3 : ¬ x < 0 := fun h => h1 (Int32.lt_trans h (by decide))
            obtain ⟨k, hk, rfl⟩ := nI_of2 (M := 5) (n := 5) (by decide) h3 (Int32.not_lt.mp h2)
            refine ⟨k, ?_, by omega, rfl⟩
            apply Classical.byContradiction
            intro hlt
            exact h1 (nI_lt (show k < 2 by omega) (by decide))
          obtain ⟨w, w2, w6, rfl⟩ := neg x1 a1 a2
          obtain ⟨h, h2, h6, rfl⟩ := neg x2 b1 b2
          have key : ∀ w, w < 6 → ∀ h, h < 6 → ∀ g : Bool, kX0_allows 0 (nI w) (nI h) (bI g) = some (bI (okS w h g)) ∧ kX8_isBoard 0 (nI w) (nI h) (bI g) = some (bI (okS w h g)) := by decide +kernel
          obtain ⟨k1, k2⟩ := key w w6 h h6 g
          have k1 : kX0_allows F (nI w) (nI h) (bI g) = some (bI (okS w h g)) := k1
          have k2 : kX8_isBoard F (nI w) (nI h) (bI g) = some (bI (okS w h g)) := k2
          cases e : okS w h g with
          | false =>
            rw [e] at k1 k2
            exact Or.inr ⟨r0 k1, k2⟩
          | true =>
            rw [e] at k1 k2
            refine Or.inl ⟨w, h, rfl, rfl, e, ?_, k2⟩
            unfold kX7_requireBoard
            exact ob_i k1 rfl
end AR
section AG
variable {F i : Nat} {bn bk bs : Int32} {bT bC bN bW bL : Nat → Int32} {hd hk : Int32} {hM : Nat → Int32} {nb0 nw0 nb1 nw1 : Nat} {mt mw mh mg ms mv md mu mo mf : Int32} {mT mW mK mM mR mL mP mY mF : Nat → Int32} {kp ku : Int32} {kC kS vL vS vA vT sR sI sF : Nat → Int32} {so sw : Int32} {sP : Nat → Nat → Int32} {oO : Nat → Int64} {x1 x2 x3 x4 : Int32}
theorem ag_begin {b : Bool} (hI : INV i bn bk bs bT bC bN bW hd hk hM nb0 nw0 nb1 nw1 mw mh mg ms mv md mT mW mK mM) (hF : BF F) : Ex (kL_begin F bn bk bs bT bC bN bW hd hk x1 x2 (bI b) oO) (fun r => Ex (kX8_begin F mt mw mh mg ms mv md mT mW mK x1 x2 (bI b)) (fun q => q.2.1 = r.1 ∧ (r.1 = 0 → r.2.2.2.2.2.2.2.2.2.2 0 = q.1.toInt64) ∧ INV (i + 1) r.2.1 r.2.2.1 r.2.2.2.1 r.2.2.2.2.1 r.2.2.2.2.2.1 r.2.2.2.2.2.2.1 r.2.2.2.2.2.2.2.1 r.2.2.2.2.2.2.2.2.1 r.2.2.2.2.2.2.2.2.2.1 hM nb0 nw0 nb1 nw1 q.2.2.1 q.2.2.2.1 q.2.2.2.2.1 q.2.2.2.2.2.1 q.2.2.2.2.2.2.1 q.2.2.2.2.2.2.2.1 q.2.2.2.2.2.2.2.2.1 q.2.2.2.2.2.2.2.2.2.1 q.2.2.2.2.2.2.2.2.2.2 mM)) := by
  unfold kL_begin kX7_begin kX8_begin
  rcases boardQ (F := F) (x1 := x1) (x2 := x2) (g := b) with ⟨w, h, rfl, rfl, o, e1, e2⟩ | ⟨e1, e2⟩
  · obtain ⟨w0, h0, g0, T, Wm, lm, src, hist, dn, ke, N, Y, o0, hT, hWm, hsy, hlm, hsrc, hdk, hki, hhist, rfl, rfl, rfl, rfl, hC, rfl, rfl, hN, hY, rfl, rfl, hMh, hc0, hc1, rfl, rfl, rfl, rfl, rfl, rfl, rfl, hmW, hmK, hmM⟩ := hI
    have hn := (okS_b o).2.2.2.2
    refine Ex.b (P := fun z => ∃ u, z = .inl u ∧ u.1 = nI (w * h) ∧ u.2.1 = nI (w * h) ∧ u.2.2.1 = nI 0 ∧ u.2.2.2.1 = nI 0 ∧ u.2.2.2.2.1 = fN (z16 T) ∧ (∀ c, c < w * h → u.2.2.2.2.2.1 c = nI (c % w)) ∧ u.2.2.2.2.2.2.2.2.1 = nI 0 ∧ u.2.2.2.2.2.2.2.2.2 = nI 0 ∧ ∃ N Y, u.2.2.2.2.2.2.1 = fE N ∧ u.2.2.2.2.2.2.2.1 = fE Y ∧ (∀ c s, c < w * h → s < 4 → N (c * 4 + s) = nbr w h b c s) ∧ ∀ c s, c < 16 → s < 4 → Y (c * 4 + s) = if c < w * h then nbr w h b c s else none) ?_ ?_
    · refine Ex.o e1 (exRl ?_)
      unfold kX7_startBoard
      refine Ex.b (P := fun z => z.1 = nI (w * h) ∧ z.2.1 = nI 0 ∧ z.2.2.1 = nI 0 ∧ z.2.2.2.1 = fN (z16 T) ∧ (∀ c, c < w * h → z.2.2.2.2.1 c = nI (c % w)) ∧ z.2.2.2.2.2.2.2.1 = nI 0 ∧ z.2.2.2.2.2.2.2.2 = nI 0 ∧ ∃ N Y, z.2.2.2.2.2.1 = fE N ∧ z.2.2.2.2.2.2.1 = fE Y ∧ (∀ c s, c < w * h → s < 4 → N (c * 4 + s) = nbr w h b c s) ∧ ∀ c s, c < 16 → s < 4 → Y (c * 4 + s) = if c < w * h then nbr w h b c s else none) (Ex.b (a_clear (bn := nI (w0 * h0)) (bk := nI lm) (bs := nI src) (bC := bC) (T := T) (N0 := N) (Y0 := Y) o hF.1) ?_) ?_
      · rintro ⟨z1, z2, z3, z4, z5, z6, z7⟩ ⟨g1, g2, g3, g4, g5, N1, Y1, g6, g7, g8, g9⟩
        exact Ex.o rfl (Ex.v ⟨g1, g2, g3, g4, g5, rfl, rfl, N1, Y1, g6, g7, g8, g9⟩)
      · rintro ⟨z1, z2, z3, z4, z5, z6, z7, z8, z9⟩ ⟨g1, g2, g3, g4, g5, g10, g11, N1, Y1, g6, g7, g8, g9⟩
        exact Ex.o rfl (Ex.v ⟨_, rfl, g1, g1, g2, g3, g4, g5, g10, g11, N1, Y1, g6, g7, g8, g9⟩)
    · rintro _ ⟨⟨u0, u1, u2, u3, u4, u5, u6, u7, u8, u9⟩, rfl, g0, g1, g2, g3, g4, g5, g10, g11, N1, Y1, g6, g7, g8, g9⟩
      refine exWl (Ex.t out0 (Ex.v ?_))
      refine Ex.o e2 (Ex.f (by decide) ?_)
      unfold kX8_begin_j15
      refine Ex.o holds8_0 (Ex.f (show ¬ (1 : Int32) = 0 by decide) (Ex.b (a_begins (g := b) (T := T) hF.1) ?_))
      rintro ⟨y1, y2, y3, y4, y5, y6, y7, y8, y9⟩ ⟨k1, k2, k3, k4, k5, k6, k7, k8, k9⟩
      have k1 : y1 = nI w := k1
      have k2 : y2 = nI h := k2
      subst k1 k2
      refine Ex.o (show kX8_cells F (nI w) (nI h) = some (nI (w * h)) from congrArg some (pk_mul w h)) (Ex.v ⟨rfl, fun _ => ?_, w, h, b, z16 T, fun _ => 0, 0, 0, hist, 0, 0, N1, Y1, o, z16_lt hT, fun _ => (by show 0 < 16; decide), wsy0, by decide, ?_, Nat.le_refl 0, Nat.zero_le _, fun j hj => absurd hj (Nat.not_lt_zero j), g1, g2, g3, g4, g5, g6, g7, g8, fun c s hc hs => ?_, g10, g11, fun j hj => absurd hj (Nat.not_lt_zero j), hc0, hc1, rfl, rfl, k3, k4, k5, k6, k7, k8, k9, fun j hj => absurd hj (Nat.not_lt_zero j)⟩)
      · show vp_updL oO 0 (u0.toInt64) 0 = (nI (w * h)).toInt64
        rw [pk_uLs, show u0 = nI (w * h) from g0]
      · obtain ⟨c1, c2, c3, c4, c5⟩ := okS_b o
        exact Nat.mul_pos (show 0 < w by omega) (show 0 < h by omega)
      · rw [g9 c s hc hs]
        unfold Wyf
        rw [Nat.zero_testBit]
        rfl
  · refine Ex.b (P := fun z => z = .inr (0, bn, bk, bs, bT, bC, bN, bW, hd, hk)) (Ex.o e1 (exRr rfl)) ?_
    rintro _ rfl
    refine exWr (Ex.t rfl (Ex.v ?_))
    refine Ex.o e2 (Ex.t rfl ?_)
    unfold kX8_begin_j15
    exact Ex.o holds8_1 (Ex.t rfl (Ex.v ⟨rfl, fun h => absurd h n10, hI.up⟩))
end AG
