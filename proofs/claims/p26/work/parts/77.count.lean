/-! the sweep over the board: its lists, its count -/
/-- a list of borders: how many, what they are, how many ways -/
def LSt (cnt nb : Nat) (Bs : Nat → Nat) (ws : Nat → Int32) (lc : Int32) (lb : Nat → Int64) (nw : Nat) (lw : Nat → Int32) : Prop := lc = nI cnt ∧ nw = nb ∧ 16 ≤ nb ∧ nb ≤ 2 ^ 19 ∧ cnt ≤ nb ∧ cnt ≤ 2 ^ 18 ∧ (∀ i, i < cnt → lb i = lN (Bs i) ∧ Bs i < 2 ^ 48) ∧ ∀ i, i < cnt → lw i = ws i
theorem p18 : (2 : Nat) ^ 18 = 262144 := rfl
theorem p19 : (2 : Nat) ^ 19 = 524288 := rfl
theorem p20 : (2 : Nat) ^ 20 = 1048576 := rfl
theorem cmp_0 {a b : Nat} (ha : a < 2 ^ 48) (hb : b < 2 ^ 48) : lg_cmp (lN a) (lN b) = 0 ↔ a = b := by
  have hl := pk_lLT (a := b) (b := a) (Nat.lt_trans hb (by decide)) (Nat.lt_trans ha (by decide))
  have he := pk_lEQ (a := a) (b := b) (Nat.lt_trans ha (by decide)) (Nat.lt_trans hb (by decide))
  unfold lg_cmp
  by_cases h1 : lN a > lN b
  · rw [if_pos h1]
    have := hl.mp h1
    exact ⟨fun h => absurd h (by decide), fun h => by omega⟩
  · rw [if_neg h1]
    by_cases h2 : lN a = lN b
    · rw [if_pos h2]
      exact ⟨fun _ => he.mp h2, fun _ => rfl⟩
    · rw [if_neg h2]
      exact ⟨fun h => absurd h (by decide), fun h => absurd (he.mpr h) h2⟩
section LI
variable {F : Nat}
theorem a_cpJ {nb : Nat} {p : Nat → Int64} (h1 : 16 ≤ nb) (h2 : nb ≤ 2 ^ 18) : Ex (kcpJ nb p (2 * Int32.ofNat nb)) (fun r => r.1 = 2 * nb ∧ ∀ j, j < nb → r.2 j = p j) := by
  rw [p18] at h2
  have e : (2 : Int32) * Int32.ofNat nb = nI (2 * nb) := pk_mul 2 nb
  have e2 : (if nI (2 * nb) < Int32.ofNat nb then nI (2 * nb) else Int32.ofNat nb) = nI nb := if_neg (nI_nlt (by omega) (by omega))
  unfold kcpJ
  rw [e, e2, cl_n (show 2 * nb < 2 ^ 31 by omega), cl_n (show nb < 2 ^ 31 by omega), show (0 : Int32).toNatClampNeg = 0 from rfl]
  refine Ex.f (show ¬ nI (2 * nb) = nI nb by rw [nI_eq (by omega) (by omega)]; omega) (Ex.t ?_ (Ex.t ?_ (Ex.v ⟨rfl, fun j hj => ?_⟩)))
  · unfold cpg
    rw [cl_n (by omega)]
    exact decide_eq_true ⟨nI_pos (by omega), by omega⟩
  · unfold cpok
    rw [cl_n (show nb < 2 ^ 31 by omega), show (0 : Int32).toNatClampNeg = 0 from rfl]
    exact decide_eq_true ⟨by decide, by decide, nI_pos (by omega), by omega, by omega⟩
  · show va_cpy p (fun _ => 0) 0 0 nb j = p j
    rw [pk_cpy_in (Nat.zero_le j) (by omega)]
    congr 1
    omega
theorem a_cpI {nb : Nat} {p : Nat → Int32} (h1 : 16 ≤ nb) (h2 : nb ≤ 2 ^ 18) : Ex (kcpI nb p (2 * Int32.ofNat nb)) (fun r => r.1 = 2 * nb ∧ ∀ j, j < nb → r.2 j = p j) := by
  rw [p18] at h2
  have e : (2 : Int32) * Int32.ofNat nb = nI (2 * nb) := pk_mul 2 nb
  have e2 : (if nI (2 * nb) < Int32.ofNat nb then nI (2 * nb) else Int32.ofNat nb) = nI nb := if_neg (nI_nlt (by omega) (by omega))
  unfold kcpI
  rw [e, e2, cl_n (show 2 * nb < 2 ^ 31 by omega), cl_n (show nb < 2 ^ 31 by omega), show (0 : Int32).toNatClampNeg = 0 from rfl]
  refine Ex.f (show ¬ nI (2 * nb) = nI nb by rw [nI_eq (by omega) (by omega)]; omega) (Ex.t ?_ (Ex.t ?_ (Ex.v ⟨rfl, fun j hj => ?_⟩)))
  · unfold cpg
    rw [cl_n (by omega)]
    exact decide_eq_true ⟨nI_pos (by omega), by omega⟩
  · unfold cpok
    rw [cl_n (show nb < 2 ^ 31 by omega), show (0 : Int32).toNatClampNeg = 0 from rfl]
    exact decide_eq_true ⟨by decide, by decide, nI_pos (by omega), by omega, by omega⟩
  · show va_cpy p (fun _ => 0) 0 0 nb j = p j
    rw [pk_cpy_in (Nat.zero_le j) (by omega)]
    congr 1
    omega
theorem a_room {cnt nb : Nat} {lb : Nat → Int64} {lw : Nat → Int32} (h1 : 16 ≤ nb) (h3 : nb ≤ 2 ^ 19) (h4 : cnt ≤ nb) (h5 : cnt < 2 ^ 18) : Ex (kX1_makeRoom F (nI cnt) nb lb nb lw) (fun r => cnt < r.1 ∧ r.2.2.1 = r.1 ∧ 16 ≤ r.1 ∧ r.1 ≤ 2 ^ 19 ∧ (∀ j, j < cnt → r.2.1 j = lb j) ∧ ∀ j, j < cnt → r.2.2.2 j = lw j) := by
  rw [p19] at h3 ⊢
  rw [p18] at h5
  unfold kX1_makeRoom
  by_cases h : cnt < nb
  · exact Ex.t (show nI cnt < nI nb from nI_lt h (by omega)) (Ex.v ⟨h, rfl, h1, h3, fun _ _ => rfl, fun _ _ => rfl⟩)
  · have e : cnt = nb := by omega
    subst e
    refine Ex.f (show ¬ nI cnt < nI cnt from nI_nlt (Nat.le_refl _) (by omega)) (Ex.f ?_ (Ex.b (a_cpJ h1 (by rw [p18]; omega)) ?_))
    · rw [show (2 : Int32) * Int32.ofNat cnt = nI (2 * cnt) from pk_mul 2 cnt]
      exact nI_nle (by omega) (by omega)
    · rintro ⟨a1, a2⟩ ⟨e1, g1⟩
      have e1 : a1 = 2 * cnt := e1
      subst e1
      refine Ex.b (a_cpI h1 (by rw [p18]; omega)) ?_
      rintro ⟨b1, b2⟩ ⟨e2, g2⟩
      have e2 : b1 = 2 * cnt := e2
      subst e2
      refine Ex.t (decide_eq_true ⟨h1, h1, rfl, rfl⟩) (Ex.v ⟨?_, rfl, ?_, ?_, g1, g2⟩)
      · show cnt < 2 * cnt; omega
      · show 16 ≤ 2 * cnt; omega
      · show 2 * cnt ≤ 524288; omega
theorem a_add {cnt nb nw B : Nat} {Bs : Nat → Nat} {ws : Nat → Int32} {lc x : Int32} {lb : Nat → Int64} {lw : Nat → Int32} (hl : LSt cnt nb Bs ws lc lb nw lw) (hB : B < 2 ^ 48) (hnew : (∀ i, i < cnt → Bs i ≠ B) → cnt < 2 ^ 18) (hF : 2 ^ 20 ≤ F) : Ex (kX1_add F lc nb lb nw lw (lN B) x) (fun r => ∃ cnt' Bs' ws', LSt cnt' r.2.1 Bs' ws' r.1 r.2.2.1 r.2.2.2.1 r.2.2.2.2 ∧ ((cnt' = cnt ∧ Bs' = Bs ∧ ∃ i, i < cnt ∧ Bs i = B ∧ ws' = up ws i (ws i + x)) ∨ (cnt' = cnt + 1 ∧ (∀ i, i < cnt → Bs i ≠ B) ∧ Bs' = up Bs cnt B ∧ ws' = up ws cnt x))) := by
  obtain ⟨rfl, rfl, l1, l2, l3, l4, l5, l6⟩ := hl
  rw [p20] at hF
  have l2' := l2
  have l4' := l4
  rw [p19] at l2'
  rw [p18] at l4'
  unfold kX1_add
  refine Ex.b (P := fun t => (t.1 = 1 ∧ t.2 = nI cnt ∧ ∀ j, j < cnt → Bs j ≠ B) ∨ (t.1 = 0 ∧ ∃ i, i < cnt ∧ t.2 = nI i ∧ Bs i = B)) (Ex.fr cnt (fun i s => s = nI i ∧ ∀ j, j < i → Bs j ≠ B) ⟨rfl, fun j hj => absurd hj (Nat.not_lt_zero j)⟩ ?_ ?_ (by omega)) ?_
  · rintro i s hi ⟨rfl, h⟩
    show Ex (kX1_add_s3 F nw nw (nI cnt) lb (lN B) (nI i)) _
    unfold kX1_add_s3
    rw [cl_n (show i < 2 ^ 31 by omega), (l5 i hi).1]
    refine Ex.f (nI_ge hi (by omega)) (Ex.f (show ¬ nI nw ≤ nI i from nI_ge (by omega) (by omega)) (Ex.f (show ¬ nI nw ≤ nI i from nI_ge (by omega) (by omega)) (Ex.t (ix_n (by omega) (by omega)) ?_)))
    by_cases e : Bs i = B
    · exact Ex.t ((cmp_0 (l5 i hi).2 hB).mpr e) (Ex.v (Or.inr ⟨rfl, i, hi, rfl, e⟩))
    · refine Ex.f (fun x => e ((cmp_0 (l5 i hi).2 hB).mp x)) (Ex.v ⟨nI_1 i, fun j hj => ?_⟩)
      by_cases ej : j = i
      · subst ej; exact e
      · exact h j (by omega)
  · rintro s ⟨rfl, h⟩
    show Ex (kX1_add_s3 F nw nw (nI cnt) lb (lN B) (nI cnt)) _
    unfold kX1_add_s3
    exact Ex.t (nI_le (Nat.le_refl cnt) (by omega)) (Ex.v (Or.inl ⟨rfl, rfl, h⟩))
  · rintro ⟨t0, t1⟩ (⟨e0, e1, h⟩ | ⟨e0, i, hi, e1, h⟩)
    · have e0 : t0 = 1 := e0
      have e1 : t1 = nI cnt := e1
      subst e0 e1
      have hc := hnew h
      have hc' := hc
      rw [p18] at hc'
      refine Ex.f (show ¬ (1 : Nat) = 0 by decide) (Ex.b (a_room l1 l2 l3 hc) ?_)
      rintro ⟨r1, r2, r3, r4⟩ ⟨g1, g2, g3, g4, g5, g6⟩
      have g2 : r3 = r1 := g2
      subst g2
      have g1 : cnt < r3 := g1
      have g4' : r3 ≤ 2 ^ 19 := g4
      rw [p19] at g4'
      have g5 : ∀ j, j < cnt → r2 j = lb j := g5
      have g6 : ∀ j, j < cnt → r4 j = lw j := g6
      rw [cl_n (show cnt < 2 ^ 31 by omega)]
      refine Ex.f (nI_pos (by omega)) (Ex.f (show ¬ nI r3 ≤ nI cnt from nI_ge g1 (by omega)) (Ex.f (show ¬ nI r3 ≤ nI cnt from nI_ge g1 (by omega)) (Ex.t (show ix (nI cnt) r3 = true from ix_n g1 (by omega)) (Ex.t (show ix (nI cnt) r3 = true from ix_n g1 (by omega)) (Ex.v ⟨cnt + 1, up Bs cnt B, up ws cnt x, ⟨nI_1 cnt, rfl, g3, g4, g1, by omega, fun j hj => ?_, fun j hj => ?_⟩, Or.inr ⟨rfl, h, rfl, rfl⟩⟩)))))
      · show vp_updL r2 cnt (lN B) j = lN (up Bs cnt B j) ∧ _
        by_cases ej : j = cnt
        · subst ej; rw [pk_uLs, up_s]; exact ⟨rfl, hB⟩
        · rw [pk_uLn ej, up_n ej, g5 j (by omega)]; exact l5 j (by omega)
      · show upd r4 cnt x j = up ws cnt x j
        by_cases ej : j = cnt
        · subst ej; rw [pk_us, up_s]
        · rw [pk_un ej, up_n ej, g6 j (by omega)]; exact l6 j (by omega)
    · have e0 : t0 = 0 := e0
      have e1 : t1 = nI i := e1
      subst e0 e1
      rw [cl_n (show i < 2 ^ 31 by omega)]
      refine Ex.t rfl (Ex.t (ix_n (by omega) (by omega)) (Ex.t (ix_n (by omega) (by omega)) (Ex.v ⟨cnt, Bs, up ws i (ws i + x), ⟨rfl, rfl, l1, l2, l3, l4, l5, fun j hj => ?_⟩, Or.inl ⟨rfl, rfl, i, hi, h, rfl⟩⟩)))
      show upd lw i (lw i + x) j = _
      by_cases ej : j = i
      · subst ej; rw [pk_us, up_s, l6 j hj]
      · rw [pk_un ej, up_n ej]; exact l6 j hj
end LI
/-- what a list stands for: different borders, each of some lays -/
def GL (Wy : Nat → Nat → Option Nat) (P : Nat → Nat → Nat) (T : Nat → Nat) (c cnt : Nat) (Bs : Nat → Nat) : Prop := (∀ i, i < cnt → ∃ a, Rep Wy P T c a (Bs i)) ∧ ∀ i j, i < cnt → j < cnt → Bs i = Bs j → i = j
noncomputable def VV (Wy : Nat → Nat → Option Nat) (P : Nat → Nat → Nat) (T O : Nat → Nat) (n c cnt : Nat) (Bs : Nat → Nat) (ws : Nat → Int32) : Int32 := smI (fun i => ws i * Nb Wy P T O n c (Bs i)) cnt
theorem LSt.cl {F nb : Nat} {lc : Int32} : kX1_clear F lc = some (nI 0) := rfl
section SWP
variable {F n w h lm : Nat} {g : Bool} {Wy : Nat → Nat → Option Nat} {T : Nat → Nat} {N0 Y : Nat → Option Nat} {bC : Nat → Int32}
theorem plOK (o : okS w h g = true) (hW : WOK (w * h) Wy) (hWn : ∀ c s d, s < 4 → Wy c s = some d → nbr w h g c s = some d) : PlOK Wy (plc w h g) := by
  refine ⟨fun x s y hs e => ?_, fun c x s y x' s' y' hs hs' e e' h1 h2 h3 h4 he => ?_⟩
  · have hx := (hW.2.1 x s y hs e).1
    have := geo o hx hs (hWn x s y hs e)
    exact ⟨this.1, this.2.1⟩
  · have a := (geo o (hW.2.1 x s y hs e).1 hs (hWn x s y hs e)).2.2.2 c h1 h2
    have b := (geo o (hW.2.1 x' s' y' hs' e').1 hs' (hWn x' s' y' hs' e')).2.2.2 c h3 h4
    rw [he, b] at a
    have a1 := congrArg Prod.fst a
    have a2 := congrArg Prod.snd a
    exact ⟨a1.symm, a2.symm⟩
theorem a_placeOf {c s d : Nat} (o : okS w h g = true) (hN : ∀ c s, c < w * h → s < 4 → N0 (c * 4 + s) = nbr w h g c s) (hC : ∀ c, c < w * h → bC c = nI (c % w)) (hc : c < w * h) (hs : s < 4) (e : nbr w h g c s = some d) : kX6_placeOf F bC (fE N0) (nI c) (nI s) = some (nI (plc w h g c s)) := by
  have hn : w * h ≤ 16 := (okS_b o).2.2.2.2
  have hd := (nb_lt o hc hs e).1
  have hp : plc w h g c s = (if s % 2 = 0 then c % w else 5) + (if decide (c < d) = decide (s = 1 ∨ s = 2) then 0 else 6) := by
    unfold plc
    rw [e]
  have hcol : kX0_columnOf F bC (nI c) = some (nI (c % w)) := by
    unfold kX0_columnOf
    exact ob_i (a_at (by decide) (by omega)) (by rw [hC c hc])
  have end66 : ∀ (x : Nat) (b : Bool), kX6_placeOf_j66 F (bI b) (nI x) = some (nI (x + if b = true then 6 else 0)) := by
    intro x b
    unfold kX6_placeOf_j66
    cases b with
    | false => rw [if_pos bI_f]; rfl
    | true => rw [if_neg bI_n, show (6 : Int32) = nI 6 from rfl, nI_add]; rfl
  have end43 : ∀ b : Bool, kX6_placeOf_j43 F bC (nI c) (nI s) (bI b) = some (nI ((if s % 2 = 0 then c % w else 5) + if b = true then 6 else 0)) := by
    intro b
    unfold kX6_placeOf_j43
    have hs' : s = 0 ∨ s = 1 ∨ s = 2 ∨ s = 3 := by omega
    rcases hs' with rfl | rfl | rfl | rfl
    · rw [if_pos (by decide)]
      exact ob_i hcol (end66 _ b)
    · rw [if_neg (by decide), if_neg (by decide)]
      exact end66 5 b
    · rw [if_neg (by decide), if_pos (by decide)]
      exact ob_i hcol (end66 _ b)
    · rw [if_neg (by decide), if_neg (by decide)]
      exact end66 5 b
  have end18 : ∀ r : Bool, kX6_placeOf_j18 F bC (nI c) (nI s) (bI r) = some (nI ((if s % 2 = 0 then c % w else 5) + if r = decide (s = 1 ∨ s = 2) then 0 else 6)) := by
    intro r
    have e35 : ∀ v : Bool, kX6_placeOf_j35 F bC (nI c) (nI s) (bI r) (bI v) = some (nI ((if s % 2 = 0 then c % w else 5) + if r = v then 0 else 6)) := by
      intro v
      unfold kX6_placeOf_j35
      by_cases ev : r = v
      · rw [if_pos (by rw [ev]), if_pos ev]
        exact end43 false
      · rw [if_neg (fun x => ev ((bI_e _ _).mp x)), if_neg ev]
        exact end43 true
    unfold kX6_placeOf_j18
    have hs' : s = 0 ∨ s = 1 ∨ s = 2 ∨ s = 3 := by omega
    rcases hs' with rfl | rfl | rfl | rfl
    · rw [if_neg (by decide), if_neg (by decide)]; exact e35 false
    · rw [if_pos (by decide)]; exact e35 true
    · rw [if_neg (by decide), if_pos (by decide)]; exact e35 true
    · rw [if_neg (by decide), if_neg (by decide)]; exact e35 false
  unfold kX6_placeOf
  refine ob_i (a_beside (by omega) hs) ?_
  rw [hN c s hc hs, e]
  show (if nI d ≤ nI c then _ else _ : Option Int32) = _
  rw [hp]
  by_cases hcd : c < d
  · rw [if_neg (nI_ge hcd (by omega)), decide_eq_true hcd]
    exact end18 true
  · rw [if_pos (nI_le (by omega) (by omega)), decide_eq_false hcd]
    exact end18 false
theorem a_sw25 {c k q m0 nb0 nw0 : Nat} {Bs0 : Nat → Nat} {ws0 : Nat → Int32} {lc0 : Int32} {lb0 : Nat → Int64} {lw0 : Nat → Int32} {a : Nat → Nat} {V0 : Int32} {wP wN : Nat → Int32} {lc : Int32} {nb nw : Nat} {lb : Nat → Int64} {lw : Nat → Int32} {cnt : Nat} {Bs : Nat → Nat} {ws : Nat → Int32} (o : okS w h g = true) (hW : WOK (w * h) Wy) (hWn : ∀ c s d, s < 4 → Wy c s = some d → nbr w h g c s = some d) (hT : ∀ j, T j < 16) (hY : ∀ c s, c < 16 → s < 4 → Y (c * 4 + s) = Wy c s) (hN : ∀ c s, c < w * h → s < 4 → N0 (c * 4 + s) = nbr w h g c s) (hC : ∀ c, c < w * h → bC c = nI (c % w)) (hlm : lm < 2 ^ 16) (hc : c < w * h) (hL0 : LSt m0 nb0 Bs0 ws0 lc0 lb0 nw0 lw0) (hk : k < m0) (ha : Rep Wy (plc w h g) T c a (Bs0 k)) (hL : LSt cnt nb Bs ws lc lb nw lw) (hG : GL Wy (plc w h g) T (c + 1) cnt Bs) (hV : VV Wy (plc w h g) T (ownA T lm (w * h)) (w * h) (c + 1) cnt Bs ws = V0) (hq : nP (fun i => prS Wy T (ownA T lm (w * h)) (w * h) c (up a c i)) 4 ≤ q) (hcn : cnt ≤ q * k) (hcap : ∀ cnt2 Bs2, GL Wy (plc w h g) T (c + 1) cnt2 Bs2 → cnt2 ≤ q * m0 → cnt2 ≤ 2 ^ 18) (hF : 2 ^ 20 ≤ F) : Ex (kloop F (fun s_ => kX6_sweepOver_s25 F nb0 nw0 (nI (w * h)) (fN T) bC (fE N0) (fE Y) lc0 lb0 lw0 (nI c) (nI (ownM (T c) (lm.testBit c))) (nI k) s_.1 s_.2.1 s_.2.2.1 s_.2.2.2.1 s_.2.2.2.2.1 s_.2.2.2.2.2.1 s_.2.2.2.2.2.2.1 s_.2.2.2.2.2.2.2) (0, wP, wN, lc, nb, lb, nw, lw)) (fun r => ∃ cnt' Bs' ws', LSt cnt' r.2.2.2.1 Bs' ws' r.2.2.1 r.2.2.2.2.1 r.2.2.2.2.2.1 r.2.2.2.2.2.2 ∧ GL Wy (plc w h g) T (c + 1) cnt' Bs' ∧ VV Wy (plc w h g) T (ownA T lm (w * h)) (w * h) (c + 1) cnt' Bs' ws' = V0 + ws0 k * Nb Wy (plc w h g) T (ownA T lm (w * h)) (w * h) c (Bs0 k) ∧ cnt' ≤ q * (k + 1)) := by
  have hP := plOK o hW hWn
  have hn := hW.1
  have hF' := hF
  rw [p20] at hF'
  have hpo : ∀ F c s d, c < w * h → s < 4 → Wy c s = some d → kX6_placeOf F bC (fE N0) (nI c) (nI s) = some (nI (plc w h g c s)) := fun F c s d hc hs e => a_placeOf o hN hC hc hs (hWn c s d hs e)
  obtain ⟨rfl, rfl, b1, b2, b3, b4, b5, b6⟩ := hL0
  have b2' := b2
  rw [p19] at b2'
  have hO : ∀ i, (ownM (T c) (lm.testBit c)).testBit i = (ownA T lm (w * h) c).testBit i := fun i => by unfold ownA; rw [if_pos hc]
  have hNb : Nb Wy (plc w h g) T (ownA T lm (w * h)) (w * h) c (Bs0 k) = iter (fun l s => s + cif (prS Wy T (ownA T lm (w * h)) (w * h) c (up a c l)) (cS Wy T (ownA T lm (w * h)) (w * h) (w * h - c - 1) (up a c l)) 0) 4 0 := by
    rw [Nb_e hW hT hY hP hpo (by omega) ha, ← cS_s (m := w * h - c - 1) (by omega)]
    congr 1
    omega
  rw [hNb]
  generalize hf : (fun (l : Nat) (s : Int32) => s + cif (prS Wy T (ownA T lm (w * h)) (w * h) c (up a c l)) (cS Wy T (ownA T lm (w * h)) (w * h) (w * h - c - 1) (up a c l)) 0) = f
  have hfl : ∀ l s, f l s = s + cif (prS Wy T (ownA T lm (w * h)) (w * h) c (up a c l)) (cS Wy T (ownA T lm (w * h)) (w * h) (w * h - c - 1) (up a c l)) 0 := fun l s => by rw [← hf]
  have hu : ∀ l, up a c l c = l := fun l => up_s
  refine Ex.fr 4 (fun l s => s.1 = nI l ∧ ∃ cnt' Bs' ws', LSt cnt' s.2.2.2.2.1 Bs' ws' s.2.2.2.1 s.2.2.2.2.2.1 s.2.2.2.2.2.2.1 s.2.2.2.2.2.2.2 ∧ GL Wy (plc w h g) T (c + 1) cnt' Bs' ∧ VV Wy (plc w h g) T (ownA T lm (w * h)) (w * h) (c + 1) cnt' Bs' ws' = V0 + ws0 k * iter f l 0 ∧ cnt' ≤ q * k + nP (fun i => prS Wy T (ownA T lm (w * h)) (w * h) c (up a c i)) l) ⟨rfl, cnt, Bs, ws, hL, hG, ?_, hcn⟩ ?_ ?_ (by omega)
  · show _ = V0 + ws0 k * 0
    rw [Int32.mul_zero, Int32.add_zero]; exact hV
  · rintro l ⟨s0, P1, N1, c1, n1, B1, n2, W1⟩ hl ⟨e0, cnt1, Bs1, ws1, hL1, hG1, hV1, hc1⟩
    have e0 : s0 = nI l := e0
    subst e0
    have hL1 : LSt cnt1 n1 Bs1 ws1 c1 B1 n2 W1 := hL1
    show Ex (kX6_sweepOver_s25 F nw0 nw0 (nI (w * h)) (fN T) bC (fE N0) (fE Y) (nI m0) lb0 lw0 (nI c) (nI (ownM (T c) (lm.testBit c))) (nI k) (nI l) P1 N1 c1 n1 B1 n2 W1) _
    unfold kX6_sweepOver_s25
    have hol := ownM_lt (T c) (lm.testBit c)
    refine Ex.f (show ¬ (4 : Int32) ≤ nI l from nI_ge hl (by decide)) (Ex.o (a_holds (by omega) (by omega)) ?_)
    -- a lay that does not pass
    have no : ¬ prS Wy T (ownA T lm (w * h)) (w * h) c (up a c l) → VV Wy (plc w h g) T (ownA T lm (w * h)) (w * h) (c + 1) cnt1 Bs1 ws1 = V0 + ws0 k * iter f (l + 1) 0 ∧ cnt1 ≤ q * k + nP (fun i => prS Wy T (ownA T lm (w * h)) (w * h) c (up a c i)) (l + 1) := by
      intro hno
      refine ⟨?_, by rw [nP_s0 hno]; exact hc1⟩
      show _ = V0 + ws0 k * f l (iter f l 0)
      rw [hfl, cif_f hno, Int32.add_zero]; exact hV1
    cases el : (ownM (T c) (lm.testBit c)).testBit l with
    | false =>
      have := no (fun hp => by have := hp.1; rw [hu, ← hO, el] at this; cases this)
      exact Ex.t bI_f (Ex.v ⟨nI_1 l, cnt1, Bs1, ws1, hL1, hG1, this.1, this.2⟩)
    | true =>
      have eB : kX1_borderAt F (nI m0) nw0 lb0 (nI k) = some (lN (Bs0 k)) := by
        unfold kX1_borderAt
        rw [if_neg (nI_pos (by omega)), if_neg (nI_ge hk (by omega)), if_neg (show ¬ Int32.ofNat nw0 ≤ nI k from nI_ge (by omega) (by omega)), if_pos (ix_n (by omega) (by omega)), cl_n (by omega), (b5 k hk).1]
      have eWy : kX1_waysAt F (nI m0) nw0 lw0 (nI k) = some (ws0 k) := by
        unfold kX1_waysAt
        rw [if_neg (nI_pos (by omega)), if_neg (nI_ge hk (by omega)), if_neg (show ¬ Int32.ofNat nw0 ≤ nI k from nI_ge (by omega) (by omega)), if_pos (ix_n (by omega) (by omega)), cl_n (by omega), b6 k hk]
      refine Ex.f bI_n (Ex.o eB (Ex.b (a_unpack (b5 k hk).2 (by omega)) ?_))
      intro v1 hv1
      refine Ex.o (a_sidesOf (by omega)) (Ex.o (a_turned (hT c) hl) (Ex.b (a_step (k := l) hW hT hY hP hc (fun s d hs e => hpo F c s d hc hs e) ha hv1 (by omega)) ?_))
      rintro ⟨r0, v2⟩ ⟨x, ex, hx, hpk⟩
      have ex : r0 = bI x := ex
      subst ex
      cases x with
      | false =>
        have := no (fun hp => by have := hx.mpr hp.2; cases this)
        exact Ex.t bI_f (Ex.v ⟨nI_1 l, cnt1, Bs1, ws1, hL1, hG1, this.1, this.2⟩)
      | true =>
        have hp : prS Wy T (ownA T lm (w * h)) (w * h) c (up a c l) := ⟨by rw [hu, ← hO]; exact el, hx.mp rfl⟩
        refine Ex.f bI_n (Ex.b (hpk rfl N1) ?_)
        rintro ⟨q0, N2⟩ ⟨B', eq, hR'⟩
        have eq : q0 = lN B' := eq
        subst eq
        have hmono : nP (fun i => prS Wy T (ownA T lm (w * h)) (w * h) c (up a c i)) (l + 1) ≤ q := Nat.le_trans (nP_mono _ (by omega)) hq
        have hs1 : nP (fun i => prS Wy T (ownA T lm (w * h)) (w * h) c (up a c i)) (l + 1) = nP (fun i => prS Wy T (ownA T lm (w * h)) (w * h) c (up a c i)) l + 1 := nP_s1 hp
        have hqk : q * k + q ≤ q * m0 := by
          have := Nat.mul_le_mul_left q (show k + 1 ≤ m0 by omega)
          rw [Nat.mul_add, Nat.mul_one] at this
          exact this
        have gnew : (∀ i, i < cnt1 → Bs1 i ≠ B') → GL Wy (plc w h g) T (c + 1) (cnt1 + 1) (up Bs1 cnt1 B') := by
          intro hne
          refine ⟨fun i hi => ?_, fun i j hi hj he => ?_⟩
          · by_cases ei : i = cnt1
            · subst ei; rw [up_s]; exact ⟨_, hR'⟩
            · rw [up_n ei]; exact hG1.1 i (by omega)
          · by_cases ei : i = cnt1
            · by_cases ej : j = cnt1
              · rw [ei, ej]
              · rw [ei, up_s, up_n ej] at he
                exact absurd he.symm (hne j (by omega))
            · by_cases ej : j = cnt1
              · rw [ej, up_s, up_n ei] at he
                exact absurd he (hne i (by omega))
              · rw [up_n ei, up_n ej] at he
                exact hG1.2 i j (by omega) (by omega) he
        refine Ex.o eWy (Ex.b (a_add (x := ws0 k) hL1 hR'.2.2 (fun hne => by
          have := hcap (cnt1 + 1) _ (gnew hne) (by omega)
          omega) hF) ?_)
        rintro ⟨z0, z1, z2, z3, z4⟩ ⟨cnt2, Bs2, ws2, hL2, hcase⟩
        have hNb' : Nb Wy (plc w h g) T (ownA T lm (w * h)) (w * h) (c + 1) B' = cS Wy T (ownA T lm (w * h)) (w * h) (w * h - c - 1) (up a c l) := by
          rw [Nb_e hW hT hY hP hpo (by omega) hR']
          congr 1
        have hsum : V0 + ws0 k * iter f (l + 1) 0 = VV Wy (plc w h g) T (ownA T lm (w * h)) (w * h) (c + 1) cnt1 Bs1 ws1 + ws0 k * Nb Wy (plc w h g) T (ownA T lm (w * h)) (w * h) (c + 1) B' := by
          show V0 + ws0 k * f l (iter f l 0) = _
          rw [hfl, cif_t hp, Int32.mul_add, ← Int32.add_assoc, hV1, hNb']
        rcases hcase with ⟨e1, e2, i, hi, e3, e4⟩ | ⟨e1, e2, e3, e4⟩
        · subst e1 e2 e4
          refine Ex.v ⟨nI_1 l, cnt2, Bs2, _, hL2, hG1, ?_, by rw [hs1]; omega⟩
          rw [hsum]
          show smI (fun j => up ws1 i (ws1 i + ws0 k) j * Nb _ _ _ _ _ (c + 1) (Bs2 j)) cnt2 = _
          rw [smI_up hi, e3]
          rfl
        · subst e1 e3 e4
          refine Ex.v ⟨nI_1 l, cnt1 + 1, _, _, hL2, gnew e2, ?_, by rw [hs1]; omega⟩
          rw [hsum]
          show smI (fun j => up ws1 cnt1 (ws0 k) j * Nb _ _ _ _ _ (c + 1) (up Bs1 cnt1 B' j)) cnt1 + up ws1 cnt1 (ws0 k) cnt1 * Nb _ _ _ _ _ (c + 1) (up Bs1 cnt1 B' cnt1) = _
          rw [up_s, up_s]
          congr 1
          exact smI_congr (fun j hj => by rw [up_n (by omega), up_n (by omega)])
  · rintro ⟨s0, P1, N1, c1, n1, B1, n2, W1⟩ ⟨e0, cnt1, Bs1, ws1, hL1, hG1, hV1, hc1⟩
    have e0 : s0 = nI 4 := e0
    subst e0
    show Ex (kX6_sweepOver_s25 F nw0 nw0 (nI (w * h)) (fN T) bC (fE N0) (fE Y) (nI m0) lb0 lw0 (nI c) (nI (ownM (T c) (lm.testBit c))) (nI k) (nI 4) P1 N1 c1 n1 B1 n2 W1) _
    unfold kX6_sweepOver_s25
    refine Ex.t (by decide) (Ex.v ⟨cnt1, Bs1, ws1, hL1, hG1, hV1, ?_⟩)
    rw [Nat.mul_add, Nat.mul_one]
    omega
theorem a_sweepOver {c q m0 nb0 nw0 : Nat} {Bs0 : Nat → Nat} {ws0 : Nat → Int32} {lc0 : Int32} {lb0 : Nat → Int64} {lw0 : Nat → Int32} {wP wN : Nat → Int32} {nb nw : Nat} {lb : Nat → Int64} {lw : Nat → Int32} (o : okS w h g = true) (hW : WOK (w * h) Wy) (hWn : ∀ c s d, s < 4 → Wy c s = some d → nbr w h g c s = some d) (hT : ∀ j, T j < 16) (hY : ∀ c s, c < 16 → s < 4 → Y (c * 4 + s) = Wy c s) (hN : ∀ c s, c < w * h → s < 4 → N0 (c * 4 + s) = nbr w h g c s) (hC : ∀ c, c < w * h → bC c = nI (c % w)) (hlm : lm < 2 ^ 16) (hc : c < w * h) (hL0 : LSt m0 nb0 Bs0 ws0 lc0 lb0 nw0 lw0) (hG0 : GL Wy (plc w h g) T c m0 Bs0) (hcp : nw = nb ∧ 16 ≤ nb ∧ nb ≤ 2 ^ 19) (hq : ∀ a, nP (fun i => prS Wy T (ownA T lm (w * h)) (w * h) c (up a c i)) 4 ≤ q) (hcap : ∀ cnt2 Bs2, GL Wy (plc w h g) T (c + 1) cnt2 Bs2 → cnt2 ≤ q * m0 → cnt2 ≤ 2 ^ 18) (hF : 2 ^ 20 ≤ F) : Ex (kX6_sweepOver F (nI (w * h)) (nI lm) (fN T) bC (fE N0) (fE Y) wP wN lc0 nb0 lb0 nw0 lw0 (nI 0) nb lb nw lw (nI c)) (fun r => ∃ cnt' Bs' ws', LSt cnt' r.2.2.2.1 Bs' ws' r.2.2.1 r.2.2.2.2.1 r.2.2.2.2.2.1 r.2.2.2.2.2.2 ∧ GL Wy (plc w h g) T (c + 1) cnt' Bs' ∧ VV Wy (plc w h g) T (ownA T lm (w * h)) (w * h) (c + 1) cnt' Bs' ws' = VV Wy (plc w h g) T (ownA T lm (w * h)) (w * h) c m0 Bs0 ws0 ∧ cnt' ≤ q * m0) := by
  have hn := hW.1
  have hF' := hF
  rw [p20] at hF'
  have hm0 := hL0.2.2.2.2.2.1
  rw [p18] at hm0
  have hlc := hL0.1
  subst hlc
  unfold kX6_sweepOver
  refine Ex.o (a_ownLays hT (by omega) hlm) (Ex.b (P := fun r => ∃ cnt' Bs' ws', LSt cnt' r.2.2.2.1 Bs' ws' r.2.2.1 r.2.2.2.2.1 r.2.2.2.2.2.1 r.2.2.2.2.2.2 ∧ GL Wy (plc w h g) T (c + 1) cnt' Bs' ∧ VV Wy (plc w h g) T (ownA T lm (w * h)) (w * h) (c + 1) cnt' Bs' ws' = VV Wy (plc w h g) T (ownA T lm (w * h)) (w * h) c m0 Bs0 ws0 ∧ cnt' ≤ q * m0) (Ex.fr m0 (fun k s => s.1 = nI k ∧ ∃ cnt' Bs' ws', LSt cnt' s.2.2.2.2.1 Bs' ws' s.2.2.2.1 s.2.2.2.2.2.1 s.2.2.2.2.2.2.1 s.2.2.2.2.2.2.2 ∧ GL Wy (plc w h g) T (c + 1) cnt' Bs' ∧ VV Wy (plc w h g) T (ownA T lm (w * h)) (w * h) (c + 1) cnt' Bs' ws' = smI (fun i => ws0 i * Nb Wy (plc w h g) T (ownA T lm (w * h)) (w * h) c (Bs0 i)) k ∧ cnt' ≤ q * k) ⟨rfl, 0, fun _ => 0, fun _ => 0, ⟨rfl, hcp.1, hcp.2.1, hcp.2.2, Nat.zero_le _, Nat.zero_le _, fun i hi => absurd hi (Nat.not_lt_zero i), fun i hi => absurd hi (Nat.not_lt_zero i)⟩, ⟨fun i hi => absurd hi (Nat.not_lt_zero i), fun i j hi => absurd hi (Nat.not_lt_zero i)⟩, rfl, Nat.zero_le _⟩ ?_ ?_ (by omega)) ?_)
  · rintro k ⟨s0, P1, N1, c1, n1, B1, n2, W1⟩ hk ⟨e0, cnt1, Bs1, ws1, hL1, hG1, hV1, hc1⟩
    have e0 : s0 = nI k := e0
    subst e0
    have hL1 : LSt cnt1 n1 Bs1 ws1 c1 B1 n2 W1 := hL1
    show Ex (kX6_sweepOver_s11 F nb0 nw0 (nI (w * h)) (fN T) bC (fE N0) (fE Y) (nI m0) lb0 lw0 (nI c) (nI (ownM (T c) (lm.testBit c))) (nI k) P1 N1 c1 n1 B1 n2 W1) _
    unfold kX6_sweepOver_s11
    obtain ⟨a, ha⟩ := hG0.1 k hk
    refine Ex.o (show kX1_count F (nI m0) = some (nI m0) from rfl) (Ex.f (nI_ge hk (by omega)) (Ex.b (a_sw25 o hW hWn hT hY hN hC hlm hc hL0 hk ha hL1 hG1 hV1 (hq a) hc1 hcap hF) ?_))
    rintro ⟨r0, r1, r2, r3, r4, r5, r6⟩ ⟨cnt2, Bs2, ws2, hL2, hG2, hV2, hc2⟩
    exact Ex.v ⟨nI_1 k, cnt2, Bs2, ws2, hL2, hG2, hV2, hc2⟩
  · rintro ⟨s0, P1, N1, c1, n1, B1, n2, W1⟩ ⟨e0, hh⟩
    have e0 : s0 = nI m0 := e0
    subst e0
    show Ex (kX6_sweepOver_s11 F nb0 nw0 (nI (w * h)) (fN T) bC (fE N0) (fE Y) (nI m0) lb0 lw0 (nI c) (nI (ownM (T c) (lm.testBit c))) (nI m0) P1 N1 c1 n1 B1 n2 W1) _
    unfold kX6_sweepOver_s11
    exact Ex.o (show kX1_count F (nI m0) = some (nI m0) from rfl) (Ex.t (nI_le (Nat.le_refl m0) (by omega)) (Ex.v hh))
  · rintro ⟨r0, r1, r2, r3, r4, r5, r6⟩ hh
    exact Ex.v hh
def capQ (c : Nat) : Nat := if c = 0 then 4 else 3
def capM (c : Nat) : Nat := if c = 0 then 1 else 4 * 3 ^ (c - 1)
theorem capM_s (c : Nat) : capM (c + 1) = capQ c * capM c := by
  unfold capM capQ
  rw [if_neg (by omega), show c + 1 - 1 = c by omega]
  by_cases h : c = 0
  · subst h; rfl
  · rw [if_neg h, if_neg h]
    obtain ⟨d, rfl⟩ : ∃ d, c = d + 1 := ⟨c - 1, by omega⟩
    rw [show d + 1 - 1 = d by omega, Nat.pow_succ]
    omega
theorem cap_q {c : Nat} (o : okS w h g = true) (hW : WOK (w * h) Wy) (hWn : ∀ c s d, s < 4 → Wy c s = some d → nbr w h g c s = some d) (hT : ∀ j, T j < 16) (hc : c < w * h) (a : Nat → Nat) : nP (fun i => prS Wy T (ownA T lm (w * h)) (w * h) c (up a c i)) 4 ≤ capQ c := by
  unfold capQ
  by_cases h0 : c = 0
  · rw [if_pos h0]; exact nP_le _ 4
  · rw [if_neg h0]
    obtain ⟨w2, -⟩ := okS_b o
    by_cases hr : 0 < c % w
    · refine three (s := 3) hW hT hc (by decide) ?_
      cases e : Wy c 3 with
      | none => exact Or.inl rfl
      | some d =>
        have := hWn c 3 d (by decide) e
        have h3 : nbr w h g c 3 = some (c - 1) := by
          unfold nbr
          rw [if_neg (by decide), if_neg (by decide), if_neg (by decide), if_pos hr]
        rw [h3] at this
        cases this
        exact Or.inr ⟨_, by omega, rfl⟩
    · refine three (s := 0) hW hT hc (by decide) ?_
      have hwc : w ≤ c := by
        apply Classical.byContradiction
        intro hlt
        rw [Nat.mod_eq_of_lt (by omega)] at hr
        omega
      cases e : Wy c 0 with
      | none => exact Or.inl rfl
      | some d =>
        have := hWn c 0 d (by decide) e
        have h3 : nbr w h g c 0 = some (c - w) := by
          unfold nbr
          rw [if_pos rfl, if_pos hwc]
        rw [h3] at this
        cases this
        exact Or.inr ⟨_, by omega, rfl⟩
theorem cap_ok {c m0 cnt : Nat} {Bs : Nat → Nat} (o : okS w h g = true) (hW : WOK (w * h) Wy) (hWn : ∀ c s d, s < 4 → Wy c s = some d → nbr w h g c s = some d) (hc : c < w * h) (hm : g = true → m0 ≤ capM c) (hG : GL Wy (plc w h g) T (c + 1) cnt Bs) (hcq : cnt ≤ capQ c * m0) : cnt ≤ 2 ^ 18 := by
  by_cases hl : w * h ≤ c + 1
  · have : cnt ≤ 1 := by
      apply Classical.byContradiction
      intro hgt
      obtain ⟨a0, h0⟩ := hG.1 0 (by omega)
      obtain ⟨a1, h1⟩ := hG.1 1 (by omega)
      have := hG.2 0 1 (by omega) (by omega) ((Rep_n hW h0 hl).trans (Rep_n hW h1 hl).symm)
      omega
    rw [p18]; omega
  · cases g with
    | false =>
      have z : ∀ i, i < cnt → ∀ p, p < 12 → 6 ≤ p → dig (Bs i) p = 0 := by
        intro i hi p hp h6
        obtain ⟨a, ha⟩ := hG.1 i hi
        apply Classical.byContradiction
        intro hne
        obtain ⟨x, s, y, a1, a2, a3, a4, a5, -⟩ := (ha.1.1 p hp).mp hne
        have := (geo o (hW.2.1 x s y a1 a4).1 a1 (hWn x s y a1 a4)).2.2.1 rfl
        omega
      refine pigeon (fun i => cod (Bs i)) (2 ^ 18) cnt (fun i hi => ?_) (fun i j hi hj he => ?_)
      · obtain ⟨a, ha⟩ := hG.1 i hi
        exact cod_lt ha.2.1
      · obtain ⟨a, ha⟩ := hG.1 i hi
        obtain ⟨b, hb⟩ := hG.1 j hj
        exact hG.2 i j hi hj (cod_inj ha.2.2 hb.2.2 ha.2.1 hb.2.1 (z i hi) (z j hj) he)
    | true =>
      have h12 : w * h ≤ 12 := by
        unfold okS at o
        rw [Bool.and_eq_true] at o
        have := o.2
        have := of_decide_eq_true (show decide (3 ≤ w ∧ 3 ≤ h ∧ w * h ≤ 12) = true by simpa using this)
        exact this.2.2
      have h1 := hm rfl
      have h2 : cnt ≤ capM (c + 1) := by
        rw [capM_s]
        exact Nat.le_trans hcq (Nat.mul_le_mul_left _ h1)
      have h3 : capM (c + 1) = 4 * 3 ^ c := by
        unfold capM
        rw [if_neg (by omega), show c + 1 - 1 = c by omega]
      have h4 : 3 ^ c ≤ 3 ^ 10 := Nat.pow_le_pow_right (by decide) (by omega)
      have h5 : (3 : Nat) ^ 10 = 59049 := by decide
      rw [p18]
      omega
theorem a_sweep {nb0 nw0 nb1 nw1 : Nat} {lc0 lc1 : Int32} {lb0 lb1 : Nat → Int64} {lw0 lw1 wP wN : Nat → Int32} (o : okS w h g = true) (hW : WOK (w * h) Wy) (hWn : ∀ c s d, s < 4 → Wy c s = some d → nbr w h g c s = some d) (hT : ∀ j, T j < 16) (hY : ∀ c s, c < 16 → s < 4 → Y (c * 4 + s) = Wy c s) (hN : ∀ c s, c < w * h → s < 4 → N0 (c * 4 + s) = nbr w h g c s) (hC : ∀ c, c < w * h → bC c = nI (c % w)) (hlm : lm < 2 ^ 16) (h0 : nw0 = nb0 ∧ 16 ≤ nb0 ∧ nb0 ≤ 2 ^ 19) (h1 : nw1 = nb1 ∧ 16 ≤ nb1 ∧ nb1 ≤ 2 ^ 19) (hF : 2 ^ 20 ≤ F) : Ex (kX6_countAll F (nI (w * h)) (nI lm) (fN T) bC (fE N0) (fE Y) wP wN lc0 nb0 lb0 nw0 lw0 lc1 nb1 lb1 nw1 lw1) (fun r => r.1 = (srE Wy T (ownA T lm (w * h)) (w * h)).1 ∧ (r.2.2.2.2.2.2.1 = r.2.2.2.2.1 ∧ 16 ≤ r.2.2.2.2.1 ∧ r.2.2.2.2.1 ≤ 2 ^ 19) ∧ (r.2.2.2.2.2.2.2.2.2.2.2.1 = r.2.2.2.2.2.2.2.2.2.1 ∧ 16 ≤ r.2.2.2.2.2.2.2.2.2.1 ∧ r.2.2.2.2.2.2.2.2.2.1 ≤ 2 ^ 19)) := by
  have hP := plOK o hW hWn
  have hn := hW.1
  have hF' := hF
  rw [p20] at hF'
  have hn1 : 1 ≤ w * h := by
    obtain ⟨a, b, c, d, e⟩ := okS_b o
    exact Nat.mul_pos (show 0 < w by omega) (show 0 < h by omega)
  have hpo : ∀ F c s d, c < w * h → s < 4 → Wy c s = some d → kX6_placeOf F bC (fE N0) (nI c) (nI s) = some (nI (plc w h g c s)) := fun F c s d hc hs e => a_placeOf o hN hC hc hs (hWn c s d hs e)
  have htot : Nb Wy (plc w h g) T (ownA T lm (w * h)) (w * h) 0 0 = (srE Wy T (ownA T lm (w * h)) (w * h)).1 := by
    rw [Nb_e (a := fun _ => 0) hW hT hY hP hpo (Nat.zero_le _) Rep_0]
    exact cS_all hW hn1 hT (ownA_lt T lm (w * h))
  unfold kX6_countAll
  refine Ex.o (show kX1_clear F lc0 = some (nI 0) from rfl) (Ex.b (a_add (F := F) (cnt := 0) (nb := nb0) (nw := nw0) (B := 0) (Bs := fun _ => 0) (ws := fun _ => 0) (lc := nI 0) (x := 1) (lb := lb0) (lw := lw0) ⟨rfl, h0.1, h0.2.1, h0.2.2, Nat.zero_le _, Nat.zero_le _, fun i hi => absurd hi (Nat.not_lt_zero i), fun i hi => absurd hi (Nat.not_lt_zero i)⟩ (by decide) (fun _ => by decide) hF) ?_)
  rintro ⟨z0, z1, z2, z3, z4⟩ ⟨cnt, Bs, ws, hL, hcase⟩
  rcases hcase with ⟨-, -, i, hi, -⟩ | ⟨e1, -, e3, e4⟩
  · exact absurd hi (Nat.not_lt_zero i)
  · subst e1 e3 e4
    refine Ex.b (P := fun r => (∃ cnt Bs ws, LSt cnt r.2.2.2.1 Bs ws r.2.2.1 r.2.2.2.2.1 r.2.2.2.2.2.1 r.2.2.2.2.2.2.1 ∧ GL Wy (plc w h g) T (w * h) cnt Bs ∧ VV Wy (plc w h g) T (ownA T lm (w * h)) (w * h) (w * h) cnt Bs ws = (srE Wy T (ownA T lm (w * h)) (w * h)).1) ∧ (r.2.2.2.2.2.2.2.2.2.2.1 = r.2.2.2.2.2.2.2.2.1 ∧ 16 ≤ r.2.2.2.2.2.2.2.2.1 ∧ r.2.2.2.2.2.2.2.2.1 ≤ 2 ^ 19)) (Ex.fr (w * h) (fun c s => s.1 = nI c ∧ (∃ cnt Bs ws, LSt cnt s.2.2.2.2.1 Bs ws s.2.2.2.1 s.2.2.2.2.2.1 s.2.2.2.2.2.2.1 s.2.2.2.2.2.2.2.1 ∧ GL Wy (plc w h g) T c cnt Bs ∧ VV Wy (plc w h g) T (ownA T lm (w * h)) (w * h) c cnt Bs ws = (srE Wy T (ownA T lm (w * h)) (w * h)).1 ∧ (g = true → cnt ≤ capM c)) ∧ (s.2.2.2.2.2.2.2.2.2.2.2.1 = s.2.2.2.2.2.2.2.2.2.1 ∧ 16 ≤ s.2.2.2.2.2.2.2.2.2.1 ∧ s.2.2.2.2.2.2.2.2.2.1 ≤ 2 ^ 19)) ⟨rfl, ⟨0 + 1, up (fun _ => 0) 0 0, up (fun _ => 0) 0 1, hL, ⟨fun i hi => ?_, fun i j hi hj _ => by omega⟩, ?_, fun _ => by show 1 ≤ 1; omega⟩, h1⟩ ?_ ?_ (by omega)) ?_
    · have ei : i = 0 := by omega
      subst ei
      exact ⟨fun _ => 0, Rep_0⟩
    · show 0 + up (fun _ => (0 : Int32)) 0 1 0 * Nb _ _ _ _ _ 0 (up (fun _ => 0) 0 0 0) = _
      rw [up_s, up_s, Int32.zero_add, htot, Int32.mul_comm, Int32.mul_one]
    · rintro c ⟨s0, P1, N1, c0, n0, B0, m0, W0, c1, n1, B1, m1, W1⟩ hc ⟨e0, ⟨cnt1, Bs1, ws1, hL1, hG1, hV1, hM1⟩, hcp⟩
      have e0 : s0 = nI c := e0
      subst e0
      have hL1 : LSt cnt1 n0 Bs1 ws1 c0 B0 m0 W0 := hL1
      have hcp : m1 = n1 ∧ 16 ≤ n1 ∧ n1 ≤ 2 ^ 19 := hcp
      show Ex (kX6_countAll_s18 F (nI (w * h)) (nI lm) (fN T) bC (fE N0) (fE Y) (nI c) P1 N1 c0 n0 B0 m0 W0 c1 n1 B1 m1 W1) _
      unfold kX6_countAll_s18
      refine Ex.o (show kX0_count F (nI (w * h)) = some (nI (w * h)) from rfl) (Ex.f (nI_ge hc (by omega)) (Ex.o (show kX1_clear F c1 = some (nI 0) from rfl) (Ex.b (a_sweepOver (q := capQ c) o hW hWn hT hY hN hC hlm hc hL1 hG1 hcp (cap_q o hW hWn hT hc) (fun cnt2 Bs2 hg hq => cap_ok o hW hWn hc hM1 hg hq) hF) ?_)))
      rintro ⟨r0, r1, r2, r3, r4, r5, r6⟩ ⟨cnt2, Bs2, ws2, hL2, hG2, hV2, hc2⟩
      refine Ex.v ⟨nI_1 c, ⟨cnt2, Bs2, ws2, hL2, hG2, hV2.trans hV1, fun hg => ?_⟩, hL1.2.1, hL1.2.2.1, hL1.2.2.2.1⟩
      rw [capM_s]
      exact Nat.le_trans hc2 (Nat.mul_le_mul_left _ (hM1 hg))
    · rintro ⟨s0, P1, N1, c0, n0, B0, m0, W0, c1, n1, B1, m1, W1⟩ ⟨e0, ⟨cnt1, Bs1, ws1, hL1, hG1, hV1, hM1⟩, hcp⟩
      have e0 : s0 = nI (w * h) := e0
      subst e0
      show Ex (kX6_countAll_s18 F (nI (w * h)) (nI lm) (fN T) bC (fE N0) (fE Y) (nI (w * h)) P1 N1 c0 n0 B0 m0 W0 c1 n1 B1 m1 W1) _
      unfold kX6_countAll_s18
      exact Ex.o (show kX0_count F (nI (w * h)) = some (nI (w * h)) from rfl) (Ex.t (nI_le (Nat.le_refl _) (by omega)) (Ex.v ⟨⟨cnt1, Bs1, ws1, hL1, hG1, hV1⟩, hcp⟩))
    · rintro ⟨P1, N1, c0, n0, B0, m0, W0, c1, n1, B1, m1, W1⟩ ⟨⟨cnt1, Bs1, ws1, hL1, hG1, hV1⟩, hcp⟩
      have hL1 : LSt cnt1 n0 Bs1 ws1 c0 B0 m0 W0 := hL1
      obtain ⟨k1, k2, k3, k4, k5, k6, k7, k8⟩ := id hL1
      subst k1 k2
      have k4' := k4
      rw [p19] at k4'
      have hcn : cnt1 ≤ 1 := by
        apply Classical.byContradiction
        intro hgt
        obtain ⟨a0, g0⟩ := hG1.1 0 (by omega)
        obtain ⟨a1, g1⟩ := hG1.1 1 (by omega)
        have := hG1.2 0 1 (by omega) (by omega) ((Rep_n hW g0 (Nat.le_refl _)).trans (Rep_n hW g1 (Nat.le_refl _)).symm)
        omega
      have eW : kX1_waysAt F (nI cnt1) m0 W0 0 = some (srE Wy T (ownA T lm (w * h)) (w * h)).1 := by
        unfold kX1_waysAt
        rw [if_neg (by decide), ← hV1]
        by_cases hz : cnt1 = 0
        · subst hz
          rw [if_pos (by decide)]
          rfl
        · have hz1 : cnt1 = 1 := by omega
          subst hz1
          rw [if_neg (by decide), if_neg (show ¬ Int32.ofNat m0 ≤ 0 from nI_ge (a := 0) (by omega) (by omega)), if_pos (show ix 0 m0 = true from ix_n (i := 0) (by omega) (by omega))]
          obtain ⟨a0, g0⟩ := hG1.1 0 (by omega)
          show some (W0 0) = some (0 + ws1 0 * Nb _ _ _ _ _ _ (Bs1 0))
          rw [Nb_e hW hT hY hP hpo (Nat.le_refl _) g0, Nat.sub_self, k8 0 (by omega)]
          show _ = some (0 + ws1 0 * cif True (0 + 1) 0)
          rw [cif_t trivial, Int32.zero_add, Int32.zero_add, Int32.mul_one]
      refine Ex.o eW (Ex.v ⟨rfl, ⟨rfl, k3, k4⟩, hcp⟩)
end SWP
