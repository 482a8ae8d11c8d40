/-! each call's answers: walls, locks, source, moves -/
theorem upd_fE0 (Y : Nat → Option Nat) (k : Nat) : upd (fE Y) k (-1) = fE (up Y k none) := by
  funext j
  unfold upd fE up
  split <;> rfl
/-- a wall set or taken away, in a mask -/
def wb (m s : Nat) (b : Bool) : Nat := clr m s ||| (if b = true then 2 ^ s else 0)
theorem wb_lt {m s : Nat} {b : Bool} (hs : s < 4) : wb m s b < 16 := by
  unfold wb
  refine or16 (clr_lt m s) ?_
  split
  · exact p16 hs
  · decide
theorem wb_tb {m s i : Nat} {b : Bool} (hs : s < 4) (hi : i < 4) : (wb m s b).testBit i = if i = s then b else m.testBit i := by
  unfold wb
  rw [Nat.testBit_or]
  have hc := clr_tb (m := m) hs hi
  by_cases e : i = s
  · subst e
    rw [if_pos rfl]
    have h1 : (clr m i).testBit i = false := by
      cases x : (clr m i).testBit i with
      | false => rfl
      | true => exact absurd rfl (hc.mp x).2
    rw [h1]
    cases b with
    | true => rw [if_pos rfl, (tb_p2 i i).mpr rfl]; rfl
    | false => rw [if_neg (by decide), Nat.zero_testBit]; rfl
  · rw [if_neg e]
    have h2 : (if b = true then 2 ^ s else 0 : Nat).testBit i = false := by
      cases b with
      | true =>
        rw [if_pos rfl]
        cases x : (2 ^ s).testBit i with
        | false => rfl
        | true => exact absurd ((tb_p2 s i).mp x) e
      | false => rw [if_neg (by decide), Nat.zero_testBit]
    rw [h2, Bool.or_false]
    cases x : m.testBit i with
    | true => exact hc.mpr ⟨x, e⟩
    | false =>
      cases y : (clr m s).testBit i with
      | false => rfl
      | true => rw [(hc.mp y).1] at x; cases x
theorem q_wb {m s : Nat} {b : Bool} {v : Int32} (hm : m < 16) (hs : s < 4) (hv : v = nI (if b = true then 2 ^ s else 0)) : (nI m &&& (((1 : Int32) <<< (nI s &&& 31)) ^^^ (-1))) ||| v = nI (wb m s b) := by
  rw [q_clr hm hs, hv, q_or]
  rfl
def W2 (Wm : Nat → Nat) (c s d : Nat) (b : Bool) : Nat → Nat := up (up Wm c (wb (Wm c) s b)) d (wb (up Wm c (wb (Wm c) s b) d) ((s + 2) % 4) b)
theorem W2_tb {Wm : Nat → Nat} {c s d c' s' : Nat} {b : Bool} (hs : s < 4) (hs' : s' < 4) (hcd : d ≠ c) : (W2 Wm c s d b c').testBit s' = if (c' = c ∧ s' = s) ∨ (c' = d ∧ s' = (s + 2) % 4) then b else (Wm c').testBit s' := by
  unfold W2
  by_cases e : c' = d
  · subst e
    rw [up_s, up_n hcd, wb_tb (s2_lt s) hs']
    by_cases e2 : s' = (s + 2) % 4
    · rw [if_pos e2, if_pos (Or.inr ⟨rfl, e2⟩)]
    · rw [if_neg e2, if_neg (by rintro (⟨h, -⟩ | ⟨-, h⟩); exact hcd h; exact e2 h)]
  · rw [up_n e]
    by_cases e3 : c' = c
    · subst e3
      rw [up_s, wb_tb hs hs']
      by_cases e2 : s' = s
      · rw [if_pos e2, if_pos (Or.inl ⟨rfl, e2⟩)]
      · rw [if_neg e2, if_neg (by rintro (⟨-, h⟩ | ⟨h, -⟩); exact e2 h; exact e h)]
    · rw [up_n e3, if_neg (by rintro (⟨h, -⟩ | ⟨h, -⟩); exact e3 h; exact e h)]
theorem W2_sy {w h : Nat} {g : Bool} {Wm : Nat → Nat} {c s d : Nat} {b : Bool} (o : okS w h g = true) (hsy : wsy w h g Wm) (hc : c < w * h) (hs : s < 4) (e : nbr w h g c s = some d) : wsy w h g (W2 Wm c s d b) := by
  obtain ⟨h1, h2, h3⟩ := nb_lt o hc hs e
  intro c' s' d' hc' hs' e'
  obtain ⟨k1, k2, k3⟩ := nb_lt o hc' hs' e'
  rw [W2_tb hs hs' h2, W2_tb hs (s2_lt s') h2, hsy c' s' d' hc' hs' e']
  have key : ((c' = c ∧ s' = s) ∨ (c' = d ∧ s' = (s + 2) % 4)) ↔ ((d' = c ∧ (s' + 2) % 4 = s) ∨ (d' = d ∧ (s' + 2) % 4 = (s + 2) % 4)) := by
    constructor
    · rintro (⟨rfl, rfl⟩ | ⟨rfl, rfl⟩)
      · rw [e] at e'; cases e'
        exact Or.inr ⟨rfl, rfl⟩
      · rw [h3] at e'; cases e'
        exact Or.inl ⟨rfl, s22 hs⟩
    · rintro (⟨rfl, q⟩ | ⟨rfl, q⟩)
      · rw [q] at k3
        rw [e] at k3; cases k3
        refine Or.inr ⟨rfl, ?_⟩
        rw [← q, s22 hs']
      · have : s' = s := by omega
        subst this
        rw [h3] at k3
        cases k3
        exact Or.inl ⟨rfl, rfl⟩
  by_cases q : (c' = c ∧ s' = s) ∨ (c' = d ∧ s' = (s + 2) % 4)
  · rw [if_pos q, if_pos (key.mp q)]
  · rw [if_neg q, if_neg (fun x => q (key.mpr x))]
theorem W2_Y {w h : Nat} {g : Bool} {Wm : Nat → Nat} {c s d : Nat} {b : Bool} {Y : Nat → Option Nat} (o : okS w h g = true) (hY : ∀ c s, c < 16 → s < 4 → Y (c * 4 + s) = Wyf w h g Wm c s) (hc : c < w * h) (hs : s < 4) (e : nbr w h g c s = some d) : ∀ c' s', c' < 16 → s' < 4 → up (up Y (c * 4 + s) (if b = true then none else some d)) (d * 4 + (s + 2) % 4) (if b = true then none else some c) (c' * 4 + s') = Wyf w h g (W2 Wm c s d b) c' s' := by
  obtain ⟨h1, h2, h3⟩ := nb_lt o hc hs e
  have h4 := s2_lt s
  intro c' s' hc' hs'
  unfold Wyf
  rw [W2_tb hs hs' h2]
  by_cases q1 : c' = d ∧ s' = (s + 2) % 4
  · obtain ⟨rfl, rfl⟩ := q1
    rw [up_s, if_pos h1, if_pos (Or.inr ⟨rfl, rfl⟩), h3]
  · rw [up_n (by omega)]
    by_cases q2 : c' = c ∧ s' = s
    · obtain ⟨rfl, rfl⟩ := q2
      rw [up_s, if_pos hc, if_pos (Or.inl ⟨rfl, rfl⟩), e]
    · have hno : ¬ ((c' = c ∧ s' = s) ∨ (c' = d ∧ s' = (s + 2) % 4)) := fun x => x.elim q2 q1
      rw [up_n (by omega), hY c' s' hc' hs', if_neg hno]
      rfl
section AI
variable {F i : Nat} {bn bk bs : Int32} {bT bC bN bW bL : Nat → Int32} {hd hk : Int32} {hM : Nat → Int32} {nb0 nw0 nb1 nw1 : Nat} {mt mw mh mg ms mv md mu mo mf : Int32} {mT mW mK mM mR mL mP mY mF : Nat → Int32} {kp ku : Int32} {kC kS vL vS vA vT sR sI sF : Nat → Int32} {so sw : Int32} {sP : Nat → Nat → Int32} {oO : Nat → Int64} {x1 x2 x3 x4 : Int32}
def b2L (x : Int32) : Int64 := if x = 0 then 0 else 1
theorem ag_setWall {b : Bool} (hI : INV i bn bk bs bT bC bN bW hd hk hM nb0 nw0 nb1 nw1 mw mh mg ms mv md mT mW mK mM) (hF : BF F) : Ex (kL_setWall F bn bN bW x1 x2 (bI b) oO) (fun r => Ex (kX8_setWall F mt mw mh mg mW x1 x2 (bI b)) (fun q => q.2.1 = r.1 ∧ (r.1 = 0 → r.2.2 0 = b2L q.1) ∧ INV (i + 1) bn bk bs bT bC bN r.2.1 hd hk hM nb0 nw0 nb1 nw1 mw mh mg ms mv md mT q.2.2 mK mM)) := by
  unfold kL_setWall kX7_setWall kX8_setWall
  have hI' := hI
  obtain ⟨w, h, g, T, Wm, lm, src, hist, dn, ke, N, Y, o, hT, hWm, hsy, hlm, hsrc, hdk, hki, hhist, rfl, rfl, rfl, rfl, hC, rfl, rfl, hN, hY, rfl, rfl, hMh, hc0, hc1, rfl, rfl, rfl, rfl, rfl, rfl, rfl, hmW, hmK, hmM⟩ := hI
  have hn := (okS_b o).2.2.2.2
  have hMB := mk_MB o hmW hWm
  have hcc := hMB.2.2.2.2.2
  have j20 : ∀ y1 y2 : Int32, Ex (kX8_setWall_j20 F mt (nI w) (nI h) (bI g) mW y1 y2 (bI b) 0) (fun q => q.2.1 = 1 ∧ ((1 : Int32) = 0 → oO 0 = b2L q.1) ∧ INV (i + 1) (nI (w * h)) (nI lm) (nI src) (fN T) bC (fE N) (fE Y) (nI dn) (nI ke) hM nb0 nw0 nb1 nw1 (nI w) (nI h) (bI g) (nI src) (nI ke) (nI dn) (fN T) q.2.2 mK mM) := by
    intro y1 y2
    unfold kX8_setWall_j20 kX8_setWall_j47
    exact Ex.t rfl (Ex.o holds8_1 (Ex.t rfl (Ex.v ⟨rfl, fun h => absurd h n10, hI'.up⟩)))
  rcases cellQ (F := F) (x := x1) hn hcc with ⟨c, hc, rfl⟩ | ⟨e1, e2⟩
  · obtain ⟨e1, e2⟩ := cell_ok (F := F) hn hcc hc
    rcases sideQ (F := F) (x := x2) with ⟨s, hs, rfl⟩ | ⟨e3, e4⟩
    · obtain ⟨e3, e4⟩ := side_ok (F := F) hs
      have hc16 : c < 16 := by omega
      cases en : nbr w h g c s with
      | none =>
        refine Ex.b (P := fun z => z = .inr (2, fE Y)) (Ex.o e1 (exRl (Ex.o e3 (exRl (Ex.o (a_beside hc16 hs) (Ex.t (by rw [hN c s hc hs, en]; rfl) (Ex.v rfl))))))) ?_
        rintro _ rfl
        refine exWr (Ex.f (show ¬ (2 : Nat) = 1 by decide) (Ex.t rfl (Ex.v (Ex.o e2 (Ex.f n10 (Ex.o e4 (Ex.f n10 ?_)))))))
        unfold kX8_setWall_j20 kX8_setWall_j47
        refine Ex.f n10 (Ex.o (hMB.1 F c s hc hs) (Ex.t (by rw [en]; rfl) (Ex.o holds8_2 (Ex.t rfl (Ex.v ⟨rfl, fun h => absurd h n20, hI'.up⟩)))))
      | some d =>
        obtain ⟨k1, k2, k3⟩ := nb_lt o hc hs en
        have h4 := s2_lt s
        have eb : N (c * 4 + s) = some d := by rw [hN c s hc hs, en]
        have nd : ¬ enc (some d) = -1 := n_m1 (show d < 2 ^ 31 by omega)
        have ey : Y (c * 4 + s) = if (Wm c).testBit s = true then none else some d := by
          rw [hY c s hc16 hs]
          unfold Wyf
          rw [if_pos hc, en]
        have j51 : Ex (kX7_setWall_j51 F (nI (w * h)) (fE N) (fE Y) (nI c) (nI s) (bI b) (bI ((Wm c).testBit s))) (fun z => z = .inl (bI ((Wm c).testBit s), fE (up (up Y (c * 4 + s) (if b = true then none else some d)) (d * 4 + (s + 2) % 4) (if b = true then none else some c)))) := by
          unfold kX7_setWall_j51 kX0_putWall
          refine Ex.b (P := fun z => z = fE (up (up Y (c * 4 + s) (if b = true then none else some d)) (d * 4 + (s + 2) % 4) (if b = true then none else some c))) (Ex.o (a_beside hc16 hs) (Ex.o (a_has hn (by omega)) ?_)) (fun a ha => by subst ha; exact Ex.t (isZ_b _) (Ex.v rfl))
          rw [eb, decide_eq_true hc]
          refine Ex.f bI_n (Ex.o (show kX0_has F (nI (w * h)) (nI d) = _ from a_has hn (by omega)) ?_)
          rw [decide_eq_true k1]
          refine Ex.f bI_n ?_
          show Ex (if bI b = 0 then kX0_putWall_j44 F (fE Y) (nI c) (nI s) (bI b) (nI d) (nI d) else kX0_putWall_j44 F (fE Y) (nI c) (nI s) (bI b) (nI d) (-1)) _
          have i1' : (nI c * 4 + nI s : Int32) = nI (c * 4 + s) := by rw [i4, pk_mul, nI_add]
          have i2' : (nI d * 4 + nI ((s + 2) % 4) : Int32) = nI (d * 4 + (s + 2) % 4) := by rw [i4, pk_mul, nI_add]
          cases b with
          | false =>
            refine Ex.t bI_f ?_
            unfold kX0_putWall_j44
            rw [i1', cl_n (show c * 4 + s < 2 ^ 31 by omega)]
            refine Ex.t (ix_n (show c * 4 + s < 64 by omega) (by decide)) (Ex.o (a_opposite hs) (Ex.t bI_f ?_))
            rw [i2', cl_n (show d * 4 + (s + 2) % 4 < 2 ^ 31 by omega), upd_fE, upd_fE]
            exact Ex.t (ix_n (show d * 4 + (s + 2) % 4 < 64 by omega) (by decide)) (Ex.v rfl)
          | true =>
            refine Ex.f bI_n ?_
            unfold kX0_putWall_j44
            rw [i1', cl_n (show c * 4 + s < 2 ^ 31 by omega)]
            refine Ex.t (ix_n (show c * 4 + s < 64 by omega) (by decide)) (Ex.o (a_opposite hs) (Ex.f bI_n ?_))
            rw [i2', cl_n (show d * 4 + (s + 2) % 4 < 2 ^ 31 by omega), upd_fE0, upd_fE0]
            exact Ex.t (ix_n (show d * 4 + (s + 2) % 4 < 64 by omega) (by decide)) (Ex.v rfl)
        refine Ex.b (P := fun z => z = .inl (bI ((Wm c).testBit s), fE (up (up Y (c * 4 + s) (if b = true then none else some d)) (d * 4 + (s + 2) % 4) (if b = true then none else some c)))) (Ex.o e1 (exRl (Ex.o e3 (exRl (Ex.o (a_beside hc16 hs) (Ex.f (by rw [eb]; exact nd) (Ex.o (a_across hc16 hs) ?_))))))) ?_
        · rw [ey]
          cases ew : (Wm c).testBit s with
          | true =>
            rw [ew] at j51
            rw [show (if true = true then none else some d : Option Nat) = none from rfl]
            exact Ex.t rfl j51
          | false =>
            rw [ew] at j51
            rw [show (if false = true then none else some d : Option Nat) = some d from rfl]
            exact Ex.f nd j51
        · rintro _ rfl
          have ref : Ex (kX8_setWall_j20 F mt (nI w) (nI h) (bI g) mW (nI c) (nI s) (bI b) 1) (fun q => q.1 = bI ((Wm c).testBit s) ∧ q.2.1 = 0 ∧ RN q.2.2 (W2 Wm c s d b)) := by
            unfold kX8_setWall_j20
            refine Ex.f n10 (Ex.o (hMB.1 F c s hc hs) (Ex.f (by rw [en]; exact nd) ?_))
            unfold kX8_setWall_j47
            refine Ex.o holds8_0 (Ex.f n10 (Ex.o (hMB.2.1 F c s hc16 hs) (Ex.o (hMB.1 F c s hc hs) (Ex.o (a_opposite8 hs) (Ex.t (ix_n hc16 (by decide)) ?_)))))
            rw [en]
            have rn : RN (upd (upd mW c (nI (wb (Wm c) s b))) d (nI (wb (up Wm c (wb (Wm c) s b) d) ((s + 2) % 4) b))) (W2 Wm c s d b) := by
              have r1 := hmW.st hc16 (wb (Wm c) s b)
              rw [cl_n (show c < 2 ^ 31 by omega)] at r1
              have r2 := r1.st (show d < 16 by omega) (wb (up Wm c (wb (Wm c) s b) d) ((s + 2) % 4) b)
              rw [cl_n (show d < 2 ^ 31 by omega)] at r2
              exact r2
            have hmc := hmW c hc16
            have hmd : upd mW c (nI (wb (Wm c) s b)) d = nI (up Wm c (wb (Wm c) s b) d) := by
              rw [pk_un k2, up_n k2]; exact hmW d (by omega)
            have hwd : up Wm c (wb (Wm c) s b) d < 16 := by rw [up_n k2]; exact hWm d
            cases b with
            | false =>
              refine Ex.t bI_f ?_
              show Ex (kX8_setWall_j105 F mW (nI c) (nI s) (bI false) (1, 0) (bI ((Wm c).testBit s)) (nI d) (nI ((s + 2) % 4)) 0) _
              unfold kX8_setWall_j105
              rw [cl_n (show c < 2 ^ 31 by omega), cl_n (show d < 2 ^ 31 by omega), hmc, q_wb (b := false) (v := 0) (hWm c) hs rfl, hmd, q_wb (b := false) (v := 0) hwd h4 rfl]
              exact Ex.t (ix_n hc16 (by decide)) (Ex.t (ix_n (by omega) (by decide)) (Ex.t bI_f (Ex.t (ix_n (by omega) (by decide)) (Ex.t (isZ_b _) (Ex.v ⟨rfl, rfl, rn⟩)))))
            | true =>
              refine Ex.f bI_n ?_
              show Ex (kX8_setWall_j105 F mW (nI c) (nI s) (bI true) (1, 0) (bI ((Wm c).testBit s)) (nI d) (nI ((s + 2) % 4)) ((1 : Int32) <<< (nI s &&& 31))) _
              unfold kX8_setWall_j105
              rw [cl_n (show c < 2 ^ 31 by omega), cl_n (show d < 2 ^ 31 by omega), hmc, q_wb (b := true) (hWm c) hs (q_2s hs), hmd, q_wb (b := true) hwd h4 (q_2s h4)]
              exact Ex.t (ix_n hc16 (by decide)) (Ex.t (ix_n (by omega) (by decide)) (Ex.f bI_n (Ex.t (ix_n (by omega) (by decide)) (Ex.t (isZ_b _) (Ex.v ⟨rfl, rfl, rn⟩)))))
          have fin : ∀ oL : Int64, oL = b2L (bI ((Wm c).testBit s)) → Ex ((kX8_isCell F (nI w) (nI h) (nI c)).bind fun q1 => (if q1 = 0 then kX8_setWall_j20 F mt (nI w) (nI h) (bI g) mW (nI c) (nI s) (bI b) 0 else ((kX8_isSide F (nI s)).bind fun q13 => (if q13 = 0 then kX8_setWall_j20 F mt (nI w) (nI h) (bI g) mW (nI c) (nI s) (bI b) 0 else kX8_setWall_j20 F mt (nI w) (nI h) (bI g) mW (nI c) (nI s) (bI b) 1)))) (fun q => q.2.1 = 0 ∧ ((0 : Int32) = 0 → vp_updL oO (0 : Int32).toNatClampNeg oL 0 = b2L q.1) ∧ INV (i + 1) (nI (w * h)) (nI lm) (nI src) (fN T) bC (fE N) (fE (up (up Y (c * 4 + s) (if b = true then none else some d)) (d * 4 + (s + 2) % 4) (if b = true then none else some c))) (nI dn) (nI ke) hM nb0 nw0 nb1 nw1 (nI w) (nI h) (bI g) (nI src) (nI ke) (nI dn) (fN T) q.2.2 mK mM) := by
            intro oL hoL
            refine Ex.o e2 (Ex.f n10 (Ex.o e4 (Ex.f n10 (ref.m ?_))))
            rintro ⟨q0, q1, q2⟩ ⟨f0, f1, f2⟩
            have f0 : q0 = bI ((Wm c).testBit s) := f0
            refine ⟨f1, fun _ => ?_, w, h, g, T, W2 Wm c s d b, lm, src, hist, dn, ke, N, _, o, hT, ?_, W2_sy o hsy hc hs en, hlm, hsrc, hdk, Nat.le_succ_of_le hki, hhist, rfl, rfl, rfl, rfl, hC, rfl, rfl, hN, W2_Y o hY hc hs en, rfl, rfl, hMh, hc0, hc1, rfl, rfl, rfl, rfl, rfl, rfl, rfl, f2, hmK, hmM⟩
            · show vp_updL oO 0 oL 0 = b2L q0
              rw [pk_uLs, f0]; exact hoL
            · intro j
              unfold W2
              exact up_lt (up_lt hWm (wb_lt hs)) (wb_lt h4) j
          refine exWl ?_
          cases ew : (Wm c).testBit s with
          | false => rw [ew] at fin; exact Ex.t bI_f (Ex.t out0 (Ex.v (fin 0 rfl)))
          | true => rw [ew] at fin; exact Ex.f bI_n (Ex.t out0 (Ex.v (fin 1 rfl)))
    · refine Ex.b (P := fun z => z = .inr (1, fE Y)) (Ex.o e1 (exRl (Ex.o e3 (exRr rfl)))) ?_
      rintro _ rfl
      exact exWr (Ex.t rfl (Ex.v (Ex.o e2 (Ex.f n10 (Ex.o e4 (Ex.t rfl (j20 _ _)))))))
  · refine Ex.b (P := fun z => z = .inr (1, fE Y)) (Ex.o e1 (exRr rfl)) ?_
    rintro _ rfl
    exact exWr (Ex.t rfl (Ex.v (Ex.o e2 (Ex.t rfl (j20 _ _)))))
theorem q_lock {m c : Nat} (hm : m < 2 ^ 16) (hc : c < 16) : nI m &&& (((1 : Int32) <<< (nI c &&& 31)) ^^^ (-1)) = nI (m &&& (65535 ^^^ 2 ^ c)) := by
  have e1 : (1 : Int32) <<< (nI c &&& 31) = nI (2 ^ c) := by
    rw [i1, q_shl (by omega) (by have := p2_lt hc; omega), Nat.one_mul]
  rw [e1]
  apply Int32.toBitVec_inj.1
  show BitVec.ofNat 32 m &&& (BitVec.ofNat 32 (2 ^ c) ^^^ BitVec.allOnes 32) = BitVec.ofNat 32 (m &&& (65535 ^^^ 2 ^ c))
  apply BitVec.eq_of_getLsbD_eq
  intro j hj
  rw [BitVec.getLsbD_and, BitVec.getLsbD_xor, BitVec.getLsbD_ofNat, BitVec.getLsbD_ofNat, BitVec.getLsbD_ofNat, BitVec.getLsbD_allOnes, Nat.testBit_and, Nat.testBit_xor, decide_eq_true hj, Bool.true_and, Bool.true_and, Bool.true_and]
  by_cases h16 : j < 16
  · have h : (65535 : Nat).testBit j = true := by
      rw [show (65535 : Nat) = 2 ^ 16 - 1 from rfl, Nat.testBit_two_pow_sub_one]
      exact decide_eq_true h16
    rw [h, Bool.xor_comm]
  · rw [Nat.testBit_lt_two_pow (Nat.lt_of_lt_of_le hm (Nat.pow_le_pow_right (by decide) (show 16 ≤ j by omega))), Bool.false_and, Bool.false_and]
theorem lock_tb {m c j : Nat} (hj : j < 16) : (m &&& (65535 ^^^ 2 ^ c)).testBit j = (m.testBit j && decide (j ≠ c)) := by
  have h : (65535 : Nat).testBit j = true := by
    rw [show (65535 : Nat) = 2 ^ 16 - 1 from rfl, Nat.testBit_two_pow_sub_one]
    exact decide_eq_true hj
  rw [Nat.testBit_and, Nat.testBit_xor, h]
  by_cases e : j = c
  · subst e; rw [(tb_p2 j j).mpr rfl, decide_eq_false (by simp)]; rfl
  · have : (2 ^ c).testBit j = false := by
      cases x : (2 ^ c).testBit j with
      | false => rfl
      | true => exact absurd ((tb_p2 c j).mp x) e
    rw [this, decide_eq_true e]; rfl
theorem ag_setLock {b : Bool} (hI : INV i bn bk bs bT bC bN bW hd hk hM nb0 nw0 nb1 nw1 mw mh mg ms mv md mT mW mK mM) (hF : BF F) : Ex (kL_setLock F bn bk x1 (bI b) oO) (fun r => Ex (kX8_setLock F mt mw mh mK x1 (bI b)) (fun q => q.2.1 = r.1 ∧ (r.1 = 0 → r.2.2 0 = b2L q.1) ∧ INV (i + 1) bn r.2.1 bs bT bC bN bW hd hk hM nb0 nw0 nb1 nw1 mw mh mg ms mv md mT mW q.2.2 mM)) := by
  unfold kL_setLock kX7_setLock kX8_setLock
  have hI' := hI
  obtain ⟨w, h, g, T, Wm, lm, src, hist, dn, ke, N, Y, o, hT, hWm, hsy, hlm, hsrc, hdk, hki, hhist, rfl, rfl, rfl, rfl, hC, rfl, rfl, hN, hY, rfl, rfl, hMh, hc0, hc1, rfl, rfl, rfl, rfl, rfl, rfl, rfl, hmW, hmK, hmM⟩ := hI
  have hn := (okS_b o).2.2.2.2
  have hcc : ∀ F, kX8_cells F (nI w) (nI h) = some (nI (w * h)) := fun F => congrArg some (pk_mul w h)
  rcases cellQ (F := F) (x := x1) hn hcc with ⟨c, hc, rfl⟩ | ⟨e1, e2⟩
  · obtain ⟨e1, e2⟩ := cell_ok (F := F) hn hcc hc
    have hc16 : c < 16 := by omega
    have hp2 := p2_lt hc16
    obtain ⟨lm', hl1, hl2, hl3⟩ : ∃ lm', kX0_putLock F (nI lm) (nI c) (bI b) = some (nI lm') ∧ lm' < 2 ^ 16 ∧ ∀ j, j < 16 → lm'.testBit j = if j = c then b else lm.testBit j := by
      unfold kX0_putLock
      cases b with
      | false =>
        refine ⟨lm &&& (65535 ^^^ 2 ^ c), ?_, Nat.lt_of_le_of_lt Nat.and_le_left hlm, fun j hj => ?_⟩
        · rw [if_pos bI_f, q_lock hlm hc16]
        · rw [lock_tb hj]
          by_cases e : j = c
          · rw [if_pos e, decide_eq_false (by simp [e]), Bool.and_false]
          · rw [if_neg e, decide_eq_true e, Bool.and_true]
      | true =>
        refine ⟨lm ||| 2 ^ c, ?_, or_lt hlm hp2, fun j hj => ?_⟩
        · rw [if_neg bI_n, i1, q_shl (by omega) (by omega), Nat.one_mul, q_or]
        · by_cases e : j = c
          · rw [if_pos e, e]; exact (tb_or _ _ _).mpr (Or.inr ((tb_p2 c c).mpr rfl))
          · rw [if_neg e, Nat.testBit_or]
            have : (2 ^ c).testBit j = false := by
              cases x : (2 ^ c).testBit j with
              | false => rfl
              | true => exact absurd ((tb_p2 c j).mp x) e
            rw [this, Bool.or_false]
    have hl : kX0_hasLock F (nI lm) (nI c) = some (bI (lm.testBit c)) := by
      unfold kX0_hasLock
      exact ob_i (a_holds (by omega) (by omega)) (by rw [if_pos (isZ_b _)])
    refine Ex.b (P := fun z => z = .inl (bI (lm.testBit c), nI lm')) (Ex.o e1 (exRl (Ex.o hl (Ex.o hl1 (Ex.t (isZ_b _) (Ex.v rfl)))))) ?_
    rintro _ rfl
    have fin : ∀ oL : Int64, oL = b2L (bI (lm.testBit c)) → Ex ((kX8_isCell F (nI w) (nI h) (nI c)).bind fun q1 => (if q1 = 0 then kX8_setLock_j14 F mt mK (nI c) (bI b) 1 else kX8_setLock_j14 F mt mK (nI c) (bI b) 0)) (fun q => q.2.1 = 0 ∧ ((0 : Int32) = 0 → vp_updL oO (0 : Int32).toNatClampNeg oL 0 = b2L q.1) ∧ INV (i + 1) (nI (w * h)) (nI lm') (nI src) (fN T) bC (fE N) (fE Y) (nI dn) (nI ke) hM nb0 nw0 nb1 nw1 (nI w) (nI h) (bI g) (nI src) (nI ke) (nI dn) (fN T) mW q.2.2 mM) := by
      intro oL hoL
      refine Ex.o e2 (Ex.f n10 ?_)
      unfold kX8_setLock_j14
      rw [cl_n (show c < 2 ^ 31 by omega), hmK c hc16, nar_b]
      refine Ex.o holds8_0 (Ex.f n10 (Ex.t (ix_n hc16 (by decide)) (Ex.t (ix_n hc16 (by decide)) (Ex.t (isZ_b _) (Ex.v ⟨rfl, fun _ => ?_, w, h, g, T, Wm, lm', src, hist, dn, ke, N, Y, o, hT, hWm, hsy, hl2, hsrc, hdk, Nat.le_succ_of_le hki, hhist, rfl, rfl, rfl, rfl, hC, rfl, rfl, hN, hY, rfl, rfl, hMh, hc0, hc1, rfl, rfl, rfl, rfl, rfl, rfl, rfl, hmW, fun j hj => ?_, hmM⟩)))))
      · show vp_updL oO 0 oL 0 = _
        rw [pk_uLs]; exact hoL
      · show upd mK c (bI b) j = _
        rw [hl3 j hj]
        by_cases e : j = c
        · subst e; rw [pk_us, if_pos rfl]
        · rw [pk_un e, if_neg e]; exact hmK j hj
    refine exWl ?_
    cases ew : lm.testBit c with
    | false => rw [ew] at fin; exact Ex.t bI_f (Ex.t out0 (Ex.v (fin 0 rfl)))
    | true => rw [ew] at fin; exact Ex.f bI_n (Ex.t out0 (Ex.v (fin 1 rfl)))
  · refine Ex.b (P := fun z => z = .inr (1, nI lm)) (Ex.o e1 (exRr rfl)) ?_
    rintro _ rfl
    refine exWr (Ex.t rfl (Ex.v ?_))
    refine Ex.o e2 (Ex.t rfl ?_)
    unfold kX8_setLock_j14
    exact Ex.o holds8_1 (Ex.t rfl (Ex.v ⟨rfl, fun h => absurd h n10, hI'.up⟩))
theorem ag_setSource (hI : INV i bn bk bs bT bC bN bW hd hk hM nb0 nw0 nb1 nw1 mw mh mg ms mv md mT mW mK mM) (hF : BF F) : Ex (kL_setSource F bn bs x1 oO) (fun r => Ex (kX8_setSource F mt mw mh ms x1) (fun q => q.2.1 = r.1 ∧ (r.1 = 0 → r.2.2 0 = q.1.toInt64) ∧ INV (i + 1) bn bk r.2.1 bT bC bN bW hd hk hM nb0 nw0 nb1 nw1 mw mh mg q.2.2 mv md mT mW mK mM)) := by
  unfold kL_setSource kX7_setSource kX8_setSource
  have hI' := hI
  obtain ⟨w, h, g, T, Wm, lm, src, hist, dn, ke, N, Y, o, hT, hWm, hsy, hlm, hsrc, hdk, hki, hhist, rfl, rfl, rfl, rfl, hC, rfl, rfl, hN, hY, rfl, rfl, hMh, hc0, hc1, rfl, rfl, rfl, rfl, rfl, rfl, rfl, hmW, hmK, hmM⟩ := hI
  have hn := (okS_b o).2.2.2.2
  have hcc : ∀ F, kX8_cells F (nI w) (nI h) = some (nI (w * h)) := fun F => congrArg some (pk_mul w h)
  rcases cellQ (F := F) (x := x1) hn hcc with ⟨c, hc, rfl⟩ | ⟨e1, e2⟩
  · obtain ⟨e1, e2⟩ := cell_ok (F := F) hn hcc hc
    refine Ex.b (P := fun z => z = .inl (nI src, nI c)) (Ex.o e1 (exRl (Ex.o rfl (Ex.o rfl (Ex.v rfl))))) ?_
    rintro _ rfl
    refine exWl (Ex.t out0 (Ex.v ?_))
    refine Ex.o e2 (Ex.f n10 ?_)
    unfold kX8_setSource_j14
    exact Ex.o holds8_0 (Ex.f n10 (Ex.v ⟨rfl, fun _ => rfl, w, h, g, T, Wm, lm, c, hist, dn, ke, N, Y, o, hT, hWm, hsy, hlm, hc, hdk, Nat.le_succ_of_le hki, hhist, rfl, rfl, rfl, rfl, hC, rfl, rfl, hN, hY, rfl, rfl, hMh, hc0, hc1, rfl, rfl, rfl, rfl, rfl, rfl, rfl, hmW, hmK, hmM⟩))
  · refine Ex.b (P := fun z => z = .inr (1, nI src)) (Ex.o e1 (exRr rfl)) ?_
    rintro _ rfl
    refine exWr (Ex.t rfl (Ex.v ?_))
    refine Ex.o e2 (Ex.t rfl ?_)
    unfold kX8_setSource_j14
    exact Ex.o holds8_1 (Ex.t rfl (Ex.v ⟨rfl, fun h => absurd h n10, hI'.up⟩))
theorem ag_turn (hI : INV i bn bk bs bT bC bN bW hd hk hM nb0 nw0 nb1 nw1 mw mh mg ms mv md mT mW mK mM) (hi : i < 512) (hF : BF F) : Ex (kL_turn F bn bk bT hd hk hM x1 oO) (fun r => Ex (kX8_turn F mt mw mh mv md mT mK mM x1) (fun q => q.2.1 = r.1 ∧ (r.1 = 0 → r.2.2.2.2.2 0 = q.1.toInt64) ∧ INV (i + 1) bn bk bs r.2.1 bC bN bW r.2.2.1 r.2.2.2.1 r.2.2.2.2.1 nb0 nw0 nb1 nw1 mw mh mg ms q.2.2.1 q.2.2.2.1 q.2.2.2.2.1 mW mK q.2.2.2.2.2)) := by
  unfold kL_turn kX7_turn kX8_turn
  have hI' := hI
  obtain ⟨w, h, g, T, Wm, lm, src, hist, dn, ke, N, Y, o, hT, hWm, hsy, hlm, hsrc, hdk, hki, hhist, rfl, rfl, rfl, rfl, hC, rfl, rfl, hN, hY, rfl, rfl, hMh, hc0, hc1, rfl, rfl, rfl, rfl, rfl, rfl, rfl, hmW, hmK, hmM⟩ := hI
  have hn := (okS_b o).2.2.2.2
  have hcc : ∀ F, kX8_cells F (nI w) (nI h) = some (nI (w * h)) := fun F => congrArg some (pk_mul w h)
  rcases cellQ (F := F) (x := x1) hn hcc with ⟨c, hc, rfl⟩ | ⟨e1, e2⟩
  · obtain ⟨e1, e2⟩ := cell_ok (F := F) hn hcc hc
    have hc16 : c < 16 := by omega
    have hl : kX0_hasLock F (nI lm) (nI c) = some (bI (lm.testBit c)) := by
      unfold kX0_hasLock
      exact ob_i (a_holds (by omega) (by omega)) (by rw [if_pos (isZ_b _)])
    cases el : lm.testBit c with
    | true =>
      refine Ex.b (P := fun z => z = .inr (2, fN T, nI dn, nI ke, hM)) (Ex.o e1 (exRl (Ex.o hl (Ex.f (by rw [el]; exact bI_n) (Ex.v rfl))))) ?_
      rintro _ rfl
      refine exWr (Ex.f (show ¬ (2 : Nat) = 1 by decide) (Ex.t rfl (Ex.v ?_)))
      refine Ex.o e2 (Ex.f n10 (Ex.t (ix_n hc16 (by decide)) ?_))
      rw [cl_n (show c < 2 ^ 31 by omega), hmK c hc16, el]
      refine Ex.f bI_n ?_
      unfold kX8_turn_j29
      exact Ex.o holds8_2 (Ex.t rfl (Ex.v ⟨rfl, fun h => absurd h n20, hI'.up⟩))
    | false =>
      have hd512 : dn < 512 := by omega
      have hsp : kX0_spin F (nI (w * h)) (fN T) (nI c) 1 = some (fN (up T c (rot (T c) 1))) := by
        unfold kX0_spin
        exact ob_i (a_sidesOf hc16) (ob_i (show kX7_turned F (fN T c) 1 = _ from a_turned (k := 1) (hT c) (by decide)) (ob_i (a_lay hn hc) rfl))
      have hnote : kX2_note F (nI dn) (nI ke) hM (nI c) = some (nI (dn + 1), nI (dn + 1), upd hM dn (nI c)) := by
        unfold kX2_note
        rw [if_neg (nI_pos (by omega)), if_neg (show ¬ (512 : Int32) ≤ nI dn from nI_ge (show dn < 512 from hd512) (by decide)), if_pos (ix_n hd512 (by decide)), cl_n (by omega), nI_1]
      have hfull : kX2_isFull F (nI dn) = some 0 := by
        unfold kX2_isFull
        rw [if_pos (show nI dn < (512 : Int32) from nI_lt (show dn < 512 from hd512) (by decide))]
      have hso : kX0_sidesOf F (fN (up T c (rot (T c) 1))) (nI c) = some (nI (rot (T c) 1)) := by
        rw [a_sidesOf hc16]
        show some (nI (up T c (rot (T c) 1) c)) = _
        rw [up_s]
      refine Ex.b (P := fun z => z = .inl (nI (rot (T c) 1), fN (up T c (rot (T c) 1)), nI (dn + 1), nI (dn + 1), upd hM dn (nI c))) (Ex.o e1 (exRl (Ex.o hl (Ex.t (by rw [el]; rfl) (Ex.o hfull (Ex.t rfl (Ex.o hsp (Ex.o hnote (Ex.o hso (Ex.v rfl)))))))))) ?_
      rintro _ rfl
      refine exWl (Ex.t out0 (Ex.v ?_))
      refine Ex.o e2 (Ex.f n10 (Ex.t (ix_n hc16 (by decide)) ?_))
      rw [cl_n (show c < 2 ^ 31 by omega), hmK c hc16, el]
      refine Ex.t bI_f ?_
      unfold kX8_turn_j29
      have em : nI dn - nI dn / 4096 * 4096 = nI dn := by
        rw [show (4096 : Int32) = nI 4096 from rfl, pk_rem (by omega) (by decide) (by decide), Nat.mod_eq_of_lt (by omega)]
      rw [em, cl_n (show c < 2 ^ 31 by omega), cl_n (show dn < 2 ^ 31 by omega)]
      refine Ex.o holds8_0 (Ex.f n10 (Ex.t (ix_n hc16 (by decide)) (Ex.o (show kX8_turned F (fN T c) 1 = some (nI (rot (T c) 1)) from a_turned8 (k := 1) (hT c) (by decide) hF.1) (Ex.t (ix_n hc16 (by decide)) (Ex.t (ix_n (show dn < 4096 by omega) (by decide)) (Ex.t (ix_n hc16 (by decide)) (Ex.v ?_)))))))
      rw [upd_fN, nI_1]
      refine ⟨rfl, fun _ => ?_, w, h, g, up T c (rot (T c) 1), Wm, lm, src, up hist dn c, dn + 1, dn + 1, N, Y, o, up_lt hT (rot_lt _ _), hWm, hsy, hlm, hsrc, Nat.le_refl _, by omega, fun j hj => ?_, rfl, rfl, rfl, rfl, hC, rfl, rfl, hN, hY, rfl, rfl, fun j hj => ?_, hc0, hc1, rfl, rfl, rfl, rfl, rfl, rfl, rfl, hmW, hmK, fun j hj => ?_⟩
      · show vp_updL oO 0 (nI (rot (T c) 1)).toInt64 0 = (fN (up T c (rot (T c) 1)) c).toInt64
        rw [pk_uLs]
        show _ = (nI (up T c (rot (T c) 1) c)).toInt64
        rw [up_s]
      · by_cases e : j = dn
        · subst e; rw [up_s]; exact hc
        · rw [up_n e]; exact hhist j (by omega)
      · show upd hM dn (nI c) j = _
        by_cases e : j = dn
        · subst e; rw [pk_us, up_s]
        · rw [pk_un e, up_n e]; exact hMh j (by omega)
      · show upd mM dn (nI c) j = _
        by_cases e : j = dn
        · subst e; rw [pk_us, up_s]
        · rw [pk_un e, up_n e]; exact hmM j (by omega)
  · refine Ex.b (P := fun z => z = .inr (1, fN T, nI dn, nI ke, hM)) (Ex.o e1 (exRr rfl)) ?_
    rintro _ rfl
    refine exWr (Ex.t rfl (Ex.v ?_))
    refine Ex.o e2 (Ex.t rfl ?_)
    unfold kX8_turn_j29
    exact Ex.o holds8_1 (Ex.t rfl (Ex.v ⟨rfl, fun h => absurd h n10, hI'.up⟩))
theorem ag_undo (hI : INV i bn bk bs bT bC bN bW hd hk hM nb0 nw0 nb1 nw1 mw mh mg ms mv md mT mW mK mM) (hi : i < 512) (hF : BF F) : Ex (kL_undo F bn bT hd hM oO) (fun r => Ex (kX8_undo F mt md mT mM) (fun q => q.2.1 = r.1 ∧ (r.1 = 0 → r.2.2.2 0 = q.1.toInt64) ∧ INV (i + 1) bn bk bs r.2.1 bC bN bW r.2.2.1 hk hM nb0 nw0 nb1 nw1 mw mh mg ms mv q.2.2.1 q.2.2.2 mW mK mM)) := by
  unfold kL_undo kX7_undo kX8_undo
  have hI' := hI
  obtain ⟨w, h, g, T, Wm, lm, src, hist, dn, ke, N, Y, o, hT, hWm, hsy, hlm, hsrc, hdk, hki, hhist, rfl, rfl, rfl, rfl, hC, rfl, rfl, hN, hY, rfl, rfl, hMh, hc0, hc1, rfl, rfl, rfl, rfl, rfl, rfl, rfl, hmW, hmK, hmM⟩ := hI
  have hn := (okS_b o).2.2.2.2
  by_cases h0 : dn = 0
  · subst h0
    refine Ex.b (P := fun z => z = .inr (2, fN T, nI 0)) (Ex.o (show kX2_stepBack F (nI 0) hM = some (-1, nI 0) from rfl) (Ex.t rfl (Ex.v rfl))) ?_
    rintro _ rfl
    refine exWr (Ex.t rfl (Ex.v ?_))
    refine Ex.t rfl ?_
    unfold kX8_undo_j13
    exact Ex.o holds8_1 (Ex.t rfl (Ex.v ⟨rfl, fun h => absurd h n10, hI'.up⟩))
  · obtain ⟨e, rfl⟩ : ∃ e, dn = e + 1 := ⟨dn - 1, by omega⟩
    have he : e < ke := by omega
    have hc := hhist e he
    have hMe := hMh e he
    have hme := hmM e he
    generalize hist e = c at hc hMe hme
    have hc16 : c < 16 := by omega
    have hst : kX2_stepBack F (nI (e + 1)) hM = some (nI c, nI e) := by
      unfold kX2_stepBack
      rw [nI_pred, if_neg (nI_nle (by omega) (by omega)), if_pos (show nI (e + 1) ≤ (512 : Int32) from nI_le (show e + 1 ≤ 512 by omega) (by decide)), if_pos (ix_n (show e < 512 by omega) (by decide)), cl_n (by omega), hMe]
    have hsp : kX0_spin F (nI (w * h)) (fN T) (nI c) 3 = some (fN (up T c (rot (T c) 3))) := by
      unfold kX0_spin
      exact ob_i (a_sidesOf hc16) (ob_i (show kX7_turned F (fN T c) 3 = _ from a_turned (k := 3) (hT c) (by decide)) (ob_i (a_lay hn hc) rfl))
    refine Ex.b (P := fun z => z = .inl (nI e, fN (up T c (rot (T c) 3)), nI e)) (Ex.o hst (Ex.f (n_m1 (show c < 2 ^ 31 by omega)) (Ex.o hsp (Ex.o rfl (Ex.v rfl))))) ?_
    rintro _ rfl
    refine exWl (Ex.t out0 (Ex.v ?_))
    refine Ex.f (show ¬ nI (e + 1) = 0 from nI_ne0 (by omega) (by omega)) ?_
    unfold kX8_undo_j13
    have em : nI e - nI e / 4096 * 4096 = nI e := by
      rw [show (4096 : Int32) = nI 4096 from rfl, pk_rem (by omega) (by decide) (by decide), Nat.mod_eq_of_lt (by omega)]
    rw [nI_pred, em, cl_n (show e < 2 ^ 31 by omega), hme, cl_n (show c < 2 ^ 31 by omega)]
    refine Ex.o holds8_0 (Ex.f n10 (Ex.t (ix_n (show e < 4096 by omega) (by decide)) (Ex.t (ix_n (show e < 4096 by omega) (by decide)) (Ex.t (ix_n hc16 (by decide)) (Ex.o (show kX8_turned F (fN T c) 3 = some (nI (rot (T c) 3)) from a_turned8 (k := 3) (hT c) (by decide) hF.1) (Ex.t (ix_n hc16 (by decide)) (Ex.v ?_)))))))
    rw [upd_fN]
    exact ⟨rfl, fun _ => rfl, w, h, g, up T c (rot (T c) 3), Wm, lm, src, hist, e, ke, N, Y, o, up_lt hT (rot_lt _ _), hWm, hsy, hlm, hsrc, by omega, Nat.le_succ_of_le hki, hhist, rfl, rfl, rfl, rfl, hC, rfl, rfl, hN, hY, rfl, rfl, hMh, hc0, hc1, rfl, rfl, rfl, rfl, rfl, rfl, rfl, hmW, hmK, hmM⟩
theorem ag_redo (hI : INV i bn bk bs bT bC bN bW hd hk hM nb0 nw0 nb1 nw1 mw mh mg ms mv md mT mW mK mM) (hi : i < 512) (hF : BF F) : Ex (kL_redo F bn bT hd hk hM oO) (fun r => Ex (kX8_redo F mt mv md mT mM) (fun q => q.2.1 = r.1 ∧ (r.1 = 0 → r.2.2.2 0 = q.1.toInt64) ∧ INV (i + 1) bn bk bs r.2.1 bC bN bW r.2.2.1 hk hM nb0 nw0 nb1 nw1 mw mh mg ms mv q.2.2.1 q.2.2.2 mW mK mM)) := by
  unfold kL_redo kX7_redo kX8_redo
  have hI' := hI
  obtain ⟨w, h, g, T, Wm, lm, src, hist, dn, ke, N, Y, o, hT, hWm, hsy, hlm, hsrc, hdk, hki, hhist, rfl, rfl, rfl, rfl, hC, rfl, rfl, hN, hY, rfl, rfl, hMh, hc0, hc1, rfl, rfl, rfl, rfl, rfl, rfl, rfl, hmW, hmK, hmM⟩ := hI
  have hn := (okS_b o).2.2.2.2
  by_cases h0 : dn = ke
  · subst h0
    have hst : kX2_stepOn F (nI dn) (nI dn) hM = some (-1, nI dn) := by
      unfold kX2_stepOn
      rw [if_neg (nI_pos (by omega)), if_pos (nI_le (Nat.le_refl _) (by omega))]
    refine Ex.b (P := fun z => z = .inr (2, fN T, nI dn)) (Ex.o hst (Ex.t rfl (Ex.v rfl))) ?_
    rintro _ rfl
    refine exWr (Ex.t rfl (Ex.v ?_))
    refine Ex.t rfl ?_
    unfold kX8_redo_j17
    exact Ex.o holds8_1 (Ex.t rfl (Ex.v ⟨rfl, fun h => absurd h n10, hI'.up⟩))
  · have he : dn < ke := by omega
    have hc := hhist dn he
    have hMe := hMh dn he
    have hme := hmM dn he
    generalize hist dn = c at hc hMe hme
    have hc16 : c < 16 := by omega
    have hst : kX2_stepOn F (nI dn) (nI ke) hM = some (nI c, nI (dn + 1)) := by
      unfold kX2_stepOn
      rw [nI_1, nI_pred, if_neg (nI_pos (by omega)), if_neg (nI_ge he (by omega)), if_pos (show nI dn < (512 : Int32) from nI_lt (show dn < 512 by omega) (by decide)), if_pos (ix_n (show dn < 512 by omega) (by decide)), cl_n (by omega), hMe]
    have hsp : kX0_spin F (nI (w * h)) (fN T) (nI c) 1 = some (fN (up T c (rot (T c) 1))) := by
      unfold kX0_spin
      exact ob_i (a_sidesOf hc16) (ob_i (show kX7_turned F (fN T c) 1 = _ from a_turned (k := 1) (hT c) (by decide)) (ob_i (a_lay hn hc) rfl))
    refine Ex.b (P := fun z => z = .inl (nI (dn + 1), fN (up T c (rot (T c) 1)), nI (dn + 1))) (Ex.o hst (Ex.f (n_m1 (show c < 2 ^ 31 by omega)) (Ex.o hsp (Ex.o rfl (Ex.v rfl))))) ?_
    rintro _ rfl
    refine exWl (Ex.t out0 (Ex.v ?_))
    refine Ex.f (show ¬ nI dn = nI ke by rw [nI_eq (by omega) (by omega)]; exact h0) ?_
    unfold kX8_redo_j17
    have em : nI dn - nI dn / 4096 * 4096 = nI dn := by
      rw [show (4096 : Int32) = nI 4096 from rfl, pk_rem (by omega) (by decide) (by decide), Nat.mod_eq_of_lt (by omega)]
    rw [em, cl_n (show dn < 2 ^ 31 by omega), hme, cl_n (show c < 2 ^ 31 by omega), nI_1]
    refine Ex.o holds8_0 (Ex.f n10 (Ex.t (ix_n (show dn < 4096 by omega) (by decide)) (Ex.t (ix_n (show dn < 4096 by omega) (by decide)) (Ex.t (ix_n hc16 (by decide)) (Ex.o (show kX8_turned F (fN T c) 1 = some (nI (rot (T c) 1)) from a_turned8 (k := 1) (hT c) (by decide) hF.1) (Ex.t (ix_n hc16 (by decide)) (Ex.v ?_)))))))
    rw [upd_fN]
    exact ⟨rfl, fun _ => rfl, w, h, g, up T c (rot (T c) 1), Wm, lm, src, hist, dn + 1, ke, N, Y, o, up_lt hT (rot_lt _ _), hWm, hsy, hlm, hsrc, by omega, Nat.le_succ_of_le hki, hhist, rfl, rfl, rfl, rfl, hC, rfl, rfl, hN, hY, rfl, rfl, hMh, hc0, hc1, rfl, rfl, rfl, rfl, rfl, rfl, rfl, hmW, hmK, hmM⟩
end AI
