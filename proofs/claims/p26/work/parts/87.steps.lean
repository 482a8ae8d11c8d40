/-! the law's steps -/
theorem c62 : (62 : Int32).toNatClampNeg = 62 := cl_n (n := 62) (by decide)
theorem c63 : (63 : Int32).toNatClampNeg = 63 := cl_n (n := 63) (by decide)
theorem x62 : ix 62 64 = true := by decide
theorem x63 : ix 63 64 = true := by decide
theorem i32 : (32 : Int32) = nI 32 := rfl
theorem l_turned {F t : Nat} (ht : t < 16) : kL_turned F (nI t) = some (nI (rot t 1)) := by
  have h : ∀ t, t < 16 → kL_turned 0 (nI t) = some (nI (rot t 1)) := by decide +kernel
  exact h t ht
theorem l_sides {F t : Nat} (ht : t < 16) : kL_sides F (nI t) = some (nI (pop t 16)) := by
  have h : ∀ t, t < 16 → kL_sides 0 (nI t) = some (nI (pop t 16)) := by decide +kernel
  exact h t ht
theorem rot_111 {t : Nat} (ht : t < 16) : rot (rot (rot t 1) 1) 1 = rot t 3 := by
  have h : ∀ t, t < 16 → rot (rot (rot t 1) 1) 1 = rot t 3 := by decide +kernel
  exact h t ht
theorem upd_s {f : Nat → Int32} {k j : Nat} {v : Int32} (h : j = k) : upd f k v j = v := by subst h; exact pk_us
section ST
variable {F w h : Nat} {g : Bool} {T Wm : Nat → Nat} {lm src : Nat} {bn bk bs : Int32} {bT bC bN bW bL tT tW : Nat → Int32} {dn ke : Nat} {hist : Nat → Nat} {hd hk : Int32} {hM : Nat → Int32} {kp ku : Int32} {kC kS vL vS vA vT sR sI sF : Nat → Int32} {so sw : Int32} {sP : Nat → Nat → Int32}
theorem LT.n16 (hB : BD w h g T Wm lm src bn bk bs bT bC bN bW) (h12 : w * h ≤ 12) {c : Nat} (hc : c < w * h) : c < 12 := by omega
theorem L_undoes {b : Bool} (h12 : w * h ≤ 12) (hB : BD w h g T Wm lm src bn bk bs bT bC bN bW) (hH : HS (w * h) dn ke hist hd hk hM) (hL : LT (w * h) T lm dn ke hist tT) (hW : ∀ j, j < w * h → tW j = nI (Wm j)) : Ex (kL_undoes F bn bT hd hk hM tT (bI b)) (fun r => r.1 = 1 ∧ LI bn bk bs r.2.1 bC bN bW r.2.2.1 hk hM r.2.2.2 tW) := by
  have hLI : LI bn bk bs bT bC bN bW hd hk hM tT tW := ⟨w, h, g, T, Wm, lm, src, dn, ke, hist, h12, hB, hH, hL, hW⟩
  have hT := hB.2.1
  have hn := hB.n.1
  obtain ⟨l1, l2, l3, l4, l5, l6⟩ := hL
  have hdk := hH.1
  unfold kL_undoes
  rw [c62, c63, l4, l5]
  cases b with
  | false =>
    refine Ex.t bI_f (Ex.t x62 (Ex.t x63 ?_))
    by_cases e0 : dn = ke
    · exact Ex.t (by rw [e0]) (Ex.o (c_moves hH) (Ex.t x62 (Ex.t rfl (Ex.v ⟨rfl, hLI⟩))))
    · have hlt : dn < ke := by omega
      obtain ⟨cr, hH2, hc⟩ := c_redo (F := F) hB hH hlt
      have hx : ix (nI (hist dn)) 64 = true := ix_n (by omega) (by decide)
      refine Ex.f (fun x => e0 ((nI_eq (by omega) (by omega)).mp x)) (Ex.t bI_f (Ex.t x62 ?_))
      rw [i32, nI_add, cl_n (show 32 + dn < 2 ^ 31 by omega), l3 dn hlt]
      refine Ex.t (ix_n (show 32 + dn < 64 by omega) (by decide)) (Ex.o rfl (Ex.t x62 (Ex.t x62 (Ex.o rfl (Ex.t hx ?_)))))
      rw [cl_n (show hist dn < 2 ^ 31 by omega), pk_un (show hist dn ≠ 62 by omega), l1 _ hc]
      refine Ex.o (l_turned (hT _)) (Ex.t hx (Ex.o rfl (Ex.o cr (Ex.t x62 (Ex.t ?_ ?_)))))
      · rw [pk_un (show 62 ≠ hist dn by omega), pk_us, nI_1]
      · have hB2 := hB.til (up_lt hT (rot_lt (T (hist dn)) 1) (k := hist dn))
        refine Ex.o (c_tile hB2 hc) (Ex.t hx (Ex.t (by rw [pk_us, up_s]) (Ex.v ⟨rfl, w, h, g, _, Wm, lm, src, dn + 1, ke, hist, h12, hB2, hH2, ⟨fun j hj => ?_, fun j hj => ?_, fun j hj => ?_, ?_, ?_, l6⟩, hW⟩)))
        · show upd (upd tT 62 (nI dn + 1)) (hist dn) (nI (rot (T (hist dn)) 1)) j = nI (up T (hist dn) (rot (T (hist dn)) 1) j)
          by_cases e : j = hist dn
          · rw [e, pk_us, up_s]
          · rw [pk_un e, pk_un (by omega), up_n e, l1 j hj]
        · show upd (upd tT 62 (nI dn + 1)) (hist dn) (nI (rot (T (hist dn)) 1)) (16 + j) = _
          rw [pk_un (by omega), pk_un (by omega), l2 j hj]
        · show upd (upd tT 62 (nI dn + 1)) (hist dn) (nI (rot (T (hist dn)) 1)) (32 + j) = _
          rw [pk_un (by omega), pk_un (by omega), l3 j hj]
        · show upd (upd tT 62 (nI dn + 1)) (hist dn) (nI (rot (T (hist dn)) 1)) 62 = _
          rw [pk_un (by omega), pk_us, nI_1]
        · show upd (upd tT 62 (nI dn + 1)) (hist dn) (nI (rot (T (hist dn)) 1)) 63 = _
          rw [pk_un (by omega), pk_un (by decide), l5]
  | true =>
    refine Ex.f bI_n (Ex.t x62 ?_)
    by_cases e0 : dn = 0
    · refine Ex.t (by rw [e0]; rfl) (Ex.o (c_moves hH) (Ex.t x62 (Ex.t rfl (Ex.v ⟨rfl, hLI⟩))))
    · obtain ⟨e, rfl⟩ : ∃ e, dn = e + 1 := ⟨dn - 1, by omega⟩
      obtain ⟨cu, hH2, hc⟩ := c_undo (F := F) hB hH
      have hx : ix (nI (hist e)) 64 = true := ix_n (by omega) (by decide)
      refine Ex.f (fun x => e0 ((nI_eq (b := 0) (by omega) (by omega)).mp x)) (Ex.f bI_n (Ex.t x62 (Ex.t x62 (Ex.o rfl (Ex.t x62 ?_)))))
      rw [pk_us, nI_pred, i32, nI_add, cl_n (show 32 + e < 2 ^ 31 by omega), pk_un (show 32 + e ≠ 62 by omega), l3 e (by omega)]
      refine Ex.t (ix_n (show 32 + e < 64 by omega) (by decide)) (Ex.o rfl (Ex.t hx ?_))
      rw [cl_n (show hist e < 2 ^ 31 by omega), pk_un (show hist e ≠ 62 by omega), l1 _ hc]
      refine Ex.o (l_turned (hT _)) (Ex.o (l_turned (rot_lt _ _)) (Ex.o (l_turned (rot_lt _ _)) (Ex.t hx (Ex.o rfl (Ex.o cu (Ex.t x62 (Ex.t ?_ ?_)))))))
      · rw [pk_un (show 62 ≠ hist e by omega), pk_us]
      · have hB2 := hB.til (up_lt hT (rot_lt (T (hist e)) 3) (k := hist e))
        rw [rot_111 (hT _)]
        refine Ex.o (c_tile hB2 hc) (Ex.t hx (Ex.t (by rw [pk_us, up_s]) (Ex.v ⟨rfl, w, h, g, _, Wm, lm, src, e, ke, hist, h12, hB2, hH2, ⟨fun j hj => ?_, fun j hj => ?_, fun j hj => ?_, ?_, ?_, l6⟩, hW⟩)))
        · show upd (upd tT 62 (nI e)) (hist e) (nI (rot (T (hist e)) 3)) j = nI (up T (hist e) (rot (T (hist e)) 3) j)
          by_cases q : j = hist e
          · rw [q, pk_us, up_s]
          · rw [pk_un q, pk_un (by omega), up_n q, l1 j hj]
        · show upd (upd tT 62 (nI e)) (hist e) (nI (rot (T (hist e)) 3)) (16 + j) = _
          rw [pk_un (by omega), pk_un (by omega), l2 j hj]
        · show upd (upd tT 62 (nI e)) (hist e) (nI (rot (T (hist e)) 3)) (32 + j) = _
          rw [pk_un (by omega), pk_un (by omega), l3 j hj]
        · show upd (upd tT 62 (nI e)) (hist e) (nI (rot (T (hist e)) 3)) 62 = _
          rw [pk_un (by omega), pk_us]
        · show upd (upd tT 62 (nI e)) (hist e) (nI (rot (T (hist e)) 3)) 63 = _
          rw [pk_un (by omega), pk_un (by decide), l5]
theorem Rc_0 {n a b : Nat} {Wy : Nat → Nat → Option Nat} (hW : WOK n Wy) (h0 : ∀ j, j < n → T j = 0) (h : Rc (JA Wy T) a b) : b = a := h (fun z => z = a) rfl (fun x y _ hxy => (JA_0 hW h0 hxy).elim)
theorem bg_z80 {x y : Nat → Int32} (hF : 1000 ≤ F) : Ex (kloop F (fun s_ => kL_begins_s80 F s_.1 s_.2.1 s_.2.2) (0, x, y)) (fun r => (∀ j, j < 64 → r.1 j = 0) ∧ ∀ j, j < 16 → r.2 j = 0) := by
  refine Ex.fr 64 (fun i s => s.1 = nI i ∧ (∀ j, j < i → s.2.1 j = 0) ∧ ∀ j, j < 16 → j < i → s.2.2 j = 0) ⟨rfl, fun j hj => absurd hj (Nat.not_lt_zero j), fun j _ hj => absurd hj (Nat.not_lt_zero j)⟩ ?_ ?_ (by omega)
  · rintro i ⟨s1, s2, s3⟩ hi ⟨e1, e2, e3⟩
    have e1 : s1 = nI i := e1
    subst e1
    show Ex (kL_begins_s80 F (nI i) s2 s3) _
    unfold kL_begins_s80
    have hm : nI i - nI i / 16 * 16 = nI (i % 16) := pk_rem (d := 16) (by omega) (by decide) (by decide)
    rw [hm]
    refine Ex.f (show ¬ (64 : Int32) ≤ nI i from nI_ge hi (by decide)) (Ex.t (ix_n hi (by decide)) (Ex.o rfl (Ex.t (ix_n (Nat.mod_lt _ (by decide)) (by decide)) (Ex.o rfl (Ex.v ⟨nI_1 i, fun j hj => ?_, fun j hj hji => ?_⟩)))))
    · show upd s2 (nI i).toNatClampNeg 0 j = 0
      rw [cl_n (show i < 2 ^ 31 by omega)]
      by_cases e : j = i
      · rw [e, pk_us]
      · rw [pk_un e]; exact e2 j (by omega)
    · show upd s3 (nI (i % 16)).toNatClampNeg 0 j = 0
      rw [cl_n (show i % 16 < 2 ^ 31 by omega)]
      by_cases e : j = i % 16
      · rw [e, pk_us]
      · rw [pk_un e]; exact e3 j hj (by omega)
  · rintro ⟨s1, s2, s3⟩ ⟨e1, e2, e3⟩
    have e1 : s1 = nI 64 := e1
    subst e1
    show Ex (kL_begins_s80 F (nI 64) s2 s3) _
    unfold kL_begins_s80
    exact Ex.t (by decide) (Ex.v ⟨e2, fun j hj => e3 j hj (by omega)⟩)
theorem z16_0 {j : Nat} (hj : j < 16) : z16 T j = 0 := if_pos hj
theorem LI_0 {W' H' : Nat} {g' : Bool} {M : Nat → Nat} {bn' bk' bs' hd' hk' : Int32} {bT' bC' bN' bW' : Nat → Int32} (h12 : W' * H' ≤ 12) (hB : BD W' H' g' M (fun _ => 0) 0 0 bn' bk' bs' bT' bC' bN' bW') (h1 : hd' = 0) (h2 : hk' = 0) (t1 : ∀ j, j < W' * H' → tT j = nI (M j)) (t2 : ∀ j, W' * H' ≤ j → j < 64 → tT j = 0) (t3 : ∀ j, j < 16 → tW j = 0) : LI bn' bk' bs' bT' bC' bN' bW' hd' hk' hM tT tW := by
  refine ⟨W', H', g', M, _, 0, 0, 0, 0, fun _ => 0, h12, hB, ⟨Nat.le_refl 0, Nat.zero_le _, fun j hj => absurd hj (Nat.not_lt_zero j), h1, h2, fun j hj => absurd hj (Nat.not_lt_zero j)⟩, ⟨t1, fun j hj => ?_, fun j hj => absurd hj (Nat.not_lt_zero j), t2 62 (by omega) (by decide), t2 63 (by omega) (by decide), Nat.zero_le _⟩, fun j hj => t3 j (by omega)⟩
  rw [t2 (16 + j) (by omega) (by omega), Nat.zero_testBit]
  rfl
theorem L_bg50 {d W' H' : Nat} {g' : Bool} (hd31 : d < 2 ^ 31) (h12 : w * h ≤ 12) (hB : BD w h g T Wm lm src bn bk bs bT bC bN bW) (hLI : LI bn bk bs bT bC bN bW hd hk hM tT tW) (hWH : W' ≤ 5 ∧ H' ≤ 5) (o : W' * H' ≤ 12 → okS W' H' g' = true) (hF : 1000 ≤ F) : Ex (kL_begins_j50 F bn bk bs bT bC bN bW bL hd hk kp ku kC kS vL vS vA vT so sw sR sI sP sF tT tW (nI d) (nI W') (nI H') (bI g')) (fun r => r.1 = 1 ∧ LI r.2.1 r.2.2.1 r.2.2.2.1 r.2.2.2.2.1 r.2.2.2.2.2.1 r.2.2.2.2.2.2.1 r.2.2.2.2.2.2.2.1 r.2.2.2.2.2.2.2.2.2.1 r.2.2.2.2.2.2.2.2.2.2.1 hM r.2.2.2.2.2.2.2.2.2.2.2.2.2.2.2.2.2.2.2.2.2.2.2.2.2.1 r.2.2.2.2.2.2.2.2.2.2.2.2.2.2.2.2.2.2.2.2.2.2.2.2.2.2) := by
  have p25 : W' * H' ≤ 25 := Nat.mul_le_mul hWH.1 hWH.2
  unfold kL_begins_j50
  rw [pk_mul]
  by_cases hle : W' * H' ≤ 12
  · have o := o hle
    have hn1 := okS_1 o
    have hn4 : 4 ≤ W' * H' := by
      obtain ⟨a1, a2, a3, a4, a5⟩ := okS_b o
      exact Nat.mul_le_mul a1 a3
    refine Ex.t (show nI (W' * H') ≤ (12 : Int32) from nI_le hle (by decide)) (Ex.b (bg_z80 (x := tT) (y := tW) hF) ?_)
    rintro ⟨u1, u2⟩ ⟨hu1, hu2⟩
    have hu1 : ∀ j, j < 64 → u1 j = 0 := hu1
    have hu2 : ∀ j, j < 16 → u2 j = 0 := hu2
    by_cases hz : (nI d / 3) - (nI d / 3) / 4 * 4 = 0
    · refine Ex.t hz (Ex.b (c_begin hB o hF) ?_)
      intro q ⟨k1, k2, k3, k4⟩
      have zz : ∀ j, j < W' * H' → z16 T j = 0 := fun j hj => z16_0 (by omega)
      obtain ⟨hn, -, -, hT2, hW2⟩ := k2.n
      have op := opn_0 zz
      have sp := opn_split (n := W' * H') (Wy := Wyf W' H' g' (fun _ => 0)) hT2
      have jn0 : jnn (Wyf W' H' g' (fun _ => 0)) (z16 T) (W' * H') = 0 := by omega
      refine Ex.t (by rw [k1]) (Ex.o (c_size k2) (Ex.t rfl (Ex.o (c_loose k2 hF) (Ex.t (by rw [op, jn0]; decide) (Ex.b (c_wat k2 hF) ?_)))))
      intro q2 e2
      have hp : nP (fun b => Rc (JA (Wyf W' H' g' (fun _ => 0)) (z16 T)) 0 b) (W' * H') = 1 := nP_one Rc.rf hn1 (fun i hi hin hr => by have := Rc_0 hW2 zz hr; omega)
      refine Ex.t (by rw [e2, hp]; rfl) (Ex.b (c_sols k2 hF) ?_)
      intro q3 e3
      obtain ⟨cnt, few, fst, eE, hcnt, hS, -, -⟩ := srE_all hW2 hn1 hle hT2 (O := ownA (z16 T) 0 (W' * H')) (fun j => ownA_lt _ _ _ j)
      have hc0 : cnt = 0 := by
        apply Classical.byContradiction
        intro hne
        have := ((Sol_ref hW2 hn1 hT2 (fun j => ownA_lt _ _ _ j)).mpr (hS hne).1).2.1
        omega
      have e3 : q3.1 = 0 := by
        rw [e3]
        show (srE (Wyf W' H' g' (fun _ => 0)) (z16 T) (ownA (z16 T) 0 (W' * H')) (W' * H')).1 = 0
        rw [eE, hc0]; rfl
      refine Ex.t e3 ?_
      unfold kL_begins_j172
      exact Ex.t rfl (Ex.v ⟨rfl, LI_0 hle k2 k3 k4 (fun j hj => by rw [zz j hj]; exact hu1 j (by omega)) (fun j _ hj => hu1 j hj) hu2⟩)
    · refine Ex.f hz ?_
      have hu : d / 12 % 65536 < 65536 := Nat.mod_lt _ (by decide)
      have eu : (nI d / 12) - (nI d / 12) / 65536 * 65536 = nI (d / 12 % 65536) := by
        rw [show nI d / 12 = nI (d / 12) from pk_div (d := 12) hd31 (by decide) (by decide)]
        exact pk_rem (d := 65536) (by omega) (by decide) (by decide)
      rw [eu]
      refine Ex.b (c_make hB o hu hF) ?_
      intro q43 ⟨k1, k2, k3, k4⟩
      obtain ⟨hn, -, -, hM2, hW2⟩ := k2.n
      obtain ⟨op, a, ha⟩ := mk_sol o (d / 12 % 65536) (z16_lt hB.2.1) (fun j hj => z16_0 (by omega)) hM2
      generalize hMe : mkT W' H' g' (d / 12 % 65536) (z16 T) = M at k1 k2 hM2 op ha
      refine Ex.b (P := fun q => q.1 = nI (opn M (W' * H')) ∧ q.2.1 = nI (ends M (W' * H')) ∧ (∀ j, j < W' * H' → q.2.2 j = nI (M j)) ∧ ∀ j, W' * H' ≤ j → j < 64 → q.2.2 j = 0) (Ex.fr (W' * H') (fun i s => s.1 = nI (opn M i) ∧ s.2.1 = nI (ends M i) ∧ s.2.2.1 = nI i ∧ (∀ j, j < i → s.2.2.2 j = nI (M j)) ∧ ∀ j, i ≤ j → j < 64 → s.2.2.2 j = 0) ⟨rfl, rfl, rfl, fun j hj => absurd hj (Nat.not_lt_zero j), fun j _ hj => hu1 j hj⟩ ?_ ?_ (by omega)) ?_
      · rintro i ⟨s1, s2, s3, s4⟩ hi ⟨e1, e2, e3, e4, e5⟩
        have e1 : s1 = nI (opn M i) := e1
        have e2 : s2 = nI (ends M i) := e2
        have e3 : s3 = nI i := e3
        subst e1 e2 e3
        show Ex (kL_begins_s202 F q43 (nI (opn M i)) (nI (ends M i)) (nI i) s4) _
        unfold kL_begins_s202
        have hx : ix (nI i) 64 = true := ix_n (show i < 64 by omega) (by decide)
        have fin : ∀ j : Nat, (j < i + 1 → upd s4 i (nI (M i)) j = nI (M j)) ∧ (i + 1 ≤ j → j < 64 → upd s4 i (nI (M i)) j = 0) := fun j => ⟨fun hj => by
          by_cases e : j = i
          · rw [e, pk_us]
          · rw [pk_un e]; exact e4 j (by omega), fun hj hj64 => by rw [pk_un (by omega)]; exact e5 j (by omega) hj64⟩
        refine Ex.o (c_size k2) (Ex.f (nI_ge hi (by omega)) (Ex.o (c_tile k2 hi) (Ex.t hx ?_)))
        rw [cl_n (show i < 2 ^ 31 by omega)]
        refine Ex.o rfl (Ex.t hx ?_)
        rw [pk_us]
        refine Ex.o (l_sides (hM2 i)) (Ex.o rfl (Ex.t hx (Ex.o (l_sides (hM2 i)) ?_)))
        by_cases h1 : pop (M i) 16 = 1
        · refine Ex.t (by rw [h1]; rfl) (Ex.o rfl (Ex.v ⟨nI_add _ _, ?_, nI_1 i, fun j hj => (fin j).1 hj, fun j hj hj2 => (fin j).2 hj hj2⟩))
          show nI (ends M i) + nI 1 = nI (ends M i + if pop (M i) 16 = 1 then 1 else 0)
          rw [if_pos h1, nI_add]
        · have := pop_le (M i) 16
          refine Ex.f (fun x => h1 ((nI_eq (b := 1) (by omega) (by omega)).mp x)) (Ex.o rfl (Ex.v ⟨nI_add _ _, ?_, nI_1 i, fun j hj => (fin j).1 hj, fun j hj hj2 => (fin j).2 hj hj2⟩))
          show nI (ends M i) + nI 0 = nI (ends M i + if pop (M i) 16 = 1 then 1 else 0)
          rw [if_neg h1, nI_add]
      · rintro ⟨s1, s2, s3, s4⟩ ⟨e1, e2, e3, e4, e5⟩
        have e3 : s3 = nI (W' * H') := e3
        subst e3
        show Ex (kL_begins_s202 F q43 s1 s2 (nI (W' * H')) s4) _
        unfold kL_begins_s202
        exact Ex.o (c_size k2) (Ex.t (nI_le (Nat.le_refl _) (by omega)) (Ex.v ⟨e1, e2, e4, e5⟩))
      · intro q100 ⟨e1, e2, e3, e4⟩
        have e22 : 2 * nI (W' * H') - 2 = nI (2 * (W' * H' - 1)) := by
          rw [i2, pk_mul, pk_sub (by omega)]
          congr 1
          omega
        refine Ex.t (by rw [k1, e2]) (Ex.o (c_size k2) (Ex.t (by rw [e1, op, e22]) (Ex.o (c_size k2) (Ex.t rfl (Ex.o (show kX7_moves F _ = some _ from rfl) (Ex.t k3 (Ex.b (c_sols k2 hF) ?_)))))))
        intro q3 e3'
        obtain ⟨cnt, few, fst, eE, hcnt, hS, hall, -⟩ := srE_all hW2 hn1 hle hM2 (O := ownA M 0 (W' * H')) (fun j => ownA_lt _ _ _ j)
        have hc0 := (hall a ha).1
        have p24 : (2 : Nat) ^ 24 = 16777216 := rfl
        have e3' : q3.1 = nI cnt := by
          rw [e3']
          show (srE (Wyf W' H' g' (fun _ => 0)) M (ownA M 0 (W' * H')) (W' * H')).1 = nI cnt
          rw [eE]
        refine Ex.f (by rw [e3']; exact Int32.not_lt.mpr (show (1 : Int32) ≤ nI cnt from nI_le (show 1 ≤ cnt by omega) (by omega))) ?_
        unfold kL_begins_j312
        exact Ex.t rfl (Ex.v ⟨rfl, LI_0 hle k2 k3 k4 e3 e4 hu2⟩)
  · refine Ex.f (fun x => hle ((nI_leI (by omega) (by decide)).mp x)) (Ex.o (c_size hB) (Ex.f ?_ (Ex.v ⟨rfl, hLI⟩)))
    exact Int32.not_lt.mpr (show nI (w * h) ≤ (16 : Int32) from nI_le (show w * h ≤ 16 by omega) (by decide))
theorem L_begins {a d : Nat} (ha31 : a < 2 ^ 31) (hd31 : d < 2 ^ 31) (h12 : w * h ≤ 12) (hB : BD w h g T Wm lm src bn bk bs bT bC bN bW) (hLI : LI bn bk bs bT bC bN bW hd hk hM tT tW) (hF : 1000 ≤ F) : Ex (kL_begins F bn bk bs bT bC bN bW bL hd hk kp ku kC kS vL vS vA vT so sw sR sI sP sF tT tW (nI a) (nI d)) (fun r => r.1 = 1 ∧ LI r.2.1 r.2.2.1 r.2.2.2.1 r.2.2.2.2.1 r.2.2.2.2.2.1 r.2.2.2.2.2.2.1 r.2.2.2.2.2.2.2.1 r.2.2.2.2.2.2.2.2.2.1 r.2.2.2.2.2.2.2.2.2.2.1 hM r.2.2.2.2.2.2.2.2.2.2.2.2.2.2.2.2.2.2.2.2.2.2.2.2.2.1 r.2.2.2.2.2.2.2.2.2.2.2.2.2.2.2.2.2.2.2.2.2.2.2.2.2.2) := by
  have e1 : 2 + (nI a - nI a / 4 * 4) = nI (2 + a % 4) := by
    rw [show nI a - nI a / 4 * 4 = nI (a % 4) from pk_rem (d := 4) ha31 (by decide) (by decide), i2, nI_add]
  have e2 : 2 + ((nI a / 4) - (nI a / 4) / 4 * 4) = nI (2 + a / 4 % 4) := by
    rw [show nI a / 4 = nI (a / 4) from pk_div (d := 4) ha31 (by decide) (by decide), show nI (a / 4) - nI (a / 4) / 4 * 4 = nI (a / 4 % 4) from pk_rem (d := 4) (by omega) (by decide) (by decide), i2, nI_add]
  unfold kL_begins
  refine Ex.o (congrArg some e1) (Ex.o (congrArg some e2) ?_)
  have hw : 2 ≤ 2 + a % 4 ∧ 2 + a % 4 ≤ 5 := by omega
  have hh : 2 ≤ 2 + a / 4 % 4 ∧ 2 + a / 4 % 4 ≤ 5 := by omega
  generalize 2 + a % 4 = W' at hw ⊢
  generalize 2 + a / 4 % 4 = H' at hh ⊢
  have o0 : W' * H' ≤ 12 → okS W' H' false = true := fun hle => by
    unfold okS
    rw [decide_eq_true (show 2 ≤ W' ∧ W' ≤ 5 ∧ 2 ≤ H' ∧ H' ≤ 5 ∧ W' * H' ≤ 16 from ⟨hw.1, hw.2, hh.1, hh.2, by omega⟩)]
    rfl
  have j0 : Ex (kL_begins_j50 F bn bk bs bT bC bN bW bL hd hk kp ku kC kS vL vS vA vT so sw sR sI sP sF tT tW (nI d) (nI W') (nI H') 0) (fun r => r.1 = 1 ∧ LI r.2.1 r.2.2.1 r.2.2.2.1 r.2.2.2.2.1 r.2.2.2.2.2.1 r.2.2.2.2.2.2.1 r.2.2.2.2.2.2.2.1 r.2.2.2.2.2.2.2.2.2.1 r.2.2.2.2.2.2.2.2.2.2.1 hM r.2.2.2.2.2.2.2.2.2.2.2.2.2.2.2.2.2.2.2.2.2.2.2.2.2.1 r.2.2.2.2.2.2.2.2.2.2.2.2.2.2.2.2.2.2.2.2.2.2.2.2.2.2) := L_bg50 (g' := false) hd31 h12 hB hLI ⟨hw.2, hh.2⟩ o0 hF
  by_cases c1 : nI d - nI d / 3 * 3 = 0
  · refine Ex.t c1 ?_
    by_cases c2 : nI W' ≤ 2
    · exact Ex.t c2 j0
    · refine Ex.f c2 ?_
      by_cases c3 : nI H' ≤ 2
      · exact Ex.t c3 j0
      · refine Ex.f c3 ?_
        by_cases c4 : 12 < nI W' * nI H'
        · exact Ex.t c4 j0
        · refine Ex.f c4 (L_bg50 (g' := true) hd31 h12 hB hLI ⟨hw.2, hh.2⟩ (fun hle => ?_) hF)
          have w3 : 3 ≤ W' := by
            apply Classical.byContradiction
            intro x
            exact c2 (show nI W' ≤ nI 2 from nI_le (by omega) (by decide))
          have h3 : 3 ≤ H' := by
            apply Classical.byContradiction
            intro x
            exact c3 (show nI H' ≤ nI 2 from nI_le (by omega) (by decide))
          unfold okS
          rw [decide_eq_true (show 2 ≤ W' ∧ W' ≤ 5 ∧ 2 ≤ H' ∧ H' ≤ 5 ∧ W' * H' ≤ 16 from ⟨hw.1, hw.2, hh.1, hh.2, by omega⟩), decide_eq_true (show 3 ≤ W' ∧ 3 ≤ H' ∧ W' * H' ≤ 12 from ⟨w3, h3, hle⟩)]
          rfl
  · exact Ex.f c1 j0
theorem st137 {c s : Nat} {b : Bool} (h12 : w * h ≤ 12) (hB : BD w h g T Wm lm src bn bk bs bT bC bN bW) (hH : HS (w * h) dn ke hist hd hk hM) (hL : LT (w * h) T lm dn ke hist tT) (hW : ∀ j, j < w * h → tW j = nI (Wm j)) (hc : c < w * h) (hs : s < 4) : Ex (kL_step_j137 F bn bk bs bT bC bN bW bL hd hk hM kp ku kC kS vL vS vA vT so sw sR sI sP sF tT tW (nI c) (nI s) (bI b)) (fun r => r.1 = 1 ∧ LI r.2.1 r.2.2.1 r.2.2.2.1 r.2.2.2.2.1 r.2.2.2.2.2.1 r.2.2.2.2.2.2.1 r.2.2.2.2.2.2.2.1 r.2.2.2.2.2.2.2.2.2.1 r.2.2.2.2.2.2.2.2.2.2.1 r.2.2.2.2.2.2.2.2.2.2.2.1 r.2.2.2.2.2.2.2.2.2.2.2.2.2.2.2.2.2.2.2.2.2.2.2.2.2.2.1 r.2.2.2.2.2.2.2.2.2.2.2.2.2.2.2.2.2.2.2.2.2.2.2.2.2.2.2) := by
  have hWm := hB.2.2.1
  have h4 := s2_lt s
  have hxc : ix (nI c) 16 = true := ix_n (show c < 16 by omega) (by decide)
  unfold kL_step_j137
  refine Ex.o (c_neigh hB hc hs) ?_
  cases en : nbr w h g c s with
  | none =>
    refine Ex.t rfl (Ex.o (c_joined hB hc hs) ?_)
    rw [jnd_n hc en]
    exact Ex.t rfl (Ex.v ⟨rfl, w, h, g, T, Wm, lm, src, dn, ke, hist, h12, hB, hH, hL, hW⟩)
  | some d =>
    obtain ⟨k1, k2, k3⟩ := nb_lt hB.1 hc hs en
    refine Ex.f (show ¬ enc (some d) = -1 from n_m1 (show d < 2 ^ 31 by omega)) (Ex.t hxc ?_)
    rw [cl_n (show c < 2 ^ 31 by omega), hW c hc, q_bit (by have := hWm c; omega) (by omega)]
    have hxd : ix (nI d) 16 = true := ix_n (show d < 16 by omega) (by decide)
    have rn1 : ∀ j, j < w * h → upd tW c (nI (wb (Wm c) s b)) j = nI (up Wm c (wb (Wm c) s b) j) := fun j hj => by
      by_cases e : j = c
      · subst e; rw [pk_us, up_s]
      · rw [pk_un e, up_n e, hW j hj]
    have hwd : up Wm c (wb (Wm c) s b) d < 16 := by rw [up_n k2]; exact hWm d
    have j256 : ∀ v : Int32, v = nI (if b = true then 2 ^ ((s + 2) % 4) else 0) → Ex (kL_step_j256 F bn bk bs bT bC bN bW bL hd hk hM kp ku kC kS vL vS vA vT so sw sR sI sP sF tT (nI c) (nI s) (bI b) (nI d) (bI ((Wm c).testBit s)) (nI ((s + 2) % 4)) (upd tW c (nI (wb (Wm c) s b))) v) (fun r => r.1 = 1 ∧ LI r.2.1 r.2.2.1 r.2.2.2.1 r.2.2.2.2.1 r.2.2.2.2.2.1 r.2.2.2.2.2.2.1 r.2.2.2.2.2.2.2.1 r.2.2.2.2.2.2.2.2.2.1 r.2.2.2.2.2.2.2.2.2.2.1 r.2.2.2.2.2.2.2.2.2.2.2.1 r.2.2.2.2.2.2.2.2.2.2.2.2.2.2.2.2.2.2.2.2.2.2.2.2.2.2.1 r.2.2.2.2.2.2.2.2.2.2.2.2.2.2.2.2.2.2.2.2.2.2.2.2.2.2.2) := by
      intro v hv
      unfold kL_step_j256
      rw [cl_n (show d < 2 ^ 31 by omega), rn1 d k1, q_wb hwd h4 hv]
      refine Ex.t hxd (Ex.o rfl (Ex.b (c_setWall (b := b) hB hc hs en) ?_))
      rintro ⟨z1, z2⟩ ⟨e1, hB2⟩
      have e1 : z1 = bI ((Wm c).testBit s) := e1
      subst e1
      refine Ex.t rfl (Ex.b (show Ex (kX7_setWall F bn bN z2 (nI d) (nI ((s + 2) % 4)) (bI b)) _ from c_setWall (b := b) hB2 k1 h4 k3) ?_)
      rintro ⟨z3, z4⟩ ⟨e3, hB3⟩
      have e3 : z3 = bI ((W2 Wm c s d b d).testBit ((s + 2) % 4)) := e3
      rw [W2_tb hs h4 k2, if_pos (Or.inr ⟨rfl, rfl⟩)] at e3
      subst e3
      have hW2 : ∀ j, W2 Wm c s d b j < 16 := hB2.2.2.1
      have hW3 : ∀ j, W2 (W2 Wm c s d b) d ((s + 2) % 4) c b j < 16 := hB3.2.2.1
      have same : ∀ j, W2 (W2 Wm c s d b) d ((s + 2) % 4) c b j = W2 Wm c s d b j := fun j => eq16 (hW3 j) (hW2 j) (fun k hk => by
        rw [W2_tb h4 hk (fun x => k2 x.symm), s22 hs, W2_tb hs hk k2]
        by_cases q : (j = c ∧ k = s) ∨ (j = d ∧ k = (s + 2) % 4)
        · rw [if_pos q, if_pos q.symm]
        · rw [if_neg q, if_neg (fun x => q x.symm)])
      refine Ex.t rfl (Ex.v ⟨rfl, w, h, g, T, _, lm, src, dn, ke, hist, h12, hB3, hH, hL, fun j hj => ?_⟩)
      rw [same j]
      show upd (upd tW c (nI (wb (Wm c) s b))) d (nI (wb (up Wm c (wb (Wm c) s b) d) ((s + 2) % 4) b)) j = nI (up (up Wm c (wb (Wm c) s b)) d (wb (up Wm c (wb (Wm c) s b) d) ((s + 2) % 4) b) j)
      by_cases e : j = d
      · rw [e, pk_us, up_s]
      · rw [pk_un e, up_n e, rn1 j hj]
    have j227 : ∀ v : Int32, v = nI (if b = true then 2 ^ s else 0) → Ex (kL_step_j227 F bn bk bs bT bC bN bW bL hd hk hM kp ku kC kS vL vS vA vT so sw sR sI sP sF tT tW (nI c) (nI s) (bI b) (nI d) (bI ((Wm c).testBit s)) (nI ((s + 2) % 4)) v) (fun r => r.1 = 1 ∧ LI r.2.1 r.2.2.1 r.2.2.2.1 r.2.2.2.2.1 r.2.2.2.2.2.1 r.2.2.2.2.2.2.1 r.2.2.2.2.2.2.2.1 r.2.2.2.2.2.2.2.2.2.1 r.2.2.2.2.2.2.2.2.2.2.1 r.2.2.2.2.2.2.2.2.2.2.2.1 r.2.2.2.2.2.2.2.2.2.2.2.2.2.2.2.2.2.2.2.2.2.2.2.2.2.2.1 r.2.2.2.2.2.2.2.2.2.2.2.2.2.2.2.2.2.2.2.2.2.2.2.2.2.2.2) := by
      intro v hv
      unfold kL_step_j227
      rw [cl_n (show c < 2 ^ 31 by omega), hW c hc, q_wb (hWm c) hs hv]
      refine Ex.t hxc (Ex.o rfl (Ex.t hxd ?_))
      cases b with
      | false => exact Ex.t bI_f (j256 0 rfl)
      | true => exact Ex.f bI_n (j256 _ (q_2s h4))
    have j190 : Ex (kL_step_j190 F bn bk bs bT bC bN bW bL hd hk hM kp ku kC kS vL vS vA vT so sw sR sI sP sF tT tW (nI c) (nI s) (bI b) (nI d) (bI ((Wm c).testBit s))) (fun r => r.1 = 1 ∧ LI r.2.1 r.2.2.1 r.2.2.2.1 r.2.2.2.2.1 r.2.2.2.2.2.1 r.2.2.2.2.2.2.1 r.2.2.2.2.2.2.2.1 r.2.2.2.2.2.2.2.2.2.1 r.2.2.2.2.2.2.2.2.2.2.1 r.2.2.2.2.2.2.2.2.2.2.2.1 r.2.2.2.2.2.2.2.2.2.2.2.2.2.2.2.2.2.2.2.2.2.2.2.2.2.2.1 r.2.2.2.2.2.2.2.2.2.2.2.2.2.2.2.2.2.2.2.2.2.2.2.2.2.2.2) := by
      unfold kL_step_j190
      refine Ex.o (congrArg some (q_back s hs)) (Ex.t hxc ?_)
      cases b with
      | false => exact Ex.t bI_f (j227 0 rfl)
      | true => exact Ex.f bI_n (j227 _ (q_2s hs))
    cases ew : (Wm c).testBit s with
    | true => rw [ew] at j190; exact Ex.t rfl j190
    | false => rw [ew] at j190; exact Ex.f (by decide) j190
theorem st310 {c d : Nat} (h12 : w * h ≤ 12) (hB : BD w h g T Wm lm src bn bk bs bT bC bN bW) (hH : HS (w * h) dn ke hist hd hk hM) (hL : LT (w * h) T lm dn ke hist tT) (hW : ∀ j, j < w * h → tW j = nI (Wm j)) (hc : c < w * h) : Ex (kL_step_j310 F bn bk bs bT bC bN bW bL hd hk hM kp ku kC kS vL vS vA vT so sw sR sI sP sF tT tW (nI d) (nI c) (bI (lm.testBit c))) (fun r => r.1 = 1 ∧ LI r.2.1 r.2.2.1 r.2.2.2.1 r.2.2.2.2.1 r.2.2.2.2.2.1 r.2.2.2.2.2.2.1 r.2.2.2.2.2.2.2.1 r.2.2.2.2.2.2.2.2.2.1 r.2.2.2.2.2.2.2.2.2.2.1 r.2.2.2.2.2.2.2.2.2.2.2.1 r.2.2.2.2.2.2.2.2.2.2.2.2.2.2.2.2.2.2.2.2.2.2.2.2.2.2.1 r.2.2.2.2.2.2.2.2.2.2.2.2.2.2.2.2.2.2.2.2.2.2.2.2.2.2.2) := by
  obtain ⟨l1, l2, l3, l4, l5, l6⟩ := hL
  have e16 : (16 : Int32) + nI c = nI (16 + c) := by rw [i16, nI_add]
  have j346 : ∀ b : Bool, Ex (kL_step_j346 F bn bk bs bT bC bN bW bL hd hk hM kp ku kC kS vL vS vA vT so sw sR sI sP sF tW (nI c) (bI (lm.testBit c)) (upd tT (16 + c) (bI b)) (bI b)) (fun r => r.1 = 1 ∧ LI r.2.1 r.2.2.1 r.2.2.2.1 r.2.2.2.2.1 r.2.2.2.2.2.1 r.2.2.2.2.2.2.1 r.2.2.2.2.2.2.2.1 r.2.2.2.2.2.2.2.2.2.1 r.2.2.2.2.2.2.2.2.2.2.1 r.2.2.2.2.2.2.2.2.2.2.2.1 r.2.2.2.2.2.2.2.2.2.2.2.2.2.2.2.2.2.2.2.2.2.2.2.2.2.2.1 r.2.2.2.2.2.2.2.2.2.2.2.2.2.2.2.2.2.2.2.2.2.2.2.2.2.2.2) := by
    intro b
    unfold kL_step_j346
    refine Ex.b (c_setLock (b := b) hB hc) ?_
    rintro ⟨z1, z2⟩ ⟨e1, lm', hB2, hl⟩
    refine Ex.t e1 (Ex.v ⟨rfl, w, h, g, T, Wm, lm', src, dn, ke, hist, h12, hB2, hH, ⟨fun j hj => ?_, fun j hj => ?_, fun j hj => ?_, ?_, ?_, l6⟩, hW⟩)
    · show upd tT (16 + c) (bI b) j = _
      rw [pk_un (by omega), l1 j hj]
    · show upd tT (16 + c) (bI b) (16 + j) = _
      rw [hl j (by omega)]
      by_cases e : j = c
      · rw [e, pk_us, if_pos rfl]
      · rw [pk_un (by omega), if_neg e, l2 j hj]
    · show upd tT (16 + c) (bI b) (32 + j) = _
      rw [pk_un (by omega), l3 j hj]
    · show upd tT (16 + c) (bI b) 62 = _
      rw [pk_un (by omega), l4]
    · show upd tT (16 + c) (bI b) 63 = _
      rw [pk_un (by omega), l5]
  have hx : ix (nI (16 + c)) 64 = true := ix_n (show 16 + c < 64 by omega) (by decide)
  unfold kL_step_j310
  by_cases z : nI d - nI d / 3 * 3 = 0
  · refine Ex.t z ?_
    unfold kL_step_j330
    rw [e16, cl_n (show 16 + c < 2 ^ 31 by omega)]
    exact Ex.t hx (Ex.o rfl (Ex.t z (j346 true)))
  · refine Ex.f z ?_
    unfold kL_step_j330
    rw [e16, cl_n (show 16 + c < 2 ^ 31 by omega)]
    exact Ex.t hx (Ex.o rfl (Ex.f z (j346 false)))
theorem L_step {a b d : Nat} (ha31 : a < 2 ^ 31) (hb31 : b < 2 ^ 31) (hd31 : d < 2 ^ 31) (hLI : LI bn bk bs bT bC bN bW hd hk hM tT tW) (hF : 1000 ≤ F) : Ex (kL_step F bn bk bs bT bC bN bW bL hd hk hM kp ku kC kS vL vS vA vT so sw sR sI sP sF tT tW (nI a) (nI b) (nI d)) (fun r => r.1 = 1 ∧ LI r.2.1 r.2.2.1 r.2.2.2.1 r.2.2.2.2.1 r.2.2.2.2.2.1 r.2.2.2.2.2.2.1 r.2.2.2.2.2.2.2.1 r.2.2.2.2.2.2.2.2.2.1 r.2.2.2.2.2.2.2.2.2.2.1 r.2.2.2.2.2.2.2.2.2.2.2.1 r.2.2.2.2.2.2.2.2.2.2.2.2.2.2.2.2.2.2.2.2.2.2.2.2.2.2.1 r.2.2.2.2.2.2.2.2.2.2.2.2.2.2.2.2.2.2.2.2.2.2.2.2.2.2.2) := by
  have hLI' := hLI
  obtain ⟨w, h, g, T, Wm, lm, src, dn, ke, hist, h12, hB, hH, hL, hW⟩ := hLI
  have hL' := hL
  obtain ⟨hn, hn1, hsrc, hT, hWK⟩ := hB.n
  obtain ⟨l1, l2, l3, l4, l5, l6⟩ := hL
  have hdk := hH.1
  have em : nI a - nI a / 12 * 12 = nI (a % 12) := pk_rem (d := 12) ha31 (by decide) (by decide)
  have ec : nI b - nI b / nI (w * h) * nI (w * h) = nI (b % (w * h)) := pk_rem hb31 (by omega) (by omega)
  have hc : b % (w * h) < w * h := Nat.mod_lt _ (by omega)
  have hm : a % 12 < 12 := Nat.mod_lt _ (by decide)
  have e16 : ∀ c : Nat, (16 : Int32) + nI c = nI (16 + c) := fun c => by rw [i16, nI_add]
  unfold kL_step
  rw [em]
  refine Ex.o (c_size hB) (Ex.t (decide_eq_true (nI_ne0 (by omega) (by omega))) (Ex.o (congrArg some ec) ?_))
  generalize b % (w * h) = c at hc ⊢
  generalize a % 12 = m at hm ⊢
  have hxc : ix (nI c) 64 = true := ix_n (show c < 64 by omega) (by decide)
  have hx16 : ix (nI (16 + c)) 64 = true := ix_n (show 16 + c < 64 by omega) (by decide)
  by_cases m0 : m = 0
  · refine Ex.t (by rw [m0]; rfl) (Ex.b (L_begins hb31 hd31 h12 hB hLI' hF) ?_)
    intro q ⟨e1, e2⟩
    exact Ex.t (by rw [e1]; rfl) (Ex.v ⟨e1, e2⟩)
  · refine Ex.f (fun x => m0 ((nI_eq (b := 0) (by omega) (by omega)).mp x)) ?_
    by_cases m1 : m = 1
    · refine Ex.t (by rw [m1]; rfl) (Ex.t hxc ?_)
      have ed : nI d - nI d / 16 * 16 = nI (d % 16) := pk_rem (d := 16) hd31 (by decide) (by decide)
      have hd16 : d % 16 < 16 := Nat.mod_lt _ (by decide)
      rw [ed, cl_n (show c < 2 ^ 31 by omega), l1 c hc, c62, c63]
      refine Ex.o rfl (Ex.t hxc (Ex.o rfl (Ex.t x62 (Ex.o rfl (Ex.t x63 (Ex.o rfl (Ex.o (c_setTile hB hc hd16) (Ex.t rfl (Ex.o (show kX7_moves F 0 = some 0 from rfl) (Ex.t rfl (Ex.v ⟨rfl, w, h, g, up T c (d % 16), Wm, lm, src, 0, 0, hist, h12, hB.til (up_lt hT hd16), ⟨Nat.le_refl 0, Nat.zero_le _, fun j hj => absurd hj (Nat.not_lt_zero j), rfl, rfl, fun j hj => absurd hj (Nat.not_lt_zero j)⟩, ⟨fun j hj => ?_, fun j hj => ?_, fun j hj => absurd hj (Nat.not_lt_zero j), ?_, ?_, Nat.zero_le _⟩, hW⟩)))))))))))
      · show upd (upd (upd tT c (nI (d % 16))) 62 0) 63 0 j = nI (up T c (d % 16) j)
        rw [pk_un (by omega), pk_un (by omega)]
        by_cases e : j = c
        · rw [e, pk_us, up_s]
        · rw [pk_un e, up_n e, l1 j hj]
      · show upd (upd (upd tT c (nI (d % 16))) 62 0) 63 0 (16 + j) = _
        rw [pk_un (by omega), pk_un (by omega), pk_un (by omega), l2 j hj]
      · show upd (upd (upd tT c (nI (d % 16))) 62 0) 63 0 62 = _
        rw [pk_un (by omega), pk_us]; rfl
      · show upd (upd (upd tT c (nI (d % 16))) 62 0) 63 0 63 = _
        rw [pk_us]; rfl
    · refine Ex.f (fun x => m1 ((nI_eq (b := 1) (by omega) (by omega)).mp x)) ?_
      by_cases m2 : m = 2
      · have es : nI d - nI d / 4 * 4 = nI (d % 4) := pk_rem (d := 4) hd31 (by decide) (by decide)
        refine Ex.t (by rw [m2]; rfl) (Ex.o (congrArg some es) ?_)
        by_cases z : (nI d / 4) - (nI d / 4) / 3 * 3 = 0
        · exact Ex.t z (st137 (b := true) h12 hB hH hL' hW hc (Nat.mod_lt _ (by decide)))
        · exact Ex.f z (st137 (b := false) h12 hB hH hL' hW hc (Nat.mod_lt _ (by decide)))
      · refine Ex.f (fun x => m2 ((nI_eq (b := 2) (by omega) (by omega)).mp x)) ?_
        by_cases m3 : m = 3
        · refine Ex.t (by rw [m3]; rfl) ?_
          rw [e16 c, cl_n (show 16 + c < 2 ^ 31 by omega), l2 c hc]
          refine Ex.t hx16 ?_
          have j310 := st310 (F := F) (d := d) (bL := bL) (kp := kp) (ku := ku) (kC := kC) (kS := kS) (vL := vL) (vS := vS) (vA := vA) (vT := vT) (so := so) (sw := sw) (sR := sR) (sI := sI) (sP := sP) (sF := sF) h12 hB hH hL' hW hc
          cases el : lm.testBit c with
          | true => rw [el] at j310; exact Ex.t rfl j310
          | false => rw [el] at j310; exact Ex.f (by decide) j310
        · refine Ex.f (fun x => m3 ((nI_eq (b := 3) (by omega) (by omega)).mp x)) ?_
          by_cases m4 : m = 4
          · refine Ex.t (by rw [m4]; rfl) (Ex.o (c_setSource hB hc) (Ex.f (nI_pos (by omega)) (Ex.o (c_size hB) (Ex.f (nI_ge hsrc (by omega)) (Ex.b (show Ex (kX7_isWatered F bn (nI c) bT bW bL (nI c)) _ from c_isWat (bL := bL) (hB.sr hc) hc hF) ?_)))))
            rintro ⟨p1, p2⟩ ⟨b1, f1, f2⟩
            have f1 : p1 = bI b1 := f1
            have hb1 : b1 = true := f2.mpr Rc.rf
            subst f1 hb1
            refine Ex.f bI_n (Ex.o (show kX7_setSource F bn (nI c) (nI c) = some (nI c, nI c) from c_setSource (hB.sr hc) hc) (Ex.t rfl ?_))
            unfold kL_step_j407
            exact Ex.t rfl (Ex.v ⟨rfl, w, h, g, T, Wm, lm, c, dn, ke, hist, h12, hB.sr hc, hH, hL', hW⟩)
          · refine Ex.f (fun x => m4 ((nI_eq (b := 4) (by omega) (by omega)).mp x)) ?_
            by_cases m5 : m = 5
            · refine Ex.t (by rw [m5]; rfl) ?_
              by_cases z : nI d - nI d / 2 * 2 = 0
              · refine Ex.t z (Ex.b (L_undoes (b := true) h12 hB hH hL' hW) ?_)
                intro q ⟨e1, e2⟩
                exact Ex.t (by rw [e1]; rfl) (Ex.v ⟨e1, e2⟩)
              · refine Ex.f z (Ex.b (L_undoes (b := false) h12 hB hH hL' hW) ?_)
                intro q ⟨e1, e2⟩
                exact Ex.t (by rw [e1]; rfl) (Ex.v ⟨e1, e2⟩)
            · refine Ex.f (fun x => m5 ((nI_eq (b := 5) (by omega) (by omega)).mp x)) ?_
              rw [e16 c, cl_n (show 16 + c < 2 ^ 31 by omega), l2 c hc, c62, c63, l4]
              refine Ex.t hx16 ?_
              cases el : lm.testBit c with
              | true => exact Ex.t rfl (Ex.o (c_moves hH) (Ex.t x62 (Ex.t rfl (Ex.v ⟨rfl, hLI'⟩))))
              | false =>
                refine Ex.f (by decide) (Ex.t x62 ?_)
                by_cases z : dn = 30
                · exact Ex.t (by rw [z]; rfl) (Ex.o (c_moves hH) (Ex.t x62 (Ex.t rfl (Ex.v ⟨rfl, hLI'⟩))))
                · obtain ⟨ct, hH2⟩ := c_turn (F := F) hB hH hc el (by omega)
                  refine Ex.f (fun x => z ((nI_eq (b := 30) (by omega) (by omega)).mp x)) (Ex.t x62 ?_)
                  rw [i32, nI_add, cl_n (show 32 + dn < 2 ^ 31 by omega)]
                  refine Ex.t (ix_n (show 32 + dn < 64 by omega) (by decide)) (Ex.o rfl (Ex.t x62 (Ex.t x62 ?_)))
                  rw [pk_un (show 62 ≠ 32 + dn by omega), l4, nI_1]
                  refine Ex.o rfl (Ex.t x62 (Ex.t x63 ?_))
                  rw [pk_us]
                  refine Ex.o rfl (Ex.t hxc ?_)
                  rw [cl_n (show c < 2 ^ 31 by omega), pk_un (show c ≠ 63 by omega), pk_un (show c ≠ 62 by omega), pk_un (show c ≠ 32 + dn by omega), l1 c hc]
                  refine Ex.o (l_turned (hT c)) (Ex.t hxc (Ex.o rfl (Ex.o ct (Ex.t hxc (Ex.t (by rw [pk_us]) (Ex.o (c_moves hH2) (Ex.t x62 (Ex.t ?_ (Ex.v ⟨rfl, w, h, g, _, Wm, lm, src, dn + 1, dn + 1, _, h12, hB.til (up_lt hT (rot_lt (T c) 1)), hH2, ⟨fun j hj => ?_, fun j hj => ?_, fun j hj => ?_, ?_, ?_, by omega⟩, hW⟩)))))))))
                  · rw [pk_un (show 62 ≠ c by omega), pk_un (by decide), pk_us]
                  · show upd (upd (upd (upd tT (32 + dn) (nI c)) 62 (nI (dn + 1))) 63 (nI (dn + 1))) c (nI (rot (T c) 1)) j = nI (up T c (rot (T c) 1) j)
                    by_cases e : j = c
                    · rw [e, pk_us, up_s]
                    · rw [pk_un e, pk_un (by omega), pk_un (by omega), pk_un (by omega), up_n e, l1 j hj]
                  · show upd (upd (upd (upd tT (32 + dn) (nI c)) 62 (nI (dn + 1))) 63 (nI (dn + 1))) c (nI (rot (T c) 1)) (16 + j) = _
                    rw [pk_un (by omega), pk_un (by omega), pk_un (by omega), pk_un (by omega), l2 j hj]
                  · show upd (upd (upd (upd tT (32 + dn) (nI c)) 62 (nI (dn + 1))) 63 (nI (dn + 1))) c (nI (rot (T c) 1)) (32 + j) = nI (up hist dn c j)
                    rw [pk_un (by omega), pk_un (by omega), pk_un (by omega)]
                    by_cases e : j = dn
                    · rw [e, pk_us, up_s]
                    · rw [pk_un (by omega), up_n e, l3 j (by omega)]
                  · show upd (upd (upd (upd tT (32 + dn) (nI c)) 62 (nI (dn + 1))) 63 (nI (dn + 1))) c (nI (rot (T c) 1)) 62 = _
                    rw [pk_un (by omega), pk_un (by decide), pk_us]
                  · show upd (upd (upd (upd tT (32 + dn) (nI c)) 62 (nI (dn + 1))) 63 (nI (dn + 1))) c (nI (rot (T c) 1)) 63 = _
                    rw [pk_un (by omega), pk_us]
end ST
