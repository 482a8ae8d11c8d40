/-! the search of the class -/
def RowP (A : Nat → Nat → Prop) (row : Nat → Int32) (c : Nat) : Prop := ∀ x, x < c → ∃ M, M < 2 ^ 16 ∧ row x = nI M ∧ ∀ y, M.testBit y = true ↔ Rc A x y
theorem RowP.iff {A A' : Nat → Nat → Prop} {row : Nat → Int32} {c : Nat} (h : RowP A row c) (e : ∀ x y, Rc A x y ↔ Rc A' x y) : RowP A' row c := by
  intro x hx
  obtain ⟨M, h1, h2, h3⟩ := h x hx
  exact ⟨M, h1, h2, fun y => (h3 y).trans (e x y)⟩
section TY
variable {F n c : Nat} {Wy : Nat → Nat → Option Nat} {Y : Nat → Option Nat} {T U L : Nat → Nat} {sI : Nat → Int32}
theorem a_fits4 (hW : WOK n Wy) (hU : ∀ j, U j < 16) (hY : ∀ c s, c < 16 → s < 4 → Y (c * 4 + s) = Wy c s) (hc : c < n) (hI : ∀ j, j ≤ c → sI j = nI (U j)) (hF : 1000 ≤ F) : Ex (kX4_fits F (fE Y) sI (nI c)) (fun r => ∃ b, r = bI b ∧ (b = true ↔ fitC Wy U c)) := by
  have hn := hW.1
  have hc16 : c < 16 := by omega
  unfold kX4_fits
  refine Ex.b (P := fun t => (t = 0 ∧ ¬ fitC Wy U c) ∨ (t = 1 ∧ fitC Wy U c)) (Ex.fr 4 (fun k s => s = nI k ∧ ∀ s, s < k → ∀ d, Wy c s = some d → d < c → (U c).testBit s = (U d).testBit ((s + 2) % 4)) ⟨rfl, fun s hs => absurd hs (Nat.not_lt_zero s)⟩ ?_ ?_ (by omega)) ?_
  · rintro k s hk ⟨rfl, h⟩
    show Ex (kX4_fits_s2 F (fE Y) sI (nI c) (nI k)) _
    unfold kX4_fits_s2
    refine Ex.f (show ¬ (3 : Int32) < nI k from nI_nlt (show k ≤ 3 by omega) (by decide)) (Ex.o (a_across hc16 hk) (Ex.o (a_at (by decide) hc16) ?_))
    rw [hY c k hc16 hk, hI c (Nat.le_refl c)]
    refine Ex.o (a_holds (by have := hU c; omega) (by omega)) ?_
    have go : (∀ d, Wy c k = some d → d < c → (U c).testBit k = (U d).testBit ((k + 2) % 4)) → Ex (some (Sum.inl (nI k + 1)) : Option (Int32 ⊕ Nat)) (onS (fun s => s = nI (k + 1) ∧ ∀ s, s < k + 1 → ∀ d, Wy c s = some d → d < c → (U c).testBit s = (U d).testBit ((s + 2) % 4)) (fun t => (t = 0 ∧ ¬ fitC Wy U c) ∨ (t = 1 ∧ fitC Wy U c))) := by
      intro hk1
      refine Ex.v ⟨nI_1 k, fun s hs d e hd => ?_⟩
      by_cases es : s = k
      · subst es; exact hk1 d e hd
      · exact h s (by omega) d e hd
    cases e : Wy c k with
    | none => exact Ex.t rfl (go (fun d h => by rw [e] at h; cases h))
    | some d =>
      have hd := (hW.2.1 c k d hk e).2.1
      refine Ex.f (n_m1 (show d < 2 ^ 31 by omega)) ?_
      by_cases hdc : d < c
      · refine Ex.f (show ¬ nI c ≤ nI d from nI_ge hdc (by omega)) (Ex.o (a_at (i := d) (by decide) (by omega)) ?_)
        rw [hI d (by omega)]
        refine Ex.o (a_opposite hk) (Ex.o (a_holds (by have := hU d; omega) (by have := s2_lt k; omega)) ?_)
        by_cases eb : (U c).testBit k = (U d).testBit ((k + 2) % 4)
        · exact Ex.t ((bI_e _ _).mpr eb) (go (fun d' h' _ => by rw [e] at h'; cases h'; exact eb))
        · exact Ex.f (fun x => eb ((bI_e _ _).mp x)) (Ex.v (Or.inl ⟨rfl, fun hf => eb (hf k hk d e hdc)⟩))
      · exact Ex.t (show nI c ≤ nI d from nI_le (by omega) (by omega)) (go (fun d' h' x => by rw [e] at h'; cases h'; exact absurd x hdc))
  · rintro s ⟨rfl, h⟩
    show Ex (kX4_fits_s2 F (fE Y) sI (nI c) (nI 4)) _
    unfold kX4_fits_s2
    exact Ex.t (by decide) (Ex.v (Or.inr ⟨rfl, h⟩))
  · rintro t (⟨rfl, h⟩ | ⟨rfl, h⟩)
    · exact Ex.t rfl (Ex.v ⟨false, rfl, fun x => (by cases x), fun x => absurd x h⟩)
    · exact Ex.f (by decide) (Ex.v ⟨true, rfl, fun _ => h, fun _ => rfl⟩)
theorem a_merge {row : Nat → Int32} {m : Nat} (hm : m < 2 ^ 16) (hF : 1000 ≤ F) : Ex (kX4_merge F 16 row (nI m)) (fun r => ∀ x, x < 16 → r x = if m.testBit x = true then nI m else row x) := by
  unfold kX4_merge
  refine Ex.b (P := fun r => ∀ x, x < 16 → r x = if m.testBit x = true then nI m else row x) (Ex.fr 16 (fun i s => s.1 = nI i ∧ (∀ x, x < i → s.2 x = if m.testBit x = true then nI m else row x) ∧ ∀ x, i ≤ x → s.2 x = row x) ⟨rfl, fun x hx => absurd hx (Nat.not_lt_zero x), fun _ _ => rfl⟩ ?_ ?_ (by omega)) (fun a h => Ex.v h)
  · rintro i ⟨s0, s1⟩ hi ⟨h0, h1, h2⟩
    have h0 : s0 = nI i := h0
    subst h0
    have h1 : ∀ x, x < i → s1 x = if m.testBit x = true then nI m else row x := h1
    have h2 : ∀ x, i ≤ x → s1 x = row x := h2
    show Ex (kX4_merge_s2 F 16 (nI m) (nI i) s1) _
    unfold kX4_merge_s2
    refine Ex.f (show ¬ (Int32.ofNat 16) ≤ nI i from nI_ge hi (by decide)) (Ex.o (a_holds (by omega) (by omega)) ?_)
    cases e : m.testBit i with
    | false =>
      refine Ex.t bI_f (Ex.v ⟨nI_1 i, fun x hx => ?_, fun x hx => h2 x (by omega)⟩)
      by_cases ex : x = i
      · subst ex; rw [e, if_neg (by decide)]; exact h2 x (Nat.le_refl x)
      · exact h1 x (by omega)
    | true =>
      refine Ex.f bI_n (Ex.t (ix_n hi (by decide)) (Ex.v ⟨nI_1 i, fun x hx => ?_, fun x hx => ?_⟩))
      · show upd s1 (nI i).toNatClampNeg (nI m) x = _
        rw [cl_n (by omega)]
        by_cases ex : x = i
        · subst ex; rw [pk_us, e, if_pos rfl]
        · rw [pk_un ex]; exact h1 x (by omega)
      · show upd s1 (nI i).toNatClampNeg (nI m) x = _
        rw [cl_n (by omega), pk_un (by omega)]
        exact h2 x (by omega)
  · rintro ⟨s0, s1⟩ ⟨h0, h1, h2⟩
    have h0 : s0 = nI 16 := h0
    subst h0
    show Ex (kX4_merge_s2 F 16 (nI m) (nI 16) s1) _
    unfold kX4_merge_s2
    exact Ex.t (by decide) (Ex.v h1)
theorem PE_s0 {k : Nat} (e : eb Wy U c k = false) (x y : Nat) : Rc (PE Wy U c k) x y ↔ Rc (PE Wy U c (k + 1)) x y := Rc.iff (fun x y => by
  constructor
  · rintro (h | ⟨s, d, h1, h2, h3⟩)
    · exact Or.inl h
    · exact Or.inr ⟨s, d, by omega, h2, h3⟩
  · rintro (h | ⟨s, d, h1, h2, h3⟩)
    · exact Or.inl h
    · by_cases es : s = k
      · subst es; rw [e] at h2; cases h2
      · exact Or.inr ⟨s, d, by omega, h2, h3⟩) x y
theorem PE_s1 {k d : Nat} (e : eb Wy U c k = true) (h1 : Wy c k = some d) (x y : Nat) : Rc (PE Wy U c (k + 1)) x y ↔ Rc (AE (PE Wy U c k) c d) x y := Rc.iff (fun x y => by
  constructor
  · rintro (h | ⟨s, d', a1, a2, a3, a4⟩)
    · exact Or.inl (Or.inl h)
    · by_cases es : s = k
      · subst es; rw [h1] at a3; cases a3
        exact Or.inr a4
      · exact Or.inl (Or.inr ⟨s, d', by omega, a2, a3, a4⟩)
  · rintro ((h | ⟨s, d', a1, a2, a3, a4⟩) | h)
    · exact Or.inl h
    · exact Or.inr ⟨s, d', by omega, a2, a3, a4⟩
    · exact Or.inr ⟨k, d, by omega, e, h1, h⟩) x y
theorem upR_s {sP : Nat → Nat → Int32} {i : Nat} {f : Nat → Int32} : upR sP i f i = f := if_pos rfl
theorem upR_n {sP : Nat → Nat → Int32} {i j : Nat} {f : Nat → Int32} (h : j ≠ i) : upR sP i f j = sP j := if_neg h
theorem a_conn44 {k : Nat} {sP Q : Nat → Nat → Int32} (hW : WOK n Wy) (hU : ∀ j, U j < 16) (hY : ∀ c s, c < 16 → s < 4 → Y (c * 4 + s) = Wy c s) (hc : c < n) (hI : ∀ j, j ≤ c → sI j = nI (U j)) (hf : fitC Wy U c) (hk : k < 4) (hQ : ∀ j, j ≤ c → Q j = sP j) (hR : RowP (PE Wy U c k) (Q (c + 1)) (c + 1)) (hN : NoK Wy U c k) (hF : 1000 ≤ F) : Ex (kX4_connect_s44 F (fE Y) sI (nI c) (nI k) Q) (onS (fun s => s.1 = nI (k + 1) ∧ (∀ j, j ≤ c → s.2 j = sP j) ∧ RowP (PE Wy U c (k + 1)) (s.2 (c + 1)) (c + 1) ∧ NoK Wy U c (k + 1)) (fun t => (∀ j, j ≤ c → t.2 j = sP j) ∧ ((t.1 = 0 ∧ ¬ NoC Wy U c) ∨ (t.1 = 1 ∧ NoC Wy U c ∧ RowP (PJ Wy U (c + 1)) (t.2 (c + 1)) (c + 1))))) := by
  have hn := hW.1
  have hc16 : c < 16 := by omega
  unfold kX4_connect_s44
  rw [nI_1 c, cl_n (show c + 1 < 2 ^ 31 by omega), cl_n (show c < 2 ^ 31 by omega)]
  refine Ex.f (show ¬ (3 : Int32) < nI k from nI_nlt (show k ≤ 3 by omega) (by decide)) (Ex.o (a_across hc16 hk) ?_)
  rw [hY c k hc16 hk]
  have skip : eb Wy U c k = false → Ex (some (Sum.inl (nI k + 1, Q)) : Option ((Int32 × (Nat → Nat → Int32)) ⊕ (Nat × (Nat → Nat → Int32)))) (onS (fun s => s.1 = nI (k + 1) ∧ (∀ j, j ≤ c → s.2 j = sP j) ∧ RowP (PE Wy U c (k + 1)) (s.2 (c + 1)) (c + 1) ∧ NoK Wy U c (k + 1)) (fun t => (∀ j, j ≤ c → t.2 j = sP j) ∧ ((t.1 = 0 ∧ ¬ NoC Wy U c) ∨ (t.1 = 1 ∧ NoC Wy U c ∧ RowP (PJ Wy U (c + 1)) (t.2 (c + 1)) (c + 1))))) := by
    intro e
    refine Ex.v ⟨nI_1 k, hQ, hR.iff (PE_s0 e), fun s1 s2 d1 d2 a1 a2 a3 a4 a5 a6 => ?_⟩
    by_cases es : s1 = k
    · subst es; rw [e] at a5; cases a5
    · exact hN s1 s2 d1 d2 a1 (by omega) a3 a4 a5 a6
  cases e : Wy c k with
  | none => exact Ex.t rfl (skip (by unfold eb; rw [e]))
  | some d =>
    have hd := (hW.2.1 c k d hk e).2.1
    have hde : eb Wy U c k = (decide (d < c) && jnd Wy U c k) := by unfold eb; rw [e]
    refine Ex.f (n_m1 (show d < 2 ^ 31 by omega)) ?_
    by_cases hdc : d < c
    · have hj : jnd Wy U c k = (U c).testBit k := by
        unfold jnd
        rw [e]
        show ((U c).testBit k && (U d).testBit ((k + 2) % 4)) = _
        rw [← hf k hk d e hdc, Bool.and_self]
      have heb : eb Wy U c k = (U c).testBit k := by rw [hde, hj, decide_eq_true hdc, Bool.true_and]
      refine Ex.f (show ¬ nI c ≤ nI d from nI_ge hdc (by omega)) (Ex.o (a_at (by decide) hc16) ?_)
      rw [hI c (Nat.le_refl c)]
      refine Ex.o (a_holds (by have := hU c; omega) (by omega)) ?_
      cases eu : (U c).testBit k with
      | false => exact Ex.t bI_f (skip (by rw [heb, eu]))
      | true =>
        have heb : eb Wy U c k = true := by rw [heb, eu]
        obtain ⟨Mc, hMc, hrc, hbc⟩ := hR c (by omega)
        obtain ⟨Md, hMd, hrd, hbd⟩ := hR d (by omega)
        have hsy : ∀ x y, PE Wy U c k x y → PE Wy U c k y x := fun x y h => h.sym hW
        refine Ex.f bI_n (Ex.t (ix_n hc16 (by decide)) ?_)
        rw [hrc]
        refine Ex.o (a_holds (by omega) (by omega)) ?_
        cases em : Mc.testBit d with
        | true =>
          refine Ex.f bI_n (Ex.v ⟨hQ, Or.inl ⟨rfl, fun hno => ?_⟩⟩)
          obtain ⟨s2, d2, a1, a2, a3, a4⟩ := (PE_at hdc).mp ((hbc d).mp em)
          exact hno k s2 d d2 a1 hk e a3 heb a2 (a4.sym (fun x y h => h.sym hW))
        | false =>
          have hno : ¬ Rc (PE Wy U c k) c d := fun h => by rw [(hbc d).mpr h] at em; cases em
          refine Ex.t bI_f (Ex.t (ix_n hc16 (by decide)) (Ex.o (a_at (i := d) (by decide) (by omega)) ?_))
          rw [hrd, q_or]
          refine Ex.b (a_merge (or_lt hMc hMd) hF) ?_
          intro row hrow
          refine Ex.v ⟨nI_1 k, fun j hj => ?_, ?_, fun s1 s2 d1 d2 a1 a2 a3 a4 a5 a6 hrc2 => ?_⟩
          · show upR Q (c + 1) row j = sP j
            rw [upR_n (by omega)]; exact hQ j hj
          · show RowP _ (upR Q (c + 1) row (c + 1)) (c + 1)
            rw [upR_s]
            intro x hx
            have hrx := hrow x (by omega)
            obtain ⟨Mx, hMx, hrx0, hbx⟩ := hR x hx
            cases ep : (Mc ||| Md).testBit x with
            | true =>
              rw [ep, if_pos rfl] at hrx
              refine ⟨Mc ||| Md, or_lt hMc hMd, hrx, fun y => ?_⟩
              rw [tb_or, hbc y, hbd y, PE_s1 heb e, AE_rc hsy]
              rcases (tb_or _ _ _).mp ep with h | h
              · have hcx := (hbc x).mp h
                constructor
                · rintro (h1 | h1)
                  · exact Or.inl ((hcx.sym hsy).trans h1)
                  · exact Or.inr (Or.inl ⟨hcx.sym hsy, h1⟩)
                · rintro (h1 | ⟨-, h1⟩ | ⟨-, h1⟩)
                  · exact Or.inl (hcx.trans h1)
                  · exact Or.inr h1
                  · exact Or.inl h1
              · have hdx := (hbd x).mp h
                constructor
                · rintro (h1 | h1)
                  · exact Or.inr (Or.inr ⟨hdx.sym hsy, h1⟩)
                  · exact Or.inl ((hdx.sym hsy).trans h1)
                · rintro (h1 | ⟨-, h1⟩ | ⟨-, h1⟩)
                  · exact Or.inr (hdx.trans h1)
                  · exact Or.inr h1
                  · exact Or.inl h1
            | false =>
              rw [ep, if_neg (by decide)] at hrx
              refine ⟨Mx, hMx, by rw [hrx, hrx0], fun y => ?_⟩
              have n1 : ¬ Rc (PE Wy U c k) x c := fun h => by
                have := (tb_or Mc Md x).mpr (Or.inl ((hbc x).mpr (h.sym hsy)))
                rw [ep] at this; cases this
              have n2 : ¬ Rc (PE Wy U c k) x d := fun h => by
                have := (tb_or Mc Md x).mpr (Or.inr ((hbd x).mpr (h.sym hsy)))
                rw [ep] at this; cases this
              rw [hbx y, PE_s1 heb e, AE_rc hsy]
              constructor
              · exact Or.inl
              · rintro (h1 | ⟨h1, -⟩ | ⟨h1, -⟩)
                · exact h1
                · exact absurd h1 n1
                · exact absurd h1 n2
          · by_cases es : s1 = k
            · subst es
              rw [e] at a3; cases a3
              exact hno ((PE_at hdc).mpr ⟨s2, d2, a1, a6, a4, hrc2.sym (fun x y h => h.sym hW)⟩)
            · exact hN s1 s2 d1 d2 a1 (by omega) a3 a4 a5 a6 hrc2
    · exact Ex.t (show nI c ≤ nI d from nI_le (by omega) (by omega)) (skip (by rw [hde, decide_eq_false hdc, Bool.false_and]))
theorem a_connect {sP : Nat → Nat → Int32} (hW : WOK n Wy) (hU : ∀ j, U j < 16) (hY : ∀ c s, c < 16 → s < 4 → Y (c * 4 + s) = Wy c s) (hc : c < n) (hI : ∀ j, j ≤ c → sI j = nI (U j)) (hf : fitC Wy U c) (hR : RowP (PJ Wy U c) (sP c) c) (hF : 1000 ≤ F) : Ex (kX4_connect F (nI n) (fE Y) sI sP (nI c)) (fun t => (∀ j, j ≤ c → t.2 j = sP j) ∧ ((t.1 = 0 ∧ ¬ NoC Wy U c) ∨ (t.1 = 1 ∧ NoC Wy U c ∧ RowP (PJ Wy U (c + 1)) (t.2 (c + 1)) (c + 1)))) := by
  have hn := hW.1
  have hc16 : c < 16 := by omega
  unfold kX4_connect
  rw [nI_1 c, cl_n (show c + 1 < 2 ^ 31 by omega), cl_n (show c < 2 ^ 31 by omega), show (0 : Int32).toNatClampNeg = 0 from rfl, show (16 : Int32).toNatClampNeg = 16 from rfl]
  refine Ex.o (a_has hn (by omega)) ?_
  rw [decide_eq_true hc]
  refine Ex.f bI_n (Ex.t (ix_n (show c + 1 < 17 by omega) (by decide)) (Ex.t (ix_n (show c < 17 by omega) (by decide)) (Ex.t (by decide) (Ex.t (ix_n hc16 (by decide)) ?_))))
  have e1 : (1 : Int32) <<< (nI c &&& 31) = nI (2 ^ c) := by
    rw [i1, q_shl (by omega) (by have := p2_lt hc16; omega), Nat.one_mul]
  rw [e1, upR_s]
  refine Ex.b (P := fun t => (∀ j, j ≤ c → t.2 j = sP j) ∧ ((t.1 = 0 ∧ ¬ NoC Wy U c) ∨ (t.1 = 1 ∧ NoC Wy U c ∧ RowP (PJ Wy U (c + 1)) (t.2 (c + 1)) (c + 1)))) (Ex.fr 4 (fun k s => s.1 = nI k ∧ (∀ j, j ≤ c → s.2 j = sP j) ∧ RowP (PE Wy U c k) (s.2 (c + 1)) (c + 1) ∧ NoK Wy U c k) ⟨rfl, fun j hj => ?_, ?_, fun s1 s2 _ _ _ h => absurd h (Nat.not_lt_zero s1)⟩ ?_ ?_ (by omega)) ?_
  · show upR (upR sP (c + 1) _) (c + 1) _ j = _
    rw [upR_n (by omega), upR_n (by omega)]
  · show RowP _ (upR (upR sP (c + 1) _) (c + 1) _ (c + 1)) (c + 1)
    rw [upR_s]
    intro x hx
    by_cases ex : x = c
    · subst ex
      refine ⟨2 ^ x, p2_lt hc16, pk_us, fun y => ?_⟩
      rw [tb_p2]
      constructor
      · rintro rfl; exact Rc.rf
      · intro h
        exact (PE_0.mp h) (fun z => z = x) rfl (fun a b ha hab => by have := hab.1; omega)
    · obtain ⟨M, h1, h2, h3⟩ := hR x (by omega)
      refine ⟨M, h1, ?_, fun y => (h3 y).trans PE_0.symm⟩
      rw [pk_un ex, pk_cpy_in (Nat.zero_le x) (show x < 0 + 16 by omega), show 0 + (x - 0) = x by omega]
      exact h2
  · rintro k ⟨s0, Q⟩ hk ⟨h0, hQ, hRk, hN⟩
    have h0 : s0 = nI k := h0
    subst h0
    exact a_conn44 hW hU hY hc hI hf hk hQ hRk hN hF
  · rintro ⟨s0, Q⟩ ⟨h0, hQ, hRk, hN⟩
    have h0 : s0 = nI 4 := h0
    subst h0
    show Ex (kX4_connect_s44 F (fE Y) sI (nI c) (nI 4) Q) _
    unfold kX4_connect_s44
    exact Ex.t (by decide) (Ex.v ⟨hQ, Or.inr ⟨rfl, hN, hRk.iff (fun x y => PE_4 hW)⟩⟩)
  · rintro ⟨t0, t1⟩ ⟨hQ, ⟨h1, h2⟩ | ⟨h1, h2, h3⟩⟩
    · have h1 : t0 = 0 := h1
      subst h1
      exact Ex.t rfl (Ex.v ⟨hQ, Or.inl ⟨rfl, h2⟩⟩)
    · have h1 : t0 = 1 := h1
      subst h1
      exact Ex.f (show ¬ (1 : Nat) = 0 by decide) (Ex.v ⟨hQ, Or.inr ⟨rfl, h2, h3⟩⟩)
/-- what is counted, and how a side holds it -/
def RelS (n : Nat) (so sw : Int32) (sF : Nat → Int32) (st : Int32 × Nat × (Nat → Nat)) : Prop := so = st.1 ∧ (st.1 ≠ 0 → sw = nI st.2.1 ∧ st.2.1 ≤ 64 ∧ ∀ j, j < n → sF j = nI (st.2.2 j))
theorem min_nI {a b : Nat} (ha : a < 2 ^ 31) (hb : b < 2 ^ 31) : (if nI a < nI b then nI a else nI b) = nI (min b a) := by
  by_cases h : a < b
  · rw [if_pos (nI_lt h hb), Nat.min_eq_right (by omega)]
  · rw [if_neg (nI_nlt (by omega) ha), Nat.min_eq_left (by omega)]
theorem a_noteS {a : Nat → Nat} {so sw : Int32} {sR sF : Nat → Int32} {sP : Nat → Nat → Int32} {st : Int32 × Nat × (Nat → Nat)} (hW : WOK n Wy) (hn1 : 1 ≤ n) (hr : RelS n so sw sF st) (ha : ∀ j, j < n → a j < 4) (hR : ∀ j, j < n → sR j = nI (a j)) (hP : RowP (PJ Wy (tls T a) n) (sP n) n) : Ex (kX4_noteSolution F (nI n) so sw sR sP sF (nI n) (nI (sm a n))) (fun r => RelS n r.1 r.2.1 r.2.2 (cif (qC Wy T n a) (note n a st) st)) := by
  have hn := hW.1
  have hsm : sm a n ≤ 48 := by
    have := sm_le (f := a) (b := 3) (n := n) (fun i hi => by have := ha i hi; omega)
    omega
  unfold kX4_noteSolution kX0_allCells
  rw [cl_n (show n < 2 ^ 31 by omega), show (0 : Int32).toNatClampNeg = 0 from rfl, show (16 : Int32).toNatClampNeg = 16 from rfl]
  refine Ex.f (nI_pos (by omega)) (Ex.f (show ¬ (16 : Int32) < nI n from nI_nlt (show n ≤ 16 by omega) (by decide)) (Ex.t (ix_n (show n < 17 by omega) (by decide)) (Ex.t (by decide) (Ex.o rfl ?_))))
  obtain ⟨M, hM, h1, h2⟩ := hP 0 (by omega)
  have e1 : ((1 : Int32) <<< (nI n &&& 31)) - 1 = nI (2 ^ n - 1) := by
    have hp : 2 ^ n ≤ 2 ^ 16 := Nat.pow_le_pow_right (by decide) hn
    rw [i1, q_shl (by omega) (by omega), Nat.one_mul, pk_sub (Nat.one_le_two_pow)]
  have hp : 2 ^ n ≤ 2 ^ 16 := Nat.pow_le_pow_right (by decide) hn
  rw [e1, h1]
  have hJ : ∀ y, Rc (PJ Wy (tls T a) n) 0 y ↔ Rc (JA Wy (tls T a)) 0 y := fun y => Rc.iff (fun x y => ⟨fun h => h.2.2, fun h => ⟨(h.lt hW).1, (h.lt hW).2.1, h⟩⟩) 0 y
  have key : M = 2 ^ n - 1 ↔ qC Wy T n a := by
    constructor
    · intro h c hc
      refine (hJ c).mp ((h2 c).mp ?_)
      rw [h, Nat.testBit_two_pow_sub_one]
      exact decide_eq_true hc
    · intro h
      apply Nat.eq_of_testBit_eq
      intro i
      rw [Nat.testBit_two_pow_sub_one]
      by_cases hi : i < n
      · rw [decide_eq_true hi]; exact (h2 i).mpr ((hJ i).mpr (h i hi))
      · rw [decide_eq_false hi]
        cases e : M.testBit i with
        | false => rfl
        | true => exact absurd (JA.rlt hW (show 0 < n by omega) ((hJ i).mp ((h2 i).mp e))) hi
  by_cases hq : qC Wy T n a
  · rw [cif_t hq]
    refine Ex.t (by rw [key.mpr hq]) ?_
    obtain ⟨hr1, hr2⟩ := hr
    subst hr1
    by_cases hso : st.1 = 0
    · refine Ex.t hso (Ex.t (by decide) ?_)
      unfold kX4_noteSolution_j56
      refine Ex.v ⟨?_, fun _ => ⟨?_, ?_, fun j hj => ?_⟩⟩
      · unfold note; rfl
      · unfold note
        show (if nI (sm a n) < nI (sm a n) then nI (sm a n) else nI (sm a n)) = nI (if st.1 = 0 then sm a n else min st.2.1 (sm a n))
        rw [ite_self, if_pos hso]
      · unfold note
        show (if st.1 = 0 then sm a n else min st.2.1 (sm a n)) ≤ 64
        rw [if_pos hso]; omega
      · unfold note
        show va_cpy sR sF 0 0 16 j = nI ((if st.1 = 0 then a else st.2.2) j)
        rw [if_pos hso, pk_cpy_in (Nat.zero_le j) (show j < 0 + 16 by omega), show 0 + (j - 0) = j by omega]
        exact hR j hj
    · obtain ⟨hr3, hr4, hr5⟩ := hr2 hso
      refine Ex.f hso ?_
      unfold kX4_noteSolution_j56
      refine Ex.v ⟨?_, fun _ => ⟨?_, ?_, fun j hj => ?_⟩⟩
      · unfold note; rfl
      · unfold note
        show (if nI (sm a n) < sw then nI (sm a n) else sw) = nI (if st.1 = 0 then sm a n else min st.2.1 (sm a n))
        rw [if_neg hso, hr3, min_nI (by omega) (by omega)]
      · unfold note
        show (if st.1 = 0 then sm a n else min st.2.1 (sm a n)) ≤ 64
        rw [if_neg hso]
        exact Nat.le_trans (Nat.min_le_left _ _) hr4
      · unfold note
        show sF j = nI ((if st.1 = 0 then a else st.2.2) j)
        rw [if_neg hso]
        exact hr5 j hj
  · rw [cif_f hq]
    refine Ex.f (fun h => hq (key.mp ?_)) (Ex.v hr)
    exact (nI_eq (by omega) (by omega)).mp h
theorem sm_up {a : Nat → Nat} {c k : Nat} : sm (up a c k) (c + 1) = sm a c + k := by
  show sm (up a c k) c + up a c k c = _
  rw [up_s, sm_congr (fun i hi => up_n (by omega))]
theorem a_try {vL : Nat → Int32} (hW : WOK n Wy) (hn1 : 1 ≤ n) (hT : ∀ j, T j < 16) (hY : ∀ c s, c < 16 → s < 4 → Y (c * 4 + s) = Wy c s) (hL : ∀ j, L j < 16) (hv : RN vL L) (hF : 1000 ≤ F) : ∀ (m D c : Nat) (a : Nat → Nat) (st : Int32 × Nat × (Nat → Nat)) (so sw : Int32) (sR sI sF : Nat → Int32) (sP : Nat → Nat → Int32), c + m = n → m < D → RelS n so sw sF st → (∀ j, j < c → a j < 4) → (∀ j, j < c → sR j = nI (a j)) → (∀ j, j < c → sI j = nI (tls T a j)) → RowP (PJ Wy (tls T a) c) (sP c) c → Ex (kX4_tryCell F D (nI n) (fN T) (fE Y) vL so sw sR sI sP sF (nI c) (nI (sm a c))) (fun r => RelS n r.1 r.2.1 r.2.2.2.2.2 (srP (prC Wy T L) (qC Wy T n) (note n) n m a st) ∧ (∀ j, j < c → r.2.2.1 j = sR j) ∧ (∀ j, j < c → r.2.2.2.1 j = sI j) ∧ ∀ j, j ≤ c → r.2.2.2.2.1 j = sP j) := by
  have hn := hW.1
  intro m
  induction m with
  | zero =>
    intro D c a st so sw sR sI sF sP hcm hD hr ha hR hI hP
    obtain ⟨D, rfl⟩ : ∃ z, D = z + 1 := ⟨D - 1, by omega⟩
    have hcn : c = n := by omega
    subst hcn
    show Ex ((kX0_has F (nI c) (nI c)).bind _) _
    refine Ex.o (a_has hn (by omega)) ?_
    rw [decide_eq_false (Nat.lt_irrefl c)]
    refine Ex.t bI_f (Ex.b (a_noteS hW hn1 hr ha hR hP) ?_)
    rintro ⟨r1, r2, r3⟩ h
    exact Ex.v ⟨h, fun _ _ => rfl, fun _ _ => rfl, fun _ _ => rfl⟩
  | succ m ih =>
    intro D c a st so sw sR sI sF sP hcm hD hr ha hR hI hP
    obtain ⟨D, rfl⟩ : ∃ z, D = z + 1 := ⟨D - 1, by omega⟩
    have hcn : c < n := by omega
    have hc16 : c < 16 := by omega
    have hnm : n - (m + 1) = c := by omega
    show Ex ((kX0_has F (nI n) (nI c)).bind _) _
    refine Ex.o (a_has hn (by omega)) ?_
    rw [decide_eq_true hcn]
    rw [show srP (prC Wy T L) (qC Wy T n) (note n) n (m + 1) a st = iter (fun k s => cif (prC Wy T L (n - (m + 1)) (up a (n - (m + 1)) k)) (srP (prC Wy T L) (qC Wy T n) (note n) n m (up a (n - (m + 1)) k) s) s) 4 st from rfl, hnm]
    generalize hf : (fun (k : Nat) (s : Int32 × Nat × (Nat → Nat)) => cif (prC Wy T L c (up a c k)) (srP (prC Wy T L) (qC Wy T n) (note n) n m (up a c k) s) s) = f
    refine Ex.f bI_n (Ex.b (P := fun r => RelS n r.1 r.2.1 r.2.2.2.2.2 (iter f 4 st) ∧ (∀ j, j < c → r.2.2.1 j = sR j) ∧ (∀ j, j < c → r.2.2.2.1 j = sI j) ∧ ∀ j, j ≤ c → r.2.2.2.2.1 j = sP j) (Ex.fr 4 (fun k s => s.1 = nI k ∧ RelS n s.2.1 s.2.2.1 s.2.2.2.2.2.2 (iter f k st) ∧ (∀ j, j < c → s.2.2.2.1 j = sR j) ∧ (∀ j, j < c → s.2.2.2.2.1 j = sI j) ∧ ∀ j, j ≤ c → s.2.2.2.2.2.1 j = sP j) ⟨rfl, hr, fun _ _ => rfl, fun _ _ => rfl, fun _ _ => rfl⟩ ?_ ?_ (by omega)) ?_)
    · rintro k ⟨s0, so1, sw1, R1, I1, P1, F1⟩ hk ⟨h0, hr1, hR1, hI1, hP1⟩
      have h0 : s0 = nI k := h0
      subst h0
      have hr1 : RelS n so1 sw1 F1 (iter f k st) := hr1
      have hR1 : ∀ j, j < c → R1 j = sR j := hR1
      have hI1 : ∀ j, j < c → I1 j = sI j := hI1
      have hP1 : ∀ j, j ≤ c → P1 j = sP j := hP1
      show Ex (kX4_tryCell_s20 F (nI n) (fN T) (fE Y) vL (nI c) (nI (sm a c)) (kX4_tryCell F D) (nI k) so1 sw1 R1 I1 P1 F1) _
      unfold kX4_tryCell_s20
      refine Ex.f (show ¬ (4 : Int32) ≤ nI k from nI_ge hk (by decide)) (Ex.o (a_leftAt hv hc16) (Ex.o (a_holds (by have := hL c; omega) (by omega)) ?_))
      have hfk : f k (iter f k st) = cif (prC Wy T L c (up a c k)) (srP (prC Wy T L) (qC Wy T n) (note n) n m (up a c k) (iter f k st)) (iter f k st) := by rw [← hf]
      have no : ¬ prC Wy T L c (up a c k) → RelS n so1 sw1 F1 (iter f (k + 1) st) := by
        intro h
        show RelS n so1 sw1 F1 (f k (iter f k st))
        rw [hfk, cif_f h]; exact hr1
      have hup : up a c k c = k := up_s
      cases eL : (L c).testBit k with
      | false => exact Ex.t bI_f (Ex.v ⟨nI_1 k, no (fun h => by have := h.1; rw [hup, eL] at this; cases this), hR1, hI1, hP1⟩)
      | true =>
        refine Ex.f bI_n (Ex.b (P := fun r => RelS n r.1 r.2.1 r.2.2.2.2.2 (iter f (k + 1) st) ∧ (∀ j, j < c → r.2.2.1 j = sR j) ∧ (∀ j, j < c → r.2.2.2.1 j = sI j) ∧ ∀ j, j ≤ c → r.2.2.2.2.1 j = sP j) ?_ (fun r h => Ex.v ⟨nI_1 k, h⟩))
        unfold kX4_tryLay
        rw [cl_n (show c < 2 ^ 31 by omega)]
        refine Ex.o (a_has hn (by omega)) ?_
        rw [decide_eq_true hcn]
        refine Ex.f bI_n (Ex.t (ix_n hc16 (by decide)) (Ex.o (a_sidesOf hc16) (Ex.o (a_turned (hT c) hk) (Ex.t (ix_n hc16 (by decide)) ?_))))
        have htl : ∀ j, j < c → tls T (up a c k) j = tls T a j := fun j hj => by
          show rot (T j) (up a c k j) = rot (T j) (a j)
          rw [up_n (by omega)]
        have htc : tls T (up a c k) c = rot (T c) k := by
          show rot (T c) (up a c k c) = _
          rw [hup]
        have hI2 : ∀ j, j ≤ c → upd I1 c (nI (rot (T c) k)) j = nI (tls T (up a c k) j) := by
          intro j hj
          by_cases ej : j = c
          · subst ej; rw [pk_us, htc]
          · rw [pk_un ej, htl j (by omega), hI1 j (by omega)]; exact hI j (by omega)
        have hR2 : ∀ j, j < c → upd R1 c (nI k) j = sR j := fun j hj => by rw [pk_un (by omega)]; exact hR1 j hj
        have hI3 : ∀ j, j < c → upd I1 c (nI (rot (T c) k)) j = sI j := fun j hj => by rw [pk_un (by omega)]; exact hI1 j hj
        refine Ex.b (a_fits4 hW (tls_lt T (up a c k)) hY hcn hI2 hF) ?_
        rintro _ ⟨b1, rfl, hb1⟩
        cases b1 with
        | false => exact Ex.t bI_f (Ex.v ⟨no (fun h => by have := hb1.mpr h.2.1; cases this), hR2, hI3, hP1⟩)
        | true =>
          have hPr : RowP (PJ Wy (tls T (up a c k)) c) (P1 c) c := by
            rw [hP1 c (Nat.le_refl c)]
            exact hP.iff (fun x y => Rc.iff (fun x y => ⟨PJ_loc (fun i hi => (htl i hi).symm), PJ_loc (fun i hi => htl i hi)⟩) x y)
          refine Ex.f bI_n (Ex.b (a_connect hW (tls_lt T (up a c k)) hY hcn hI2 (hb1.mp rfl) hPr hF) ?_)
          rintro ⟨t0, P2⟩ ⟨hP2, ⟨e1, e2⟩ | ⟨e1, e2, e3⟩⟩
          · have e1 : t0 = 0 := e1
            subst e1
            have hP2 : ∀ j, j ≤ c → P2 j = P1 j := hP2
            exact Ex.t rfl (Ex.v ⟨no (fun h => e2 h.2.2), hR2, hI3, fun j hj => by
              show P2 j = sP j
              rw [hP2 j hj]; exact hP1 j hj⟩)
          · have e1 : t0 = 1 := e1
            subst e1
            have hP2 : ∀ j, j ≤ c → P2 j = P1 j := hP2
            have hpr : prC Wy T L c (up a c k) := ⟨by rw [hup]; exact eL, hb1.mp rfl, e2⟩
            refine Ex.f (show ¬ (1 : Int32) = 0 by decide) ?_
            have hrec := ih D (c + 1) (up a c k) (iter f k st) so1 sw1 (upd R1 c (nI k)) (upd I1 c (nI (rot (T c) k))) F1 P2 (by omega) (by omega) hr1 (fun j hj => by
              by_cases ej : j = c
              · subst ej; rw [hup]; exact hk
              · rw [up_n ej]; exact ha j (by omega)) (fun j hj => by
              by_cases ej : j = c
              · subst ej; rw [pk_us, hup]
              · rw [pk_un ej, up_n ej, hR1 j (by omega)]; exact hR j (by omega)) (fun j hj => hI2 j (by omega)) e3
            rw [sm_up] at hrec
            rw [nI_1, nI_add]
            refine Ex.b hrec ?_
            rintro ⟨r1, r2, r3, r4, r5, r6⟩ ⟨g1, g2, g3, g4⟩
            refine Ex.v ⟨?_, fun j hj => ?_, fun j hj => ?_, fun j hj => ?_⟩
            · show RelS n r1 r2 r6 (f k (iter f k st))
              rw [hfk, cif_t hpr]; exact g1
            · show r3 j = sR j
              rw [show r3 j = upd R1 c (nI k) j from g2 j (by omega)]; exact hR2 j hj
            · show r4 j = sI j
              rw [show r4 j = upd I1 c (nI (rot (T c) k)) j from g3 j (by omega)]; exact hI3 j hj
            · show r5 j = sP j
              rw [show r5 j = P2 j from g4 j (by omega), hP2 j hj]; exact hP1 j hj
    · rintro ⟨s0, so1, sw1, R1, I1, P1, F1⟩ ⟨h0, h⟩
      have h0 : s0 = nI 4 := h0
      subst h0
      show Ex (kX4_tryCell_s20 F (nI n) (fN T) (fE Y) vL (nI c) (nI (sm a c)) (kX4_tryCell F D) (nI 4) so1 sw1 R1 I1 P1 F1) _
      unfold kX4_tryCell_s20
      exact Ex.t (by decide) (Ex.v h)
    · rintro ⟨r1, r2, r3, r4, r5, r6⟩ h
      exact Ex.v h
/-- the end of the search: what both sides come to -/
noncomputable def srE (Wy : Nat → Nat → Option Nat) (T O : Nat → Nat) (n : Nat) : Int32 × Nat × (Nat → Nat) := srP (prR Wy T O) (qR Wy T n) (note n) n n (fun _ => 0) (0, 0, fun _ => 0)
theorem a_countAll {lm : Nat} {vL sR sI sF : Nat → Int32} {sP : Nat → Nat → Int32} {so sw : Int32} (hW : WOK n Wy) (hn1 : 1 ≤ n) (hT : ∀ j, T j < 16) (hY : ∀ c s, c < 16 → s < 4 → Y (c * 4 + s) = Wy c s) (hL : ∀ j, L j < 16) (hv : RN vL L) (hK : ∀ c k, (L c).testBit k = true ↔ Keep Wy T (ownA T lm n) n c k) (hF : 1000 ≤ F) : Ex (kX4_countAll F (nI n) (fN T) (fE Y) vL so sw sR sI sP sF) (fun r => r.1 = r.2.1 ∧ RelS n r.2.1 r.2.2.1 r.2.2.2.2.2.2 (srE Wy T (ownA T lm n) n)) := by
  have hn := hW.1
  unfold kX4_countAll kX4_tryCellT
  have h := a_try (F := F) (T := T) (Y := Y) (L := L) (vL := vL) hW hn1 hT hY hL hv hF n 20 0 (fun _ => 0) (0, 0, fun _ => 0) 0 0 sR sI sF sP (by omega) (by omega) ⟨rfl, fun h => absurd rfl h⟩ (fun j hj => absurd hj (Nat.not_lt_zero j)) (fun j hj => absurd hj (Nat.not_lt_zero j)) (fun j hj => absurd hj (Nat.not_lt_zero j)) (fun x hx => absurd hx (Nat.not_lt_zero x))
  rw [sr_same hW hn1 hT (ownA_lt T lm n) hK] at h
  refine Ex.b h ?_
  rintro ⟨r1, r2, r3, r4, r5, r6⟩ ⟨g, -⟩
  exact Ex.v ⟨rfl, g⟩
end TY
