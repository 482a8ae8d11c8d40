/-! the sweep over one cell: what passes -/
def PlOK (Wy : Nat → Nat → Option Nat) (P : Nat → Nat → Nat) : Prop := (∀ x s y, s < 4 → Wy x s = some y → P x s = P y ((s + 2) % 4) ∧ P x s < 12) ∧ ∀ c x s y x' s' y', s < 4 → s' < 4 → Wy x s = some y → Wy x' s' = some y' → x < c → c ≤ y → x' < c → c ≤ y' → P x s = P x' s' → x = x' ∧ s = s'
/-- x, before the border at c, is open over it at the place p -/
def Vis (Wy : Nat → Nat → Option Nat) (P : Nat → Nat → Nat) (U : Nat → Nat) (c p x : Nat) : Prop := ∃ s y, s < 4 ∧ x < c ∧ c ≤ y ∧ Wy x s = some y ∧ P x s = p ∧ (U x).testBit s = true
/-- the border at c as it is told by its places -/
def PlP (Wy : Nat → Nat → Option Nat) (P : Nat → Nat → Nat) (U : Nat → Nat) (c : Nat) (pl : Nat → Nat) : Prop := (∀ p, p < 12 → (pl p ≠ 0 ↔ ∃ x, Vis Wy P U c p x)) ∧ ∀ p q x x', p < 12 → q < 12 → Vis Wy P U c p x → Vis Wy P U c q x' → (pl p = pl q ↔ Rc (PJ Wy U c) x x')
/-- what is asked of a cell when the border passes it -/
def OpN (Wy : Nat → Nat → Option Nat) (U : Nat → Nat) (c : Nat) : Prop := ∃ x s y, x ≤ c ∧ Rc (PJ Wy U (c + 1)) c x ∧ s < 4 ∧ Wy x s = some y ∧ c < y ∧ (U x).testBit s = true
def StS (Wy : Nat → Nat → Option Nat) (U : Nat → Nat) (n c : Nat) : Prop := fitU Wy U c ∧ NoC Wy U c ∧ (c + 1 = n ∨ OpN Wy U c)
theorem PE_far {n c k x y : Nat} {Wy : Nat → Nat → Option Nat} {U : Nat → Nat} (hW : WOK n Wy) (hx : x < c) (h : ¬ Rc (PE Wy U c k) c x) : Rc (PE Wy U c k) x y ↔ Rc (PJ Wy U c) x y := by
  constructor
  · intro hr
    have hsy : ∀ x y, PE Wy U c k x y → PE Wy U c k y x := fun x y h => h.sym hW
    have := hr (fun z => Rc (PJ Wy U c) x z ∧ z < c) ⟨Rc.rf, hx⟩ (fun a b ha hab => by
      rcases hab with hab | ⟨s, d, h1, h2, h3, ⟨h4, h5⟩ | ⟨h4, h5⟩⟩
      · exact ⟨ha.1.tr hab, hab.2.1⟩
      · have := ha.2; omega
      · exfalso
        subst h4 h5
        have q1 : Rc (PE Wy U b k) x a := ha.1.mono (fun x y h => Or.inl h)
        have q2 : PE Wy U b k a b := Or.inr ⟨s, a, h1, h2, h3, Or.inr ⟨rfl, rfl⟩⟩
        exact h ((q1.tr q2).sym hsy))
    exact this.1
  · intro hr
    exact hr.mono (fun x y h => Or.inl h)
def Cs (Wy : Nat → Nat → Option Nat) (P : Nat → Nat → Nat) (c k p : Nat) : Prop := ∃ s d, s < k ∧ Wy c s = some d ∧ d < c ∧ P c s = p
/-- the places while the cell c takes in the joints of its first k sides -/
def J1 (Wy : Nat → Nat → Option Nat) (P : Nat → Nat → Nat) (U pl0 : Nat → Nat) (c k : Nat) (pl : Nat → Nat) : Prop := ∀ p, p < 12 → (Cs Wy P c k p → pl p = 0) ∧ (¬ Cs Wy P c k p → (∀ x, Vis Wy P U c p x → (Rc (PE Wy U c k) c x → pl p = 15) ∧ (¬ Rc (PE Wy U c k) c x → pl p = pl0 p)) ∧ ((∀ x, ¬ Vis Wy P U c p x) → pl p = 0))
section PA
variable {F n c : Nat} {Wy : Nat → Nat → Option Nat} {P : Nat → Nat → Nat} {U pl0 pl : Nat → Nat}
theorem Vis_one (hP : PlOK Wy P) {p x x' : Nat} (h : Vis Wy P U c p x) (h' : Vis Wy P U c p x') : x = x' := by
  obtain ⟨s, y, a1, a2, a3, a4, a5, a6⟩ := h
  obtain ⟨s', y', b1, b2, b3, b4, b5, b6⟩ := h'
  exact (hP.2 c x s y x' s' y' a1 b1 a4 b4 a2 a3 b2 b3 (by rw [a5, b5])).1
/-- a side whose neighbour lies behind: what stands at its place -/
theorem J1_at (hW : WOK n Wy) (hP : PlOK Wy P) (h0 : PlP Wy P U c pl0) {k d : Nat} (hk : k < 4) (e : Wy c k = some d) (hd : d < c) (hJ : J1 Wy P U pl0 c k pl) : P c k < 12 ∧ (∀ p, Cs Wy P c k p → p ≠ P c k) ∧ ((U d).testBit ((k + 2) % 4) = true → Vis Wy P U c (P c k) d ∧ (Rc (PE Wy U c k) c d → pl (P c k) = 15) ∧ (¬ Rc (PE Wy U c k) c d → pl (P c k) = pl0 (P c k))) ∧ ((U d).testBit ((k + 2) % 4) = false → pl (P c k) = 0) := by
  have hb := (hW.2.1 c k d hk e).2.2.2
  have hp := (hP.1 c k d hk e)
  have hno : ∀ p, Cs Wy P c k p → p ≠ P c k := by
    rintro p ⟨s, d', h1, h2, h3, h4⟩ hpk
    have hb' := (hW.2.1 c s d' (by omega) h2).2.2.2
    have hp' := (hP.1 c s d' (by omega) h2).1
    have := (hP.2 c d ((k + 2) % 4) c d' ((s + 2) % 4) c (s2_lt k) (s2_lt s) hb hb' hd (Nat.le_refl c) h3 (Nat.le_refl c) (by rw [← hp.1, ← hp', h4, hpk])).2
    omega
  have hnc : ¬ Cs Wy P c k (P c k) := fun h => hno _ h rfl
  obtain ⟨j1, j2⟩ := (hJ (P c k) hp.2).2 hnc
  refine ⟨hp.2, hno, fun hu => ?_, fun hu => j2 (fun x hx => ?_)⟩
  · have hv : Vis Wy P U c (P c k) d := ⟨(k + 2) % 4, c, s2_lt k, hd, Nat.le_refl c, hb, hp.1.symm, hu⟩
    exact ⟨hv, j1 d hv⟩
  · obtain ⟨s, y, a1, a2, a3, a4, a5, a6⟩ := hx
    obtain ⟨rfl, rfl⟩ := hP.2 c d ((k + 2) % 4) c x s y (s2_lt k) a1 hb a4 hd (Nat.le_refl c) a2 a3 (by rw [← hp.1, a5])
    rw [hu] at a6; cases a6
theorem a_pass1 {bC bN : Nat → Int32} {Y : Nat → Option Nat} {v : Nat → Int32} (hW : WOK n Wy) (hU : ∀ j, U j < 16) (hY : ∀ c s, c < 16 → s < 4 → Y (c * 4 + s) = Wy c s) (hP : PlOK Wy P) (hc : c < n) (hpo : ∀ s d, s < 4 → Wy c s = some d → kX6_placeOf F bC bN (nI c) (nI s) = some (nI (P c s))) (hv : PLr v pl0) (h0 : PlP Wy P U c pl0) (h15 : ∀ p, p < 12 → pl0 p < 15) (hF : 1000 ≤ F) : Ex (kloop F (fun s_ => kX6_pass_s2 F bC bN (fE Y) (nI c) (nI (U c)) s_.1 s_.2) (0, v)) (fun r => (r.1 = 0 ∧ ¬ (fitU Wy U c ∧ NoC Wy U c)) ∨ (r.1 = 1 ∧ ¬ (fitU Wy U c ∧ NoC Wy U c)) ∨ (r.1 = 2 ∧ (fitU Wy U c ∧ NoC Wy U c) ∧ ∃ pl, PLr r.2 pl ∧ J1 Wy P U pl0 c 4 pl)) := by
  have hn := hW.1
  have hc16 : c < 16 := by omega
  have hsy : ∀ k x y, PE Wy U c k x y → PE Wy U c k y x := fun k x y h => h.sym hW
  refine Ex.fr 4 (fun k s => s.1 = nI k ∧ (∀ s, s < k → (Wy c s = none → (U c).testBit s = false) ∧ ∀ d, Wy c s = some d → d < c → (U c).testBit s = (U d).testBit ((s + 2) % 4)) ∧ NoK Wy U c k ∧ ∃ pl, PLr s.2 pl ∧ J1 Wy P U pl0 c k pl) ⟨rfl, fun s hs => absurd hs (Nat.not_lt_zero s), fun s1 s2 _ _ _ h => absurd h (Nat.not_lt_zero s1), pl0, hv, fun p hp => ⟨fun ⟨s, _, h, _⟩ => absurd h (Nat.not_lt_zero s), fun _ => ⟨fun x hx => ⟨fun hr => ?_, fun _ => rfl⟩, fun hno => ?_⟩⟩⟩ ?_ ?_ (by omega)
  · have := (PE_0.mp hr) (fun z => z = c) rfl (fun a b ha hab => by have := hab.1; omega)
    obtain ⟨s, y, a1, a2, -⟩ := hx
    omega
  · apply Classical.byContradiction
    intro hne
    obtain ⟨x, hx⟩ := (h0.1 p hp).mp hne
    exact hno x hx
  · rintro k ⟨s0, v1⟩ hk ⟨hs0, hfit, hno, pl, hv1, hJ⟩
    have hs0 : s0 = nI k := hs0
    subst hs0
    have hv1 : PLr v1 pl := hv1
    show Ex (kX6_pass_s2 F bC bN (fE Y) (nI c) (nI (U c)) (nI k) v1) _
    unfold kX6_pass_s2
    refine Ex.f (show ¬ (3 : Int32) < nI k from nI_nlt (show k ≤ 3 by omega) (by decide)) (Ex.o (a_across hc16 hk) (Ex.o (a_holds (by have := hU c; omega) (by omega)) ?_))
    rw [hY c k hc16 hk]
    -- a side that takes no joint in
    have skip : ∀ v2 : Nat → Int32, v2 = v1 → ((Wy c k = none → (U c).testBit k = false) ∧ ∀ d, Wy c k = some d → ¬ d < c) → Ex (some (Sum.inl (nI k + 1, v2)) : Option ((Int32 × (Nat → Int32)) ⊕ (Nat × (Nat → Int32)))) (onS (fun s => s.1 = nI (k + 1) ∧ (∀ s, s < k + 1 → (Wy c s = none → (U c).testBit s = false) ∧ ∀ d, Wy c s = some d → d < c → (U c).testBit s = (U d).testBit ((s + 2) % 4)) ∧ NoK Wy U c (k + 1) ∧ ∃ pl, PLr s.2 pl ∧ J1 Wy P U pl0 c (k + 1) pl) (fun r => (r.1 = 0 ∧ ¬ (fitU Wy U c ∧ NoC Wy U c)) ∨ (r.1 = 1 ∧ ¬ (fitU Wy U c ∧ NoC Wy U c)) ∨ (r.1 = 2 ∧ (fitU Wy U c ∧ NoC Wy U c) ∧ ∃ pl, PLr r.2 pl ∧ J1 Wy P U pl0 c 4 pl))) := by
      rintro v2 rfl ⟨hx1, hx2⟩
      have heb : eb Wy U c k = false := by
        cases e : eb Wy U c k with
        | false => rfl
        | true =>
          obtain ⟨d, h1, h2, h3⟩ := eb_t.mp e
          exact absurd h2 (hx2 d h1)
      refine Ex.v ⟨nI_1 k, fun s hs => ?_, fun s1 s2 d1 d2 a1 a2 a3 a4 a5 a6 => ?_, pl, hv1, fun p hp => ?_⟩
      · by_cases es : s = k
        · subst es; exact ⟨hx1, fun d h1 h2 => absurd h2 (hx2 d h1)⟩
        · exact hfit s (by omega)
      · by_cases es : s1 = k
        · subst es; rw [heb] at a5; cases a5
        · exact hno s1 s2 d1 d2 a1 (by omega) a3 a4 a5 a6
      · have hcs : Cs Wy P c (k + 1) p ↔ Cs Wy P c k p := by
          constructor
          · rintro ⟨s, d, h1, h2, h3, h4⟩
            by_cases es : s = k
            · subst es; exact absurd h3 (hx2 d h2)
            · exact ⟨s, d, by omega, h2, h3, h4⟩
          · rintro ⟨s, d, h1, h2⟩; exact ⟨s, d, by omega, h2⟩
        obtain ⟨j1, j2⟩ := hJ p hp
        refine ⟨fun h => j1 (hcs.mp h), fun h => ?_⟩
        obtain ⟨j3, j4⟩ := j2 (fun x => h (hcs.mpr x))
        exact ⟨fun x hx => ⟨fun hr => (j3 x hx).1 ((PE_s0 heb c x).mpr hr), fun hr => (j3 x hx).2 (fun y => hr ((PE_s0 heb c x).mp y))⟩, j4⟩
    cases e : Wy c k with
    | none =>
      refine Ex.t rfl ?_
      cases eu : (U c).testBit k with
      | true => exact Ex.f bI_n (Ex.v (Or.inl ⟨rfl, fun h => by have := (h.1 k hk).1 e; rw [eu] at this; cases this⟩))
      | false => exact Ex.t bI_f (Ex.t rfl (skip v1 rfl ⟨fun _ => eu, fun d h => by rw [e] at h; cases h⟩))
    | some d =>
      have hd := (hW.2.1 c k d hk e).2.1
      have hdc0 := (hW.2.1 c k d hk e).2.2.1
      have nm : ¬ nI d = -1 := n_m1 (show d < 2 ^ 31 by omega)
      refine Ex.f nm (Ex.f nm ?_)
      by_cases hdc : d < c
      · obtain ⟨hp12, hcs, hop, hcl⟩ := J1_at hW hP h0 hk e hdc hJ
        refine Ex.f (show ¬ nI c ≤ nI d from nI_ge hdc (by omega)) (Ex.o (hpo k d hk e) (Ex.b (a_take hv1 hp12 hF) ?_))
        rintro ⟨t0, v2⟩ ht
        have hbad : (pl (P c k) = 15 ∨ ((U c).testBit k = true ↔ pl (P c k) = 0)) → ¬ (fitU Wy U c ∧ NoC Wy U c) := by
          rintro hb ⟨hf, hN⟩
          have hfk := (hf k hk).2 d e hdc
          cases eu : (U d).testBit ((k + 2) % 4) with
          | false =>
            have h1 := hcl eu
            rw [eu] at hfk
            rcases hb with hb | hb
            · omega
            · rw [hb.mpr h1] at hfk; cases hfk
          | true =>
            obtain ⟨hvis, h1, h2⟩ := hop eu
            rw [eu] at hfk
            have heb : eb Wy U c k = true := eb_t.mpr ⟨d, e, hdc, by unfold jnd; rw [e]; show ((U c).testBit k && (U d).testBit ((k + 2) % 4)) = true; rw [hfk, eu]; rfl⟩
            by_cases hr : Rc (PE Wy U c k) c d
            · obtain ⟨s2, d2, a1, a2, a3, a4⟩ := (PE_at hdc).mp hr
              exact hN k s2 d d2 a1 hk e a3 heb a2 (a4.sym (fun x y h => h.sym hW))
            · have h3 := h2 hr
              have h4 := (h0.1 _ hp12).mpr ⟨d, hvis⟩
              have h5 := h15 _ hp12
              rcases hb with hb | hb
              · omega
              · exact h4 (by rw [← h3]; exact hb.mp hfk)
        rcases ht with ⟨ht0, hb⟩ | ⟨ht0, hb15, hb, hv2⟩
        · have ht0 : t0 = 0 := ht0
          subst ht0
          exact Ex.t rfl (Ex.v (Or.inr (Or.inl ⟨rfl, hbad hb⟩)))
        · have ht0 : t0 = 1 := ht0
          subst ht0
          have hv2 : PLr v2 (tk pl (P c k) ((U c).testBit k)) := hv2
          -- it fits
          have hfk : (U c).testBit k = (U d).testBit ((k + 2) % 4) := by
            cases eu : (U d).testBit ((k + 2) % 4) with
            | false =>
              cases ec : (U c).testBit k with
              | false => rfl
              | true => exact absurd (hcl eu) (hb.mp ec)
            | true =>
              obtain ⟨hvis, h1, h2⟩ := hop eu
              have hnr : ¬ Rc (PE Wy U c k) c d := fun h => hb15 (h1 h)
              have h4 := (h0.1 _ hp12).mpr ⟨d, hvis⟩
              exact hb.mpr (by rw [h2 hnr]; exact h4)
          refine Ex.f (show ¬ (1 : Int32) = 0 by decide) (Ex.v ⟨nI_1 k, fun s hs => ?_, ?_, tk pl (P c k) ((U c).testBit k), hv2, ?_⟩)
          · by_cases es : s = k
            · subst es
              exact ⟨fun h => (by rw [e] at h; cases h), fun d' h _ => by rw [e] at h; cases h; exact hfk⟩
            · exact hfit s (by omega)
          · intro s1 s2 d1 d2 a1 a2 a3 a4 a5 a6 hrc
            by_cases es : s1 = k
            · subst es
              rw [e] at a3; cases a3
              have hjn := (eb_d a5 e).2
              have eu : (U d).testBit ((s1 + 2) % 4) = true := by
                unfold jnd at hjn
                rw [e] at hjn
                have hjn : ((U c).testBit s1 && (U d).testBit ((s1 + 2) % 4)) = true := hjn
                rw [Bool.and_eq_true] at hjn
                exact hjn.2
              exact hb15 ((hop eu).2.1 ((PE_at hdc).mpr ⟨s2, d2, a1, a6, a4, hrc.sym (fun x y h => h.sym hW)⟩))
            · exact hno s1 s2 d1 d2 a1 (by omega) a3 a4 a5 a6 hrc
          · intro q hq
            have hcs1 : Cs Wy P c (k + 1) q ↔ Cs Wy P c k q ∨ q = P c k := by
              constructor
              · rintro ⟨s, d', h1, h2, h3, h4⟩
                by_cases es : s = k
                · subst es; exact Or.inr h4.symm
                · exact Or.inl ⟨s, d', by omega, h2, h3, h4⟩
              · rintro (⟨s, d', h1, h2⟩ | h)
                · exact ⟨s, d', by omega, h2⟩
                · exact ⟨k, d, by omega, e, hdc, h.symm⟩
            refine ⟨fun h => ?_, fun h => ?_⟩
            · unfold tk
              by_cases eq : q = P c k
              · rw [if_pos eq]
              · rw [if_neg eq]
                have hz := (hJ q hq).1 ((hcs1.mp h).resolve_right eq)
                rw [hz, if_neg]
                rintro ⟨h1, h2⟩
                exact hb.mp h1 h2.symm
            · have hnq : q ≠ P c k := fun x => h (hcs1.mpr (Or.inr x))
              have hnc : ¬ Cs Wy P c k q := fun x => h (hcs1.mpr (Or.inl x))
              obtain ⟨j3, j4⟩ := (hJ q hq).2 hnc
              unfold tk
              rw [if_neg hnq]
              cases ec : (U c).testBit k with
              | false =>
                have heb : eb Wy U c k = false := by
                  cases x : eb Wy U c k with
                  | false => rfl
                  | true =>
                    have hjn := (eb_d x e).2
                    unfold jnd at hjn
                    rw [e] at hjn
                    have hjn : ((U c).testBit k && (U d).testBit ((k + 2) % 4)) = true := hjn
                    rw [ec] at hjn; cases hjn
                rw [if_neg (fun x => (by cases x.1))]
                exact ⟨fun x hx => ⟨fun hr => (j3 x hx).1 ((PE_s0 heb c x).mpr hr), fun hr => (j3 x hx).2 (fun y => hr ((PE_s0 heb c x).mp y))⟩, j4⟩
              | true =>
                have eu : (U d).testBit ((k + 2) % 4) = true := by rw [← hfk]; exact ec
                have heb : eb Wy U c k = true := eb_t.mpr ⟨d, e, hdc, by unfold jnd; rw [e]; show ((U c).testBit k && (U d).testBit ((k + 2) % 4)) = true; rw [ec, eu]; rfl⟩
                obtain ⟨hvis, h1, h2⟩ := hop eu
                have hnr : ¬ Rc (PE Wy U c k) c d := fun h => hb15 (h1 h)
                have hpp := h2 hnr
                have hp0 := hb.mp ec
                have step : ∀ x, x < c → (Rc (PE Wy U c (k + 1)) c x ↔ Rc (PE Wy U c k) c x ∨ Rc (PJ Wy U c) d x) := by
                  intro x hx
                  rw [PE_s1 heb e, AE_rc (hsy k), PE_far hW hdc hnr]
                  constructor
                  · rintro (h | ⟨-, h⟩ | ⟨h, -⟩)
                    · exact Or.inl h
                    · exact Or.inr h
                    · exact absurd h hnr
                  · rintro (h | h)
                    · exact Or.inl h
                    · exact Or.inr (Or.inl ⟨Rc.rf, h⟩)
                refine ⟨fun x hx => ?_, fun hn => ?_⟩
                · have hxc : x < c := by obtain ⟨s, y, a1, a2, -⟩ := hx; exact a2
                  obtain ⟨j5, j6⟩ := j3 x hx
                  have hq0 := (h0.1 q hq).mpr ⟨x, hx⟩
                  have hcmp := h0.2 q (P c k) x d hq hp12 hx hvis
                  by_cases hr : Rc (PE Wy U c k) c x
                  · have e15 := j5 hr
                    rw [e15]
                    refine ⟨fun _ => ?_, fun hn => absurd ((step x hxc).mpr (Or.inl hr)) hn⟩
                    split <;> rfl
                  · have eq0 := j6 hr
                    rw [eq0, hpp]
                    refine ⟨fun hr2 => ?_, fun hn => ?_⟩
                    · rcases (step x hxc).mp hr2 with h | h
                      · exact absurd h hr
                      · rw [if_pos ⟨rfl, hcmp.mpr (h.sym (fun x y h => h.sym hW))⟩]
                    · rw [if_neg]
                      rintro ⟨-, h⟩
                      exact hn ((step x hxc).mpr (Or.inr ((hcmp.mp h).sym (fun x y h => h.sym hW))))
                · rw [j4 hn, if_neg]
                  rintro ⟨-, h⟩
                  exact hp0 h.symm
      · exact Ex.t (show nI c ≤ nI d from nI_le (by omega) (by omega)) (skip v1 rfl ⟨fun h => (by rw [e] at h; cases h), fun d' h => by rw [e] at h; cases h; exact hdc⟩)
  · rintro ⟨s0, v1⟩ ⟨hs0, hfit, hno, pl, hv1, hJ⟩
    have hs0 : s0 = nI 4 := hs0
    subst hs0
    show Ex (kX6_pass_s2 F bC bN (fE Y) (nI c) (nI (U c)) (nI 4) v1) _
    unfold kX6_pass_s2
    exact Ex.t (by decide) (Ex.v (Or.inr (Or.inr ⟨rfl, ⟨fun s hs => hfit s hs, hno⟩, pl, hv1, hJ⟩)))
/-- the places when the joints to the cells before it are put -/
def J2 (Wy : Nat → Nat → Option Nat) (P : Nat → Nat → Nat) (U pl4 : Nat → Nat) (c k : Nat) (pl : Nat → Nat) : Prop := ∀ p, p < 12 → (∀ s d, s < k → Wy c s = some d → c < d → P c s = p → pl p = if (U c).testBit s = true then 15 else 0) ∧ ((∀ s d, s < k → Wy c s = some d → c < d → P c s ≠ p) → pl p = pl4 p)
theorem a_pass2 {bC bN : Nat → Int32} {Y : Nat → Option Nat} {v : Nat → Int32} {pl4 : Nat → Nat} (hW : WOK n Wy) (hU : ∀ j, U j < 16) (hY : ∀ c s, c < 16 → s < 4 → Y (c * 4 + s) = Wy c s) (hP : PlOK Wy P) (hc : c < n) (hpo : ∀ s d, s < 4 → Wy c s = some d → kX6_placeOf F bC bN (nI c) (nI s) = some (nI (P c s))) (hv : PLr v pl4) (hF : 1000 ≤ F) : Ex (kloop F (fun s_ => kX6_pass_s75 F bC bN (fE Y) (nI c) (nI (U c)) s_.1 s_.2) (0, v)) (fun r => ∃ pl, PLr r pl ∧ J2 Wy P U pl4 c 4 pl) := by
  have hn := hW.1
  have hc16 : c < 16 := by omega
  refine Ex.fr 4 (fun k s => s.1 = nI k ∧ ∃ pl, PLr s.2 pl ∧ J2 Wy P U pl4 c k pl) ⟨rfl, pl4, hv, fun p hp => ⟨fun s d hs => absurd hs (Nat.not_lt_zero s), fun _ => rfl⟩⟩ ?_ ?_ (by omega)
  · rintro k ⟨s0, v1⟩ hk ⟨hs0, pl, hv1, hJ⟩
    have hs0 : s0 = nI k := hs0
    subst hs0
    have hv1 : PLr v1 pl := hv1
    show Ex (kX6_pass_s75 F bC bN (fE Y) (nI c) (nI (U c)) (nI k) v1) _
    unfold kX6_pass_s75
    refine Ex.f (show ¬ (3 : Int32) < nI k from nI_nlt (show k ≤ 3 by omega) (by decide)) (Ex.o (a_across hc16 hk) ?_)
    rw [hY c k hc16 hk]
    have skip : (∀ d, Wy c k = some d → ¬ c < d) → Ex (some (Sum.inl (nI k + 1, v1)) : Option ((Int32 × (Nat → Int32)) ⊕ (Nat → Int32))) (onS (fun s => s.1 = nI (k + 1) ∧ ∃ pl, PLr s.2 pl ∧ J2 Wy P U pl4 c (k + 1) pl) (fun r => ∃ pl, PLr r pl ∧ J2 Wy P U pl4 c 4 pl)) := by
      intro h
      refine Ex.v ⟨nI_1 k, pl, hv1, fun p hp => ⟨fun s d h1 h2 h3 h4 => ?_, fun hn => (hJ p hp).2 (fun s d h1 => hn s d (by omega))⟩⟩
      by_cases es : s = k
      · subst es; exact absurd h3 (h d h2)
      · exact (hJ p hp).1 s d (by omega) h2 h3 h4
    cases e : Wy c k with
    | none => exact Ex.t (show (-1 : Int32) ≤ nI c from Int32.le_trans (show (-1 : Int32) ≤ 0 by decide) (nI_pos' (by omega))) (skip (fun d h => by rw [e] at h; cases h))
    | some d =>
      have hd := (hW.2.1 c k d hk e).2.1
      by_cases hdc : c < d
      · refine Ex.f (show ¬ nI d ≤ nI c from nI_ge hdc (by omega)) (Ex.o (hpo k d hk e) (Ex.o (a_holds (by have := hU c; omega) (by omega)) ?_))
        have hp12 := (hP.1 c k d hk e).2
        refine Ex.b (a_put hv1 hp12) ?_
        intro v2 hv2
        refine Ex.v ⟨nI_1 k, _, hv2, fun p hp => ⟨fun s d' h1 h2 h3 h4 => ?_, fun hn => ?_⟩⟩
        · by_cases es : s = k
          · subst es
            rw [← h4, up_s]
          · have hne : p ≠ P c k := fun x => by
              have := (hP.2 (c + 1) c s d' c k d (by omega) hk h2 e (by omega) (by omega) (by omega) (by omega) (by rw [h4, x])).2
              exact es this
            rw [up_n hne]
            exact (hJ p hp).1 s d' (by omega) h2 h3 h4
        · rw [up_n (fun x => hn k d (by omega) e hdc x.symm)]
          exact (hJ p hp).2 (fun s d h1 => hn s d (by omega))
      · exact Ex.t (show nI d ≤ nI c from nI_le (by omega) (by omega)) (skip (fun d' h => by rw [e] at h; cases h; exact hdc))
  · rintro ⟨s0, v1⟩ ⟨hs0, h⟩
    have hs0 : s0 = nI 4 := hs0
    subst hs0
    show Ex (kX6_pass_s75 F bC bN (fE Y) (nI c) (nI (U c)) (nI 4) v1) _
    unfold kX6_pass_s75
    exact Ex.t (by decide) (Ex.v h)
theorem pass_end {pl4 : Nat → Nat} (hW : WOK n Wy) (hP : PlOK Wy P) (h0 : PlP Wy P U c pl0) (h15 : ∀ p, p < 12 → pl0 p < 15) (hJ1 : J1 Wy P U pl0 c 4 pl4) (hJ2 : J2 Wy P U pl4 c 4 pl) : PlP Wy P U (c + 1) pl ∧ ((∃ q, q < 12 ∧ pl q = 15) ↔ OpN Wy U c) := by
  have hJc : ∀ x y, Rc (PE Wy U c 4) x y ↔ Rc (PJ Wy U (c + 1)) x y := fun x y => PE_4 hW
  -- a place that stays
  have old : ∀ p x, p < 12 → x < c → Vis Wy P U (c + 1) p x → Vis Wy P U c p x ∧ (Rc (PE Wy U c 4) c x → pl p = 15) ∧ (¬ Rc (PE Wy U c 4) c x → pl p = pl0 p) := by
    rintro p x hp hx ⟨s, y, a1, a2, a3, a4, a5, a6⟩
    have hv : Vis Wy P U c p x := ⟨s, y, a1, hx, by omega, a4, a5, a6⟩
    have hncs : ¬ Cs Wy P c 4 p := by
      rintro ⟨s', d, h1, h2, h3, h4⟩
      have hb := (hW.2.1 c s' d h1 h2).2.2.2
      have hp' := (hP.1 c s' d h1 h2).1
      obtain ⟨e1, e2⟩ := hP.2 c x s y d ((s' + 2) % 4) c a1 (s2_lt s') a4 hb hx (by omega) h3 (Nat.le_refl c) (by rw [a5, ← hp', h4])
      subst e1 e2
      rw [a4] at hb; cases hb
      omega
    have hnew : ∀ s' d, s' < 4 → Wy c s' = some d → c < d → P c s' ≠ p := by
      intro s' d h1 h2 h3 h4
      have := (hP.2 (c + 1) x s y c s' d a1 h1 a4 h2 (by omega) (by omega) (by omega) (by omega) (by rw [a5, h4])).1
      omega
    have e4 := (hJ2 p hp).2 hnew
    obtain ⟨j1, j2⟩ := (hJ1 p hp).2 hncs
    rw [e4]
    exact ⟨hv, j1 x hv⟩
  have new : ∀ p, p < 12 → Vis Wy P U (c + 1) p c → pl p = 15 := by
    rintro p hp ⟨s, y, a1, a2, a3, a4, a5, a6⟩
    have := (hJ2 p hp).1 s y a1 a4 (by omega) a5
    rw [this, if_pos a6]
  have back : ∀ p, p < 12 → pl p ≠ 0 → ∃ x, Vis Wy P U (c + 1) p x := by
    intro p hp hne
    by_cases hnew : ∃ s d, s < 4 ∧ Wy c s = some d ∧ c < d ∧ P c s = p
    · obtain ⟨s, d, h1, h2, h3, h4⟩ := hnew
      have := (hJ2 p hp).1 s d h1 h2 h3 h4
      cases eu : (U c).testBit s with
      | true => exact ⟨c, s, d, h1, by omega, by omega, h2, h4, eu⟩
      | false =>
        rw [eu, if_neg (by decide)] at this
        exact absurd this hne
    · have e4 := (hJ2 p hp).2 (fun s d h1 h2 h3 h4 => hnew ⟨s, d, h1, h2, h3, h4⟩)
      have hncs : ¬ Cs Wy P c 4 p := fun h => hne (by rw [e4]; exact (hJ1 p hp).1 h)
      obtain ⟨j1, j2⟩ := (hJ1 p hp).2 hncs
      apply Classical.byContradiction
      intro hno
      refine hne ?_
      rw [e4]
      refine j2 (fun x hx => hno ⟨x, ?_⟩)
      obtain ⟨s, y, a1, a2, a3, a4, a5, a6⟩ := hx
      refine ⟨s, y, a1, by omega, ?_, a4, a5, a6⟩
      apply Classical.byContradiction
      intro hy
      have hyc : y = c := by omega
      subst hyc
      have hh := hW.2.1 x s y a1 a4
      refine hncs ⟨(s + 2) % 4, x, s2_lt s, hh.2.2.2, a2, ?_⟩
      rw [← (hP.1 x s y a1 a4).1]; exact a5
  have val : ∀ p x, p < 12 → Vis Wy P U (c + 1) p x → (Rc (PE Wy U c 4) c x → pl p = 15) ∧ (¬ Rc (PE Wy U c 4) c x → pl p = pl0 p ∧ x < c ∧ Vis Wy P U c p x) := by
    intro p x hp hx
    have hxc : x < c + 1 := by obtain ⟨s, y, a1, a2, -⟩ := hx; exact a2
    by_cases e : x = c
    · subst e
      exact ⟨fun _ => new p hp hx, fun h => absurd Rc.rf h⟩
    · obtain ⟨o1, o2, o3⟩ := old p x hp (by omega) hx
      exact ⟨o2, fun h => ⟨o3 h, by omega, o1⟩⟩
  have hsy : ∀ x y, PE Wy U c 4 x y → PE Wy U c 4 y x := fun x y h => h.sym hW
  refine ⟨⟨fun p hp => ⟨back p hp, fun ⟨x, hx⟩ => ?_⟩, fun p q x x' hp hq hx hx' => ?_⟩, ?_⟩
  · obtain ⟨v1, v2⟩ := val p x hp hx
    by_cases hr : Rc (PE Wy U c 4) c x
    · rw [v1 hr]; decide
    · obtain ⟨e, -, hv⟩ := v2 hr
      rw [e]
      exact (h0.1 p hp).mpr ⟨x, hv⟩
  · obtain ⟨v1, v2⟩ := val p x hp hx
    obtain ⟨w1, w2⟩ := val q x' hq hx'
    rw [← hJc]
    by_cases hr : Rc (PE Wy U c 4) c x
    · by_cases hr' : Rc (PE Wy U c 4) c x'
      · rw [v1 hr, w1 hr']
        exact ⟨fun _ => (hr.sym hsy).trans hr', fun _ => rfl⟩
      · obtain ⟨e, -, hv⟩ := w2 hr'
        have := h15 q hq
        rw [v1 hr, e]
        exact ⟨fun h => by omega, fun h => absurd (hr.trans h) hr'⟩
    · obtain ⟨e, hxc, hv⟩ := v2 hr
      by_cases hr' : Rc (PE Wy U c 4) c x'
      · have := h15 p hp
        rw [e, w1 hr']
        exact ⟨fun h => by omega, fun h => absurd (hr'.trans (h.sym hsy)) hr⟩
      · obtain ⟨e', hxc', hv'⟩ := w2 hr'
        rw [e, e', PE_far hW hxc hr]
        exact h0.2 p q x x' hp hq hv hv'
  · constructor
    · rintro ⟨q, hq, h⟩
      obtain ⟨x, hx⟩ := back q hq (by rw [h]; decide)
      obtain ⟨v1, v2⟩ := val q x hq hx
      have hr : Rc (PE Wy U c 4) c x := by
        apply Classical.byContradiction
        intro hr
        have := (v2 hr).1
        have := h15 q hq
        omega
      obtain ⟨s, y, a1, a2, a3, a4, a5, a6⟩ := hx
      exact ⟨x, s, y, by omega, (hJc c x).mp hr, a1, a4, by omega, a6⟩
    · rintro ⟨x, s, y, h1, h2, h3, h4, h5, h6⟩
      have hp12 := (hP.1 x s y h3 h4).2
      have hx : Vis Wy P U (c + 1) (P x s) x := ⟨s, y, h3, by omega, by omega, h4, rfl, h6⟩
      exact ⟨P x s, hp12, (val (P x s) x hp12 hx).1 ((hJc c x).mpr h2)⟩
theorem a_pass {bC bN : Nat → Int32} {Y : Nat → Option Nat} {v : Nat → Int32} (hW : WOK n Wy) (hU : ∀ j, U j < 16) (hY : ∀ c s, c < 16 → s < 4 → Y (c * 4 + s) = Wy c s) (hP : PlOK Wy P) (hc : c < n) (hpo : ∀ s d, s < 4 → Wy c s = some d → kX6_placeOf F bC bN (nI c) (nI s) = some (nI (P c s))) (hv : PLr v pl0) (h0 : PlP Wy P U c pl0) (h15 : ∀ p, p < 12 → pl0 p < 15) (hF : 1000 ≤ F) : Ex (kX6_pass F (nI n) bC bN (fE Y) v (nI c) (nI (U c))) (fun r => ∃ b, r.1 = bI b ∧ (b = true ↔ StS Wy U n c) ∧ (b = true → ∃ pl, PLr r.2 pl ∧ PlP Wy P U (c + 1) pl)) := by
  have hn := hW.1
  unfold kX6_pass
  refine Ex.b (a_pass1 hW hU hY hP hc hpo hv h0 h15 hF) ?_
  rintro ⟨t0, v1⟩ (⟨e, hno⟩ | ⟨e, hno⟩ | ⟨e, hok, pl4, hv4, hJ4⟩)
  · have e : t0 = 0 := e
    subst e
    exact Ex.t rfl (Ex.v ⟨false, rfl, ⟨fun x => (by cases x), fun x => absurd ⟨x.1, x.2.1⟩ hno⟩, fun x => (by cases x)⟩)
  · have e : t0 = 1 := e
    subst e
    exact Ex.f (show ¬ (1 : Nat) = 0 by decide) (Ex.t rfl (Ex.v ⟨false, rfl, ⟨fun x => (by cases x), fun x => absurd ⟨x.1, x.2.1⟩ hno⟩, fun x => (by cases x)⟩))
  · have e : t0 = 2 := e
    subst e
    have hv4 : PLr v1 pl4 := hv4
    refine Ex.f (show ¬ (2 : Nat) = 0 by decide) (Ex.f (show ¬ (2 : Nat) = 1 by decide) (Ex.b (a_pass2 hW hU hY hP hc hpo hv4 hF) ?_))
    rintro v2 ⟨pl2, hv2, hJ2⟩
    obtain ⟨q1, q2⟩ := pass_end hW hP h0 h15 hJ4 hJ2
    refine Ex.o (show kX0_count F (nI n) = some (nI n) from rfl) ?_
    have en : nI n - 1 = nI (n - 1) := by rw [i1, pk_sub (by omega)]
    rw [en]
    by_cases hcn : c + 1 = n
    · exact Ex.t (show nI c = nI (n - 1) by rw [show c = n - 1 by omega]) (Ex.v ⟨true, rfl, ⟨fun _ => ⟨hok.1, hok.2, Or.inl hcn⟩, fun _ => rfl⟩, fun _ => ⟨pl2, hv2, q1⟩⟩)
    · refine Ex.f (show ¬ nI c = nI (n - 1) by rw [nI_eq (by omega) (by omega)]; omega) (Ex.b (a_goesOn hv2 hF) ?_)
      rintro _ ⟨b, rfl, hb⟩
      cases b with
      | false => exact Ex.t bI_f (Ex.v ⟨false, rfl, ⟨fun x => (by cases x), fun x => by
          have := hb.mpr (q2.mpr (x.2.2.resolve_left hcn)); cases this⟩, fun x => (by cases x)⟩)
      | true => exact Ex.f bI_n (Ex.v ⟨true, rfl, ⟨fun _ => ⟨hok.1, hok.2, Or.inr (q2.mp (hb.mp rfl))⟩, fun _ => rfl⟩, fun _ => ⟨pl2, hv2, q1⟩⟩)
end PA
