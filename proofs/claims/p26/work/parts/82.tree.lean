/-! a made board is a tree, its tiles turned -/
theorem sm_up1 {f : Nat → Nat} {T : Nat → Nat} {c v : Nat} : ∀ {n : Nat}, c < n → sm (fun i => f (up T c v i)) n + f (T c) = sm (fun i => f (T i)) n + f v
  | 0, h => absurd h (Nat.not_lt_zero c)
  | n + 1, h => by
    by_cases e : c = n
    · subst e
      show (sm (fun i => f (up T c v i)) c + f (up T c v c)) + f (T c) = (sm (fun i => f (T i)) c + f (T c)) + f v
      rw [up_s, sm_congr (g := fun i => f (T i)) (fun i hi => by show f (up T c v i) = _; rw [up_n (by omega)])]
      omega
    · have ih := sm_up1 (f := f) (T := T) (c := c) (v := v) (n := n) (by omega)
      show (sm (fun i => f (up T c v i)) n + f (up T c v n)) + f (T c) = (sm (fun i => f (T i)) n + f (T n)) + f v
      rw [up_n (fun x => e x.symm)]
      omega
/-- a pair more is joined -/
def jo (T : Nat → Nat) (c s d : Nat) : Nat → Nat := up (up T c (T c ||| 2 ^ s)) d (up T c (T c ||| 2 ^ s) d ||| 2 ^ ((s + 2) % 4))
section JO
variable {n c s d : Nat} {Wy : Nat → Nat → Option Nat} {T : Nat → Nat}
theorem jo_tb {x s' : Nat} (hcd : d ≠ c) : (jo T c s d x).testBit s' = true ↔ (T x).testBit s' = true ∨ (x = c ∧ s' = s) ∨ (x = d ∧ s' = (s + 2) % 4) := by
  unfold jo
  by_cases e : x = d
  · subst e
    rw [up_s, up_n hcd, tb_or, tb_p2]
    constructor
    · rintro (h | h)
      · exact Or.inl h
      · exact Or.inr (Or.inr ⟨rfl, h⟩)
    · rintro (h | ⟨h, -⟩ | ⟨-, h⟩)
      · exact Or.inl h
      · exact absurd h hcd
      · exact Or.inr h
  · rw [up_n e]
    by_cases e2 : x = c
    · subst e2
      rw [up_s, tb_or, tb_p2]
      constructor
      · rintro (h | h)
        · exact Or.inl h
        · exact Or.inr (Or.inl ⟨rfl, h⟩)
      · rintro (h | ⟨-, h⟩ | ⟨h, -⟩)
        · exact Or.inl h
        · exact Or.inr h
        · exact absurd h e
    · rw [up_n e2]
      constructor
      · exact Or.inl
      · rintro (h | ⟨h, -⟩ | ⟨h, -⟩)
        · exact h
        · exact absurd h e2
        · exact absurd h e
theorem JA_i {x y : Nat} : JA Wy T x y ↔ ∃ s, s < 4 ∧ Wy x s = some y ∧ (T x).testBit s = true ∧ (T y).testBit ((s + 2) % 4) = true := by
  constructor
  · rintro ⟨s, hs, hj, e⟩
    unfold jnd at hj
    rw [e] at hj
    have hj : ((T x).testBit s && (T y).testBit ((s + 2) % 4)) = true := hj
    rw [Bool.and_eq_true] at hj
    exact ⟨s, hs, e, hj⟩
  · rintro ⟨s, hs, e, h1, h2⟩
    refine ⟨s, hs, ?_, e⟩
    unfold jnd
    rw [e]
    show ((T x).testBit s && (T y).testBit ((s + 2) % 4)) = true
    rw [h1, h2]; rfl
theorem jo_JA (hW : WOK n Wy) (hs : s < 4) (e : Wy c s = some d) {x y : Nat} : JA Wy (jo T c s d) x y ↔ AE (JA Wy T) c d x y := by
  obtain ⟨hc, hd, hcd, hb⟩ := hW.2.1 c s d hs e
  constructor
  · intro h
    obtain ⟨t, ht, e1, h1, h2⟩ := JA_i.mp h
    have hb1 := (hW.2.1 x t y ht e1).2.2.2
    rcases (jo_tb hcd).mp h1 with h1 | ⟨rfl, rfl⟩ | ⟨rfl, rfl⟩
    · rcases (jo_tb hcd).mp h2 with h3 | ⟨rfl, h3⟩ | ⟨rfl, h3⟩
      · exact Or.inl (JA_i.mpr ⟨t, ht, e1, h1, h3⟩)
      · rw [h3, e] at hb1
        cases hb1
        exact Or.inr (Or.inr ⟨rfl, rfl⟩)
      · rw [h3, hb] at hb1
        cases hb1
        exact Or.inr (Or.inl ⟨rfl, rfl⟩)
    · rw [e] at e1
      cases e1
      exact Or.inr (Or.inl ⟨rfl, rfl⟩)
    · rw [hb] at e1
      cases e1
      exact Or.inr (Or.inr ⟨rfl, rfl⟩)
  · rintro (h | ⟨rfl, rfl⟩ | ⟨rfl, rfl⟩)
    · obtain ⟨t, ht, e1, h1, h2⟩ := JA_i.mp h
      exact JA_i.mpr ⟨t, ht, e1, (jo_tb hcd).mpr (Or.inl h1), (jo_tb hcd).mpr (Or.inl h2)⟩
    · exact JA_i.mpr ⟨s, hs, e, (jo_tb hcd).mpr (Or.inr (Or.inl ⟨rfl, rfl⟩)), (jo_tb hcd).mpr (Or.inr (Or.inr ⟨rfl, rfl⟩))⟩
    · exact JA_i.mpr ⟨(s + 2) % 4, s2_lt s, hb, (jo_tb hcd).mpr (Or.inr (Or.inr ⟨rfl, rfl⟩)), (jo_tb hcd).mpr (Or.inr (Or.inl ⟨rfl, s22 hs⟩))⟩
theorem jo_noLo (hW : WOK n Wy) (hs : s < 4) (e : Wy c s = some d) (h : noLo Wy T n) : noLo Wy (jo T c s d) n := by
  obtain ⟨hc, hd, hcd, hb⟩ := hW.2.1 c s d hs e
  intro x t hx ht hb2
  rcases (jo_tb hcd).mp hb2 with h1 | ⟨rfl, rfl⟩ | ⟨rfl, rfl⟩
  · obtain ⟨y, e1, h2⟩ := h x t hx ht h1
    exact ⟨y, e1, (jo_tb hcd).mpr (Or.inl h2)⟩
  · exact ⟨d, e, (jo_tb hcd).mpr (Or.inr (Or.inr ⟨rfl, rfl⟩))⟩
  · exact ⟨c, hb, (jo_tb hcd).mpr (Or.inr (Or.inl ⟨rfl, s22 hs⟩))⟩
theorem jo_opn (hcn : c < n) (hdn : d < n) (hs : s < 4) (hcd : d ≠ c) (h1 : (T c).testBit s = false) (h2 : (T d).testBit ((s + 2) % 4) = false) : opn (jo T c s d) n = opn T n + 2 := by
  have e1 := sm_up1 (f := fun m => pop m 16) (T := T) (v := T c ||| 2 ^ s) hcn
  have e2 := sm_up1 (f := fun m => pop m 16) (T := up T c (T c ||| 2 ^ s)) (v := up T c (T c ||| 2 ^ s) d ||| 2 ^ ((s + 2) % 4)) hdn
  have e1 : sm (fun i => pop (up T c (T c ||| 2 ^ s) i) 16) n + pop (T c) 16 = sm (fun i => pop (T i) 16) n + pop (T c ||| 2 ^ s) 16 := e1
  have e2 : sm (fun i => pop (jo T c s d i) 16) n + pop (up T c (T c ||| 2 ^ s) d) 16 = sm (fun i => pop (up T c (T c ||| 2 ^ s) i) 16) n + pop (up T c (T c ||| 2 ^ s) d ||| 2 ^ ((s + 2) % 4)) 16 := e2
  have h4 := s2_lt s
  rw [pop_or h1 16, if_pos (show s < 16 by omega)] at e1
  rw [up_n hcd, pop_or h2 16, if_pos (show (s + 2) % 4 < 16 by omega)] at e2
  show sm (fun i => pop (jo T c s d i) 16) n = sm (fun i => pop (T i) 16) n + 2
  omega
end JO
abbrev W0 (w h : Nat) (g : Bool) : Nat → Nat → Option Nat := Wyf w h g (fun _ => 0)
theorem W0_e {w h c s : Nat} {g : Bool} (hc : c < w * h) : W0 w h g c s = nbr w h g c s := by
  show (if c < w * h then (if (0 : Nat).testBit s = true then none else nbr w h g c s) else none) = _
  rw [if_pos hc, Nat.zero_testBit]; rfl
def TI (w h : Nat) (g : Bool) (T : Nat → Nat) : Prop := noLo (W0 w h g) T (w * h) ∧ opn T (w * h) + 2 * nP (Rt (JA (W0 w h g) T)) (w * h) = 2 * (w * h)
section TR
variable {w h : Nat} {g : Bool} {T : Nat → Nat}
theorem JA_0 {n x y : Nat} {Wy : Nat → Nat → Option Nat} (hW : WOK n Wy) (h0 : ∀ j, j < n → T j = 0) (h : JA Wy T x y) : False := by
  have hx := (h.lt hW).1
  obtain ⟨t, ht, e1, h1, h2⟩ := JA_i.mp h
  rw [h0 x hx, Nat.zero_testBit] at h1
  cases h1
theorem opn_0 {n : Nat} (h0 : ∀ j, j < n → T j = 0) : opn T n = 0 := by
  unfold opn
  rw [sm_congr (g := fun _ => 0) (fun c hc => by show pop (T c) 16 = 0; rw [h0 c hc]; decide), sm_0]
theorem TI_0 (o : okS w h g = true) (h0 : ∀ j, j < w * h → T j = 0) : TI w h g T := by
  have hW := mk_WOK o (wsy0 (w := w) (h := h) (g := g))
  refine ⟨fun c s hc hs hb => ?_, ?_⟩
  · rw [h0 c hc, Nat.zero_testBit] at hb
    cases hb
  · have hnP : nP (Rt (JA (W0 w h g) T)) (w * h) = w * h := nP_all.mpr (fun i hi y hy => Nat.le_of_eq (hy (fun z => z = i) rfl (fun x y _ hxy => (JA_0 hW h0 hxy).elim)).symm)
    rw [opn_0 h0, hnP]; omega
theorem jT_inv (o : okS w h g = true) {f : Nat → Nat} {m : Nat} (hg : ∀ j, j < m → gd w h g (f j)) (h0 : ∀ j, j < w * h → T j = 0) : ∀ i, i ≤ m → TI w h g (jT w h g f T i) ∧ ∀ j d, j < i → nbr w h g (f j / 4) (f j % 4) = some d → Rc (JA (W0 w h g) (jT w h g f T i)) (f j / 4) d
  | 0, _ => ⟨TI_0 o h0, fun j d hj => absurd hj (Nat.not_lt_zero j)⟩
  | i + 1, hi => by
    obtain ⟨⟨t1, t2⟩, hc⟩ := jT_inv o hg h0 i (by omega)
    have hW := mk_WOK o (wsy0 (w := w) (h := h) (g := g))
    obtain ⟨g1, g2, g3⟩ := hg i (by omega)
    obtain ⟨d, e⟩ := Option.isSome_iff_exists.mp g3
    have hs : f i % 4 < 4 := Nat.mod_lt _ (by decide)
    have eW : W0 w h g (f i / 4) (f i % 4) = some d := by rw [W0_e g1]; exact e
    obtain ⟨k1, k2, k3, k4⟩ := hW.2.1 _ _ _ hs eW
    rw [jT_s e]
    by_cases r : Rc (JA (W0 w h g) (jT w h g f T i)) (f i / 4) d
    · rw [cif_t r]
      refine ⟨⟨t1, t2⟩, fun j d' hj e' => ?_⟩
      by_cases ej : j = i
      · subst ej
        rw [e] at e'; cases e'
        exact r
      · exact hc j d' (by omega) e'
    · rw [cif_f r]
      have hU : ∀ x y, JA (W0 w h g) (jo (jT w h g f T i) (f i / 4) (f i % 4) d) x y ↔ AE (JA (W0 w h g) (jT w h g f T i)) (f i / 4) d x y := fun x y => jo_JA hW hs eW
      show TI w h g (jo (jT w h g f T i) (f i / 4) (f i % 4) d) ∧ ∀ j d', j < i + 1 → nbr w h g (f j / 4) (f j % 4) = some d' → Rc (JA (W0 w h g) (jo (jT w h g f T i) (f i / 4) (f i % 4) d)) (f j / 4) d'
      have b1 : (jT w h g f T i (f i / 4)).testBit (f i % 4) = false := by
        cases x : (jT w h g f T i (f i / 4)).testBit (f i % 4) with
        | false => rfl
        | true =>
          obtain ⟨d', e', hb⟩ := t1 _ _ k1 hs x
          rw [eW] at e'; cases e'
          exact absurd (Rc.rf.tr (JA_i.mpr ⟨_, hs, eW, x, hb⟩)) r
      have b2 : (jT w h g f T i d).testBit ((f i % 4 + 2) % 4) = false := by
        cases x : (jT w h g f T i d).testBit ((f i % 4 + 2) % 4) with
        | false => rfl
        | true =>
          obtain ⟨d', e', hb⟩ := t1 _ _ k2 (s2_lt _) x
          have k4' : W0 w h g d ((f i % 4 + 2) % 4) = some (f i / 4) := k4
          rw [k4'] at e'; cases e'
          rw [s22 hs] at hb
          exact absurd (Rc.rf.tr (JA_i.mpr ⟨_, hs, eW, hb, x⟩)) r
      have hl := AE_less (N := w * h) (fun x y (hxy : JA (W0 w h g) (jT w h g f T i) x y) => hxy.sym hW) (fun x y hxy => (hxy.lt hW).2.1) k1 k2 r
      have hc2 : nP (Rt (JA (W0 w h g) (jo (jT w h g f T i) (f i / 4) (f i % 4) d))) (w * h) = nP (Rt (AE (JA (W0 w h g) (jT w h g f T i)) (f i / 4) d)) (w * h) := nP_congr (fun z _ => ⟨fun hz y hy => hz y ((Rc.iff hU z y).mpr hy), fun hz y hy => hz y ((Rc.iff hU z y).mp hy)⟩)
      refine ⟨⟨jo_noLo hW hs eW t1, ?_⟩, fun j d' hj e' => ?_⟩
      · rw [jo_opn k1 k2 hs k3 b1 b2, hc2]
        omega
      · by_cases ej : j = i
        · subst ej
          rw [e] at e'; cases e'
          exact Rc.rf.tr ((hU _ _).mpr (Or.inr (Or.inl ⟨rfl, rfl⟩)))
        · exact (hc j d' (by omega) e').mono (fun x y hxy => (hU x y).mpr (Or.inl hxy))
theorem prs_all : ∀ i z, z < i → (nbr w h g (z / 2) (z % 2 + 1)).isSome = true → ∃ j, j < (prs w h g i).1 ∧ (prs w h g i).2 j = 4 * (z / 2) + (z % 2 + 1)
  | 0, z, hz, _ => absurd hz (Nat.not_lt_zero z)
  | i + 1, z, hz, he => by
    rw [prs_s]
    by_cases e : (nbr w h g (i / 2) (i % 2 + 1)).isSome = true
    · rw [if_pos e]
      by_cases ez : z = i
      · subst ez
        exact ⟨(prs w h g z).1, Nat.lt_succ_self _, up_s⟩
      · obtain ⟨j, hj, ej⟩ := prs_all i z (by omega) he
        exact ⟨j, Nat.lt_succ_of_lt hj, by show up _ _ _ j = _; rw [up_n (by omega), ej]⟩
    · rw [if_neg e]
      by_cases ez : z = i
      · subst ez
        exact absurd he e
      · exact prs_all i z (by omega) he
theorem mxs_all {m x : Nat} : ∀ k u f, k < m → (∃ j, j < m ∧ f j = x) → ∃ j, j < m ∧ (mxs k u f).2 j = x
  | 0, _, _, _, h => h
  | k + 1, u, f, hk, ⟨j, hj, e⟩ => by
    have hb : lcg u % (k + 2) < m := by have := Nat.mod_lt (lcg u) (show 0 < k + 2 by omega); omega
    refine mxs_all k (lcg u) (swp f (k + 1) (lcg u % (k + 2))) (by omega) ?_
    by_cases ea : j = k + 1
    · subst ea
      exact ⟨lcg u % (k + 2), hb, by rw [swp_at, if_pos rfl]; exact e⟩
    · by_cases eb : j = lcg u % (k + 2)
      · refine ⟨k + 1, hk, ?_⟩
        rw [swp_at, if_neg (fun z => ea (eb.trans z.symm)), if_pos rfl, ← eb]; exact e
      · exact ⟨j, hj, by rw [swp_at, if_neg eb, if_neg ea]; exact e⟩
def lwP (w h : Nat) (g : Bool) (c : Nat) : Bool := !(okS w h g && decide (0 < c ∧ c < w * h)) || (List.range 4).any (fun s => match nbr w h g c s with
  | some d => decide (d < c)
  | none => false)
def lwA : Bool := (List.range 6).all fun w => (List.range 6).all fun h => [false, true].all fun g => (List.range 16).all fun c => lwP w h g c
theorem lwA_t : lwA = true := by decide +kernel
theorem lw_nb (o : okS w h g = true) {c : Nat} (h0 : 0 < c) (hc : c < w * h) : ∃ s d, s < 4 ∧ nbr w h g c s = some d ∧ d < c := by
  obtain ⟨h1, h2, h3, h4, h5⟩ := okS_b o
  have t := lwA_t
  unfold lwA at t
  have t := List.all_eq_true.mp t w (List.mem_range.mpr (by omega))
  have t := List.all_eq_true.mp t h (List.mem_range.mpr (by omega))
  have t := List.all_eq_true.mp t g (by cases g <;> simp)
  have t := List.all_eq_true.mp t c (List.mem_range.mpr (by omega))
  unfold lwP at t
  rw [o, decide_eq_true (show 0 < c ∧ c < w * h from ⟨h0, hc⟩)] at t
  rw [Bool.and_self, Bool.not_true, Bool.false_or] at t
  obtain ⟨s, hs, hq⟩ := List.any_eq_true.mp t
  cases e : nbr w h g c s with
  | none => rw [e] at hq; cases hq
  | some d =>
    rw [e] at hq
    exact ⟨s, d, List.mem_range.mp hs, e, of_decide_eq_true hq⟩
/-- the made joints -/
noncomputable def mkJ (w h : Nat) (g : Bool) (u : Nat) (T : Nat → Nat) : Nat → Nat := jT w h g (mkP w h g u).2 T (prs w h g (2 * (w * h))).1
theorem nP_one {p : Nat → Prop} (h0 : p 0) : ∀ {n : Nat}, 1 ≤ n → (∀ i, 0 < i → i < n → ¬ p i) → nP p n = 1
  | 0, h, _ => absurd h (by decide)
  | 1, _, _ => by rw [nP_s1 h0]; rfl
  | n + 2, _, hn => by rw [nP_s0 (hn (n + 1) (by omega) (by omega)), nP_one h0 (n := n + 1) (by omega) (fun i hi hi2 => hn i hi (by omega))]
theorem mkJ_tree (o : okS w h g = true) (u : Nat) (h0 : ∀ j, j < w * h → T j = 0) : noLo (W0 w h g) (mkJ w h g u T) (w * h) ∧ opn (mkJ w h g u T) (w * h) = 2 * (w * h - 1) ∧ conA (W0 w h g) (mkJ w h g u T) (w * h) := by
  have hW := mk_WOK o (wsy0 (w := w) (h := h) (g := g))
  obtain ⟨⟨t1, t2⟩, hc⟩ := jT_inv o (fun j hj => mkP_gd (w := w) (h := h) (g := g) u j hj) h0 _ (Nat.le_refl _)
  have hn1 : 1 ≤ w * h := by
    obtain ⟨a, b, c, d, e⟩ := okS_b o
    exact Nat.mul_pos (show 0 < w by omega) (show 0 < h by omega)
  have hp : ∀ c s d, c < w * h → (s = 1 ∨ s = 2) → nbr w h g c s = some d → Rc (JA (W0 w h g) (mkJ w h g u T)) c d := by
    intro c s d hcn hs e
    have ez : (2 * c + (s - 1)) / 2 = c ∧ (2 * c + (s - 1)) % 2 + 1 = s := by omega
    obtain ⟨j, hj, ej⟩ := prs_all (w := w) (h := h) (g := g) (2 * (w * h)) (2 * c + (s - 1)) (by omega) (by rw [ez.1, ez.2, e]; rfl)
    rw [ez.1, ez.2] at ej
    obtain ⟨j2, hj2, ej2⟩ := mxs_all (x := 4 * c + s) ((prs w h g (2 * (w * h))).1 - 1) u (prs w h g (2 * (w * h))).2 (by omega) ⟨j, hj, ej⟩
    have ej2 : (mkP w h g u).2 j2 = 4 * c + s := ej2
    have q1 : (4 * c + s) / 4 = c := by omega
    have q2 : (4 * c + s) % 4 = s := by omega
    have k := hc j2 d hj2 (by rw [ej2, q1, q2]; exact e)
    rw [ej2, q1] at k
    exact k
  have hall : ∀ c s d, c < w * h → s < 4 → nbr w h g c s = some d → Rc (JA (W0 w h g) (mkJ w h g u T)) c d := by
    intro c s d hcn hs e
    by_cases h12 : s = 1 ∨ s = 2
    · exact hp c s d hcn h12 e
    · obtain ⟨k1, k2, k3⟩ := nb_lt o hcn hs e
      exact (hp d ((s + 2) % 4) c k1 (by omega) k3).sym (fun x y hxy => hxy.sym hW)
  have hcon : conA (W0 w h g) (mkJ w h g u T) (w * h) := by
    intro c
    induction c using Nat.strongRecOn with
    | _ c ih =>
      intro hcn
      by_cases hc0 : c = 0
      · subst hc0; exact Rc.rf
      · obtain ⟨s, d, hs, e, hd⟩ := lw_nb o (show 0 < c by omega) hcn
        exact (ih d hd (by omega)).trans ((hall c s d hcn hs e).sym (fun x y hxy => hxy.sym hW))
  refine ⟨t1, ?_, hcon⟩
  have hone : nP (Rt (JA (W0 w h g) (mkJ w h g u T))) (w * h) = 1 := nP_one (fun y _ => Nat.zero_le y) hn1 (fun i hi hin hr => by
    have := hr 0 ((hcon i hin).sym (fun x y hxy => hxy.sym hW))
    omega)
  have t2 : opn (mkJ w h g u T) (w * h) + 2 * nP (Rt (JA (W0 w h g) (mkJ w h g u T))) (w * h) = 2 * (w * h) := t2
  rw [hone] at t2
  omega
theorem tT_lat {u j : Nat} : ∀ i, i ≤ j → (tT u T i).2 j = T j
  | 0, _ => rfl
  | i + 1, h => by
    show up (tT u T i).2 i _ j = _
    rw [up_n (by omega), tT_lat i (by omega)]
theorem tT_at {u n c : Nat} (hc : c < n) : ∃ r, r < 4 ∧ (tT u T n).2 c = rot (T c) r := by
  obtain ⟨k, rfl⟩ : ∃ k, n = c + 1 + k := ⟨n - (c + 1), by omega⟩
  refine ⟨lcg (tT u T c).1 % 4, Nat.mod_lt _ (by decide), ?_⟩
  rw [tT_fin k]
  show up (tT u T c).2 c (rot ((tT u T c).2 c) (lcg (tT u T c).1 % 4)) c = _
  rw [up_s, tT_lat c (Nat.le_refl c)]
theorem rot_back {t r : Nat} (ht : t < 16) (hr : r < 4) : ∃ k, (ownM (rot t r) false).testBit k = true ∧ rot (rot t r) k = t := by
  have key : ∀ t, t < 16 → ∀ r, r < 4 → (List.range 4).any (fun k => (ownM (rot t r) false).testBit k && decide (rot (rot t r) k = t)) = true := by decide +kernel
  obtain ⟨k, -, hk⟩ := List.any_eq_true.mp (key t ht r hr)
  rw [Bool.and_eq_true] at hk
  exact ⟨k, hk.1, of_decide_eq_true hk.2⟩
theorem mk_sol (o : okS w h g = true) (u : Nat) (hT : ∀ j, T j < 16) (h0 : ∀ j, j < w * h → T j = 0) (hM : ∀ j, mkT w h g u T j < 16) : opn (mkT w h g u T) (w * h) = 2 * (w * h - 1) ∧ ∃ a, Sol (W0 w h g) (mkT w h g u T) (ownA (mkT w h g u T) 0 (w * h)) (w * h) a := by
  have hW := mk_WOK o (wsy0 (w := w) (h := h) (g := g))
  have hn1 : 1 ≤ w * h := by
    obtain ⟨a, b, c, d, e⟩ := okS_b o
    exact Nat.mul_pos (show 0 < w by omega) (show 0 < h by omega)
  obtain ⟨t1, t2, t3⟩ := mkJ_tree o u h0
  have hJ : ∀ j, mkJ w h g u T j < 16 := jT_lt hT _
  have hr : ∀ c, c < w * h → ∃ r, r < 4 ∧ mkT w h g u T c = rot (mkJ w h g u T c) r := fun c hc => tT_at hc
  have hop : opn (mkT w h g u T) (w * h) = opn (mkJ w h g u T) (w * h) := sm_congr (fun c hc => by
    obtain ⟨r, hr4, e⟩ := hr c hc
    show pop (mkT w h g u T c) 16 = pop (mkJ w h g u T c) 16
    rw [e]; exact pop_rot (hJ c) hr4)
  refine ⟨hop.trans t2, ?_⟩
  have hk : ∀ c, ∃ k, c < w * h → (ownM (mkT w h g u T c) false).testBit k = true ∧ rot (mkT w h g u T c) k = mkJ w h g u T c := by
    intro c
    by_cases hc : c < w * h
    · obtain ⟨r, hr4, e⟩ := hr c hc
      obtain ⟨k, k1, k2⟩ := rot_back (hJ c) hr4
      exact ⟨k, fun _ => by rw [e]; exact ⟨k1, k2⟩⟩
    · exact ⟨0, fun x => absurd x hc⟩
  have ha : ∀ c, c < w * h → tls (mkT w h g u T) (fun c => Classical.choose (hk c)) c = mkJ w h g u T c := fun c hc => (Classical.choose_spec (hk c) hc).2
  refine ⟨fun c => Classical.choose (hk c), (Sol_ref hW hn1 hM (fun j => ownA_lt _ _ _ j)).mp ⟨fun c hc => ⟨?_, ?_⟩, hop.trans t2, fun c hc => ?_⟩⟩
  · show ((if c < w * h then ownM (mkT w h g u T c) ((0 : Nat).testBit c) else 0)).testBit _ = true
    rw [if_pos hc, Nat.zero_testBit]
    exact (Classical.choose_spec (hk c) hc).1
  · exact fitU_loc (fun i hi => (ha i (by omega)).symm) ((noLo_iff hW).mp t1 c hc)
  · refine (t3 c hc).mono (fun x y hxy => ?_)
    obtain ⟨hx, hy, -⟩ := hxy.lt hW
    obtain ⟨s, hs, e, h1, h2⟩ := JA_i.mp hxy
    exact JA_i.mpr ⟨s, hs, e, by rw [ha x hx]; exact h1, by rw [ha y hy]; exact h2⟩
end TR
