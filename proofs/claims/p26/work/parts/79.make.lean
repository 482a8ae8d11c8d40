/-! make, on both sides -/
/-- the ways of a board with walls -/
def Wyf (w h : Nat) (g : Bool) (Wm : Nat → Nat) (c s : Nat) : Option Nat := if c < w * h then (if (Wm c).testBit s = true then none else nbr w h g c s) else none
def wsy (w h : Nat) (g : Bool) (Wm : Nat → Nat) : Prop := ∀ c s d, c < w * h → s < 4 → nbr w h g c s = some d → (Wm c).testBit s = (Wm d).testBit ((s + 2) % 4)
theorem Wyf_n {w h : Nat} {g : Bool} {Wm : Nat → Nat} {c s d : Nat} (e : Wyf w h g Wm c s = some d) : c < w * h ∧ (Wm c).testBit s = false ∧ nbr w h g c s = some d := by
  unfold Wyf at e
  by_cases hc : c < w * h
  · rw [if_pos hc] at e
    cases x : (Wm c).testBit s with
    | true => rw [if_pos x] at e; cases e
    | false => rw [if_neg (by rw [x]; decide)] at e; exact ⟨hc, rfl, e⟩
  · rw [if_neg hc] at e; cases e
theorem mk_WOK {w h : Nat} {g : Bool} {Wm : Nat → Nat} (o : okS w h g = true) (hs : wsy w h g Wm) : WOK (w * h) (Wyf w h g Wm) := by
  refine ⟨(okS_b o).2.2.2.2, fun c s d h4 e => ?_, fun c s s' d h4 h4' e e' => nb_one o (Wyf_n e).1 h4 h4' (Wyf_n e).2.2 (Wyf_n e').2.2⟩
  obtain ⟨h1, h2, h3⟩ := Wyf_n e
  obtain ⟨k1, k2, k3⟩ := nb_lt o h1 h4 h3
  refine ⟨h1, k1, k2, ?_⟩
  unfold Wyf
  rw [if_pos k1, if_neg (by rw [← hs c s d h1 h4 h3, h2]; decide)]
  exact k3
def lcg (u : Nat) : Nat := (24693 * u + 3517) % 65536
theorem lcg_lt (u : Nat) : lcg u < 65536 := Nat.mod_lt _ (by decide)
theorem q_lcg {u : Nat} (hu : u < 65536) : (24693 * nI u + 3517) - (24693 * nI u + 3517) / 65536 * 65536 = nI (lcg u) := by
  rw [show (24693 : Int32) = nI 24693 from rfl, show (3517 : Int32) = nI 3517 from rfl, show (65536 : Int32) = nI 65536 from rfl, pk_mul, nI_add, pk_rem (by omega) (by decide) (by decide)]
  rfl
def prs (w h : Nat) (g : Bool) : Nat → Nat × (Nat → Nat)
  | 0 => (0, fun _ => 0)
  | i + 1 => if (nbr w h g (i / 2) (i % 2 + 1)).isSome = true then ((prs w h g i).1 + 1, up (prs w h g i).2 (prs w h g i).1 (4 * (i / 2) + (i % 2 + 1))) else prs w h g i
theorem prs_s (w h : Nat) (g : Bool) (i : Nat) : prs w h g (i + 1) = if (nbr w h g (i / 2) (i % 2 + 1)).isSome = true then ((prs w h g i).1 + 1, up (prs w h g i).2 (prs w h g i).1 (4 * (i / 2) + (i % 2 + 1))) else prs w h g i := rfl
def gd (w h : Nat) (g : Bool) (x : Nat) : Prop := x / 4 < w * h ∧ (x % 4 = 1 ∨ x % 4 = 2) ∧ (nbr w h g (x / 4) (x % 4)).isSome = true
theorem prs_le (w h : Nat) (g : Bool) : ∀ i, (prs w h g i).1 ≤ i
  | 0 => Nat.le_refl 0
  | i + 1 => by
    have := prs_le w h g i
    unfold prs
    split
    · show _ + 1 ≤ i + 1; omega
    · omega
theorem prs_gd (w h : Nat) (g : Bool) : ∀ i, i ≤ 2 * (w * h) → ∀ j, j < (prs w h g i).1 → gd w h g ((prs w h g i).2 j)
  | 0, _, j, hj => absurd hj (Nat.not_lt_zero j)
  | i + 1, hi, j, hj => by
    have ih := prs_gd w h g i (by omega)
    unfold prs at hj ⊢
    by_cases e : (nbr w h g (i / 2) (i % 2 + 1)).isSome = true
    · rw [if_pos e] at hj ⊢
      show gd w h g (up _ _ _ j)
      by_cases ej : j = (prs w h g i).1
      · subst ej
        rw [up_s]
        have e1 : (4 * (i / 2) + (i % 2 + 1)) / 4 = i / 2 := by omega
        have e2 : (4 * (i / 2) + (i % 2 + 1)) % 4 = i % 2 + 1 := by omega
        unfold gd
        rw [e1, e2]
        exact ⟨by omega, by omega, e⟩
      · rw [up_n ej]
        have hj : j < (prs w h g i).1 + 1 := hj
        exact ih j (by omega)
    · rw [if_neg e] at hj ⊢
      exact ih j hj
def swp (f : Nat → Nat) (a b : Nat) : Nat → Nat := up (up f a (f b)) b (f a)
theorem swp_at (f : Nat → Nat) (a b j : Nat) : swp f a b j = if j = b then f a else if j = a then f b else f j := rfl
def mxs : Nat → Nat → (Nat → Nat) → Nat × (Nat → Nat)
  | 0, u, f => (u, f)
  | k + 1, u, f => mxs k (lcg u) (swp f (k + 1) (lcg u % (k + 2)))
noncomputable def jT (w h : Nat) (g : Bool) (f : Nat → Nat) (T : Nat → Nat) : Nat → (Nat → Nat)
  | 0 => T
  | i + 1 => cif (Rc (JA (Wyf w h g (fun _ => 0)) (jT w h g f T i)) (f i / 4) ((nbr w h g (f i / 4) (f i % 4)).getD 0)) (jT w h g f T i) (up (up (jT w h g f T i) (f i / 4) (jT w h g f T i (f i / 4) ||| 2 ^ (f i % 4))) ((nbr w h g (f i / 4) (f i % 4)).getD 0) (up (jT w h g f T i) (f i / 4) (jT w h g f T i (f i / 4) ||| 2 ^ (f i % 4)) ((nbr w h g (f i / 4) (f i % 4)).getD 0) ||| 2 ^ ((f i % 4 + 2) % 4)))
def tT (u : Nat) (T : Nat → Nat) : Nat → Nat × (Nat → Nat)
  | 0 => (u, T)
  | i + 1 => (lcg (tT u T i).1, up (tT u T i).2 i (rot ((tT u T i).2 i) (lcg (tT u T i).1 % 4)))
def ends (T : Nat → Nat) (n : Nat) : Nat := sm (fun c => if pop (T c) 16 = 1 then 1 else 0) n
theorem up_lt {T : Nat → Nat} {k v : Nat} (hT : ∀ j, T j < 16) (hv : v < 16) (j : Nat) : up T k v j < 16 := by
  unfold up
  split
  · exact hv
  · exact hT j
theorem jT_lt {w h : Nat} {g : Bool} {f T : Nat → Nat} (hT : ∀ j, T j < 16) : ∀ i j, jT w h g f T i j < 16
  | 0, j => hT j
  | i + 1, j => by
    have ih := jT_lt (w := w) (h := h) (g := g) (f := f) hT i
    have h4 : f i % 4 < 4 := Nat.mod_lt _ (by decide)
    show cif _ (jT w h g f T i) _ j < 16
    by_cases hr : Rc (JA (Wyf w h g (fun _ => 0)) (jT w h g f T i)) (f i / 4) ((nbr w h g (f i / 4) (f i % 4)).getD 0)
    · rw [cif_t hr]; exact ih j
    · rw [cif_f hr]
      have u1 := up_lt (k := f i / 4) ih (or16 (ih (f i / 4)) (p16 h4))
      exact up_lt u1 (or16 (u1 _) (p16 (s2_lt _))) j
theorem tT_lt {u : Nat} {T : Nat → Nat} (hu : u < 65536) (hT : ∀ j, T j < 16) : ∀ i, (tT u T i).1 < 65536 ∧ ∀ j, (tT u T i).2 j < 16
  | 0 => ⟨hu, hT⟩
  | i + 1 => ⟨lcg_lt _, up_lt (tT_lt hu hT i).2 (rot_lt _ _)⟩
theorem tT_fin {u : Nat} {T : Nat → Nat} {j : Nat} : ∀ k, (tT u T (j + 1 + k)).2 j = (tT u T (j + 1)).2 j
  | 0 => rfl
  | k + 1 => by
    show up (tT u T (j + 1 + k)).2 (j + 1 + k) _ j = _
    rw [up_n (by omega), tT_fin k]
theorem mxs_lt : ∀ k u f, u < 65536 → (mxs k u f).1 < 65536
  | 0, _, _, h => h
  | k + 1, u, f, _ => mxs_lt k (lcg u) _ (lcg_lt u)
section MK
variable {F w h : Nat} {g : Bool}
/-- the two rows of the pairs, and the one -/
def R2 (C S : Nat → Int32) (m : Nat) (f : Nat → Nat) : Prop := ∀ j, j < m → C j = nI (f j / 4) ∧ S j = nI (f j % 4)
def R1 (Q : Nat → Int32) (m : Nat) (f : Nat → Nat) : Prop := ∀ j, j < m → Q j = nI (f j)
theorem a_listPairs {N0 : Nat → Option Nat} {kp : Int32} {kC kS : Nat → Int32} (o : okS w h g = true) (hN : ∀ c s, c < w * h → s < 4 → N0 (c * 4 + s) = nbr w h g c s) (hF : 1000 ≤ F) : Ex (kX3_listPairs F (nI (w * h)) (fE N0) kp kC kS) (fun r => r.1 = nI (prs w h g (2 * (w * h))).1 ∧ R2 r.2.1 r.2.2 (prs w h g (2 * (w * h))).1 (prs w h g (2 * (w * h))).2) := by
  have hn := (okS_b o).2.2.2.2
  unfold kX3_listPairs
  refine Ex.b (P := fun r => r.1 = nI (prs w h g (2 * (w * h))).1 ∧ R2 r.2.1 r.2.2 (prs w h g (2 * (w * h))).1 (prs w h g (2 * (w * h))).2) (Ex.fr (w * h) (fun c s => s.1 = nI c ∧ s.2.1 = nI (prs w h g (2 * c)).1 ∧ R2 s.2.2.1 s.2.2.2 (prs w h g (2 * c)).1 (prs w h g (2 * c)).2) ⟨rfl, rfl, fun j hj => absurd hj (Nat.not_lt_zero j)⟩ ?_ ?_ (by omega)) ?_
  · rintro c ⟨s0, s1, C1, S1⟩ hc ⟨e0, e1, hR⟩
    have e0 : s0 = nI c := e0
    have e1 : s1 = nI (prs w h g (2 * c)).1 := e1
    subst e0 e1
    have hR : R2 C1 S1 (prs w h g (2 * c)).1 (prs w h g (2 * c)).2 := hR
    show Ex (kX3_listPairs_s7 F (nI (w * h)) (fE N0) (nI c) (nI (prs w h g (2 * c)).1) C1 S1) _
    unfold kX3_listPairs_s7
    refine Ex.o (show kX0_count F (nI (w * h)) = some (nI (w * h)) from rfl) (Ex.f (nI_ge hc (by omega)) (Ex.b (P := fun r => r.1 = nI (prs w h g (2 * c + 2)).1 ∧ R2 r.2.1 r.2.2 (prs w h g (2 * c + 2)).1 (prs w h g (2 * c + 2)).2) (Ex.fr 2 (fun k s => s.1 = nI (k + 1) ∧ s.2.1 = nI (prs w h g (2 * c + k)).1 ∧ R2 s.2.2.1 s.2.2.2 (prs w h g (2 * c + k)).1 (prs w h g (2 * c + k)).2) ⟨rfl, rfl, hR⟩ ?_ ?_ (by omega)) ?_))
    · rintro k ⟨t0, t1, C2, S2⟩ hk ⟨e0, e1, hR2⟩
      have e0 : t0 = nI (k + 1) := e0
      have e1 : t1 = nI (prs w h g (2 * c + k)).1 := e1
      subst e0 e1
      have hR2 : R2 C2 S2 (prs w h g (2 * c + k)).1 (prs w h g (2 * c + k)).2 := hR2
      have hle := prs_le w h g (2 * c + k)
      have d1 : (2 * c + k) / 2 = c := by omega
      have d2 : (2 * c + k) % 2 = k := by omega
      have hs : prs w h g (2 * c + (k + 1)) = if (nbr w h g c (k + 1)).isSome = true then ((prs w h g (2 * c + k)).1 + 1, up (prs w h g (2 * c + k)).2 (prs w h g (2 * c + k)).1 (4 * c + (k + 1))) else prs w h g (2 * c + k) := by
        rw [show 2 * c + (k + 1) = (2 * c + k) + 1 from rfl, prs_s, d1, d2]
      show Ex (kX3_listPairs_s20 F (fE N0) (nI c) (nI (k + 1)) (nI (prs w h g (2 * c + k)).1) C2 S2) _
      unfold kX3_listPairs_s20
      refine Ex.f (show ¬ (2 : Int32) < nI (k + 1) from nI_nlt (show k + 1 ≤ 2 by omega) (by decide)) (Ex.o (a_beside (by omega) (by omega)) ?_)
      rw [hN c (k + 1) hc (by omega)]
      rw [hs]
      generalize prs w h g (2 * c + k) = q at *
      cases e : nbr w h g c (k + 1) with
      | none =>
        rw [if_neg (show ¬ (none : Option Nat).isSome = true by decide)]
        exact Ex.t rfl (Ex.v ⟨nI_1 (k + 1), rfl, hR2⟩)
      | some d =>
        have hd := (nb_lt o hc (show k + 1 < 4 by omega) e).1
        rw [if_pos (show (some d).isSome = true from rfl)]
        refine Ex.f (n_m1 (show d < 2 ^ 31 by omega)) (Ex.f (nI_pos (by omega)) (Ex.f (show ¬ (32 : Int32) ≤ nI q.1 from nI_ge (show q.1 < 32 by omega) (by decide)) (Ex.t (ix_n (show q.1 < 32 by omega) (by decide)) (Ex.t (ix_n (show q.1 < 32 by omega) (by decide)) (Ex.v ⟨nI_1 (k + 1), nI_1 q.1, fun j hj => ?_⟩)))))
        show upd C2 (nI q.1).toNatClampNeg (nI c) j = nI (up q.2 q.1 (4 * c + (k + 1)) j / 4) ∧ upd S2 (nI q.1).toNatClampNeg (nI (k + 1)) j = nI (up q.2 q.1 (4 * c + (k + 1)) j % 4)
        rw [cl_n (show q.1 < 2 ^ 31 by omega)]
        by_cases ej : j = q.1
        · subst ej
          rw [pk_us, pk_us, up_s]
          exact ⟨by congr 1; omega, by congr 1; omega⟩
        · rw [pk_un ej, pk_un ej, up_n ej]
          have hj : j < q.1 + 1 := hj
          exact hR2 j (by omega)
    · rintro ⟨t0, t1, C2, S2⟩ ⟨e0, e1, hR2⟩
      have e0 : t0 = nI (2 + 1) := e0
      subst e0
      show Ex (kX3_listPairs_s20 F (fE N0) (nI c) (nI (2 + 1)) t1 C2 S2) _
      unfold kX3_listPairs_s20
      exact Ex.t (by decide) (Ex.v ⟨e1, hR2⟩)
    · rintro ⟨t1, C2, S2⟩ ⟨e1, hR2⟩
      exact Ex.v ⟨nI_1 c, e1, hR2⟩
  · rintro ⟨s0, s1, C1, S1⟩ ⟨e0, e1, hR⟩
    have e0 : s0 = nI (w * h) := e0
    subst e0
    show Ex (kX3_listPairs_s7 F (nI (w * h)) (fE N0) (nI (w * h)) s1 C1 S1) _
    unfold kX3_listPairs_s7
    exact Ex.o (show kX0_count F (nI (w * h)) = some (nI (w * h)) from rfl) (Ex.t (nI_le (Nat.le_refl _) (by omega)) (Ex.v ⟨e1, hR⟩))
  · rintro ⟨t1, C2, S2⟩ ⟨e1, hR2⟩
    exact Ex.v ⟨e1, hR2⟩
theorem a_exch {p : Nat → Int32} {a b : Nat} (ha : a < 32) (hb : b < 32) : kX3_exchange F 32 p (nI a) (nI b) = some (upd (upd p a (p b)) b (p a)) := by
  unfold kX3_exchange
  rw [cl_n (show a < 2 ^ 31 by omega), cl_n (show b < 2 ^ 31 by omega), if_neg (nI_pos (by omega)), if_neg (show ¬ (Int32.ofNat 32) ≤ nI a from nI_ge ha (by decide)), if_neg (nI_pos (by omega)), if_neg (show ¬ (Int32.ofNat 32) ≤ nI b from nI_ge hb (by decide)), if_pos (ix_n ha (by decide)), if_pos (ix_n hb (by decide)), if_pos (ix_n ha (by decide)), if_pos (ix_n hb (by decide))]
theorem swp_row {p : Nat → Int32} {f : Nat → Nat} {k : Nat → Nat} {m a b : Nat} (h : ∀ j, j < m → p j = nI (k (f j))) (ha : a < m) (hb : b < m) : ∀ j, j < m → upd (upd p a (p b)) b (p a) j = nI (k (swp f a b j)) := by
  intro j hj
  rw [swp_at]
  by_cases e : j = b
  · subst e; rw [pk_us, if_pos rfl, h a ha]
  · rw [pk_un e, if_neg e]
    by_cases e2 : j = a
    · subst e2; rw [pk_us, if_pos rfl, h b hb]
    · rw [pk_un e2, if_neg e2, h j hj]
theorem swp_gd {f : Nat → Nat} {G : Nat → Prop} {m a b : Nat} (h : ∀ j, j < m → G (f j)) (ha : a < m) (hb : b < m) : ∀ j, j < m → G (swp f a b j) := by
  intro j hj
  rw [swp_at]
  split
  · exact h a ha
  · split
    · exact h b hb
    · exact h j hj
theorem mxs_gd {G : Nat → Prop} {m : Nat} : ∀ k u f, k < m → (∀ j, j < m → G (f j)) → ∀ j, j < m → G ((mxs k u f).2 j)
  | 0, _, _, _, h => h
  | k + 1, u, f, hk, h => mxs_gd k (lcg u) _ (by omega) (swp_gd h hk (show lcg u % (k + 2) < m by have := Nat.mod_lt (lcg u) (show 0 < k + 2 by omega); omega))
theorem q_mod {u k : Nat} (hk : k < 2 ^ 20) : nI (lcg u) - nI (lcg u) / (nI k + 1) * (nI k + 1) = nI (lcg u % (k + 1)) := by
  have := lcg_lt u
  have e : (2 : Nat) ^ 20 = 1048576 := rfl
  rw [nI_1, pk_rem (by omega) (by omega) (by omega)]
theorem a_mixPairs {m u : Nat} {f : Nat → Nat} {C S : Nat → Int32} (hm : m ≤ 32) (hu : u < 65536) (hR : R2 C S m f) (hF : 1000 ≤ F) : Ex (kX3_mixPairs F (nI m) (nI u) C S) (fun r => r.1 = nI (mxs (m - 1) u f).1 ∧ R2 r.2.1 r.2.2 m (mxs (m - 1) u f).2) := by
  unfold kX3_mixPairs
  refine Ex.b (P := fun r => r.1 = nI (mxs (m - 1) u f).1 ∧ R2 r.2.1 r.2.2 m (mxs (m - 1) u f).2) ?_ (fun a h => by obtain ⟨r1, r2, r3⟩ := a; exact Ex.v h)
  by_cases h0 : m = 0
  · subst h0
    refine kl_le (K := 1) (by omega) (kl_step ?_)
    show Ex (kX3_mixPairs_s7 F (nI 0 - 1) (nI u) C S) _
    unfold kX3_mixPairs_s7
    exact Ex.t (by decide) (Ex.v ⟨rfl, fun j hj => absurd hj (Nat.not_lt_zero j)⟩)
  · rw [i1, pk_sub (show 1 ≤ m by omega)]
    refine Ex.fr (m - 1) (fun i s => ∃ u' f', s.1 = nI (m - 1 - i) ∧ s.2.1 = nI u' ∧ u' < 65536 ∧ R2 s.2.2.1 s.2.2.2 m f' ∧ mxs (m - 1 - i) u' f' = mxs (m - 1) u f) ⟨u, f, rfl, rfl, hu, hR, rfl⟩ ?_ ?_ (by omega)
    · rintro i ⟨s0, s1, C1, S1⟩ hi ⟨u', f', e0, e1, hu', hR1, hx⟩
      have e0 : s0 = nI (m - 1 - i) := e0
      have e1 : s1 = nI u' := e1
      subst e0 e1
      have hR1 : R2 C1 S1 m f' := hR1
      obtain ⟨k, hk⟩ : ∃ k, m - 1 - i = k + 1 := ⟨m - 1 - i - 1, by omega⟩
      rw [hk] at hx
      show Ex (kX3_mixPairs_s7 F (nI (m - 1 - i)) (nI u') C1 S1) _
      unfold kX3_mixPairs_s7
      rw [hk]
      refine Ex.f (nI_nle (by omega) (by omega)) (Ex.o (show kX3_draw F (nI u') = some (nI (lcg u'), nI (lcg u')) by unfold kX3_draw; rw [q_lcg hu']) ?_)
      have hb : lcg u' % (k + 1 + 1) < m := by have := Nat.mod_lt (lcg u') (show 0 < k + 1 + 1 by omega); omega
      refine Ex.t (show nz (nI (k + 1) + 1) = true by rw [nI_1]; exact decide_eq_true (nI_ne0 (by omega) (by omega))) ?_
      show Ex ((kX3_exchange F 32 C1 (nI (k + 1)) (nI (lcg u') - nI (lcg u') / (nI (k + 1) + 1) * (nI (k + 1) + 1))).bind _) _
      rw [q_mod (show k + 1 < 2 ^ 20 by omega)]
      refine Ex.o (a_exch (by omega) (by omega)) (Ex.o (a_exch (by omega) (by omega)) (Ex.v ⟨lcg u', swp f' (k + 1) (lcg u' % (k + 1 + 1)), ?_, rfl, lcg_lt _, fun j hj => ⟨?_, ?_⟩, ?_⟩))
      · show nI (k + 1) + (-1) = _
        rw [pk_m1]
        congr 1
        omega
      · exact swp_row (k := fun x => x / 4) (fun j hj => (hR1 j hj).1) (by omega) hb j hj
      · exact swp_row (k := fun x => x % 4) (fun j hj => (hR1 j hj).2) (by omega) hb j hj
      · rw [show m - 1 - (i + 1) = k by omega]
        exact hx
    · rintro ⟨s0, s1, C1, S1⟩ ⟨u', f', e0, e1, hu', hR1, hx⟩
      have e0 : s0 = nI (m - 1 - (m - 1)) := e0
      rw [Nat.sub_self] at e0 hx
      subst e0
      have hx : (u', f') = mxs (m - 1) u f := hx
      show Ex (kX3_mixPairs_s7 F (nI 0) s1 C1 S1) _
      unfold kX3_mixPairs_s7
      refine Ex.t (by decide) (Ex.v ?_)
      rw [← hx]
      exact ⟨e1, hR1⟩
theorem a_lay {c x : Nat} {T : Nat → Nat} (hn : w * h ≤ 16) (hc : c < w * h) : kX0_lay F (nI (w * h)) (fN T) (nI c) (nI x) = some (fN (up T c x)) := by
  unfold kX0_lay
  refine ob_i (a_has hn (by omega)) ?_
  rw [decide_eq_true hc, if_neg bI_n, if_pos (ix_n (by omega) (by decide)), cl_n (by omega), upd_fN]
theorem jT_s {f T : Nat → Nat} {i d : Nat} (e : nbr w h g (f i / 4) (f i % 4) = some d) : jT w h g f T (i + 1) = cif (Rc (JA (Wyf w h g (fun _ => 0)) (jT w h g f T i)) (f i / 4) d) (jT w h g f T i) (up (up (jT w h g f T i) (f i / 4) (jT w h g f T i (f i / 4) ||| 2 ^ (f i % 4))) d (up (jT w h g f T i) (f i / 4) (jT w h g f T i (f i / 4) ||| 2 ^ (f i % 4)) d ||| 2 ^ ((f i % 4 + 2) % 4))) := by
  show cif (Rc _ _ ((nbr w h g (f i / 4) (f i % 4)).getD 0)) _ _ = _
  rw [e]
  rfl
theorem wsy0 : wsy w h g (fun _ => 0) := fun c s d _ _ _ => by rw [Nat.zero_testBit, Nat.zero_testBit]
theorem q_2s {s : Nat} (hs : s < 4) : (1 : Int32) <<< (nI s &&& 31) = nI (2 ^ s) := by
  rw [i1, q_shl (by omega) (by have := p16 hs; omega), Nat.one_mul]
theorem a_joinPair {x : Nat} {T : Nat → Nat} {N0 Y : Nat → Option Nat} {bL : Nat → Int32} (o : okS w h g = true) (hT : ∀ j, T j < 16) (hN : ∀ c s, c < w * h → s < 4 → N0 (c * 4 + s) = nbr w h g c s) (hY : ∀ c s, c < 16 → s < 4 → Y (c * 4 + s) = Wyf w h g (fun _ => 0) c s) (hx : gd w h g x) (hF : 1000 ≤ F) {T' : Nat → Nat} (hT' : ∀ d, nbr w h g (x / 4) (x % 4) = some d → T' = cif (Rc (JA (Wyf w h g (fun _ => 0)) T) (x / 4) d) T (up (up T (x / 4) (T (x / 4) ||| 2 ^ (x % 4))) d (up T (x / 4) (T (x / 4) ||| 2 ^ (x % 4)) d ||| 2 ^ ((x % 4 + 2) % 4)))) : Ex (kX3_joinPair F (nI (w * h)) (fN T) (fE N0) (fE Y) bL (nI (x / 4)) (nI (x % 4))) (fun r => r.1 = fN T') := by
  have hn := (okS_b o).2.2.2.2
  obtain ⟨h1, h2, h3⟩ := hx
  have h4 : x % 4 < 4 := Nat.mod_lt _ (by decide)
  have hc16 : x / 4 < 16 := by omega
  generalize x / 4 = c at *
  generalize x % 4 = s at *
  have hW := mk_WOK (Wm := fun _ => 0) o wsy0
  cases e : nbr w h g c s with
  | none => rw [e] at h3; cases h3
  | some d =>
    have hd := (nb_lt o h1 h4 e).1
    have hT' := hT' d e
    unfold kX3_joinPair
    refine Ex.o (a_beside hc16 h4) ?_
    rw [hN c s h1 h4, e]
    refine Ex.f (n_m1 (show d < 2 ^ 31 by omega)) (Ex.b (a_reachedFrom hW hT hY hc16 hF) ?_)
    rintro ⟨q0, q1⟩ ⟨M, eM, hM, hMb⟩
    have eM : q0 = nI M := eM
    subst eM
    refine Ex.o (show kX7_holds F (nI M) (nI d) = _ from a_holds (by omega) (by omega)) ?_
    cases em : M.testBit d with
    | true =>
      rw [cif_t ((hMb d).mp em)] at hT'
      exact Ex.f bI_n (Ex.v (by rw [hT']))
    | false =>
      have hnr : ¬ Rc (JA (Wyf w h g (fun _ => 0)) T) c d := fun hr => by rw [(hMb d).mpr hr] at em; cases em
      rw [cif_f hnr] at hT'
      refine Ex.t bI_f (Ex.o (a_sidesOf hc16) ?_)
      rw [q_2s h4, show fN T c = nI (T c) from rfl, q_or]
      refine Ex.o (a_lay hn h1) (Ex.o (a_sidesOf (show d < 16 by omega)) (Ex.o (a_opposite h4) ?_))
      rw [q_2s (s2_lt s), show fN (up T c (T c ||| 2 ^ s)) d = nI (up T c (T c ||| 2 ^ s) d) from rfl, q_or]
      exact Ex.o (a_lay hn hd) (Ex.v (by rw [hT']))
/-- the made tiles, out of a number -/
noncomputable def mkP (w h : Nat) (g : Bool) (u : Nat) : Nat × (Nat → Nat) := mxs ((prs w h g (2 * (w * h))).1 - 1) u (prs w h g (2 * (w * h))).2
noncomputable def mkT (w h : Nat) (g : Bool) (u : Nat) (T : Nat → Nat) : Nat → Nat := (tT (mkP w h g u).1 (jT w h g (mkP w h g u).2 T (prs w h g (2 * (w * h))).1) (w * h)).2
theorem mkP_gd (u : Nat) : ∀ j, j < (prs w h g (2 * (w * h))).1 → gd w h g ((mkP w h g u).2 j) := by
  intro j hj
  exact mxs_gd _ _ _ (by omega) (prs_gd w h g _ (Nat.le_refl _)) j hj
theorem a_fillBoard {u : Nat} {T : Nat → Nat} {N0 Y : Nat → Option Nat} {bL kC kS : Nat → Int32} {kp ku : Int32} (o : okS w h g = true) (hT : ∀ j, T j < 16) (hN : ∀ c s, c < w * h → s < 4 → N0 (c * 4 + s) = nbr w h g c s) (hY : ∀ c s, c < 16 → s < 4 → Y (c * 4 + s) = Wyf w h g (fun _ => 0) c s) (hu : u < 65536) (hF : 1000 ≤ F) : Ex (kX3_fillBoard F (nI (w * h)) (fN T) (fE N0) (fE Y) bL kp ku kC kS (nI u)) (fun r => r.1 = fN (mkT w h g u T)) := by
  have hn := (okS_b o).2.2.2.2
  have hm := prs_le w h g (2 * (w * h))
  have hg := mkP_gd (w := w) (h := h) (g := g) u
  unfold kX3_fillBoard
  refine Ex.b (a_listPairs o hN hF) ?_
  rintro ⟨p0, C1, S1⟩ ⟨e0, hR⟩
  have e0 : p0 = nI (prs w h g (2 * (w * h))).1 := e0
  subst e0
  have hR : R2 C1 S1 _ _ := hR
  refine Ex.b (a_mixPairs (by omega) hu hR hF) ?_
  have e3 : mxs ((prs w h g (2 * (w * h))).1 - 1) u (prs w h g (2 * (w * h))).2 = mkP w h g u := rfl
  rw [e3]
  rintro ⟨u1, C2, S2⟩ ⟨e1, hR2⟩
  have e1 : u1 = nI (mkP w h g u).1 := e1
  subst e1
  have hR2 : R2 C2 S2 (prs w h g (2 * (w * h))).1 (mkP w h g u).2 := hR2
  have hul : (mkP w h g u).1 < 65536 := mxs_lt _ _ _ hu
  have eT : mkT w h g u T = (tT (mkP w h g u).1 (jT w h g (mkP w h g u).2 T (prs w h g (2 * (w * h))).1) (w * h)).2 := rfl
  rw [eT]
  generalize (prs w h g (2 * (w * h))).1 = m at *
  generalize (mkP w h g u).1 = u1 at *
  generalize (mkP w h g u).2 = f at *
  refine Ex.b (P := fun r => r.1 = fN (jT w h g f T m)) (Ex.fr m (fun i s => s.1 = nI i ∧ s.2.1 = fN (jT w h g f T i)) ⟨rfl, rfl⟩ ?_ ?_ (by omega)) ?_
  · rintro i ⟨s0, T1, L1⟩ hi ⟨q0, q1⟩
    have q0 : s0 = nI i := q0
    have q1 : T1 = fN (jT w h g f T i) := q1
    subst q0 q1
    show Ex (kX3_fillBoard_s15 F (nI (w * h)) (fE N0) (fE Y) (nI m, C1, S1) (nI u1, C2, S2) (nI i) (fN (jT w h g f T i)) L1) _
    unfold kX3_fillBoard_s15
    refine Ex.f (show ¬ nI m ≤ nI i from nI_ge hi (by omega)) (Ex.o (a_at (n := 32) (by decide) (show i < 32 by omega)) (Ex.o (a_at (n := 32) (by decide) (show i < 32 by omega)) ?_))
    show Ex ((kX3_joinPair F (nI (w * h)) (fN (jT w h g f T i)) (fE N0) (fE Y) L1 (C2 i) (S2 i)).bind _) _
    rw [show C2 i = nI (f i / 4) from (hR2 i hi).1, show S2 i = nI (f i % 4) from (hR2 i hi).2]
    refine Ex.b (a_joinPair (T' := jT w h g f T (i + 1)) o (jT_lt hT i) hN hY (hg i hi) hF (fun d e => jT_s e)) ?_
    rintro ⟨t0, t1⟩ e
    exact Ex.v ⟨nI_1 i, e⟩
  · rintro ⟨s0, T1, L1⟩ ⟨q0, q1⟩
    have q0 : s0 = nI m := q0
    subst q0
    show Ex (kX3_fillBoard_s15 F (nI (w * h)) (fE N0) (fE Y) (nI m, C1, S1) (nI u1, C2, S2) (nI m) T1 L1) _
    unfold kX3_fillBoard_s15
    exact Ex.t (show nI m ≤ nI m from nI_le (Nat.le_refl _) (by omega)) (Ex.v q1)
  · rintro ⟨T1, L1⟩ q1
    have q1 : T1 = fN (jT w h g f T m) := q1
    subst q1
    have hjl := jT_lt (w := w) (h := h) (g := g) (f := f) hT m
    generalize jT w h g f T m = Tj at *
    refine Ex.b (P := fun r => r.1 = fN (tT u1 Tj (w * h)).2) (Ex.fr (w * h) (fun i s => s.1 = nI i ∧ s.2.1 = fN (tT u1 Tj i).2 ∧ s.2.2 = nI (tT u1 Tj i).1) ⟨rfl, rfl, rfl⟩ ?_ ?_ (by omega)) ?_
    · rintro i ⟨s0, T1, v1⟩ hi ⟨q0, q1, q2⟩
      have q0 : s0 = nI i := q0
      have q1 : T1 = fN (tT u1 Tj i).2 := q1
      have q2 : v1 = nI (tT u1 Tj i).1 := q2
      subst q0 q1 q2
      have ht := tT_lt hul hjl i
      show Ex (kX3_fillBoard_s51 F (nI (w * h)) (nI i) (fN (tT u1 Tj i).2) (nI (tT u1 Tj i).1)) _
      unfold kX3_fillBoard_s51
      have e4 : nI (lcg (tT u1 Tj i).1) - nI (lcg (tT u1 Tj i).1) / 4 * 4 = nI (lcg (tT u1 Tj i).1 % 4) := by
        have := lcg_lt (tT u1 Tj i).1
        rw [i4, pk_rem (by omega) (by decide) (by decide)]
      have h4 : lcg (tT u1 Tj i).1 % 4 < 4 := Nat.mod_lt _ (by decide)
      refine Ex.o (show kX0_count F (nI (w * h)) = some (nI (w * h)) from rfl) (Ex.f (nI_ge hi (by omega)) (Ex.o (show kX3_draw F (nI (tT u1 Tj i).1) = some (nI (lcg (tT u1 Tj i).1), nI (lcg (tT u1 Tj i).1)) by unfold kX3_draw; rw [q_lcg ht.1]) ?_))
      show Ex ((kX0_spin F (nI (w * h)) (fN (tT u1 Tj i).2) (nI i) (nI (lcg (tT u1 Tj i).1) - nI (lcg (tT u1 Tj i).1) / 4 * 4)).bind _) _
      rw [e4]
      unfold kX0_spin
      exact Ex.o (ob_i (a_sidesOf (by omega)) (ob_i (a_turned (ht.2 i) h4) (ob_i (a_lay hn hi) rfl))) (Ex.v ⟨nI_1 i, rfl, rfl⟩)
    · rintro ⟨s0, T1, v1⟩ ⟨q0, q1, q2⟩
      have q0 : s0 = nI (w * h) := q0
      subst q0
      show Ex (kX3_fillBoard_s51 F (nI (w * h)) (nI (w * h)) T1 v1) _
      unfold kX3_fillBoard_s51
      exact Ex.o (show kX0_count F (nI (w * h)) = some (nI (w * h)) from rfl) (Ex.t (nI_le (Nat.le_refl _) (by omega)) (Ex.v q1))
    · rintro ⟨T1, v1⟩ q1
      exact Ex.v q1
theorem a_countEnds {T : Nat → Nat} {n : Nat} (hT : ∀ j, T j < 16) (hn : n ≤ 16) (hF : 1000 ≤ F) : kX0_countEnds F (nI n) (fN T) = some (nI (ends T n)) := by
  unfold kX0_countEnds ends
  refine ob_i (kl_run' (fun i => (nI (sm (fun c => if pop (T c) 16 = 1 then 1 else 0) i), nI i)) n rfl ?_ ?_ (by omega)) rfl
  · intro i hi
    show kX0_countEnds_s4 F (nI n) (fN T) (nI (sm (fun c => if pop (T c) 16 = 1 then 1 else 0) i)) (nI i) = _
    unfold kX0_countEnds_s4
    rw [if_neg (nI_ge hi (by omega))]
    refine ob_i (a_sidesOf (by omega)) ?_
    refine ob_i (a_bc (show T i < 65536 by have := hT i; omega)) ?_
    have hp := pop_le (T i) 16
    show _ = some (Sum.inl (nI (sm (fun c => if pop (T c) 16 = 1 then 1 else 0) i + (if pop (T i) 16 = 1 then 1 else 0)), nI (i + 1)))
    by_cases e : pop (T i) 16 = 1
    · rw [if_pos (show nI (pop (T i) 16) = 1 by rw [e]; rfl), if_pos e, nI_1, nI_1]
    · rw [if_neg (show ¬ nI (pop (T i) 16) = 1 from fun x => e ((nI_eq (by omega) (by decide)).mp x)), if_neg e, nI_1]
      rfl
  · show kX0_countEnds_s4 F (nI n) (fN T) (nI (sm (fun c => if pop (T c) 16 = 1 then 1 else 0) n)) (nI n) = _
    unfold kX0_countEnds_s4
    rw [if_pos (nI_le (Nat.le_refl n) (by omega))]
-- the reference
end MK
