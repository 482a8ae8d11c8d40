/-! the sweep counts the solutions: paths and borders -/
theorem srP_map {σ τ : Type} {pr : Nat → (Nat → Nat) → Prop} {q : (Nat → Nat) → Prop} {nt : (Nat → Nat) → σ → σ} {nt' : (Nat → Nat) → τ → τ} {n : Nat} (g : σ → τ) (h : ∀ a s, g (nt a s) = nt' a (g s)) : ∀ (m : Nat) (a : Nat → Nat) (s : σ), g (srP pr q nt n m a s) = srP pr q nt' n m a (g s)
  | 0, a, s => by
    show g (cif (q a) (nt a s) s) = cif (q a) (nt' a (g s)) (g s)
    by_cases hq : q a
    · rw [cif_t hq, cif_t hq, h]
    · rw [cif_f hq, cif_f hq]
  | m + 1, a, s => by
    have key : ∀ k, g (iter (fun k s => cif (pr (n - (m + 1)) (up a (n - (m + 1)) k)) (srP pr q nt n m (up a (n - (m + 1)) k) s) s) k s) = iter (fun k s => cif (pr (n - (m + 1)) (up a (n - (m + 1)) k)) (srP pr q nt' n m (up a (n - (m + 1)) k) s) s) k (g s) := by
      intro k
      induction k with
      | zero => rfl
      | succ k ih =>
        show g (cif _ (srP pr q nt n m (up a (n - (m + 1)) k) (iter _ k s)) (iter _ k s)) = cif _ (srP pr q nt' n m (up a (n - (m + 1)) k) (iter _ k (g s))) (iter _ k (g s))
        rw [← ih]
        by_cases hp : pr (n - (m + 1)) (up a (n - (m + 1)) k)
        · rw [cif_t hp, cif_t hp, srP_map g h m]
        · rw [cif_f hp, cif_f hp]
    exact key 4
theorem iter_add {f : Nat → Int32 → Int32} (h : ∀ k s, f k s = s + f k 0) : ∀ (k : Nat) (s : Int32), iter f k s = s + iter f k 0
  | 0, s => (Int32.add_zero s).symm
  | k + 1, s => by
    show f k (iter f k s) = s + f k (iter f k 0)
    rw [h k (iter f k s), h k (iter f k 0), iter_add h k s, Int32.add_assoc]
section PT
variable {n : Nat} {Wy : Nat → Nat → Option Nat} {P : Nat → Nat → Nat} {T O U V a b : Nat → Nat}
abbrev prS (Wy : Nat → Nat → Option Nat) (T O : Nat → Nat) (n c : Nat) (a : Nat → Nat) : Prop := (O c).testBit (a c) = true ∧ StS Wy (tls T a) n c
theorem OpN_loc {c : Nat} (h : ∀ i, i ≤ c → U i = V i) (ho : OpN Wy U c) : OpN Wy V c := by
  obtain ⟨x, s, y, h1, h2, h3, h4, h5, h6⟩ := ho
  exact ⟨x, s, y, h1, h2.mono (fun x y hp => PJ_loc (fun i hi => h i (by omega)) hp), h3, h4, h5, by rw [← h x h1]; exact h6⟩
theorem StS_loc {c : Nat} (h : ∀ i, i ≤ c → U i = V i) (hs : StS Wy U n c) : StS Wy V n c := ⟨fitU_loc h hs.1, NoC_loc h hs.2.1, hs.2.2.imp id (OpN_loc h)⟩
theorem prS_loc (c : Nat) (a b : Nat → Nat) (h : ∀ i, i ≤ c → a i = b i) (hp : prS Wy T O n c a) : prS Wy T O n c b := ⟨by rw [← h c (Nat.le_refl c)]; exact hp.1, StS_loc (tls_loc h) hp.2⟩
/-- all cells pass exactly in a solution -/
theorem Sol_sw (hW : WOK n Wy) (hn : 1 ≤ n) : ((∀ c, c < n → prS Wy T O n c a) ∧ True) ↔ Sol Wy T O n a := by
  constructor
  · rintro ⟨h, -⟩
    have hL := (noLo_iff hW).mpr (fun c hc => (h c hc).2.1)
    have up : ∀ m x, x + m = n - 1 → Rc (JA Wy (tls T a)) x (n - 1) := by
      intro m
      induction m using Nat.strongRecOn with
      | _ m ih =>
        intro x hx
        by_cases e : x = n - 1
        · rw [e]; exact Rc.rf
        · rcases (h x (by omega)).2.2.2 with h1 | ⟨x', s, y, h1, h2, h3, h4, h5, h6⟩
          · omega
          · have hy := hW.2.1 x' s y h3 h4
            have h7 : Rc (JA Wy (tls T a)) x x' := h2.mono (fun _ _ h => h.2.2)
            have h8 : JA Wy (tls T a) x' y := ⟨s, h3, by rw [noLo_jnd hL hy.1 h3]; exact h6, h4⟩
            exact (h7.tr h8).trans (ih (n - 1 - y) (by omega) y (by omega))
    refine ⟨fun c hc => (h c hc).1, fun c hc => (h c hc).2.1, fun c hc => (h c hc).2.2.1, fun c hc => ?_⟩
    exact (up (n - 1) 0 (by omega)).trans ((up (n - 1 - c) c (by omega)).sym (fun x y h => h.sym hW))
  · rintro ⟨h1, h2, h3, h4⟩
    refine ⟨fun c hc => ⟨h1 c hc, h2 c hc, h3 c hc, ?_⟩, trivial⟩
    by_cases e : c + 1 = n
    · exact Or.inl e
    · right
      apply Classical.byContradiction
      intro hno
      have hL := (noLo_iff hW).mpr h2
      have hr : Rc (JA Wy (tls T a)) c (n - 1) := ((h4 c hc).sym (fun x y h => h.sym hW)).trans (h4 (n - 1) (by omega))
      have := hr (fun z => z ≤ c ∧ Rc (PJ Wy (tls T a) (c + 1)) c z) ⟨Nat.le_refl c, Rc.rf⟩ (fun x y hx hxy => by
        have hl := hxy.lt hW
        by_cases hy : y ≤ c
        · exact ⟨hy, hx.2.tr ⟨by omega, by omega, hxy⟩⟩
        · exfalso
          obtain ⟨s, a1, a2, a3⟩ := hxy
          exact hno ⟨x, s, y, hx.1, hx.2, a1, a3, by omega, by rw [← noLo_jnd hL hl.1 a1]; exact a2⟩)
      omega
/-- how many ways on there are -/
noncomputable def cS (Wy : Nat → Nat → Option Nat) (T O : Nat → Nat) (n m : Nat) (a : Nat → Nat) : Int32 := srP (prS Wy T O n) (fun _ => True) (fun _ s => s + 1) n m a (0 : Int32)
theorem cS_from : ∀ (m : Nat) (a : Nat → Nat) (s : Int32), srP (prS Wy T O n) (fun _ => True) (fun _ s => s + 1) n m a s = s + cS Wy T O n m a
  | 0, a, s => by
    show cif True (s + 1) s = s + cif True (0 + 1) 0
    rw [cif_t trivial, cif_t trivial, Int32.zero_add]
  | m + 1, a, s => by
    refine iter_add (fun k s => ?_) 4 s
    by_cases hp : prS Wy T O n (n - (m + 1)) (up a (n - (m + 1)) k)
    · rw [cif_t hp, cif_t hp, cS_from m _ s]
      rfl
    · rw [cif_f hp, cif_f hp, Int32.add_zero]
theorem cS_s {m c : Nat} (hc : c + (m + 1) = n) (a : Nat → Nat) : cS Wy T O n (m + 1) a = iter (fun k s => s + cif (prS Wy T O n c (up a c k)) (cS Wy T O n m (up a c k)) 0) 4 0 := by
  have e : n - (m + 1) = c := by omega
  show iter (fun k s => cif (prS Wy T O n (n - (m + 1)) (up a (n - (m + 1)) k)) (srP (prS Wy T O n) (fun _ => True) (fun _ s => s + 1) n m (up a (n - (m + 1)) k) s) s) 4 0 = _
  rw [e]
  refine iter_congr (fun k s _ => ?_)
  by_cases hp : prS Wy T O n c (up a c k)
  · rw [cif_t hp, cif_t hp, cS_from]
  · rw [cif_f hp, cif_f hp, Int32.add_zero]
theorem cS_all (hW : WOK n Wy) (hn : 1 ≤ n) (hT : ∀ j, T j < 16) (hO : ∀ j, O j < 16) : cS Wy T O n n (fun _ => 0) = (srE Wy T O n).1 := by
  unfold srE
  rw [srP_map (nt' := fun _ (s : Int32) => s + 1) (fun st : Int32 × Nat × (Nat → Nat) => st.1) (fun a s => rfl)]
  exact srP_eq prS_loc prR_loc (fun a => (Sol_sw hW hn).trans (Sol_ref hW hn hT hO).symm) _ _
-- borders
theorem PlP.congr {c : Nat} {pl pl' : Nat → Nat} (h : PlP Wy P U c pl) (e : ∀ q, q < 12 → pl q = pl' q) : PlP Wy P U c pl' := ⟨fun p hp => by rw [← e p hp]; exact h.1 p hp, fun p q x x' hp hq hx hx' => by rw [← e p hp, ← e q hq]; exact h.2 p q x x' hp hq hx hx'⟩
theorem Vis_loc {c p x : Nat} (h : ∀ i, i < c → U i = V i) (hv : Vis Wy P U c p x) : Vis Wy P V c p x := by
  obtain ⟨s, y, a1, a2, a3, a4, a5, a6⟩ := hv
  exact ⟨s, y, a1, a2, a3, a4, a5, by rw [← h x a2]; exact a6⟩
theorem PlP.loc {c : Nat} {pl : Nat → Nat} (hp : PlP Wy P U c pl) (h : ∀ i, i < c → U i = V i) : PlP Wy P V c pl := by
  have h' : ∀ i, i < c → V i = U i := fun i hi => (h i hi).symm
  refine ⟨fun p hp12 => (hp.1 p hp12).trans ⟨fun ⟨x, hx⟩ => ⟨x, Vis_loc h hx⟩, fun ⟨x, hx⟩ => ⟨x, Vis_loc h' hx⟩⟩, fun p q x x' hp12 hq hx hx' => (hp.2 p q x x' hp12 hq (Vis_loc h' hx) (Vis_loc h' hx')).trans ?_⟩
  exact Rc.iff (fun x y => ⟨PJ_loc h, PJ_loc h'⟩) x x'
theorem PlP.pack {c B : Nat} {pl : Nat → Nat} (h : PlP Wy P U c pl) (h1 : ∀ q, q < 12 → (dig B q ≠ 0 ↔ pl q ≠ 0)) (h2 : ∀ q q', q < 12 → q' < 12 → pl q ≠ 0 → (dig B q = dig B q' ↔ pl q = pl q')) : PlP Wy P U c (dig B) := ⟨fun p hp => (h1 p hp).trans (h.1 p hp), fun p q x x' hp hq hx hx' => (h2 p q hp hq ((h.1 p hp).mpr ⟨x, hx⟩)).trans (h.2 p q x x' hp hq hx hx')⟩
/-- the border B is that of the lays a of the cells before c -/
def Rep (Wy : Nat → Nat → Option Nat) (P : Nat → Nat → Nat) (T : Nat → Nat) (c : Nat) (a : Nat → Nat) (B : Nat) : Prop := PlP Wy P (tls T a) c (dig B) ∧ (∀ p, p < 12 → dig B p ≤ p + 1) ∧ B < 2 ^ 48
/-- one step: a cell, with a lay -/
theorem a_step {F c k B : Nat} {bC bN : Nat → Int32} {Y : Nat → Option Nat} {v : Nat → Int32} (hW : WOK n Wy) (hT : ∀ j, T j < 16) (hY : ∀ c s, c < 16 → s < 4 → Y (c * 4 + s) = Wy c s) (hP : PlOK Wy P) (hc : c < n) (hpo : ∀ s d, s < 4 → Wy c s = some d → kX6_placeOf F bC bN (nI c) (nI s) = some (nI (P c s))) (hR : Rep Wy P T c a B) (hv : PLr v (dig B)) (hF : 1000 ≤ F) : Ex (kX6_pass F (nI n) bC bN (fE Y) v (nI c) (nI (rot (T c) k))) (fun r => ∃ x, r.1 = bI x ∧ (x = true ↔ StS Wy (tls T (up a c k)) n c) ∧ (x = true → ∀ vN, Ex (kX6_pack F r.2 vN) (fun q => ∃ B', q.1 = lN B' ∧ Rep Wy P T (c + 1) (up a c k) B'))) := by
  have htc : tls T (up a c k) c = rot (T c) k := by show rot (T c) (up a c k c) = _; rw [up_s]
  have htl : ∀ j, j < c → tls T a j = tls T (up a c k) j := fun j hj => by show rot (T j) (a j) = rot (T j) (up a c k j); rw [up_n (by omega)]
  have h := a_pass (F := F) (bC := bC) (bN := bN) (Y := Y) (U := tls T (up a c k)) (v := v) hW (tls_lt T _) hY hP hc hpo hv (hR.1.loc htl) (fun p hp => by have := hR.2.1 p hp; omega) hF
  rw [htc] at h
  refine h.m ?_
  rintro ⟨r0, r1⟩ ⟨x, e, hx, hpl⟩
  refine ⟨x, e, hx, fun ht vN => ?_⟩
  obtain ⟨pl, hv2, hPl⟩ := hpl ht
  refine (a_pack (vN := vN) hv2 hF).m ?_
  rintro ⟨q0, q1⟩ ⟨B', e1, h1, h2, h3, h4⟩
  exact ⟨B', e1, hPl.pack h3 h4, h2, h1⟩
/-- what comes behind a border hangs on the border alone -/
theorem cS_rep {bC bN : Nat → Int32} {Y : Nat → Option Nat} (hW : WOK n Wy) (hT : ∀ j, T j < 16) (hY : ∀ c s, c < 16 → s < 4 → Y (c * 4 + s) = Wy c s) (hP : PlOK Wy P) (hpo : ∀ F c s d, c < n → s < 4 → Wy c s = some d → kX6_placeOf F bC bN (nI c) (nI s) = some (nI (P c s))) : ∀ (m c B : Nat) (a b : Nat → Nat), c + m = n → Rep Wy P T c a B → Rep Wy P T c b B → cS Wy T O n m a = cS Wy T O n m b
  | 0, c, B, a, b, _, _, _ => rfl
  | m + 1, c, B, a, b, hcm, ha, hb => by
    rw [cS_s hcm, cS_s hcm]
    refine iter_congr (fun k s hk => ?_)
    have hc : c < n := by omega
    have hv : PLr (fun q => nI (dig B q)) (dig B) := ⟨fun _ _ => rfl, fun q _ => dig_lt B q⟩
    obtain ⟨r, e1, x, e2, e3, e4⟩ := a_step (F := 1000) (k := k) (bC := bC) (bN := bN) (Y := Y) hW hT hY hP hc (fun s d hs h => hpo 1000 c s d hc hs h) ha hv (Nat.le_refl _)
    obtain ⟨r', f1, x', f2, f3, f4⟩ := a_step (F := 1000) (k := k) (bC := bC) (bN := bN) (Y := Y) hW hT hY hP hc (fun s d hs h => hpo 1000 c s d hc hs h) hb hv (Nat.le_refl _)
    rw [e1] at f1
    cases f1
    have exx : x = x' := (bI_e _ _).mp (e2.symm.trans f2)
    subst exx
    have hu : ∀ z : Nat → Nat, up z c k c = k := fun z => up_s
    by_cases hp : prS Wy T O n c (up a c k)
    · have hx := e3.mpr hp.2
      have hp' : prS Wy T O n c (up b c k) := ⟨by have := hp.1; rw [hu] at this ⊢; exact this, f3.mp hx⟩
      rw [cif_t hp, cif_t hp']
      obtain ⟨q, g1, B1, g2, g3⟩ := e4 hx (fun _ => 0)
      obtain ⟨q', g1', B2, g2', g3'⟩ := f4 hx (fun _ => 0)
      rw [g1] at g1'
      cases g1'
      have hB : B1 = B2 := (pk_lEQ (Nat.lt_trans g3.2.2 (by decide)) (Nat.lt_trans g3'.2.2 (by decide))).mp (g2.symm.trans g2')
      subst hB
      rw [cS_rep hW hT hY hP hpo m (c + 1) B1 _ _ (by omega) g3 g3']
    · have hp' : ¬ prS Wy T O n c (up b c k) := fun h => hp ⟨by have := h.1; rw [hu] at this ⊢; exact this, e3.mp (f3.mpr h.2)⟩
      rw [cif_f hp, cif_f hp']
noncomputable def Nb (Wy : Nat → Nat → Option Nat) (P : Nat → Nat → Nat) (T O : Nat → Nat) (n c B : Nat) : Int32 := @dite Int32 (∃ a, Rep Wy P T c a B) (Classical.propDecidable _) (fun h => cS Wy T O n (n - c) (Classical.choose h)) (fun _ => 0)
theorem Nb_e {bC bN : Nat → Int32} {Y : Nat → Option Nat} {c B : Nat} (hW : WOK n Wy) (hT : ∀ j, T j < 16) (hY : ∀ c s, c < 16 → s < 4 → Y (c * 4 + s) = Wy c s) (hP : PlOK Wy P) (hpo : ∀ F c s d, c < n → s < 4 → Wy c s = some d → kX6_placeOf F bC bN (nI c) (nI s) = some (nI (P c s))) (hc : c ≤ n) (ha : Rep Wy P T c a B) : Nb Wy P T O n c B = cS Wy T O n (n - c) a := by
  have h : ∃ a, Rep Wy P T c a B := ⟨a, ha⟩
  unfold Nb
  rw [dif_pos h]
  exact cS_rep hW hT hY hP hpo (n - c) c B _ a (by omega) (Classical.choose_spec h) ha
-- sums of weights
def smI (f : Nat → Int32) : Nat → Int32
  | 0 => 0
  | n + 1 => smI f n + f n
theorem smI_congr {f g : Nat → Int32} : ∀ {n : Nat}, (∀ i, i < n → f i = g i) → smI f n = smI g n
  | 0, _ => rfl
  | n + 1, h => by
    show smI f n + f n = smI g n + g n
    rw [smI_congr (fun i hi => h i (by omega)), h n (by omega)]
theorem smI_up {ws : Nat → Int32} {N : Nat → Int32} {i : Nat} {x : Int32} : ∀ {n : Nat}, i < n → smI (fun j => up ws i (ws i + x) j * N j) n = smI (fun j => ws j * N j) n + x * N i
  | 0, h => absurd h (Nat.not_lt_zero i)
  | n + 1, h => by
    show smI (fun j => up ws i (ws i + x) j * N j) n + up ws i (ws i + x) n * N n = (smI (fun j => ws j * N j) n + ws n * N n) + x * N i
    by_cases e : i = n
    · subst e
      rw [up_s, smI_congr (f := fun j => up ws i (ws i + x) j * N j) (g := fun j => ws j * N j) (fun j hj => by rw [up_n (by omega)]), Int32.add_mul, Int32.add_assoc]
    · rw [smI_up (n := n) (by omega), up_n (fun x => e x.symm), Int32.add_assoc, Int32.add_assoc, Int32.add_comm (x * N i)]
-- how many borders there may be
theorem pigeon (f : Nat → Nat) (N : Nat) : ∀ m : Nat, (∀ i, i < m → f i < N) → (∀ i j, i < m → j < m → f i = f j → i = j) → m ≤ N := by
  intro m h1 h2
  have e1 : sm (fun i => sm (fun x => (decide (f i = x)).toNat) N) m = m := by
    rw [sm_congr (g := fun _ => 1) (fun i hi => sm_uniq (p := fun x => decide (f i = x)) (h1 i hi) (decide_eq_true rfl) (fun x _ h => (of_decide_eq_true h).symm))]
    have : ∀ k, sm (fun _ => 1) k = k := by
      intro k
      induction k with
      | zero => rfl
      | succ k ih => show sm (fun _ => 1) k + 1 = k + 1; rw [ih]
    exact this m
  have e2 := sm_swap (fun i x => (decide (f i = x)).toNat) N m
  have e3 : sm (fun x => sm (fun i => (decide (f i = x)).toNat) m) N ≤ N * 1 := sm_le (fun x _ => by
    by_cases h : ∃ i, i < m ∧ f i = x
    · obtain ⟨i, hi, hx⟩ := h
      rw [sm_uniq (p := fun i => decide (f i = x)) hi (decide_eq_true hx) (fun j hj hjx => h2 j i hj hi ((of_decide_eq_true hjx).trans hx.symm))]
      exact Nat.le_refl 1
    · rw [sm_none (p := fun i => decide (f i = x)) (fun i hi => decide_eq_false (fun e => h ⟨i, hi, e⟩))]
      exact Nat.zero_le 1)
  rw [e1] at e2
  omega
def cod (B : Nat) : Nat := dig B 0 + 8 * (dig B 1 + 8 * (dig B 2 + 8 * (dig B 3 + 8 * (dig B 4 + 8 * dig B 5))))
theorem cod_lt {B : Nat} (h : ∀ p, p < 12 → dig B p ≤ p + 1) : cod B < 2 ^ 18 := by
  have h0 := h 0 (by decide)
  have h1 := h 1 (by decide)
  have h2 := h 2 (by decide)
  have h3 := h 3 (by decide)
  have h4 := h 4 (by decide)
  have h5 := h 5 (by decide)
  unfold cod
  omega
theorem cod_inj {B B' : Nat} (hB : B < 2 ^ 48) (hB' : B' < 2 ^ 48) (h : ∀ p, p < 12 → dig B p ≤ p + 1) (h' : ∀ p, p < 12 → dig B' p ≤ p + 1) (z : ∀ p, p < 12 → 6 ≤ p → dig B p = 0) (z' : ∀ p, p < 12 → 6 ≤ p → dig B' p = 0) (e : cod B = cod B') : B = B' := by
  refine dig_ext hB hB' (fun p hp => ?_)
  by_cases h6 : 6 ≤ p
  · rw [z p hp h6, z' p hp h6]
  · have h0 := h 0 (by decide)
    have h1 := h 1 (by decide)
    have h2 := h 2 (by decide)
    have h3 := h 3 (by decide)
    have h4 := h 4 (by decide)
    have h5 := h 5 (by decide)
    have h0' := h' 0 (by decide)
    have h1' := h' 1 (by decide)
    have h2' := h' 2 (by decide)
    have h3' := h' 3 (by decide)
    have h4' := h' 4 (by decide)
    have h5' := h' 5 (by decide)
    unfold cod at e
    have hp6 : p = 0 ∨ p = 1 ∨ p = 2 ∨ p = 3 ∨ p = 4 ∨ p = 5 := by omega
    rcases hp6 with rfl | rfl | rfl | rfl | rfl | rfl <;> omega
theorem Rep_n {c B : Nat} (hW : WOK n Wy) (h : Rep Wy P T c a B) (hc : n ≤ c) : B = 0 := by
  refine dig_ext h.2.2 (by decide) (fun p hp => ?_)
  have e : dig 0 p = 0 := by unfold dig; rw [Nat.zero_div]
  rw [e]
  apply Classical.byContradiction
  intro hne
  obtain ⟨x, s, y, a1, a2, a3, a4, -⟩ := (h.1.1 p hp).mp hne
  have := (hW.2.1 x s y a1 a4).2.1
  omega
theorem Rep_0 : Rep Wy P T 0 a 0 := by
  have e : ∀ p, dig 0 p = 0 := fun p => by unfold dig; rw [Nat.zero_div]
  refine ⟨⟨fun p _ => ⟨fun h => absurd (e p) h, fun ⟨x, s, y, a1, a2, _⟩ => absurd a2 (Nat.not_lt_zero x)⟩, fun p q x x' _ _ hx _ => ?_⟩, fun p _ => by rw [e]; exact Nat.zero_le _, by decide⟩
  obtain ⟨s, y, a1, a2, -⟩ := hx
  exact absurd a2 (Nat.not_lt_zero x)
theorem nP_mono (p : Nat → Prop) {k l : Nat} (h : k ≤ l) : nP p k ≤ nP p l := by
  induction l with
  | zero => rw [show k = 0 by omega]; exact Nat.le_refl _
  | succ l ih =>
    by_cases e : k = l + 1
    · rw [e]; exact Nat.le_refl _
    · have h1 := ih (by omega)
      by_cases hp : p l
      · rw [nP_s1 hp]; omega
      · rw [nP_s0 hp]; exact h1
/-- behind the first cell never all four lays pass -/
theorem three {c s : Nat} {lm : Nat} (hW : WOK n Wy) (hT : ∀ j, T j < 16) (hc : c < n) (hs : s < 4) (hd : Wy c s = none ∨ ∃ d, d < c ∧ Wy c s = some d) : nP (fun k => prS Wy T (ownA T lm n) n c (up a c k)) 4 ≤ 3 := by
  have hu : ∀ k, up a c k c = k := fun k => up_s
  have h4 : ∀ t, t < 16 → ∀ b : Bool, ∀ s, s < 4 → ∀ v : Bool, (∃ k, k < 4 ∧ ((ownM t b).testBit k = false ∨ (rot t k).testBit s ≠ v)) := by decide +kernel
  have key : ∀ v : Bool, (∀ k, k < 4 → prS Wy T (ownA T lm n) n c (up a c k) → (rot (T c) k).testBit s = v) → nP (fun k => prS Wy T (ownA T lm n) n c (up a c k)) 4 ≤ 3 := by
    intro v hv
    obtain ⟨k, hk, hx⟩ := h4 (T c) (hT c) (lm.testBit c) s hs v
    have hno : ¬ prS Wy T (ownA T lm n) n c (up a c k) := by
      intro hp
      rcases hx with hx | hx
      · have := hp.1
        rw [hu] at this
        unfold ownA at this
        rw [if_pos hc, hx] at this
        cases this
      · exact hx (hv k hk hp)
    have h1 := nP_le (fun k => prS Wy T (ownA T lm n) n c (up a c k)) 4
    have h2 : nP (fun k => prS Wy T (ownA T lm n) n c (up a c k)) 4 ≠ 4 := fun e => hno (nP_all.mp e k hk)
    omega
  rcases hd with e | ⟨d, hdc, e⟩
  · refine key false (fun k hk hp => ?_)
    have := (hp.2.1 s hs).1 e
    have e2 : tls T (up a c k) c = rot (T c) k := by show rot (T c) (up a c k c) = _; rw [hu]
    rw [e2] at this
    exact this
  · refine key ((tls T a d).testBit ((s + 2) % 4)) (fun k hk hp => ?_)
    have := (hp.2.1 s hs).2 d e hdc
    have e2 : tls T (up a c k) c = rot (T c) k := by show rot (T c) (up a c k c) = _; rw [hu]
    have e3 : tls T (up a c k) d = tls T a d := by show rot (T d) (up a c k d) = _; rw [up_n (by omega)]; rfl
    rw [e2, e3] at this
    exact this
end PT
