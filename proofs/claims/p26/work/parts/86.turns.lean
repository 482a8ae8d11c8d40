/-! the law turns the board by the first solution, and back; what it asks of solutions -/
/-- to take s moves back leads from U to T -/
def RV (hist : Nat → Nat) (dn : Nat) : Nat → (Nat → Nat) → (Nat → Nat) → Prop
  | 0, U, T => U = T
  | s + 1, U, T => RV hist dn s (up U (hist (dn + s)) (rot (U (hist (dn + s))) 3)) T
theorem RV_loc {hist hist' : Nat → Nat} {dn : Nat} : ∀ {s : Nat} {U T : Nat → Nat}, (∀ j, j < dn + s → hist j = hist' j) → RV hist dn s U T → RV hist' dn s U T
  | 0, _, _, _, h => h
  | s + 1, U, T, hj, h => by
    have h : RV hist dn s (up U (hist (dn + s)) (rot (U (hist (dn + s))) 3)) T := h
    show RV hist' dn s (up U (hist' (dn + s)) (rot (U (hist' (dn + s))) 3)) T
    rw [← hj (dn + s) (by omega)]
    exact RV_loc (fun j hlt => hj j (by omega)) h
theorem rot_13 {t : Nat} (ht : t < 16) : rot (rot t 1) 3 = t := by
  have h : ∀ t, t < 16 → rot (rot t 1) 3 = t := by decide +kernel
  exact h t ht
theorem rot_31 {t : Nat} (ht : t < 16) : rot (rot t 3) 1 = t := by
  have h : ∀ t, t < 16 → rot (rot t 3) 1 = t := by decide +kernel
  exact h t ht
theorem rot_0 {t : Nat} (ht : t < 16) : rot t 0 = t := by
  have h : ∀ t, t < 16 → rot t 0 = t := by decide +kernel
  exact h t ht
theorem rot_s {t k : Nat} (ht : t < 16) (hk : k < 3) : rot (rot t k) 1 = rot t (k + 1) := by
  have h : ∀ t, t < 16 → ∀ k, k < 3 → rot (rot t k) 1 = rot t (k + 1) := by decide +kernel
  exact h t ht k hk
theorem up_back {U : Nat → Nat} {c : Nat} (h : U c < 16) : up (up U c (rot (U c) 1)) c (rot (up U c (rot (U c) 1) c) 3) = U := by
  funext j
  by_cases e : j = c
  · subst e; rw [up_s, up_s, rot_13 h]
  · rw [up_n e, up_n e]
theorem RV_turn {hist : Nat → Nat} {dn s c : Nat} {U T : Nat → Nat} (h : RV hist dn s U T) (hU : U c < 16) : RV (up hist (dn + s) c) dn (s + 1) (up U c (rot (U c) 1)) T := by
  show RV (up hist (dn + s) c) dn s (up (up U c (rot (U c) 1)) (up hist (dn + s) c (dn + s)) (rot (up U c (rot (U c) 1) (up hist (dn + s) c (dn + s))) 3)) T
  rw [up_s (f := hist), up_back hU]
  exact RV_loc (fun j hj => (up_n (by omega)).symm) h
theorem sm_z {f : Nat → Nat} : ∀ {n : Nat}, sm f n = 0 → ∀ i, i < n → f i = 0
  | 0, _, i, hi => absurd hi (Nat.not_lt_zero i)
  | n + 1, h, i, hi => by
    have h : sm f n + f n = 0 := h
    by_cases e : i = n
    · subst e; omega
    · exact sm_z (n := n) (by omega) i (by omega)
section SS
variable {n : Nat} {Wy : Nat → Nat → Option Nat} {T U : Nat → Nat} {a : Nat → Nat} {lm : Nat}
theorem Sol_Slv {O : Nat → Nat} (hW : WOK n Wy) (hn1 : 1 ≤ n) (hU : ∀ j, U j < 16) (h : Sol Wy T O n a) (e : ∀ j, j < n → tls T a j = U j) : Slv Wy U n := by
  have hc : conA Wy U n := fun c hc => (h.2.2.2 c hc).mono (fun x y hxy => by
    obtain ⟨hx, hy, -⟩ := hxy.lt hW
    obtain ⟨s, h4, e1, h1, h2⟩ := JA_i.mp hxy
    exact JA_i.mpr ⟨s, h4, e1, by rw [← e x hx]; exact h1, by rw [← e y hy]; exact h2⟩)
  have hL : noLo Wy U n := (noLo_iff hW).mpr (fun c hc => fitU_loc (fun i hi => e i (by omega)) (h.2.1 c hc))
  exact ⟨(noLo_opn hU hL).symm, (tree_iff hW hn1 hc).mpr (fun c hc => NoC_loc (fun i hi => e i (by omega)) (h.2.2.1 c hc)), hc⟩
theorem Slv_Sol (hW : WOK n Wy) (hn1 : 1 ≤ n) (hT : ∀ j, T j < 16) (h : Slv Wy T n) : Sol Wy T (ownA T lm n) n (fun _ => 0) := by
  have et : tls T (fun _ => 0) = T := funext (fun c => rot_0 (hT c))
  obtain ⟨h1, h2, h3⟩ := h
  have sp := opn_split (n := n) (Wy := Wy) hT
  have hz := sm_z (f := fun c => loC Wy T c 4) (n := n) (by omega)
  have hL : noLo Wy T n := fun c s hc hs hb => by
    have h0 := sm_z (f := fun s => ((T c).testBit s && !jnd Wy T c s).toNat) (n := 4) (hz c hc) s hs
    have h0 : ((T c).testBit s && !jnd Wy T c s).toNat = 0 := h0
    rw [hb] at h0
    cases ej : jnd Wy T c s with
    | false => rw [ej] at h0; cases h0
    | true =>
      cases eW : Wy c s with
      | none => unfold jnd at ej; rw [eW] at ej; cases ej
      | some d =>
        unfold jnd at ej
        rw [eW] at ej
        have ej : ((T c).testBit s && (T d).testBit ((s + 2) % 4)) = true := ej
        rw [Bool.and_eq_true] at ej
        exact ⟨d, rfl, ej.2⟩
  refine ⟨fun c hc => ?_, fun c hc => ?_, fun c hc => ?_, ?_⟩
  · show (if c < n then ownM (T c) (lm.testBit c) else 0).testBit 0 = true
    rw [if_pos hc]
    have h : ∀ t, t < 16 → ∀ b : Bool, (ownM t b).testBit 0 = true := by decide +kernel
    exact h _ (hT c) _
  · rw [et]; exact (noLo_iff hW).mp hL c hc
  · rw [et]; exact (tree_iff hW hn1 h3).mp h2 c hc
  · rw [et]; exact h3
theorem Sol_lock (h : Sol Wy T (ownA T lm n) n a) {c : Nat} (hc : c < n) (hl : lm.testBit c = true) : a c = 0 := by
  have := h.1 c hc
  have : (if c < n then ownM (T c) (lm.testBit c) else 0).testBit (a c) = true := this
  rw [if_pos hc, hl] at this
  have e : ownM (T c) true = 2 ^ 0 := by unfold ownM; rw [if_pos (Or.inl rfl)]
  rw [e] at this
  exact (tb_p2 0 (a c)).mp this
end SS
section TU
variable {F w h : Nat} {g : Bool} {T Wm : Nat → Nat} {lm src : Nat} {bn bk bs : Int32} {bT bC bN bW bL tT : Nat → Int32} {dn ke : Nat} {hist : Nat → Nat} {hd hk : Int32} {hM : Nat → Int32} {vL vS vA vT sR sI sF : Nat → Int32} {so sw : Int32} {sP : Nat → Nat → Int32} {wP wN lw0 lw1 : Nat → Int32} {lc0 lc1 : Int32} {lb0 lb1 : Nat → Int64} {nb0 nw0 nb1 nw1 cnt few : Nat} {fst : Nat → Nat}
def TuP (n dn : Nat) (T : Nat → Nat) (m : Nat) (U : Nat → Nat) (hd hk : Int32) (hM : Nat → Int32) : Prop := ∃ ke' hist', HS n (dn + m) ke' hist' hd hk hM ∧ RV hist' dn m U T
theorem tu55 {i : Nat} {U0 : Nat → Nat} {q39 : (Nat → Int32) × (Nat → Int32) × (Nat → Int32) × (Nat → Int32) × Int32 × Int32 × (Nat → Int32) × (Nat → Int32) × (Nat → Nat → Int32) × (Nat → Int32) × (Nat → Int32)} {m : Nat} (hB : BD w h g T Wm lm src bn bk bs bT bC bN bW) (hi : i < w * h) (hq : q39.2.2.2.2.2.2.2.2.2.2 i = nI (fst i)) (hf4 : fst i < 4) (hlk : lm.testBit i = true → fst i = 0) (hU0 : ∀ j, U0 j < 16) (hUi : U0 i = T i) (hm : dn + m + 4 < 512) (hP : TuP (w * h) dn T m U0 hd hk hM) (hF : 1000 ≤ F) : Ex (kloop F (fun s_ => kL_turns_s55 F bn bk q39 (nI i) s_.1 s_.2.1 s_.2.2.1 s_.2.2.2.1 s_.2.2.2.2.1 s_.2.2.2.2.2) (nI m, 0, fN U0, hd, hk, hM)) (fun r => r.1 = nI (m + fst i) ∧ r.2.1 = fN (up U0 i (rot (T i) (fst i))) ∧ TuP (w * h) dn T (m + fst i) (up U0 i (rot (T i) (fst i))) r.2.2.1 r.2.2.2.1 r.2.2.2.2) := by
  have hT := hB.2.1
  have hn := hB.n.1
  have eup : up U0 i (rot (T i) 0) = U0 := by
    funext j
    by_cases e : j = i
    · subst e; rw [up_s, rot_0 (hT j), hUi]
    · rw [up_n e]
  have hU : ∀ k j, up U0 i (rot (T i) k) j < 16 := fun k => up_lt hU0 (rot_lt _ _)
  refine Ex.fr (fst i) (fun k s => s.1 = nI (m + k) ∧ s.2.1 = nI k ∧ s.2.2.1 = fN (up U0 i (rot (T i) k)) ∧ TuP (w * h) dn T (m + k) (up U0 i (rot (T i) k)) s.2.2.2.1 s.2.2.2.2.1 s.2.2.2.2.2) ⟨rfl, rfl, by show fN U0 = _; rw [eup], by rw [eup]; exact hP⟩ ?_ ?_ (by omega)
  · rintro k ⟨s1, s2, s3, s4, s5, s6⟩ hk ⟨e1, e2, e3, ke', hist', hH, hR⟩
    have e1 : s1 = nI (m + k) := e1
    have e2 : s2 = nI k := e2
    have e3 : s3 = fN (up U0 i (rot (T i) k)) := e3
    subst e1 e2 e3
    show Ex (kL_turns_s55 F bn bk q39 (nI i) (nI (m + k)) (nI k) (fN (up U0 i (rot (T i) k))) s4 s5 s6) _
    unfold kL_turns_s55
    have hl : lm.testBit i = false := by
      cases x : lm.testBit i with
      | false => rfl
      | true => have := hlk x; omega
    obtain ⟨ct, hH2⟩ := c_turn (F := F) (hB.til (hU k)) hH hi hl (by omega)
    refine Ex.t (ix_n (show i < 16 by omega) (by decide)) (Ex.f ?_ (Ex.o ct (Ex.f (nI_pos (show rot (up U0 i (rot (T i) k) i) 1 < 2 ^ 31 from Nat.lt_trans (rot_lt _ _) (by decide))) (Ex.o rfl (Ex.v ⟨?_, nI_1 k, ?_, ?_⟩)))))
    · rw [cl_n (show i < 2 ^ 31 by omega), hq]
      exact nI_ge hk (by omega)
    · show nI (m + k) + 1 = nI (m + (k + 1))
      rw [nI_1]; rfl
    · have e : up (up U0 i (rot (T i) k)) i (rot (up U0 i (rot (T i) k) i) 1) = up U0 i (rot (T i) (k + 1)) := by
        funext j
        by_cases e : j = i
        · subst e; rw [up_s, up_s, up_s, rot_s (hT j) (by omega)]
        · rw [up_n e, up_n e, up_n e]
      show fN _ = fN _
      rw [e]
    · have e : up (up U0 i (rot (T i) k)) i (rot (up U0 i (rot (T i) k) i) 1) = up U0 i (rot (T i) (k + 1)) := by
        funext j
        by_cases e : j = i
        · subst e; rw [up_s, up_s, up_s, rot_s (hT j) (by omega)]
        · rw [up_n e, up_n e, up_n e]
      rw [← e]
      exact ⟨_, _, hH2, RV_turn hR (hU k i)⟩
  · rintro ⟨s1, s2, s3, s4, s5, s6⟩ ⟨e1, e2, e3, hP⟩
    have e2 : s2 = nI (fst i) := e2
    subst e2
    show Ex (kL_turns_s55 F bn bk q39 (nI i) s1 (nI (fst i)) s3 s4 s5 s6) _
    unfold kL_turns_s55
    refine Ex.t (ix_n (show i < 16 by omega) (by decide)) (Ex.t ?_ (Ex.v ⟨e1, e3, hP⟩))
    rw [cl_n (show i < 2 ^ 31 by omega), hq]
    exact nI_le (Nat.le_refl _) (by omega)
theorem L_turns (hB : BD w h g T Wm lm src bn bk bs bT bC bN bW) (hH : HS (w * h) dn ke hist hd hk hM) (hn12 : w * h ≤ 12) (hdn : dn ≤ 30) (eE : E1 w h g T Wm lm = (nI cnt, few, fst)) (hz : (E1 w h g T Wm lm).1 ≠ 0) (hS : Sol (Wyf w h g Wm) T (ownA T lm (w * h)) (w * h) fst) (hF : 1000 ≤ F) : Ex (kL_turns F bn bk bT bW bL hd hk hM vL vS vA vT so sw sR sI sP sF) (fun r => r.1 = 1 ∧ r.2.1 = bT ∧ ∃ dn' ke' hist', HS (w * h) dn' ke' hist' r.2.2.2.1 r.2.2.2.2.1 r.2.2.2.2.2.1) := by
  obtain ⟨hn, hn1, hsrc, hT, hW⟩ := hB.n
  have ht := hB.t
  have h4 : ∀ c, c < w * h → fst c < 4 := fun c hc => lt_of_tb (ownA_lt _ _ _ c) (hS.1 c hc)
  have hsm : ∀ i, i ≤ w * h → sm fst i ≤ 36 := fun i hi => by
    have := sm_le (f := fst) (b := 3) (n := i) (fun j hj => by have := h4 j (by omega); omega)
    omega
  unfold kL_turns
  refine Ex.o (c_moves hH) ?_
  refine Ex.b (P := fun q => ∀ j, j < w * h → q.2.2.2.2.2.2.2.2.2.2 j = nI (fst j)) (Ex.fr (w * h) (fun i s => s.1 = nI i ∧ ∀ j, j < i → s.2.2.2.2.2.2.2.2.2.2.2 j = nI (fst j)) ⟨rfl, fun j hj => absurd hj (Nat.not_lt_zero j)⟩ ?_ ?_ (by omega)) ?_
  · rintro i ⟨s1, s2, s3, s4, s5, s6, s7, s8, s9, s10, s11, s12⟩ hi ⟨e1, e2⟩
    have e1 : s1 = nI i := e1
    subst e1
    show Ex (kL_turns_s15 F bn bk bT bW (nI i) s2 s3 s4 s5 s6 s7 s8 s9 s10 s11 s12) _
    unfold kL_turns_s15
    refine Ex.o (c_size hB) (Ex.f (nI_ge hi (by omega)) (Ex.b (c_first hB hi hz hF) ?_))
    intro p f1
    have f1 : p.1 = nI (fst i) := by rw [f1, eE]
    refine Ex.t (ix_n (show i < 16 by omega) (by decide)) (Ex.o rfl (Ex.v ⟨nI_1 i, fun j hj => ?_⟩))
    show upd s12 (nI i).toNatClampNeg p.1 j = nI (fst j)
    rw [cl_n (show i < 2 ^ 31 by omega)]
    by_cases e : j = i
    · subst e; rw [pk_us, f1]
    · rw [pk_un e]; exact e2 j (by omega)
  · rintro ⟨s1, s2, s3, s4, s5, s6, s7, s8, s9, s10, s11, s12⟩ ⟨e1, e2⟩
    have e1 : s1 = nI (w * h) := e1
    subst e1
    show Ex (kL_turns_s15 F bn bk bT bW (nI (w * h)) s2 s3 s4 s5 s6 s7 s8 s9 s10 s11 s12) _
    unfold kL_turns_s15
    exact Ex.o (c_size hB) (Ex.t (nI_le (Nat.le_refl _) (by omega)) (Ex.v e2))
  intro q39 hq39
  refine Ex.b (P := fun q => q.1 = nI (sm fst (w * h)) ∧ ∃ U : Nat → Nat, q.2.1 = fN U ∧ (∀ j, U j = if j < w * h then rot (T j) (fst j) else T j) ∧ TuP (w * h) dn T (sm fst (w * h)) U q.2.2.1 q.2.2.2.1 q.2.2.2.2) (Ex.fr (w * h) (fun i s => s.1 = nI (sm fst i) ∧ s.2.1 = nI i ∧ ∃ U : Nat → Nat, s.2.2.1 = fN U ∧ (∀ j, U j = if j < i then rot (T j) (fst j) else T j) ∧ TuP (w * h) dn T (sm fst i) U s.2.2.2.1 s.2.2.2.2.1 s.2.2.2.2.2) ?_ ?_ ?_ (by omega)) ?_
  · exact ⟨rfl, rfl, T, ht, fun j => (if_neg (Nat.not_lt_zero j)).symm, ke, hist, hH, rfl⟩
  · rintro i ⟨s1, s2, s3, s4, s5, s6⟩ hi ⟨e1, e2, U, e3, hU, hP⟩
    have e1 : s1 = nI (sm fst i) := e1
    have e2 : s2 = nI i := e2
    have e3 : s3 = fN U := e3
    subst e1 e2 e3
    have hU16 : ∀ j, U j < 16 := fun j => by
      rw [hU j]
      split
      · exact rot_lt _ _
      · exact hT j
    have b1 := hsm i (by omega)
    show Ex (kL_turns_s43 F bn bk q39 (nI (sm fst i)) (nI i) (fN U) s4 s5 s6) _
    unfold kL_turns_s43
    refine Ex.o (c_size hB) (Ex.f (nI_ge hi (by omega)) (Ex.b (tu55 (fst := fst) hB hi (hq39 i hi) (h4 i hi) (fun hl => Sol_lock hS hi hl) hU16 (by rw [hU i, if_neg (Nat.lt_irrefl i)]) (by omega) hP hF) ?_))
    rintro ⟨r1, r2, r3, r4, r5⟩ ⟨f1, f2, f3⟩
    refine Ex.v ⟨f1, nI_1 i, _, f2, fun j => ?_, f3⟩
    by_cases e : j = i
    · subst e; rw [up_s, if_pos (Nat.lt_succ_self j)]
    · rw [up_n e, hU j]
      by_cases l : j < i
      · rw [if_pos l, if_pos (by omega)]
      · rw [if_neg l, if_neg (by omega)]
  · rintro ⟨s1, s2, s3, s4, s5, s6⟩ ⟨e1, e2, hP⟩
    have e2 : s2 = nI (w * h) := e2
    subst e2
    show Ex (kL_turns_s43 F bn bk q39 s1 (nI (w * h)) s3 s4 s5 s6) _
    unfold kL_turns_s43
    exact Ex.o (c_size hB) (Ex.t (nI_le (Nat.le_refl _) (by omega)) (Ex.v ⟨e1, hP⟩))
  rintro ⟨z1, z2, z3, z4, z5⟩ ⟨e1, U, e2, hU, ke', hist', hH2, hR⟩
  have e1 : z1 = nI (sm fst (w * h)) := e1
  have e2 : z2 = fN U := e2
  subst e1 e2
  have hU16 : ∀ j, U j < 16 := fun j => by
    rw [hU j]
    split
    · exact rot_lt _ _
    · exact hT j
  have hSl := Sol_Slv (U := U) hW hn1 hU16 hS (fun j hj => by rw [hU j, if_pos hj]; rfl)
  have b1 := hsm (w * h) (Nat.le_refl _)
  generalize hSe : sm fst (w * h) = S at hH2 hR b1 ⊢
  refine Ex.b (c_solved (bL := bL) (hB.til hU16) hF) ?_
  rintro ⟨v1, v2⟩ ⟨b, k1, k2⟩
  have k1 : v1 = bI b := k1
  have hb : b = true := k2.mpr hSl
  subst k1 hb
  refine Ex.f bI_n (Ex.o (c_moves hH2) (Ex.t (nI_add dn S).symm ?_))
  unfold kL_turns_j115
  refine Ex.b (P := fun q => q.1 = 1 ∧ q.2.1 = fN T ∧ HS (w * h) dn ke' hist' q.2.2 z4 z5) (Ex.fr S (fun k s => s.1 = 1 ∧ s.2.1 = nI k ∧ ∃ V : Nat → Nat, s.2.2.1 = fN V ∧ (∀ j, V j < 16) ∧ HS (w * h) (dn + (S - k)) ke' hist' s.2.2.2 z4 z5 ∧ RV hist' dn (S - k) V T) ⟨rfl, rfl, U, rfl, hU16, hH2, hR⟩ ?_ ?_ (by omega)) ?_
  · rintro k ⟨s1, s2, s3, s4⟩ hk ⟨e1, e2, V, e3, hV, hH3, hR3⟩
    have e1 : s1 = 1 := e1
    have e2 : s2 = nI k := e2
    have e3 : s3 = fN V := e3
    subst e1 e2 e3
    obtain ⟨z, hz2⟩ : ∃ z, S - k = z + 1 := ⟨S - k - 1, by omega⟩
    rw [hz2] at hH3 hR3
    show Ex (kL_turns_s120 F bn (nI dn) (nI S, fN U, z3, z4, z5) 1 (nI k) (fN V) s4) _
    unfold kL_turns_s120
    obtain ⟨cu, hH4, hcl⟩ := c_undo (F := F) (e := dn + z) (hB.til hV) hH3
    refine Ex.f (nI_ge hk (by omega)) (Ex.o cu (Ex.t ?_ (Ex.f (by decide) (Ex.v ⟨rfl, nI_1 k, _, rfl, up_lt hV (rot_lt _ _), ?_, ?_⟩))))
    · show nI (dn + z) = ((nI dn + nI S) - nI k) - 1
      rw [nI_add, pk_sub (by omega), i1, pk_sub (by omega)]
      congr 1
      omega
    · rw [show S - (k + 1) = z by omega]; exact hH4
    · rw [show S - (k + 1) = z by omega]; exact hR3
  · rintro ⟨s1, s2, s3, s4⟩ ⟨e1, e2, V, e3, hV, hH3, hR3⟩
    have e2 : s2 = nI S := e2
    subst e2
    show Ex (kL_turns_s120 F bn (nI dn) (nI S, fN U, z3, z4, z5) s1 (nI S) s3 s4) _
    unfold kL_turns_s120
    rw [Nat.sub_self] at hH3 hR3
    have hR3 : V = T := hR3
    subst hR3
    exact Ex.t (nI_le (Nat.le_refl _) (by omega)) (Ex.v ⟨e1, e3, hH3⟩)
  · rintro ⟨y1, y2, y3⟩ ⟨e1, e2, hH3⟩
    have e1 : y1 = 1 := e1
    have e2 : y2 = fN T := e2
    subst e1
    exact Ex.t rfl (Ex.v ⟨rfl, e2.trans ht.symm, dn, ke', hist', hH3⟩)
theorem lays_lt : ∀ a, a < 16 → ∀ m, m < 5 → (∀ k, k < 4 → a.testBit k = true → (2 ^ m - 1).testBit k = true) → a < 2 ^ m := by decide +kernel
def ArP (F : Nat) (bn bk : Int32) (bT bC bN bW wP wN : Nat → Int32) (lc0 : Int32) (nb0 : Nat) (lb0 : Nat → Int64) (nw0 : Nat) (lw0 : Nat → Int32) (lc1 : Int32) (nb1 : Nat) (lb1 : Nat → Int64) (nw1 : Nat) (lw1 : Nat → Int32) (n : Nat) (bT' : Nat → Int32) (x : Int32) (t1 : Nat → Int32) (hd hk : Int32) (hM : Nat → Int32) (a b c d : Nat) : Prop := x = 1 ∧ t1 = bT' ∧ (∃ dn' ke' hist', HS n dn' ke' hist' hd hk hM) ∧ ∃ q, kX6_countAll F bn bk bT bC bN bW wP wN lc0 nb0 lb0 nw0 lw0 lc1 nb1 lb1 nw1 lw1 = some q ∧ CP a b ∧ CP c d ∧ a = q.2.2.2.2.1 ∧ b = q.2.2.2.2.2.2.1 ∧ c = q.2.2.2.2.2.2.2.2.2.1 ∧ d = q.2.2.2.2.2.2.2.2.2.2.2.1
theorem ar175 {i : Nat} {q1 : Int32 × (Nat → Int32) × (Nat → Int32) × (Nat → Int32) × (Nat → Int32) × Int32 × Int32 × (Nat → Int32) × (Nat → Int32) × (Nat → Nat → Int32) × (Nat → Int32)} {x : Int32} (hB : BD w h g T Wm lm src bn bk bs bT bC bN bW) (hi : i < w * h) (eE : E1 w h g T Wm lm = (nI cnt, few, fst)) (hq1 : q1.1 = nI cnt) (hcnt : cnt ≤ 2 ^ 24) (hx : cnt ≠ 0 → x = nI (sm fst i)) (hF : 1000 ≤ F) : Ex (kL_areSolutions_j175 F bn bk bT bW q1 x (nI i) 1 vL vS vA vT so sw sR sI sP sF) (onS (fun s => s.1 = 1 ∧ s.2.2.1 = nI (i + 1) ∧ (cnt ≠ 0 → s.2.1 = nI (sm fst (i + 1)))) (fun r => r.1 = 1 ∧ (cnt ≠ 0 → r.2.1 = nI (sm fst (w * h))))) := by
  have p24 : (2 : Nat) ^ 24 = 16777216 := rfl
  unfold kL_areSolutions_j175
  rw [hq1]
  by_cases h0 : cnt = 0
  · exact Ex.t (by rw [h0]; rfl) (Ex.o rfl (Ex.v ⟨rfl, nI_1 i, fun h => absurd h0 h⟩))
  · have hz : (E1 w h g T Wm lm).1 ≠ 0 := by
      rw [eE]
      exact fun x => h0 ((nI_z (by omega)).mp x)
    refine Ex.f (fun x => h0 ((nI_z (by omega)).mp x)) (Ex.b (c_first hB hi hz hF) ?_)
    intro p f1
    refine Ex.o rfl (Ex.v ⟨rfl, nI_1 i, fun _ => ?_⟩)
    show x + p.1 = nI (sm fst i + fst i)
    rw [hx h0, f1, eE, nI_add]
theorem ar130 {i : Nat} {q1 : Int32 × (Nat → Int32) × (Nat → Int32) × (Nat → Int32) × (Nat → Int32) × Int32 × Int32 × (Nat → Int32) × (Nat → Int32) × (Nat → Nat → Int32) × (Nat → Int32)} {q95 : Int32 × (Nat → Int32) × (Nat → Int32) × (Nat → Int32) × (Nat → Int32)} {x : Int32} {L : Nat → Nat} (hB : BD w h g T Wm lm src bn bk bs bT bC bN bW) (hi : i < w * h) (eE : E1 w h g T Wm lm = (nI cnt, few, fst)) (hq1 : q1.1 = nI cnt) (hcnt : cnt ≤ 2 ^ 24) (hS : cnt ≠ 0 → Sol (Wyf w h g Wm) T (ownA T lm (w * h)) (w * h) fst) (hL0 : q95.1 = nI (L i)) (hL16 : ∀ j, L j < 16) (hL : ∀ c k, (L c).testBit k = true ↔ Keep (Wyf w h g Wm) T (ownA T lm (w * h)) (w * h) c k) (hx : cnt ≠ 0 → x = nI (sm fst i)) (hF : 1000 ≤ F) : Ex (kL_areSolutions_j130 F bn bk bT bW q1 x (nI i) so sw sR sI sP sF q95 (nI (laysN (T i) (lm.testBit i)))) (onS (fun s => s.1 = 1 ∧ s.2.2.1 = nI (i + 1) ∧ (cnt ≠ 0 → s.2.1 = nI (sm fst (i + 1)))) (fun r => r.1 = 1 ∧ (cnt ≠ 0 → r.2.1 = nI (sm fst (w * h))))) := by
  have p24 : (2 : Nat) ^ 24 = 16777216 := rfl
  obtain ⟨hn, hn1, hsrc, hT, hW⟩ := hB.n
  have hm := laysN_le (T i) (lm.testBit i)
  have hLi := hL16 i
  have hlt : L i < 2 ^ laysN (T i) (lm.testBit i) := lays_lt (L i) hLi _ (by omega) (fun k hk hb => by
    have := ((hL i k).mp hb).own
    have : (if i < w * h then ownM (T i) (lm.testBit i) else 0).testBit k = true := this
    rw [if_pos hi, ← own_lays _ (hT i)] at this
    exact this)
  have hp : 2 ^ laysN (T i) (lm.testBit i) ≤ 2 ^ 4 := Nat.pow_le_pow_right (by decide) hm
  unfold kL_areSolutions_j130
  rw [hL0, i1, q_shl (by omega) (by omega), Nat.one_mul]
  refine Ex.f (nI_pos (by omega)) (Ex.f (nI_ge hlt (by omega)) ?_)
  by_cases h0 : cnt = 0
  · exact Ex.t (by rw [hq1, h0]; rfl) (ar175 hB hi eE hq1 hcnt hx hF)
  · have hz : (E1 w h g T Wm lm).1 ≠ 0 := by
      rw [eE]
      exact fun x => h0 ((nI_z (by omega)).mp x)
    have hk := (hL i (fst i)).mpr (Sol_keep hW hn1 (fun j => ownA_lt _ _ _ j) (hS h0) hi)
    have h4 : fst i < 4 := lt_of_tb (hL16 i) hk
    have hpos : 0 < L i := Nat.pos_of_ne_zero (fun e => by rw [e, Nat.zero_testBit] at hk; cases hk)
    refine Ex.f (by rw [hq1]; exact fun x => h0 ((nI_z (by omega)).mp x)) (Ex.f (nI_nle hpos (by omega)) (Ex.b (c_first hB hi hz hF) ?_))
    intro p f1
    refine Ex.t ?_ (ar175 hB hi eE hq1 hcnt hx hF)
    rw [f1, eE]
    show ((nI (L i) >>> (nI (fst i) &&& 31)) &&& nI 1) = nI 1
    rw [← i1, q_bit (by omega) (by omega), hk]
    rfl
theorem ar49 {q1 : Int32 × (Nat → Int32) × (Nat → Int32) × (Nat → Int32) × (Nat → Int32) × Int32 × Int32 × (Nat → Int32) × (Nat → Int32) × (Nat → Nat → Int32) × (Nat → Int32)} {q2 : Int32 × (Nat → Int32) × (Nat → Int32) × Int32 × Nat × (Nat → Int64) × Nat × (Nat → Int32) × Int32 × Nat × (Nat → Int64) × Nat × (Nat → Int32)} (hB : BD w h g T Wm lm src bn bk bs bT bC bN bW) (hH : HS (w * h) dn ke hist hd hk hM) (hLT : LT (w * h) T lm dn ke hist tT) (hn12 : w * h ≤ 12) (eE : E1 w h g T Wm lm = (nI cnt, few, fst)) (hq1 : q1.1 = nI cnt) (hcnt : cnt ≤ 2 ^ 24) (hS : cnt ≠ 0 → Sol (Wyf w h g Wm) T (ownA T lm (w * h)) (w * h) fst ∧ few ≤ sm fst (w * h)) (hq2 : kX6_countAll F bn bk bT bC bN bW wP wN lc0 nb0 lb0 nw0 lw0 lc1 nb1 lb1 nw1 lw1 = some q2) (h0 : CP q2.2.2.2.2.1 q2.2.2.2.2.2.2.1) (h1 : CP q2.2.2.2.2.2.2.2.2.2.1 q2.2.2.2.2.2.2.2.2.2.2.2.1) (hF : 1000 ≤ F) : Ex (kL_areSolutions_j49 F bn bk bT bW hd hk hM tT q1 q2 1 bL vL vS vA vT so sw sR sI sP sF) (fun r => ArP F bn bk bT bC bN bW wP wN lc0 nb0 lb0 nw0 lw0 lc1 nb1 lb1 nw1 lw1 (w * h) bT r.1 r.2.1 r.2.2.2.1 r.2.2.2.2.1 r.2.2.2.2.2.1 r.2.2.2.2.2.2.2.2.2.2.2.2.2.2.2.2.2.2.2.1 r.2.2.2.2.2.2.2.2.2.2.2.2.2.2.2.2.2.2.2.2.2.1 r.2.2.2.2.2.2.2.2.2.2.2.2.2.2.2.2.2.2.2.2.2.2.2.2.1 r.2.2.2.2.2.2.2.2.2.2.2.2.2.2.2.2.2.2.2.2.2.2.2.2.2.2.1) := by
  have p24 : (2 : Nat) ^ 24 = 16777216 := rfl
  obtain ⟨hn, hn1, hsrc, hT, hW⟩ := hB.n
  obtain ⟨l1, l2, l3, l4, l5, l6⟩ := hLT
  unfold kL_areSolutions_j49
  refine Ex.b (P := fun q => q.1 = 1 ∧ (cnt ≠ 0 → q.2.1 = nI (sm fst (w * h)))) (Ex.fr (w * h) (fun i s => s.1 = 1 ∧ s.2.2.1 = nI i ∧ (cnt ≠ 0 → s.2.1 = nI (sm fst i))) ⟨rfl, rfl, fun _ => rfl⟩ ?_ ?_ (by omega)) ?_
  · rintro i ⟨s1, s2, s3, s4, s5, s6, s7, s8, s9, s10, s11, s12, s13⟩ hi ⟨e1, e2, e3⟩
    have e1 : s1 = 1 := e1
    have e2 : s3 = nI i := e2
    subst e1 e2
    show Ex (kL_areSolutions_s56 F bn bk bT bW tT q1 1 s2 (nI i) s4 s5 s6 s7 s8 s9 s10 s11 s12 s13) _
    unfold kL_areSolutions_s56
    refine Ex.o (c_size hB) (Ex.f (nI_ge hi (by omega)) (Ex.f (by decide) (Ex.b (c_lays hB hi hF) ?_)))
    rintro q95 ⟨L, f1, f2, f3⟩
    have h130 := ar130 (so := s8) (sw := s9) (sR := s10) (sI := s11) (sP := s12) (sF := s13) hB hi eE hq1 hcnt (fun h => (hS h).1) f1 f2 f3 e3 hF
    have hTi := hT i
    rw [i16, nI_add, cl_n (show 16 + i < 2 ^ 31 by omega), l2 i hi, cl_n (show i < 2 ^ 31 by omega), l1 i hi]
    refine Ex.t (ix_n (show 16 + i < 64 by omega) (by decide)) ?_
    have hx : ix (nI i) 64 = true := ix_n (show i < 64 by omega) (by decide)
    unfold laysN at h130
    cases el : lm.testBit i with
    | true =>
      rw [el, if_pos (Or.inl rfl)] at h130
      exact Ex.t rfl h130
    | false =>
      rw [el] at h130
      refine Ex.f (by decide) (Ex.t hx ?_)
      by_cases t0 : T i = 0
      · rw [if_pos (Or.inr (Or.inl t0))] at h130
        exact Ex.t (by rw [t0]; rfl) h130
      · refine Ex.f (fun x => t0 ((nI_eq (b := 0) (by omega) (by omega)).mp x)) (Ex.t hx ?_)
        by_cases t15 : T i = 15
        · rw [if_pos (Or.inr (Or.inr t15))] at h130
          exact Ex.t (by rw [t15]; rfl) h130
        · rw [if_neg (by rintro (x | x | x); cases x; exact t0 x; exact t15 x)] at h130
          refine Ex.f (fun x => t15 ((nI_eq (b := 15) (by omega) (by omega)).mp x)) (Ex.t hx ?_)
          by_cases t5 : T i = 5
          · rw [if_pos (Or.inl t5)] at h130
            exact Ex.t (by rw [t5]; rfl) h130
          · refine Ex.f (fun x => t5 ((nI_eq (b := 5) (by omega) (by omega)).mp x)) (Ex.t hx ?_)
            by_cases t10 : T i = 10
            · rw [if_pos (Or.inr t10)] at h130
              exact Ex.t (by rw [t10]; rfl) h130
            · rw [if_neg (by rintro (x | x); exact t5 x; exact t10 x)] at h130
              exact Ex.f (fun x => t10 ((nI_eq (b := 10) (by omega) (by omega)).mp x)) h130
  · rintro ⟨s1, s2, s3, s4, s5, s6, s7, s8, s9, s10, s11, s12, s13⟩ ⟨e1, e2, e3⟩
    have e2 : s3 = nI (w * h) := e2
    subst e2
    show Ex (kL_areSolutions_s56 F bn bk bT bW tT q1 s1 s2 (nI (w * h)) s4 s5 s6 s7 s8 s9 s10 s11 s12 s13) _
    unfold kL_areSolutions_s56
    exact Ex.o (c_size hB) (Ex.t (nI_le (Nat.le_refl _) (by omega)) (Ex.v ⟨e1, e3⟩))
  · rintro q126 ⟨e1, e2⟩
    refine Ex.f (by rw [e1]; decide) ?_
    by_cases hc : cnt = 0
    · refine Ex.t (by rw [hq1, hc]; rfl) ?_
      unfold kL_areSolutions_j230
      exact Ex.t rfl (Ex.v ⟨rfl, rfl, ⟨dn, ke, hist, hH⟩, q2, hq2, h0, h1, rfl, rfl, rfl, rfl⟩)
    · have hz : (E1 w h g T Wm lm).1 ≠ 0 := by
        rw [eE]
        exact fun x => hc ((nI_z (by omega)).mp x)
      obtain ⟨hS1, hS2⟩ := hS hc
      have hsm : sm fst (w * h) ≤ 36 := by
        have := sm_le (f := fst) (b := 3) (n := w * h) (fun j hj => by have := lt_of_tb (ownA_lt T lm (w * h) j) (hS1.1 j hj); omega)
        omega
      refine Ex.f (by rw [hq1]; exact fun x => hc ((nI_z (by omega)).mp x)) (Ex.b (c_few hB hz hF) ?_)
      intro p f1
      refine Ex.f (by rw [e2 hc, f1, eE]; exact Int32.not_lt.mpr (nI_le hS2 (by omega))) (Ex.b (L_turns (bL := bL) hB hH hn12 (by have := hH.1; omega) eE hz hS1 hF) ?_)
      rintro q146 ⟨g1, g2, g3⟩
      refine Ex.f (by rw [g1]; decide) ?_
      unfold kL_areSolutions_j230
      exact Ex.t rfl (Ex.v ⟨rfl, g2, g3, q2, hq2, h0, h1, rfl, rfl, rfl, rfl⟩)
theorem L_areSol (hB : BD w h g T Wm lm src bn bk bs bT bC bN bW) (hH : HS (w * h) dn ke hist hd hk hM) (hLT : LT (w * h) T lm dn ke hist tT) (hn12 : w * h ≤ 12) (h0 : CP nb0 nw0) (h1 : CP nb1 nw1) (hF : BF F) : Ex (kL_areSolutions F bn bk bT bC bN bW bL hd hk hM vL vS vA vT so sw sR sI sP sF wP wN lc0 nb0 lb0 nw0 lw0 lc1 nb1 lb1 nw1 lw1 tT) (fun r => ArP F bn bk bT bC bN bW wP wN lc0 nb0 lb0 nw0 lw0 lc1 nb1 lb1 nw1 lw1 (w * h) bT r.1 r.2.1 r.2.2.2.1 r.2.2.2.2.1 r.2.2.2.2.2.1 r.2.2.2.2.2.2.2.2.2.2.2.2.2.2.2.2.2.2.2.1 r.2.2.2.2.2.2.2.2.2.2.2.2.2.2.2.2.2.2.2.2.2.1 r.2.2.2.2.2.2.2.2.2.2.2.2.2.2.2.2.2.2.2.2.2.2.2.2.1 r.2.2.2.2.2.2.2.2.2.2.2.2.2.2.2.2.2.2.2.2.2.2.2.2.2.2.1) := by
  have p24 : (2 : Nat) ^ 24 = 16777216 := rfl
  obtain ⟨hn, hn1, hsrc, hT, hW⟩ := hB.n
  obtain ⟨cnt, few, fst, eE, hcnt, hS, hall, hzero⟩ := srE_all hW hn1 hn12 hT (O := ownA T lm (w * h)) (fun j => ownA_lt _ _ _ j)
  have eE : E1 w h g T Wm lm = (nI cnt, few, fst) := eE
  unfold kL_areSolutions
  refine Ex.b (c_sols hB hF.1) ?_
  intro q1 hq1
  have hq1 : q1.1 = nI cnt := by rw [hq1, eE]
  obtain ⟨q2, hq2, e2, cp0, cp1⟩ := c_sweep (F := F) (wP := wP) (wN := wN) (lc0 := lc0) (lc1 := lc1) (lb0 := lb0) (lb1 := lb1) (lw0 := lw0) (lw1 := lw1) hB h0 h1 hF.2.1
  have j49 := fun (bL' vL' vS' vA' vT' sR' sI' sF' : Nat → Int32) (so' sw' : Int32) (sP' : Nat → Nat → Int32) => ar49 (bL := bL') (vL := vL') (vS := vS') (vA := vA') (vT := vT') (sR := sR') (sI := sI') (sF := sF') (so := so') (sw := sw') (sP := sP') hB hH hLT hn12 eE hq1 hcnt hS hq2 cp0 cp1 hF.1
  refine Ex.o hq2 (Ex.t (by rw [e2, hq1, eE]) (Ex.f (by rw [hq1]; exact nI_pos (by omega)) (Ex.b (c_solved (bL := bL) hB hF.1) ?_)))
  rintro q147 ⟨b, k1, k2⟩
  cases b with
  | false => exact Ex.t k1 (j49 _ _ _ _ _ _ _ _ _ _ _)
  | true =>
    have hs0 := Slv_Sol (lm := lm) hW hn1 hT (k2.mp rfl)
    obtain ⟨hc, hf0⟩ := hall _ hs0
    have hf0 : few ≤ 0 := by rw [sm_0] at hf0; exact hf0
    have hz : (E1 w h g T Wm lm).1 ≠ 0 := by
      rw [eE]
      exact fun x => hc ((nI_z (by omega)).mp x)
    refine Ex.f (by rw [k1]; exact bI_n) (Ex.f (by rw [hq1]; exact Int32.not_lt.mpr (show (1 : Int32) ≤ nI cnt from nI_le (show 1 ≤ cnt by omega) (by omega))) (Ex.b (c_few hB hz hF.1) ?_))
    intro p f1
    refine Ex.t (by rw [f1, eE]; show nI few = 0; rw [show few = 0 by omega]; rfl) (Ex.b (show Ex (kX7_first F bn bk bT bW _ _ _ _ _ _ _ _ _ _ (nI 0)) _ from c_first hB (show 0 < w * h by omega) hz hF.1) ?_)
    intro p2 f2
    refine Ex.t (by rw [f2, eE]; show nI (fst 0) = 0; rw [hzero hs0 0 (by omega)]; rfl) (j49 _ _ _ _ _ _ _ _ _ _ _)
end TU
