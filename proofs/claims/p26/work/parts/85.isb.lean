/-! the law looks at the board -/
def LT (n : Nat) (T : Nat → Nat) (lm dn ke : Nat) (hist : Nat → Nat) (tT : Nat → Int32) : Prop := (∀ j, j < n → tT j = nI (T j)) ∧ (∀ j, j < n → tT (16 + j) = bI (lm.testBit j)) ∧ (∀ j, j < ke → tT (32 + j) = nI (hist j)) ∧ tT 62 = nI dn ∧ tT 63 = nI ke ∧ ke ≤ 30
def LI (bn bk bs : Int32) (bT bC bN bW : Nat → Int32) (hd hk : Int32) (hM tT tW : Nat → Int32) : Prop := ∃ (w h : Nat) (g : Bool) (T Wm : Nat → Nat) (lm src dn ke : Nat) (hist : Nat → Nat), w * h ≤ 12 ∧ BD w h g T Wm lm src bn bk bs bT bC bN bW ∧ HS (w * h) dn ke hist hd hk hM ∧ LT (w * h) T lm dn ke hist tT ∧ ∀ j, j < w * h → tW j = nI (Wm j)
theorem q_back : ∀ k, k < 4 → (nI k + 2) - (nI k + 2) / 4 * 4 = nI ((k + 2) % 4) := by decide
theorem bI_x1 (b : Bool) : bI b = 1 ↔ b = true := by cases b <;> decide
theorem jnd_n {w h : Nat} {g : Bool} {T Wm : Nat → Nat} {c k : Nat} (hc : c < w * h) (e : nbr w h g c k = none) : jnd (Wyf w h g Wm) T c k = false := by
  unfold jnd Wyf
  rw [if_pos hc, e]
  split
  · rfl
  · rename_i q
    split at q <;> cases q
theorem jnd_w {w h : Nat} {g : Bool} {T Wm : Nat → Nat} {c k : Nat} (hc : c < w * h) (e : (Wm c).testBit k = true) : jnd (Wyf w h g Wm) T c k = false := by
  unfold jnd Wyf
  rw [if_pos hc, if_pos e]
theorem jnd_o {w h : Nat} {g : Bool} {T Wm : Nat → Nat} {c k d : Nat} (hc : c < w * h) (e : nbr w h g c k = some d) (hw : (Wm c).testBit k = false) : jnd (Wyf w h g Wm) T c k = ((T c).testBit k && (T d).testBit ((k + 2) % 4)) := by
  unfold jnd Wyf
  rw [if_pos hc, if_neg (by rw [hw]; decide), e]
section IB
variable {F w h : Nat} {g : Bool} {T Wm : Nat → Nat} {lm src : Nat} {bn bk bs : Int32} {bT bC bN bW bL tT tW : Nat → Int32}
theorem isb234 {s92 y7 y9 : Int32} {Q : (Int32 × Int32 × Int32 × Int32 × (Nat → Int32)) ⊕ (Int32 × Int32 × Int32 × (Nat → Int32)) → Prop} (h : Q (.inl (y7, y9, 1, s92 + 1, bL))) : Ex (kL_isBoard_j234 F s92 y7 y9 1 bL) Q := by
  unfold kL_isBoard_j234
  exact Ex.v h
theorem isb181 {c k : Nat} {y7 y9 : Int32} (hB : BD w h g T Wm lm src bn bk bs bT bC bN bW) (hc : c < w * h) (hk : k < 4) (hF : 1000 ≤ F) : Ex (kL_isBoard_j181 F bn bs bT bN bW (nI c) (nI k) bL (enc (nbr w h g c k)) (bI (jnd (Wyf w h g Wm) T c k)) y7 y9 (nI ((k + 2) % 4)) (bI (jnd (Wyf w h g Wm) T c k))) (fun x => ∃ bL', x = .inl (y7, y9, 1, nI k + 1, bL')) := by
  have hn := hB.n.1
  have hW := hB.n.2.2.2.2
  unfold kL_isBoard_j181
  refine Ex.t rfl ?_
  cases e : nbr w h g c k with
  | none =>
    rw [jnd_n hc e]
    exact Ex.t rfl (Ex.t bI_f (isb234 ⟨_, rfl⟩))
  | some d =>
    obtain ⟨k1, k2, k3⟩ := nb_lt hB.1 hc hk e
    refine Ex.f (show ¬ enc (some d) = -1 from n_m1 (show d < 2 ^ 31 by omega)) ?_
    refine Ex.o (show kX7_neighbour F bn bN (nI d) (nI ((k + 2) % 4)) = _ from c_neigh hB k1 (s2_lt k)) ?_
    rw [k3]
    refine Ex.t rfl ?_
    cases ej : jnd (Wyf w h g Wm) T c k with
    | false => exact Ex.t bI_f (isb234 ⟨_, rfl⟩)
    | true =>
      have hJ : JA (Wyf w h g Wm) T c d := by
        cases ew : (Wm c).testBit k with
        | true => rw [jnd_w hc ew] at ej; cases ej
        | false =>
          refine ⟨k, hk, ej, ?_⟩
          unfold Wyf
          rw [if_pos hc, if_neg (by rw [ew]; decide), e]
      refine Ex.f bI_n (Ex.b (c_isWat (bL := bL) hB hc hF) ?_)
      rintro ⟨p1, p2⟩ ⟨b1, f1, f2⟩
      have f1 : p1 = bI b1 := f1
      subst f1
      refine Ex.b (show Ex (kX7_isWatered F bn bs bT bW p2 (nI d)) _ from c_isWat (bL := p2) hB k1 hF) ?_
      rintro ⟨p3, p4⟩ ⟨b2, f3, f4⟩
      have f3 : p3 = bI b2 := f3
      subst f3
      have hbb : b1 = b2 := by
        have : b1 = true ↔ b2 = true := f2.trans ⟨fun x => f4.mpr (x.tr hJ), fun x => (f4.mp x).tr (hJ.sym hW)⟩
        cases b1 <;> cases b2 <;> simp_all
      exact Ex.t (show bI b1 = bI b2 by rw [hbb]) (isb234 ⟨_, rfl⟩)
theorem isb129 {c k : Nat} {y7 s90 v98 : Int32} (hB : BD w h g T Wm lm src bn bk bs bT bC bN bW) (ht : ∀ j, j < w * h → tT j = nI (T j)) (hw : ∀ j, j < w * h → tW j = nI (Wm j)) (hc : c < w * h) (hk : k < 4) (hF : 1000 ≤ F) : Ex (kL_isBoard_j129 F bn bs bT bN bW tT tW (nI c) s90 (nI k) bL (enc (nbr w h g c k)) (bI (jnd (Wyf w h g Wm) T c k)) (bI ((T c).testBit k)) y7 v98) (fun x => ∃ bL', x = .inl (y7, s90 + v98, 1, nI k + 1, bL')) := by
  have hn := hB.n.1
  have h181 := isb181 (y7 := y7) (y9 := s90 + v98) (bL := bL) hB hc hk hF
  have hWm := hB.2.2.1
  have hT := hB.2.1
  unfold kL_isBoard_j129
  refine Ex.o rfl (Ex.o (congrArg some (q_back k hk)) ?_)
  cases e : nbr w h g c k with
  | none =>
    rw [e, jnd_n hc e] at h181
    rw [jnd_n hc e]
    exact Ex.t rfl h181
  | some d =>
    obtain ⟨k1, k2, k3⟩ := nb_lt hB.1 hc hk e
    refine Ex.f (show ¬ enc (some d) = -1 from n_m1 (show d < 2 ^ 31 by omega)) (Ex.t (ix_n (show c < 16 by omega) (by decide)) ?_)
    rw [cl_n (show c < 2 ^ 31 by omega), hw c hc, q_bit (by have := hWm c; omega) (by omega)]
    cases ew : (Wm c).testBit k with
    | true =>
      rw [e, jnd_w hc ew] at h181
      rw [jnd_w hc ew]
      exact Ex.f bI_n h181
    | false =>
      rw [e, jnd_o hc e ew] at h181
      rw [jnd_o hc e ew]
      refine Ex.t bI_f ?_
      cases eb : (T c).testBit k with
      | false =>
        rw [eb] at h181
        exact Ex.t bI_f h181
      | true =>
        rw [eb] at h181
        refine Ex.f bI_n (Ex.t (show ix (nI d) 64 = true from ix_n (by omega) (by decide)) ?_)
        rw [show (enc (some d)).toNatClampNeg = d from cl_n (show d < 2 ^ 31 by omega), ht d k1, q_bit (by have := hT d; omega) (by have := s2_lt k; omega)]
        cases ed : (T d).testBit ((k + 2) % 4) with
        | true => rw [ed] at h181; exact Ex.t rfl h181
        | false => rw [ed] at h181; exact Ex.f (by decide) h181
def loC (Wy : Nat → Nat → Option Nat) (T : Nat → Nat) (c k : Nat) : Nat := sm (fun s => ((T c).testBit s && !jnd Wy T c s).toNat) k
def jnC (Wy : Nat → Nat → Option Nat) (T : Nat → Nat) (c k : Nat) : Nat := sm (fun s => (jnd Wy T c s).toNat) k
theorem jnd_b2 {Wy : Nat → Nat → Option Nat} {c s : Nat} (h : jnd Wy T c s = true) : (T c).testBit s = true := by
  unfold jnd at h
  split at h
  · cases h
  · rw [Bool.and_eq_true] at h; exact h.1
theorem nI_bI (m : Nat) (b : Bool) : nI m + bI b = nI (m + b.toNat) := by
  cases b with
  | false => show nI m + nI 0 = _; rw [nI_add]; rfl
  | true => show nI m + nI 1 = _; rw [nI_add]; rfl
theorem isb48 {c A B : Nat} (hB : BD w h g T Wm lm src bn bk bs bT bC bN bW) (ht : ∀ j, j < w * h → tT j = nI (T j)) (hw : ∀ j, j < w * h → tW j = nI (Wm j)) (hc : c < w * h) (hF : 1000 ≤ F) : Ex (kloop F (fun s_ => kL_isBoard_s48 F bn bs bT bN bW tT tW (nI c) s_.1 s_.2.1 s_.2.2.1 s_.2.2.2.1 s_.2.2.2.2) (nI A, nI B, 1, 0, bL)) (fun r => r.1 = nI (A + loC (Wyf w h g Wm) T c 4) ∧ r.2.1 = nI (B + jnC (Wyf w h g Wm) T c 4) ∧ r.2.2.1 = 1) := by
  have hn := hB.n.1
  have hT := hB.2.1
  refine Ex.fr 4 (fun k s => s.1 = nI (A + loC (Wyf w h g Wm) T c k) ∧ s.2.1 = nI (B + jnC (Wyf w h g Wm) T c k) ∧ s.2.2.1 = 1 ∧ s.2.2.2.1 = nI k) ⟨rfl, rfl, rfl, rfl⟩ ?_ ?_ (by omega)
  · rintro k ⟨s1, s2, s3, s4, s5⟩ hk ⟨e1, e2, e3, e4⟩
    have e1 : s1 = nI (A + loC (Wyf w h g Wm) T c k) := e1
    have e2 : s2 = nI (B + jnC (Wyf w h g Wm) T c k) := e2
    have e3 : s3 = 1 := e3
    have e4 : s4 = nI k := e4
    subst e1 e2 e3 e4
    show Ex (kL_isBoard_s48 F bn bs bT bN bW tT tW (nI c) (nI (A + loC (Wyf w h g Wm) T c k)) (nI (B + jnC (Wyf w h g Wm) T c k)) 1 (nI k) s5) _
    unfold kL_isBoard_s48
    refine Ex.f (show ¬ (4 : Int32) ≤ nI k from nI_ge hk (by decide)) (Ex.f (by decide) (Ex.o (c_neigh hB hc hk) (Ex.o (c_joined hB hc hk) (Ex.t (ix_n (show c < 64 by omega) (by decide)) ?_))))
    rw [cl_n (show c < 2 ^ 31 by omega), ht c hc, q_bit (by have := hT c; omega) (by omega)]
    have h129 := fun v97 v98 : Int32 => isb129 (y7 := nI (A + loC (Wyf w h g Wm) T c k) + v97) (s90 := nI (B + jnC (Wyf w h g Wm) T c k)) (v98 := v98) (bL := s5) hB ht hw hc hk hF
    have hjb : jnd (Wyf w h g Wm) T c k = true → (T c).testBit k = true := jnd_b2
    have fin : ∀ x : (Int32 × Int32 × Int32 × Int32 × (Nat → Int32)) ⊕ (Int32 × Int32 × Int32 × (Nat → Int32)), (∃ bL', x = .inl (nI (A + loC (Wyf w h g Wm) T c k) + bI ((T c).testBit k && !jnd (Wyf w h g Wm) T c k), nI (B + jnC (Wyf w h g Wm) T c k) + bI (jnd (Wyf w h g Wm) T c k), 1, nI k + 1, bL')) → onS (fun s => s.1 = nI (A + loC (Wyf w h g Wm) T c (k + 1)) ∧ s.2.1 = nI (B + jnC (Wyf w h g Wm) T c (k + 1)) ∧ s.2.2.1 = 1 ∧ s.2.2.2.1 = nI (k + 1)) (fun r => r.1 = nI (A + loC (Wyf w h g Wm) T c 4) ∧ r.2.1 = nI (B + jnC (Wyf w h g Wm) T c 4) ∧ r.2.2.1 = 1) x := by
      rintro _ ⟨bL', rfl⟩
      refine ⟨?_, ?_, rfl, nI_1 k⟩
      · show nI (A + loC (Wyf w h g Wm) T c k) + bI ((T c).testBit k && !jnd (Wyf w h g Wm) T c k) = nI (A + (loC (Wyf w h g Wm) T c k + ((T c).testBit k && !jnd (Wyf w h g Wm) T c k).toNat))
        rw [nI_bI, Nat.add_assoc]
      · show nI (B + jnC (Wyf w h g Wm) T c k) + bI (jnd (Wyf w h g Wm) T c k) = nI (B + (jnC (Wyf w h g Wm) T c k + (jnd (Wyf w h g Wm) T c k).toNat))
        rw [nI_bI, Nat.add_assoc]
    cases eb : (T c).testBit k with
    | false =>
      have ej : jnd (Wyf w h g Wm) T c k = false := by
        cases x : jnd (Wyf w h g Wm) T c k with
        | false => rfl
        | true => rw [hjb x] at eb; cases eb
      rw [eb, ej] at h129 fin
      rw [ej]
      refine Ex.f (by decide) (Ex.m (P := fun x => ∃ bL', x = _) ?_ fin)
      unfold kL_isBoard_j97
      refine Ex.t rfl ?_
      unfold kL_isBoard_j115
      exact Ex.o rfl (Ex.t bI_f (h129 0 0))
    | true =>
      rw [eb] at h129 fin
      refine Ex.t rfl ?_
      cases ej : jnd (Wyf w h g Wm) T c k with
      | false =>
        rw [ej] at h129 fin
        refine Ex.m (P := fun x => ∃ bL', x = _) ?_ fin
        unfold kL_isBoard_j97
        refine Ex.f (by decide) (Ex.t bI_f ?_)
        unfold kL_isBoard_j115
        exact Ex.o rfl (Ex.t bI_f (h129 1 0))
      | true =>
        rw [ej] at h129 fin
        refine Ex.m (P := fun x => ∃ bL', x = _) ?_ fin
        unfold kL_isBoard_j97
        refine Ex.f (by decide) (Ex.f bI_n ?_)
        unfold kL_isBoard_j115
        exact Ex.o rfl (Ex.f bI_n (h129 0 1))
  · rintro ⟨s1, s2, s3, s4, s5⟩ ⟨e1, e2, e3, e4⟩
    have e4 : s4 = nI 4 := e4
    subst e4
    show Ex (kL_isBoard_s48 F bn bs bT bN bW tT tW (nI c) s1 s2 s3 (nI 4) s5) _
    unfold kL_isBoard_s48
    exact Ex.t (by decide) (Ex.v ⟨e1, e2, e3⟩)
theorem isb_ok {r : Int32} {bL' : Nat → Int32} (h : r = 1) : Ex (kL_isBoard_j359 F r bL') (fun r => r.1 = 1) := by
  subst h
  unfold kL_isBoard_j359
  exact Ex.t rfl (Ex.v rfl)
theorem opn_split {n : Nat} {Wy : Nat → Nat → Option Nat} (hT : ∀ j, T j < 16) : opn T n = sm (fun c => loC Wy T c 4) n + jnn Wy T n := by
  unfold opn jnn
  rw [← sm_add]
  refine sm_congr (fun c _ => ?_)
  show pop (T c) 16 = loC Wy T c 4 + sm (fun s => (jnd Wy T c s).toNat) 4
  unfold loC
  rw [pop4 (hT c), ← sm_add]
  refine sm_congr (fun s _ => ?_)
  show ((T c).testBit s).toNat = ((T c).testBit s && !jnd Wy T c s).toNat + (jnd Wy T c s).toNat
  cases ej : jnd Wy T c s with
  | true => rw [jnd_b2 ej]; rfl
  | false => cases (T c).testBit s <;> rfl
theorem L_isBoard (hB : BD w h g T Wm lm src bn bk bs bT bC bN bW) (ht : ∀ j, j < w * h → tT j = nI (T j)) (hw : ∀ j, j < w * h → tW j = nI (Wm j)) (hF : 1000 ≤ F) : Ex (kL_isBoard F bn bs bT bN bW bL tT tW) (fun r => r.1 = 1) := by
  obtain ⟨hn, hn1, hsrc, hT, hW⟩ := hB.n
  unfold kL_isBoard
  refine Ex.b (P := fun q => q.1 = nI (sm (fun c => loC (Wyf w h g Wm) T c 4) (w * h)) ∧ q.2.1 = nI (sm (fun c => jnC (Wyf w h g Wm) T c 4) (w * h)) ∧ q.2.2.1 = 1) (Ex.fr (w * h) (fun i s => s.1 = nI (sm (fun c => loC (Wyf w h g Wm) T c 4) i) ∧ s.2.1 = nI (sm (fun c => jnC (Wyf w h g Wm) T c 4) i) ∧ s.2.2.1 = 1 ∧ s.2.2.2.1 = nI i) ⟨rfl, rfl, rfl, rfl⟩ ?_ ?_ (by omega)) ?_
  · rintro i ⟨s1, s2, s3, s4, s5⟩ hi ⟨e1, e2, e3, e4⟩
    have e1 : s1 = nI (sm (fun c => loC (Wyf w h g Wm) T c 4) i) := e1
    have e2 : s2 = nI (sm (fun c => jnC (Wyf w h g Wm) T c 4) i) := e2
    have e3 : s3 = 1 := e3
    have e4 : s4 = nI i := e4
    subst e1 e2 e3 e4
    show Ex (kL_isBoard_s11 F bn bs bT bN bW tT tW (nI (sm (fun c => loC (Wyf w h g Wm) T c 4) i)) (nI (sm (fun c => jnC (Wyf w h g Wm) T c 4) i)) 1 (nI i) s5) _
    unfold kL_isBoard_s11
    refine Ex.o (c_size hB) (Ex.f (nI_ge hi (by omega)) (Ex.f (by decide) (Ex.o (c_tile hB hi) (Ex.t (ix_n (show i < 64 by omega) (by decide)) (Ex.t (by rw [cl_n (show i < 2 ^ 31 by omega), ht i hi]) ?_)))))
    unfold kL_isBoard_j43
    refine Ex.b (isb48 hB ht hw hi hF) ?_
    rintro ⟨q1, q2, q3, q4⟩ ⟨f1, f2, f3⟩
    exact Ex.v ⟨f1, f2, f3, nI_1 i⟩
  · rintro ⟨s1, s2, s3, s4, s5⟩ ⟨e1, e2, e3, e4⟩
    have e4 : s4 = nI (w * h) := e4
    subst e4
    show Ex (kL_isBoard_s11 F bn bs bT bN bW tT tW s1 s2 s3 (nI (w * h)) s5) _
    unfold kL_isBoard_s11
    exact Ex.o (c_size hB) (Ex.t (nI_le (Nat.le_refl _) (by omega)) (Ex.v ⟨e1, e2, e3⟩))
  · rintro ⟨q1, q2, q3, q4⟩ ⟨e1, e2, e3⟩
    have e1 : q1 = nI (sm (fun c => loC (Wyf w h g Wm) T c 4) (w * h)) := e1
    have e2 : q2 = nI (jnn (Wyf w h g Wm) T (w * h)) := e2
    have e3 : q3 = 1 := e3
    subst e1 e2 e3
    have sp := opn_split (n := w * h) (Wy := Wyf w h g Wm) hT
    have l1 := opn_le T hn
    have l2 := jnn_le (Wyf w h g Wm) T hn
    have hp := nP_le (fun b => Rc (JA (Wyf w h g Wm) T) src b) (w * h)
    have hp1 : 1 ≤ nP (fun b => Rc (JA (Wyf w h g Wm) T) src b) (w * h) := by
      have := nP_mono (fun b => Rc (JA (Wyf w h g Wm) T) src b) (k := src + 1) (l := w * h) (by omega)
      rw [nP_s1 (show Rc (JA (Wyf w h g Wm) T) src src from Rc.rf)] at this
      omega
    have hall := nP_all (p := fun b => Rc (JA (Wyf w h g Wm) T) src b) (n := w * h)
    have hcon : conA (Wyf w h g Wm) T (w * h) ↔ nP (fun b => Rc (JA (Wyf w h g Wm) T) src b) (w * h) = w * h := by
      rw [hall]
      constructor
      · intro hc i hi
        exact ((hc src hsrc).sym (fun x y hxy => hxy.sym hW)).trans (hc i hi)
      · intro hc i hi
        exact ((hc 0 (by omega)).sym (fun x y hxy => hxy.sym hW)).trans (hc i hi)
    refine Ex.b (P := fun q => q.1 = nI (nP (fun b => Rc (JA (Wyf w h g Wm) T) src b) (w * h))) (Ex.fr (w * h) (fun i s => s.1 = nI (nP (fun b => Rc (JA (Wyf w h g Wm) T) src b) i) ∧ s.2.1 = nI i) ⟨rfl, rfl⟩ ?_ ?_ (by omega)) ?_
    · rintro i ⟨s1, s2, s3⟩ hi ⟨e1, e2⟩
      have e1 : s1 = nI (nP (fun b => Rc (JA (Wyf w h g Wm) T) src b) i) := e1
      have e2 : s2 = nI i := e2
      subst e1 e2
      show Ex (kL_isBoard_s254 F bn bs bT bW (nI (nP (fun b => Rc (JA (Wyf w h g Wm) T) src b) i)) (nI i) s3) _
      unfold kL_isBoard_s254
      refine Ex.o (c_size hB) (Ex.f (nI_ge hi (by omega)) (Ex.b (c_isWat hB hi hF) ?_))
      rintro ⟨p1, p2⟩ ⟨b, f1, f2⟩
      have f1 : p1 = bI b := f1
      subst f1
      cases b with
      | false => exact Ex.t bI_f (Ex.o rfl <| Ex.v ⟨by show nI _ + nI 0 = _; rw [nI_add, nP_s0 (fun x => by cases f2.mpr x)]; rfl, nI_1 i⟩)
      | true => exact Ex.f bI_n (Ex.o rfl <| Ex.v ⟨by show nI _ + nI 1 = _; rw [nI_add, nP_s1 (f2.mp rfl)], nI_1 i⟩)
    · rintro ⟨s1, s2, s3⟩ ⟨e1, e2⟩
      have e2 : s2 = nI (w * h) := e2
      subst e2
      show Ex (kL_isBoard_s254 F bn bs bT bW s1 (nI (w * h)) s3) _
      unfold kL_isBoard_s254
      exact Ex.o (c_size hB) (Ex.t (nI_le (Nat.le_refl _) (by omega)) (Ex.v e1))
    · rintro ⟨p1, p2⟩ f1
      have f1 : p1 = nI (nP (fun b => Rc (JA (Wyf w h g Wm) T) src b) (w * h)) := f1
      subst f1
      refine Ex.f (show ¬ (1 : Int32) = 0 by decide) (Ex.o (c_loose hB hF) (Ex.t (by rw [pk_sub (by omega), sp, Nat.add_sub_cancel]) (Ex.b (c_wat hB hF) ?_)))
      rintro ⟨u1, u2⟩ g1
      have g1 : u1 = nI (nP (fun b => Rc (JA (Wyf w h g Wm) T) src b) (w * h)) := g1
      subst g1
      refine Ex.t rfl (Ex.f (Int32.not_lt.mpr (show (1 : Int32) ≤ nI _ from nI_le hp1 (by omega))) (Ex.b (c_solved hB hF) ?_))
      rintro ⟨v1, v2⟩ ⟨b, k1, k2⟩
      have k1 : v1 = bI b := k1
      subst k1
      have j351 : ∀ v : Int32, bI b = v → Ex (kL_isBoard_j351 F (bI b, v2) v) (fun r => r.1 = 1) := by
        intro v hv
        unfold kL_isBoard_j351
        exact Ex.t hv (isb_ok rfl)
      have no : ¬ Slv (Wyf w h g Wm) T (w * h) → bI b = 0 := fun x => by
        cases b with
        | false => rfl
        | true => exact absurd (k2.mp rfl) x
      by_cases a1 : sm (fun c => loC (Wyf w h g Wm) T c 4) (w * h) = 0
      · refine Ex.t (by rw [a1]; rfl) (Ex.o (c_size hB) ?_)
        by_cases a2 : nP (fun b => Rc (JA (Wyf w h g Wm) T) src b) (w * h) = w * h
        · refine Ex.t (by rw [a2]) (Ex.o (c_size hB) ?_)
          have e2 : 2 * nI (w * h) - 2 = nI (2 * (w * h - 1)) := by
            rw [i2, pk_mul, pk_sub (by omega)]
            congr 1
            omega
          rw [e2]
          by_cases a3 : jnn (Wyf w h g Wm) T (w * h) = 2 * (w * h - 1)
          · exact Ex.t (show nI (jnn (Wyf w h g Wm) T (w * h)) = _ by rw [a3]) (j351 1 (by rw [k2.mpr ⟨by omega, a3, hcon.mpr a2⟩]; rfl))
          · exact Ex.f (fun x => a3 ((nI_eq (by omega) (by omega)).mp x)) (j351 0 (no (fun x => a3 x.2.1)))
        · exact Ex.f (fun x => a2 ((nI_eq (by omega) (by omega)).mp x)) (j351 0 (no (fun x => a2 (hcon.mp x.2.2))))
      · exact Ex.f (fun x => a1 ((nI_eq (b := 0) (by omega) (by omega)).mp x)) (j351 0 (no (fun x => a1 (by have := x.1; omega))))
end IB
