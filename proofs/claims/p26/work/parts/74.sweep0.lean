/-! the sweep: digits, places -/
theorem l_inj {a b : Int64} (h : a.toBitVec = b.toBitVec) : a = b := Int64.toBitVec_inj.mp h
theorem l_bv (n : Nat) : (lN n).toBitVec = BitVec.ofNat 64 n := rfl
theorem l_amt : ∀ p, p < 12 → ((4 * nI p).toInt64 &&& 63) = lN (4 * p) := by decide +kernel
theorem l_sm : ∀ p, p < 12 → (BitVec.ofNat 64 (4 * p)).smod 64 = BitVec.ofNat 64 (4 * p) := by decide +kernel
theorem l_smn : ∀ p, p < 12 → ((BitVec.ofNat 64 (4 * p)).smod 64).toNat = 4 * p := by decide +kernel
theorem l_toInt {a : Nat} (h : a < 2 ^ 63) : (lN a).toInt = (a : Int) := lg_ofNat_toInt h
theorem l_shr {B p : Nat} (hp : p < 12) (h : B < 2 ^ 62) : lN B >>> ((4 * nI p).toInt64 &&& 63) = lN (B / 2 ^ (4 * p)) := by
  have hd : B / 2 ^ (4 * p) ≤ B := Nat.div_le_self _ _
  rw [l_amt p hp]
  apply Int64.toInt_inj.mp
  have e : (lN B >>> lN (4 * p)).toInt = (lN B).toInt >>> (4 * p) := by
    have h2 := l_smn p hp
    have h3 : (lN B >>> lN (4 * p)).toInt = (lN B).toInt >>> ((lN (4 * p)).toBitVec.smod 64).toNat := BitVec.toInt_sshiftRight ..
    rw [h3, l_bv, h2]
  rw [e, Int.shiftRight_eq_div_pow, l_toInt (by omega), l_toInt (by omega)]
  rfl
theorem l_shl {v p : Nat} (hp : p < 12) : lN v <<< ((4 * nI p).toInt64 &&& 63) = lN (v * 2 ^ (4 * p)) := by
  rw [l_amt p hp]
  apply l_inj
  rw [Int64.toBitVec_shiftLeft, l_bv, l_bv, l_bv, l_sm p hp]
  apply BitVec.eq_of_toNat_eq
  rw [BitVec.shiftLeft_eq', BitVec.toNat_shiftLeft, BitVec.toNat_ofNat, BitVec.toNat_ofNat, BitVec.toNat_ofNat, Nat.mod_eq_of_lt (show 4 * p < 2 ^ 64 by omega), Nat.shiftLeft_eq, Nat.mul_mod, Nat.mod_mod, ← Nat.mul_mod]
theorem l_or {a b : Nat} (ha : a < 2 ^ 64) (hb : b < 2 ^ 64) : lN a ||| lN b = lN (a ||| b) := by
  apply l_inj
  rw [Int64.toBitVec_or, l_bv, l_bv, l_bv]
  apply BitVec.eq_of_toNat_eq
  rw [BitVec.toNat_or, BitVec.toNat_ofNat, BitVec.toNat_ofNat, BitVec.toNat_ofNat, Nat.mod_eq_of_lt ha, Nat.mod_eq_of_lt hb, Nat.mod_eq_of_lt (Nat.or_lt_two_pow ha hb)]
def dig (B p : Nat) : Nat := B / 2 ^ (4 * p) % 16
theorem dig_lt (B p : Nat) : dig B p < 16 := Nat.mod_lt _ (by decide)
theorem q_15 {m : Nat} (hm : m < 2 ^ 32) : nI m &&& 15 = nI (m % 16) := by
  rw [i15, q_and, show (15 : Nat) = 2 ^ 4 - 1 from rfl, Nat.and_two_pow_sub_one_eq_mod]
theorem nI_mod16 (m : Nat) : nI m &&& 15 = nI (m % 16) := by
  rw [i15, q_and, show (15 : Nat) = 2 ^ 4 - 1 from rfl, Nat.and_two_pow_sub_one_eq_mod]
theorem a_dig {B p : Nat} (hp : p < 12) (h : B < 2 ^ 62) : ((lN B >>> ((4 * nI p).toInt64 &&& 63)).toInt32) &&& 15 = nI (dig B p) := by
  rw [l_shr hp h, lN_i, nI_mod16]
  rfl
/-- a digit put before the others -/
theorem dig_add {B v p : Nat} (hB : B < 2 ^ (4 * p)) : dig (B + v * 2 ^ (4 * p)) p = v % 16 := by
  unfold dig
  rw [Nat.add_mul_div_right _ _ (Nat.two_pow_pos _), Nat.div_eq_of_lt hB, Nat.zero_add]
theorem dig_low {B v p q : Nat} (hq : q < p) : dig (B + v * 2 ^ (4 * p)) q = dig B q := by
  unfold dig
  have e : 2 ^ (4 * p) = 2 ^ (4 * (p - q - 1)) * 16 * 2 ^ (4 * q) := by
    rw [show (16 : Nat) = 2 ^ 4 from rfl, ← Nat.pow_add, ← Nat.pow_add]
    congr 1
    omega
  rw [e, ← Nat.mul_assoc, ← Nat.mul_assoc, Nat.add_mul_div_right _ _ (Nat.two_pow_pos _), Nat.add_mul_mod_self_right]
theorem dig_or {B v p : Nat} (hB : B < 2 ^ (4 * p)) : B ||| v * 2 ^ (4 * p) = B + v * 2 ^ (4 * p) := by
  rw [Nat.or_comm, Nat.mul_comm, Nat.add_comm]
  exact (Nat.two_pow_add_eq_or_of_lt hB v).symm
theorem dig_ext {B B' : Nat} (hB : B < 2 ^ 48) (hB' : B' < 2 ^ 48) (h : ∀ p, p < 12 → dig B p = dig B' p) : B = B' := by
  have key : ∀ (k B B' : Nat), B < 2 ^ (4 * k) → B' < 2 ^ (4 * k) → (∀ p, p < k → dig B p = dig B' p) → B = B' := by
    intro k
    induction k with
    | zero => intro B B' h1 h2 _; simp at h1 h2; omega
    | succ k ih =>
      intro B B' h1 h2 h3
      have e : 2 ^ (4 * (k + 1)) = 2 ^ (4 * k) * 16 := by rw [show (16 : Nat) = 2 ^ 4 from rfl, ← Nat.pow_add]; congr 1
      rw [e] at h1 h2
      have d : ∀ B p, dig (B / 16) p = dig B (p + 1) := by
        intro B p
        unfold dig
        rw [Nat.div_div_eq_div_mul, show 16 * 2 ^ (4 * p) = 2 ^ (4 * (p + 1)) by rw [show (16 : Nat) = 2 ^ 4 from rfl, ← Nat.pow_add]; congr 1; omega]
      have h4 := ih (B / 16) (B' / 16) (by omega) (by omega) (fun p hp => by rw [d, d]; exact h3 (p + 1) (by omega))
      have h5 := h3 0 (by omega)
      unfold dig at h5
      simp at h5
      omega
  exact key 12 B B' hB hB' h
def PLr (v : Nat → Int32) (pl : Nat → Nat) : Prop := (∀ q, q < 12 → v q = nI (pl q)) ∧ ∀ q, q < 12 → pl q < 16
section SW
variable {F : Nat} {v vN : Nat → Int32} {pl : Nat → Nat}
theorem a_unpack {B : Nat} (hB : B < 2 ^ 48) (hF : 1000 ≤ F) : Ex (kX6_unpack F v (lN B)) (fun r => PLr r (dig B)) := by
  unfold kX6_unpack
  refine Ex.b (P := fun r => PLr r (dig B)) (Ex.fr 12 (fun i s => s.1 = nI i ∧ ∀ q, q < i → s.2 q = nI (dig B q)) ⟨rfl, fun q hq => absurd hq (Nat.not_lt_zero q)⟩ ?_ ?_ (by omega)) (fun a h => Ex.v h)
  · rintro i ⟨s0, s1⟩ hi ⟨h0, h1⟩
    have h0 : s0 = nI i := h0
    subst h0
    have h1 : ∀ q, q < i → s1 q = nI (dig B q) := h1
    show Ex (kX6_unpack_s2 F (lN B) (nI i) s1) _
    unfold kX6_unpack_s2
    rw [a_dig hi (by omega), cl_n (by omega)]
    refine Ex.f (show ¬ (12 : Int32) ≤ nI i from nI_ge hi (by decide)) (Ex.t (ix_n hi (by decide)) (Ex.v ⟨nI_1 i, fun q hq => ?_⟩))
    show upd s1 i (nI (dig B i)) q = _
    by_cases e : q = i
    · subst e; exact pk_us
    · rw [pk_un e]; exact h1 q (by omega)
  · rintro ⟨s0, s1⟩ ⟨h0, h1⟩
    have h0 : s0 = nI 12 := h0
    subst h0
    show Ex (kX6_unpack_s2 F (lN B) (nI 12) s1) _
    unfold kX6_unpack_s2
    exact Ex.t (by decide) (Ex.v ⟨h1, fun q _ => dig_lt B q⟩)
theorem a_put {p : Nat} {b : Bool} (hv : PLr v pl) (hp : p < 12) : Ex (kX6_put F v (nI p) (bI b)) (fun r => PLr r (up pl p (if b = true then 15 else 0))) := by
  unfold kX6_put
  rw [cl_n (by omega)]
  have fin : ∀ x : Nat, x < 16 → PLr (upd v p (nI x)) (up pl p x) := by
    intro x hx
    refine ⟨fun q hq => ?_, fun q hq => ?_⟩
    · by_cases e : q = p
      · subst e; rw [pk_us, up_s]
      · rw [pk_un e, up_n e]; exact hv.1 q hq
    · unfold up; split
      · exact hx
      · exact hv.2 q hq
  refine Ex.f (nI_pos (by omega)) (Ex.f (show ¬ (12 : Int32) ≤ nI p from nI_ge hp (by decide)) ?_)
  cases b with
  | false => exact Ex.t bI_f (Ex.t (ix_n hp (by decide)) (Ex.v (fin 0 (by decide))))
  | true => exact Ex.f bI_n (Ex.t (ix_n hp (by decide)) (Ex.v (fin 15 (by decide))))
theorem a_goesOn (hv : PLr v pl) (hF : 1000 ≤ F) : Ex (kX6_goesOn F v) (fun r => ∃ b, r = bI b ∧ (b = true ↔ ∃ q, q < 12 ∧ pl q = 15)) := by
  unfold kX6_goesOn
  refine Ex.b (P := fun t => (t = 0 ∧ ∃ q, q < 12 ∧ pl q = 15) ∨ (t = 1 ∧ ¬ ∃ q, q < 12 ∧ pl q = 15)) (Ex.fr 12 (fun i s => s = nI i ∧ ∀ q, q < i → pl q ≠ 15) ⟨rfl, fun q hq => absurd hq (Nat.not_lt_zero q)⟩ ?_ ?_ (by omega)) ?_
  · rintro i s hi ⟨rfl, h⟩
    show Ex (kX6_goesOn_s2 F v (nI i)) _
    unfold kX6_goesOn_s2
    rw [cl_n (by omega), hv.1 i hi]
    refine Ex.f (show ¬ (12 : Int32) ≤ nI i from nI_ge hi (by decide)) (Ex.t (ix_n hi (by decide)) ?_)
    have hl := hv.2 i hi
    by_cases e : pl i = 15
    · exact Ex.t (by rw [e]; rfl) (Ex.v (Or.inl ⟨rfl, i, hi, e⟩))
    · refine Ex.f (fun x => e ((nI_eq (by omega) (by decide)).mp x)) (Ex.v ⟨nI_1 i, fun q hq => ?_⟩)
      by_cases eq : q = i
      · subst eq; exact e
      · exact h q (by omega)
  · rintro s ⟨rfl, h⟩
    show Ex (kX6_goesOn_s2 F v (nI 12)) _
    unfold kX6_goesOn_s2
    exact Ex.t (by decide) (Ex.v (Or.inr ⟨rfl, fun ⟨q, h1, h2⟩ => h q h1 h2⟩))
  · rintro t (⟨rfl, h⟩ | ⟨rfl, h⟩)
    · exact Ex.t rfl (Ex.v ⟨true, rfl, fun _ => h, fun _ => rfl⟩)
    · exact Ex.f (by decide) (Ex.v ⟨false, rfl, fun x => (by cases x), fun x => absurd x h⟩)
/-- a joint that is taken in -/
def tk (pl : Nat → Nat) (p : Nat) (b : Bool) (q : Nat) : Nat := if q = p then 0 else if b = true ∧ pl q = pl p then 15 else pl q
theorem a_take {p : Nat} {b : Bool} (hv : PLr v pl) (hp : p < 12) (hF : 1000 ≤ F) : Ex (kX6_take F v (nI p) (bI b)) (fun r => (r.1 = 0 ∧ (pl p = 15 ∨ (b = true ↔ pl p = 0))) ∨ (r.1 = 1 ∧ pl p ≠ 15 ∧ (b = true ↔ pl p ≠ 0) ∧ PLr r.2 (tk pl p b))) := by
  have hl := hv.2 p hp
  unfold kX6_take
  refine Ex.o (a_at (by decide) hp) ?_
  rw [hv.1 p hp]
  by_cases e15 : pl p = 15
  · exact Ex.t (by rw [e15]; rfl) (Ex.v (Or.inl ⟨rfl, Or.inl e15⟩))
  · refine Ex.f (fun x => e15 ((nI_eq (by omega) (by decide)).mp x)) ?_
    have go : ∀ z : Bool, (z = true ↔ pl p ≠ 0) → Ex (kX6_take_j25 F v (nI p) (bI b) (nI (pl p)) (bI z)) (fun r => (r.1 = 0 ∧ (pl p = 15 ∨ (b = true ↔ pl p = 0))) ∨ (r.1 = 1 ∧ pl p ≠ 15 ∧ (b = true ↔ pl p ≠ 0) ∧ PLr r.2 (tk pl p b))) := by
      intro z hz
      unfold kX6_take_j25
      by_cases ebz : b = z
      · have hbp : b = true ↔ pl p ≠ 0 := by rw [ebz]; exact hz
        refine Ex.t (by rw [ebz]) (Ex.b (P := fun r => PLr r (fun q => if b = true ∧ pl q = pl p then 15 else pl q)) (Ex.fr 12 (fun i s => s.1 = nI i ∧ (∀ q, q < i → s.2 q = nI (if b = true ∧ pl q = pl p then 15 else pl q)) ∧ ∀ q, i ≤ q → q < 12 → s.2 q = nI (pl q)) ⟨rfl, fun q hq => absurd hq (Nat.not_lt_zero q), fun q _ hq => hv.1 q hq⟩ ?_ ?_ (by omega)) ?_)
        · rintro i ⟨s0, s1⟩ hi ⟨h0, h1, h2⟩
          have h0 : s0 = nI i := h0
          subst h0
          have h1 : ∀ q, q < i → s1 q = nI (if b = true ∧ pl q = pl p then 15 else pl q) := h1
          have h2 : ∀ q, i ≤ q → q < 12 → s1 q = nI (pl q) := h2
          show Ex (kX6_take_s33 F (bI b) (nI (pl p)) (nI i) s1) _
          unfold kX6_take_s33
          rw [cl_n (by omega), h2 i (Nat.le_refl i) hi]
          have hli := hv.2 i hi
          refine Ex.f (show ¬ (12 : Int32) ≤ nI i from nI_ge hi (by decide)) ?_
          have same : ¬ (b = true ∧ pl i = pl p) → Ex (some (Sum.inl (nI i + 1, s1)) : Option ((Int32 × (Nat → Int32)) ⊕ (Nat → Int32))) (onS (fun s => s.1 = nI (i + 1) ∧ (∀ q, q < i + 1 → s.2 q = nI (if b = true ∧ pl q = pl p then 15 else pl q)) ∧ ∀ q, i + 1 ≤ q → q < 12 → s.2 q = nI (pl q)) (fun r => PLr r (fun q => if b = true ∧ pl q = pl p then 15 else pl q))) := by
            intro hno
            refine Ex.v ⟨nI_1 i, fun q hq => ?_, fun q hq hq2 => h2 q (by omega) hq2⟩
            by_cases eq : q = i
            · subst eq; rw [if_neg hno]; exact h2 q (Nat.le_refl q) hi
            · exact h1 q (by omega)
          cases b with
          | false => exact Ex.t bI_f (same (fun h => by cases h.1))
          | true =>
            refine Ex.f bI_n (Ex.t (ix_n hi (by decide)) ?_)
            by_cases ee : pl i = pl p
            · refine Ex.t (by rw [ee]) (Ex.t (ix_n hi (by decide)) (Ex.v ⟨nI_1 i, fun q hq => ?_, fun q hq hq2 => ?_⟩))
              · show upd s1 i 15 q = _
                by_cases eq : q = i
                · subst eq; rw [pk_us, if_pos ⟨rfl, ee⟩]; rfl
                · rw [pk_un eq]; exact h1 q (by omega)
              · show upd s1 i 15 q = _
                rw [pk_un (by omega)]; exact h2 q (by omega) hq2
            · exact Ex.f (fun x => ee ((nI_eq (by omega) (by omega)).mp x)) (same (fun h => ee h.2))
        · rintro ⟨s0, s1⟩ ⟨h0, h1, h2⟩
          have h0 : s0 = nI 12 := h0
          subst h0
          show Ex (kX6_take_s33 F (bI b) (nI (pl p)) (nI 12) s1) _
          unfold kX6_take_s33
          refine Ex.t (by decide) (Ex.v ⟨h1, fun q hq => ?_⟩)
          show (if b = true ∧ pl q = pl p then 15 else pl q) < 16
          split
          · decide
          · exact hv.2 q hq
        · intro r hr
          refine Ex.b (a_put (b := false) hr hp) ?_
          intro r2 hr2
          refine Ex.v (Or.inr ⟨rfl, e15, hbp, ?_⟩)
          have e : up (fun q => if b = true ∧ pl q = pl p then 15 else pl q) p (if false = true then 15 else 0) = tk pl p b := by
            funext q
            unfold up tk
            rfl
          rw [e] at hr2
          exact hr2
      · refine Ex.f (fun x => ebz ((bI_e _ _).mp x)) (Ex.v (Or.inl ⟨rfl, Or.inr ?_⟩))
        cases b with
        | true =>
          refine ⟨fun _ => ?_, fun _ => rfl⟩
          apply Classical.byContradiction
          intro h
          exact ebz (hz.mpr h).symm
        | false =>
          refine ⟨fun x => (by cases x), fun h => ?_⟩
          cases z with
          | false => exact absurd rfl ebz
          | true => exact absurd h (hz.mp rfl)
    by_cases e0 : pl p = 0
    · exact Ex.t (by rw [e0]; rfl) (go false ⟨fun x => (by cases x), fun x => absurd e0 x⟩)
    · exact Ex.f (fun x => e0 ((nI_eq (by omega) (by decide)).mp x)) (go true ⟨fun _ => e0, fun _ => rfl⟩)
theorem a_fill {n : Nat} {x : Int32} (hn : n < 100) (hF : 1000 ≤ F) : Ex (kJ7_fill_53178 F n v x) (fun r => (∀ q, q < n → r q = x) ∧ ∀ q, n ≤ q → r q = v q) := by
  unfold kJ7_fill_53178
  refine Ex.b (P := fun r => (∀ q, q < n → r q = x) ∧ ∀ q, n ≤ q → r q = v q) (Ex.fr n (fun i s => s.1 = nI i ∧ (∀ q, q < i → s.2 q = x) ∧ ∀ q, i ≤ q → s.2 q = v q) ⟨rfl, fun q hq => absurd hq (Nat.not_lt_zero q), fun _ _ => rfl⟩ ?_ ?_ (by omega)) (fun a h => Ex.v h)
  · rintro i ⟨s0, s1⟩ hi ⟨h0, h1, h2⟩
    have h0 : s0 = nI i := h0
    subst h0
    show Ex (kJ7_fill_53178_s5 F n x (nI i) s1) _
    unfold kJ7_fill_53178_s5
    rw [cl_n (by omega)]
    refine Ex.f (show ¬ Int32.ofNat n ≤ nI i from nI_ge hi (by omega)) (Ex.t (ix_n hi (by omega)) (Ex.v ⟨nI_1 i, fun q hq => ?_, fun q hq => ?_⟩))
    · show upd s1 i x q = _
      by_cases e : q = i
      · subst e; exact pk_us
      · rw [pk_un e]; exact h1 q (by omega)
    · show upd s1 i x q = _
      rw [pk_un (by omega)]; exact h2 q (by omega)
  · rintro ⟨s0, s1⟩ ⟨h0, h1, h2⟩
    have h0 : s0 = nI n := h0
    subst h0
    show Ex (kJ7_fill_53178_s5 F n x (nI n) s1) _
    unfold kJ7_fill_53178_s5
    exact Ex.t (show Int32.ofNat n ≤ nI n from nI_le (Nat.le_refl n) (by omega)) (Ex.v ⟨h1, h2⟩)
/-- the names of a packed border: one for each part that stands at one of the first p places -/
def NM (pl nm : Nat → Nat) (p m : Nat) : Prop := nm 0 = 0 ∧ m ≤ p ∧ (∀ z, nm z ≤ m) ∧ (∀ z, nm z ≠ 0 ↔ z ≠ 0 ∧ ∃ q, q < p ∧ pl q = z) ∧ ∀ z z', nm z ≠ 0 → nm z = nm z' → z = z'
theorem a_pack (hv : PLr v pl) (hF : 1000 ≤ F) : Ex (kX6_pack F v vN) (fun r => ∃ B, r.1 = lN B ∧ B < 2 ^ 48 ∧ (∀ q, q < 12 → dig B q ≤ q + 1) ∧ (∀ q, q < 12 → (dig B q ≠ 0 ↔ pl q ≠ 0)) ∧ ∀ q q', q < 12 → q' < 12 → pl q ≠ 0 → (dig B q = dig B q' ↔ pl q = pl q')) := by
  unfold kX6_pack
  refine Ex.b (a_fill (n := 16) (x := 0) (by decide) hF) ?_
  rintro w0 ⟨hw0, -⟩
  refine Ex.b (P := fun r => ∃ B nm m, r.1 = lN B ∧ B < 2 ^ 48 ∧ NM pl nm 12 m ∧ (∀ q, q < 12 → dig B q = nm (pl q)) ∧ ∀ q, q < 12 → nm (pl q) ≤ q + 1) (Ex.fr 12 (fun p s => ∃ B nm m, s.1 = nI m ∧ s.2.1 = lN B ∧ s.2.2.1 = nI p ∧ (∀ z, z < 16 → s.2.2.2 z = nI (nm z)) ∧ B < 2 ^ (4 * p) ∧ NM pl nm p m ∧ (∀ q, q < p → dig B q = nm (pl q)) ∧ ∀ q, q < p → nm (pl q) ≤ q + 1) ⟨0, fun _ => 0, 0, rfl, rfl, rfl, fun z hz => hw0 z hz, by decide, ⟨rfl, Nat.le_refl 0, fun _ => Nat.le_refl 0, fun z => ⟨fun h => absurd rfl h, fun ⟨_, q, hq, _⟩ => absurd hq (Nat.not_lt_zero q)⟩, fun z z' h => absurd rfl h⟩, fun q hq => absurd hq (Nat.not_lt_zero q), fun q hq => absurd hq (Nat.not_lt_zero q)⟩ ?_ ?_ (by omega)) ?_
  · rintro p ⟨s0, s1, s2, w⟩ hp ⟨B, nm, m, h0, h1, h2, hw, hB, hN, hd, hle⟩
    have h0 : s0 = nI m := h0
    have h1 : s1 = lN B := h1
    have h2 : s2 = nI p := h2
    subst h0 h1 h2
    have hw : ∀ z, z < 16 → w z = nI (nm z) := hw
    obtain ⟨n0, n1, n2, n3, n4⟩ := hN
    have hl := hv.2 p hp
    show Ex (kX6_pack_s15 F v (nI m) (lN B) (nI p) w) _
    unfold kX6_pack_s15
    rw [cl_n (show p < 2 ^ 31 by omega), hv.1 p hp, nI_mod16, Nat.mod_eq_of_lt hl, cl_n (show pl p < 2 ^ 31 by omega), hw _ hl]
    have hB64 : 2 ^ (4 * p) ≤ 2 ^ 44 := Nat.pow_le_pow_right (by decide) (by omega)
    have e16 : 2 ^ (4 * (p + 1)) = 16 * 2 ^ (4 * p) := by rw [show (16 : Nat) = 2 ^ 4 from rfl, ← Nat.pow_add]; congr 1; omega
    have go : ∀ (nm' : Nat → Nat) (m' : Nat) (w' : Nat → Int32), (∀ z, z < 16 → w' z = nI (nm' z)) → NM pl nm' (p + 1) m' → (∀ q, q < p → nm' (pl q) = nm (pl q)) → Ex (kX6_pack_j60 F v (lN B) (nI p) (nI m') w') (onS (fun s => ∃ B nm m, s.1 = nI m ∧ s.2.1 = lN B ∧ s.2.2.1 = nI (p + 1) ∧ (∀ z, z < 16 → s.2.2.2 z = nI (nm z)) ∧ B < 2 ^ (4 * (p + 1)) ∧ NM pl nm (p + 1) m ∧ (∀ q, q < p + 1 → dig B q = nm (pl q)) ∧ ∀ q, q < p + 1 → nm (pl q) ≤ q + 1) (fun r => ∃ B nm m, r.1 = lN B ∧ B < 2 ^ 48 ∧ NM pl nm 12 m ∧ (∀ q, q < 12 → dig B q = nm (pl q)) ∧ ∀ q, q < 12 → nm (pl q) ≤ q + 1)) := by
      intro nm' m' w' hw' hN' hsame
      have hm' := hN'.2.1
      have hnv := hN'.2.2.1 (pl p)
      unfold kX6_pack_j60
      rw [cl_n (show p < 2 ^ 31 by omega), hv.1 p hp, nI_mod16, Nat.mod_eq_of_lt hl, cl_n (show pl p < 2 ^ 31 by omega), hw' _ hl, nI_l (show nm' (pl p) < 2 ^ 31 by omega), l_shl hp, l_or (by omega) (by
        have : nm' (pl p) * 2 ^ (4 * p) ≤ 13 * 2 ^ (4 * p) := Nat.mul_le_mul_right _ (by omega)
        omega), dig_or hB]
      refine Ex.t (ix_n hl (by decide)) (Ex.v ⟨B + nm' (pl p) * 2 ^ (4 * p), nm', m', rfl, rfl, nI_1 p, hw', ?_, hN', fun q hq => ?_, fun q hq => ?_⟩)
      · have : nm' (pl p) * 2 ^ (4 * p) ≤ 13 * 2 ^ (4 * p) := Nat.mul_le_mul_right _ (by omega)
        rw [e16]; omega
      · by_cases e : q = p
        · subst e
          rw [dig_add hB, Nat.mod_eq_of_lt (by omega)]
        · rw [dig_low (by omega), hd q (by omega), hsame q (by omega)]
      · by_cases e : q = p
        · subst e; omega
        · rw [hsame q (by omega)]; exact hle q (by omega)
    refine Ex.f (show ¬ (12 : Int32) ≤ nI p from nI_ge hp (by decide)) (Ex.t (ix_n hp (by decide)) ?_)
    by_cases e0 : pl p = 0
    · refine Ex.t (by rw [e0]; rfl) (go nm m w hw ⟨n0, by omega, n2, fun z => (n3 z).trans ⟨fun ⟨a, q, b, c⟩ => ⟨a, q, by omega, c⟩, fun ⟨a, q, b, c⟩ => ⟨a, q, ?_, c⟩⟩, n4⟩ (fun _ _ => rfl))
      by_cases eq : q = p
      · subst eq; exact absurd (c.symm.trans e0) a
      · omega
    · refine Ex.f (fun x => e0 ((nI_eq (by omega) (by decide)).mp x)) (Ex.t (ix_n hl (by decide)) ?_)
      have hnb := n2 (pl p)
      by_cases e1 : nm (pl p) = 0
      · refine Ex.t (by rw [e1]; rfl) (Ex.t (ix_n hl (by decide)) ?_)
        rw [nI_1]
        refine go (up nm (pl p) (m + 1)) (m + 1) _ (fun z hz => ?_) ⟨?_, by omega, fun z => ?_, fun z => ?_, fun z z' hz he => ?_⟩ (fun q hq => ?_)
        · by_cases ez : z = pl p
          · subst ez; rw [pk_us, up_s]
          · rw [pk_un ez, up_n ez]; exact hw z hz
        · rw [up_n (fun x => e0 x.symm)]; exact n0
        · by_cases ez : z = pl p
          · subst ez; rw [up_s]; exact Nat.le_refl _
          · rw [up_n ez]; have := n2 z; omega
        · by_cases ez : z = pl p
          · subst ez
            rw [up_s]
            exact ⟨fun _ => ⟨e0, p, by omega, rfl⟩, fun _ => by omega⟩
          · rw [up_n ez, n3 z]
            exact ⟨fun ⟨a, q, b, c⟩ => ⟨a, q, by omega, c⟩, fun ⟨a, q, b, c⟩ => ⟨a, q, by
              by_cases eq : q = p
              · subst eq; exact absurd c.symm ez
              · omega, c⟩⟩
        · by_cases ez : z = pl p
          · by_cases ez' : z' = pl p
            · rw [ez, ez']
            · rw [ez, up_s, up_n ez'] at he
              have := n2 z'
              omega
          · by_cases ez' : z' = pl p
            · rw [ez', up_s, up_n ez] at he
              have := n2 z
              omega
            · rw [up_n ez, up_n ez'] at he
              rw [up_n ez] at hz
              exact n4 z z' hz he
        · rw [up_n (fun x => ?_)]
          have := (n3 (pl p)).mpr ⟨e0, q, hq, x⟩
          exact this e1
      · refine Ex.f (fun x => e1 ((nI_eq (by omega) (by decide)).mp x)) (go nm m w hw ⟨n0, by omega, n2, fun z => (n3 z).trans ⟨fun ⟨a, q, b, c⟩ => ⟨a, q, by omega, c⟩, fun ⟨a, q, b, c⟩ => ?_⟩, n4⟩ (fun _ _ => rfl))
        by_cases eq : q = p
        · subst eq
          subst c
          exact (n3 _).mp e1
        · exact ⟨a, q, by omega, c⟩
  · rintro ⟨s0, s1, s2, w⟩ ⟨B, nm, m, h0, h1, h2, hw, hB, hN, hd, hle⟩
    have h2 : s2 = nI 12 := h2
    subst h2
    show Ex (kX6_pack_s15 F v s0 s1 (nI 12) w) _
    unfold kX6_pack_s15
    exact Ex.t (by decide) (Ex.v ⟨B, nm, m, h1, hB, hN, hd, hle⟩)
  · rintro ⟨r0, r1⟩ ⟨B, nm, m, h0, hB, ⟨n0, n1, n2, n3, n4⟩, hd, hle⟩
    refine Ex.v ⟨B, h0, hB, fun q hq => by rw [hd q hq]; exact hle q hq, fun q hq => ?_, fun q q' hq hq' hz => ?_⟩
    · rw [hd q hq, n3]
      exact ⟨fun h => h.1, fun h => ⟨h, q, hq, rfl⟩⟩
    · rw [hd q hq, hd q' hq']
      exact ⟨fun h => n4 _ _ ((n3 _).mpr ⟨hz, q, hq, rfl⟩) h, fun h => by rw [h]⟩
end SW
-- where the joints stand along the border
def plc (w h : Nat) (g : Bool) (c s : Nat) : Nat := (if s % 2 = 0 then c % w else 5) + (if (match nbr w h g c s with | some d => decide (c < d) | none => false) = decide (s = 1 ∨ s = 2) then 0 else 6)
def ownP (w c p : Nat) : Nat × Nat := if p < 5 then (p + ((c + w - 1 - p) / w - 1) * w, 2) else if p = 5 then (c - 1, 1) else if p < 11 then (p - 6, 0) else (c / w * w, 3)
def geoP (w h : Nat) (g : Bool) (c s : Nat) : Bool := !(okS w h g && decide (c < w * h)) || (match nbr w h g c s with
  | none => true
  | some d => decide (plc w h g c s = plc w h g d ((s + 2) % 4)) && decide (plc w h g c s < 12) && (g || decide (plc w h g c s < 6)) && (List.range 17).all fun c1 => !(decide (c < c1) && decide (c1 ≤ d)) || decide (ownP w c1 (plc w h g c s) = (c, s)))
def geoA : Bool := (List.range 6).all fun w => (List.range 6).all fun h => [false, true].all fun g => (List.range 16).all fun c => (List.range 4).all fun s => geoP w h g c s
theorem geoA_t : geoA = true := by decide +kernel
theorem geo {w h : Nat} {g : Bool} (o : okS w h g = true) {c s d : Nat} (hc : c < w * h) (hs : s < 4) (e : nbr w h g c s = some d) : plc w h g c s = plc w h g d ((s + 2) % 4) ∧ plc w h g c s < 12 ∧ (g = false → plc w h g c s < 6) ∧ ∀ c1, c < c1 → c1 ≤ d → ownP w c1 (plc w h g c s) = (c, s) := by
  obtain ⟨h1, h2, h3, h4, h5⟩ := okS_b o
  have t := geoA_t
  unfold geoA at t
  have t := List.all_eq_true.mp t w (List.mem_range.mpr (by omega))
  have t := List.all_eq_true.mp t h (List.mem_range.mpr (by omega))
  have t := List.all_eq_true.mp t g (by cases g <;> simp)
  have t := List.all_eq_true.mp t c (List.mem_range.mpr (by omega))
  have t := List.all_eq_true.mp t s (List.mem_range.mpr hs)
  unfold geoP at t
  rw [o, decide_eq_true hc, e] at t
  have t : (_ && _ && _ && _) = true := t
  rw [Bool.and_eq_true, Bool.and_eq_true, Bool.and_eq_true] at t
  obtain ⟨⟨⟨t1, t2⟩, t3⟩, t4⟩ := t
  have hd := (nb_lt o hc hs e).1
  refine ⟨of_decide_eq_true t1, of_decide_eq_true t2, fun hg => ?_, fun c1 hc1 hc2 => ?_⟩
  · subst hg
    simpa using t3
  · have t5 := List.all_eq_true.mp t4 c1 (List.mem_range.mpr (by omega))
    rw [decide_eq_true hc1, decide_eq_true hc2] at t5
    simpa using t5
