/-! what the search finds: how many, the fewest, the first -/
def ntN (n : Nat) (a : Nat → Nat) (st : Nat × Nat × (Nat → Nat)) : Nat × Nat × (Nat → Nat) := (st.1 + 1, if st.1 = 0 then sm a n else min st.2.1 (sm a n), if st.1 = 0 then a else st.2.2)
def RlN (s : Int32 × Nat × (Nat → Nat)) (t : Nat × Nat × (Nat → Nat)) : Prop := s.1 = nI t.1 ∧ s.2 = t.2
theorem nI_z {k : Nat} (h : k < 2 ^ 31) : nI k = 0 ↔ k = 0 := nI_eq (b := 0) h (by decide)
section SN
variable {acc : (Nat → Nat) → Prop} {n : Nat}
theorem srU_rel : ∀ (m : Nat) (a : Nat → Nat) (s : Int32 × Nat × (Nat → Nat)) (t : Nat × Nat × (Nat → Nat)), RlN s t → t.1 + 4 ^ m ≤ 2 ^ 26 → RlN (srU acc (note n) n m a s) (srU acc (ntN n) n m a t) ∧ (srU acc (ntN n) n m a t).1 ≤ t.1 + 4 ^ m
  | 0, a, s, t, hr, hb => by
    show RlN (cif (acc a) (note n a s) s) (cif (acc a) (ntN n a t) t) ∧ (cif (acc a) (ntN n a t) t).1 ≤ t.1 + 1
    have hb : t.1 + 1 ≤ 2 ^ 26 := hb
    have p26 : (2 : Nat) ^ 26 = 67108864 := rfl
    by_cases h : acc a
    · rw [cif_t h, cif_t h]
      obtain ⟨s1, s2⟩ := s
      obtain ⟨t1, t2⟩ := t
      obtain ⟨e1, e2⟩ := hr
      have e1 : s1 = nI t1 := e1
      have e2 : s2 = t2 := e2
      have hb : t1 + 1 ≤ 2 ^ 26 := hb
      subst e1 e2
      refine ⟨⟨?_, ?_⟩, Nat.le_refl _⟩
      · show nI t1 + 1 = nI (t1 + 1)
        exact nI_1 t1
      · show ((if nI t1 = 0 then sm a n else min s2.1 (sm a n)), (if nI t1 = 0 then a else s2.2)) = ((if t1 = 0 then sm a n else min s2.1 (sm a n)), (if t1 = 0 then a else s2.2))
        by_cases hz : t1 = 0
        · rw [if_pos ((nI_z (by omega)).mpr hz), if_pos hz, if_pos ((nI_z (by omega)).mpr hz), if_pos hz]
        · rw [if_neg (fun x => hz ((nI_z (by omega)).mp x)), if_neg hz, if_neg (fun x => hz ((nI_z (by omega)).mp x)), if_neg hz]
    · rw [cif_f h, cif_f h]
      exact ⟨hr, Nat.le_succ _⟩
  | m + 1, a, s, t, hr, hb => by
    have e4 : (4 : Nat) ^ (m + 1) = 4 * 4 ^ m := by rw [Nat.pow_succ]; omega
    have key : ∀ k, k ≤ 4 → RlN (iter (fun k s => srU acc (note n) n m (up a (n - (m + 1)) k) s) k s) (iter (fun k s => srU acc (ntN n) n m (up a (n - (m + 1)) k) s) k t) ∧ (iter (fun k s => srU acc (ntN n) n m (up a (n - (m + 1)) k) s) k t).1 ≤ t.1 + k * 4 ^ m := by
      intro k
      induction k with
      | zero => intro _; exact ⟨hr, by show t.1 ≤ t.1 + 0 * 4 ^ m; omega⟩
      | succ k ih =>
        intro hk
        obtain ⟨i1, i2⟩ := ih (by omega)
        have hk4 : k * 4 ^ m ≤ 3 * 4 ^ m := Nat.mul_le_mul_right _ (by omega)
        have i3 := srU_rel m (up a (n - (m + 1)) k) _ _ i1 (by rw [e4] at hb; omega)
        refine ⟨i3.1, Nat.le_trans i3.2 ?_⟩
        rw [Nat.succ_mul]; omega
    have := key 4 (Nat.le_refl 4)
    rw [e4]
    exact this
/-- what each note keeps, is kept -/
theorem srU_keep {P : Nat × Nat × (Nat → Nat) → Prop} (hP : ∀ a s, acc a → P s → P (ntN n a s)) : ∀ (m : Nat) (a : Nat → Nat) (s : Nat × Nat × (Nat → Nat)), P s → P (srU acc (ntN n) n m a s)
  | 0, a, s, h => by
    show P (cif (acc a) (ntN n a s) s)
    by_cases q : acc a
    · rw [cif_t q]; exact hP a s q h
    · rw [cif_f q]; exact h
  | m + 1, a, s, h => by
    have key : ∀ k, P (iter (fun k s => srU acc (ntN n) n m (up a (n - (m + 1)) k) s) k s) := by
      intro k
      induction k with
      | zero => exact h
      | succ k ih => exact srU_keep hP m _ _ ih
    exact key 4
theorem iter_hit {σ : Type} {f : Nat → σ → σ} {P : σ → Prop} {k0 : Nat} {s : σ} (h : P (f k0 (iter f k0 s))) (hk : ∀ k s, P s → P (f k s)) : ∀ k, k0 < k → P (iter f k s)
  | 0, hlt => absurd hlt (Nat.not_lt_zero _)
  | k + 1, hlt => by
    by_cases e : k0 = k
    · subst e; exact h
    · exact hk k _ (iter_hit h hk k (by omega))
theorem sm_loc {a b : Nat → Nat} (h : ∀ i, i < n → a i = b i) : sm a n = sm b n := sm_congr h
/-- what is there to be found, is found -/
theorem srU_hit (hloc : ∀ a b : Nat → Nat, (∀ i, i < n → a i = b i) → acc a → acc b) {b : Nat → Nat} (hb : acc b) (hd : ∀ i, i < n → b i < 4) : ∀ (m : Nat) (a : Nat → Nat) (s : Nat × Nat × (Nat → Nat)), m ≤ n → (∀ i, i < n - m → a i = b i) → (fun s : Nat × Nat × (Nat → Nat) => 0 < s.1 ∧ s.2.1 ≤ sm b n) (srU acc (ntN n) n m a s)
  | 0, a, s, _, h => by
    have h : ∀ i, i < n → a i = b i := fun i hi => h i (by omega)
    have hacc : acc a := hloc b a (fun i hi => (h i hi).symm) hb
    show 0 < (cif (acc a) (ntN n a s) s).1 ∧ (cif (acc a) (ntN n a s) s).2.1 ≤ sm b n
    rw [cif_t hacc]
    refine ⟨Nat.succ_pos _, ?_⟩
    show (if s.1 = 0 then sm a n else min s.2.1 (sm a n)) ≤ sm b n
    rw [sm_loc h]
    split
    · exact Nat.le_refl _
    · exact Nat.min_le_right _ _
  | m + 1, a, s, hm, h => by
    have hk : ∀ (k : Nat) (s : Nat × Nat × (Nat → Nat)), (fun s : Nat × Nat × (Nat → Nat) => 0 < s.1 ∧ s.2.1 ≤ sm b n) s → (fun s : Nat × Nat × (Nat → Nat) => 0 < s.1 ∧ s.2.1 ≤ sm b n) (srU acc (ntN n) n m (up a (n - (m + 1)) k) s) := fun k s hs => srU_keep (P := fun s => 0 < s.1 ∧ s.2.1 ≤ sm b n) (fun a s _ hs => ⟨Nat.succ_pos _, by
      show (if s.1 = 0 then sm a n else min s.2.1 (sm a n)) ≤ sm b n
      rw [if_neg (show ¬ s.1 = 0 by have := hs.1; omega)]
      exact Nat.le_trans (Nat.min_le_left _ _) hs.2⟩) m _ s hs
    refine iter_hit (f := fun k s => srU acc (ntN n) n m (up a (n - (m + 1)) k) s) (P := fun s => 0 < s.1 ∧ s.2.1 ≤ sm b n) (k0 := b (n - (m + 1))) ?_ hk 4 (hd _ (by omega))
    refine srU_hit hloc hb hd m _ _ (by omega) (fun i hi => ?_)
    by_cases e : i = n - (m + 1)
    · rw [e, up_s]
    · rw [up_n e]; exact h i (by omega)
/-- the zero lays come first -/
theorem srU_zero (hloc : ∀ a b : Nat → Nat, (∀ i, i < n → a i = b i) → acc a → acc b) (hb : acc (fun _ => 0)) : ∀ (m : Nat) (a : Nat → Nat) (s : Nat × Nat × (Nat → Nat)), m ≤ n → (∀ i, i < n - m → a i = 0) → s.1 = 0 → (fun s : Nat × Nat × (Nat → Nat) => 0 < s.1 ∧ ∀ i, i < n → s.2.2 i = 0) (srU acc (ntN n) n m a s)
  | 0, a, s, _, h, hs => by
    have h : ∀ i, i < n → a i = 0 := fun i hi => h i (by omega)
    have hacc : acc a := hloc _ a (fun i hi => (h i hi).symm) hb
    show 0 < (cif (acc a) (ntN n a s) s).1 ∧ ∀ i, i < n → (cif (acc a) (ntN n a s) s).2.2 i = 0
    rw [cif_t hacc]
    refine ⟨Nat.succ_pos _, fun i hi => ?_⟩
    show (if s.1 = 0 then a else s.2.2) i = 0
    rw [if_pos hs]; exact h i hi
  | m + 1, a, s, hm, h, hs => by
    have hk : ∀ (k : Nat) (s : Nat × Nat × (Nat → Nat)), (fun s : Nat × Nat × (Nat → Nat) => 0 < s.1 ∧ ∀ i, i < n → s.2.2 i = 0) s → (fun s : Nat × Nat × (Nat → Nat) => 0 < s.1 ∧ ∀ i, i < n → s.2.2 i = 0) (srU acc (ntN n) n m (up a (n - (m + 1)) k) s) := fun k s hs => srU_keep (P := fun s => 0 < s.1 ∧ ∀ i, i < n → s.2.2 i = 0) (fun a s _ hs => ⟨Nat.succ_pos _, fun i hi => by
      show (if s.1 = 0 then a else s.2.2) i = 0
      rw [if_neg (show ¬ s.1 = 0 by have := hs.1; omega)]
      exact hs.2 i hi⟩) m _ s hs
    refine iter_hit (f := fun k s => srU acc (ntN n) n m (up a (n - (m + 1)) k) s) (P := fun s => 0 < s.1 ∧ ∀ i, i < n → s.2.2 i = 0) (k0 := 0) ?_ hk 4 (by decide)
    refine srU_zero hloc hb m _ _ (by omega) (fun i hi => ?_) hs
    by_cases e : i = n - (m + 1)
    · rw [e, up_s]
    · rw [up_n e]; exact h i (by omega)
end SN
section SE
variable {n : Nat} {Wy : Nat → Nat → Option Nat} {T O : Nat → Nat}
theorem Sol_loc {a b : Nat → Nat} (hW : WOK n Wy) (h : ∀ i, i < n → a i = b i) (hs : Sol Wy T O n a) : Sol Wy T O n b := by
  have ht : ∀ i, i < n → tls T a i = tls T b i := fun i hi => by show rot (T i) (a i) = rot (T i) (b i); rw [h i hi]
  refine ⟨fun c hc => by rw [← h c hc]; exact hs.1 c hc, fun c hc => fitU_loc (fun i hi => ht i (by omega)) (hs.2.1 c hc), fun c hc => NoC_loc (fun i hi => ht i (by omega)) (hs.2.2.1 c hc), fun c hc => (hs.2.2.2 c hc).mono (fun x y hxy => ?_)⟩
  obtain ⟨hx, hy, -⟩ := hxy.lt hW
  obtain ⟨s, h4, e, h1, h2⟩ := JA_i.mp hxy
  exact JA_i.mpr ⟨s, h4, e, by rw [← ht x hx]; exact h1, by rw [← ht y hy]; exact h2⟩
/-- all that is asked of the search -/
theorem srE_all (hW : WOK n Wy) (hn1 : 1 ≤ n) (hn : n ≤ 12) (hT : ∀ j, T j < 16) (hO : ∀ j, O j < 16) : ∃ (cnt few : Nat) (fst : Nat → Nat), srE Wy T O n = (nI cnt, few, fst) ∧ cnt ≤ 2 ^ 24 ∧ (cnt ≠ 0 → Sol Wy T O n fst ∧ few ≤ sm fst n) ∧ (∀ b, Sol Wy T O n b → cnt ≠ 0 ∧ few ≤ sm b n) ∧ (Sol Wy T O n (fun _ => 0) → ∀ i, i < n → fst i = 0) := by
  have e0 : srE Wy T O n = srU (fun a => Sol Wy T O n a) (note n) n n (fun _ => 0) (0, 0, fun _ => 0) := by
    unfold srE
    rw [srP_U prR_loc n (fun _ => 0) _ (Nat.le_refl n) (fun c hc => by omega)]
    have e : (fun a => (∀ c, c < n → prR Wy T O c a) ∧ qR Wy T n a) = (fun a => Sol Wy T O n a) := funext (fun a => propext (Sol_ref hW hn1 hT hO))
    rw [e]
  have h4 : (4 : Nat) ^ n ≤ 4 ^ 12 := Nat.pow_le_pow_right (by decide) hn
  have p12 : (4 : Nat) ^ 12 = 16777216 := rfl
  have p24 : (2 : Nat) ^ 24 = 16777216 := rfl
  have p26 : (2 : Nat) ^ 26 = 67108864 := rfl
  obtain ⟨hr, hl⟩ := srU_rel (acc := fun a => Sol Wy T O n a) (n := n) n (fun _ => 0) (0, 0, fun _ => 0) (0, 0, fun _ => 0) ⟨rfl, rfl⟩ (by show 0 + 4 ^ n ≤ 2 ^ 26; omega)
  have hl : (srU (fun a => Sol Wy T O n a) (ntN n) n n (fun _ => 0) (0, 0, fun _ => 0)).1 ≤ 0 + 4 ^ n := hl
  have hf := srU_keep (acc := fun a => Sol Wy T O n a) (n := n) (P := fun s => s.1 ≠ 0 → Sol Wy T O n s.2.2 ∧ s.2.1 ≤ sm s.2.2 n) (fun a s hacc hs _ => by
    show Sol Wy T O n (if s.1 = 0 then a else s.2.2) ∧ (if s.1 = 0 then sm a n else min s.2.1 (sm a n)) ≤ sm (if s.1 = 0 then a else s.2.2) n
    by_cases h0 : s.1 = 0
    · rw [if_pos h0, if_pos h0]; exact ⟨hacc, Nat.le_refl _⟩
    · rw [if_neg h0, if_neg h0]; exact ⟨(hs h0).1, Nat.le_trans (Nat.min_le_left _ _) (hs h0).2⟩) n (fun _ => 0) (0, 0, fun _ => 0) (fun h => absurd rfl h)
  refine ⟨_, _, _, e0.trans (Prod.ext hr.1 hr.2), by omega, hf, fun b hb => ?_, fun hz => ?_⟩
  · have := srU_hit (acc := fun a => Sol Wy T O n a) (fun a b h hs => Sol_loc hW h hs) hb (fun i hi => lt_of_tb (hO i) (hb.1 i hi)) n (fun _ => 0) (0, 0, fun _ => 0) (Nat.le_refl n) (fun i hi => by omega)
    exact ⟨Nat.pos_iff_ne_zero.mp this.1, this.2⟩
  · have := srU_zero (acc := fun a => Sol Wy T O n a) (fun a b h hs => Sol_loc hW h hs) hz n (fun _ => 0) (0, 0, fun _ => 0) (Nat.le_refl n) (fun i hi => by omega) rfl
    exact this.2
end SE
