/-! lists of borders, further (laid by wip/whole/alloc.py) -/
theorem gz {a b c d e f : Nat} (hm : a ≤ b ∧ c ≤ d) (hf : b ≤ e ∧ d ≤ f) : gC a b ≤ gC a e ∧ gS a b c d ≤ gS a e c f := by
  unfold gC gS; omega
theorem gz_t {a b c d e f : Nat} (h1 : a ≤ b ∧ c ≤ d) (h2 : b ≤ e ∧ d ≤ f) : a ≤ e ∧ c ≤ f := ⟨Nat.le_trans h1.1 h2.1, Nat.le_trans h1.2 h2.2⟩
theorem gC_add {a b c : Nat} (h1 : a ≤ b) (h2 : b ≤ c) : gC a b + gC b c ≤ gC a c := by
  unfold gC; omega
theorem gS_add {a b c d e f : Nat} (h1 : a ≤ b ∧ c ≤ d) (h2 : b ≤ e ∧ d ≤ f) : gS a b c d + gS b e d f ≤ gS a e c f := by
  unfold gS; omega
theorem gz_c {a b c d e f g h : Nat} (hm : a ≤ b ∧ c ≤ d) (hmo : b ≤ e ∧ d ≤ f) (hfi : e ≤ g ∧ f ≤ h) : gC a b + gC b e ≤ gC a g := by
  unfold gC; omega
theorem gz_s {a b c d e f g h : Nat} (hm : a ≤ b ∧ c ≤ d) (hmo : b ≤ e ∧ d ≤ f) (hfi : e ≤ g ∧ f ≤ h) : gS a b c d + gS b e d f ≤ gS a g c h := by
  unfold gS; omega
theorem mo_X1_makeRoom {F : Nat} {lc : Int32} {nb : Nat} {lb : Nat → Int64} {nw : Nat} {lw : Nat → Int32} {r : Nat × (Nat → Int64) × Nat × (Nat → Int32)} (hq : kX1_makeRoom F lc nb lb nw lw = some r) : nb ≤ r.1 ∧ nw ≤ r.2.2.1 := by
  unfold kX1_makeRoom at hq
  split at hq
  · cases hq; exact ⟨Nat.le_refl _, Nat.le_refl _⟩
  · split at hq
    · cases hq; exact ⟨Nat.le_refl _, Nat.le_refl _⟩
    · obtain ⟨a, ea, hq⟩ := ob hq
      obtain ⟨b, eb, hq⟩ := ob hq
      obtain ⟨hg, hq⟩ := k_g hq
      cases hq
      obtain ⟨h1, h2, h3, h4⟩ := of_decide_eq_true hg
      exact ⟨by show nb ≤ a.1; omega, by show nw ≤ b.1; omega⟩
def kX1_add_s3 (F : Nat) (nb : Nat) (nw : Nat) (lc : Int32) (lb : Nat → Int64) (x1 : Int64) (s9 : Int32) : Option ((Int32) ⊕ (Nat × Int32)) :=
  (if lc ≤ s9 then some (.inr (1, s9)) else (if (Int32.ofNat nb) ≤ s9 then some (.inr (1, s9)) else (if (Int32.ofNat nw) ≤ s9 then some (.inr (1, s9)) else (if ix s9 nb = true then (if (lg_cmp (lb s9.toNatClampNeg) x1) = 0 then some (.inr (0, s9)) else some (.inl (s9 + 1))) else none))))
def kX1_add (F : Nat) (lc : Int32) (nb : Nat) (lb : Nat → Int64) (nw : Nat) (lw : Nat → Int32) (x1 : Int64) (x3 : Int32) : Option (Int32 × Nat × (Nat → Int64) × Nat × (Nat → Int32)) :=
  ((kloop F (fun s_ => kX1_add_s3 F nb nw lc lb x1 s_) 0).bind fun q10 => (if q10.1 = 0 then (if ix q10.2 nw = true then (if ix q10.2 nw = true then some (lc, nb, lb, nw, upd lw q10.2.toNatClampNeg ((lw q10.2.toNatClampNeg) + x3)) else none) else none) else ((kX1_makeRoom F lc nb lb nw lw).bind fun q11 => (if lc < 0 then some (lc, q11.1, q11.2.1, q11.2.2.1, q11.2.2.2) else (if (Int32.ofNat q11.1) ≤ lc then some (lc, q11.1, q11.2.1, q11.2.2.1, q11.2.2.2) else (if (Int32.ofNat q11.2.2.1) ≤ lc then some (lc, q11.1, q11.2.1, q11.2.2.1, q11.2.2.2) else (if ix lc q11.1 = true then (if ix lc q11.2.2.1 = true then some (lc + 1, q11.1, vp_updL q11.2.1 lc.toNatClampNeg x1, q11.2.2.1, upd q11.2.2.2 lc.toNatClampNeg x3) else none) else none)))))))
theorem mo_X1_add {F : Nat} {lc : Int32} {nb : Nat} {lb : Nat → Int64} {nw : Nat} {lw : Nat → Int32} {x1 : Int64} {x3 : Int32} {r : Int32 × Nat × (Nat → Int64) × Nat × (Nat → Int32)} (hq : kX1_add F lc nb lb nw lw x1 x3 = some r) : nb ≤ r.2.1 ∧ nw ≤ r.2.2.2.1 := by
  unfold kX1_add at hq
  obtain ⟨q, eq, hq⟩ := ob hq
  split at hq
  · obtain ⟨-, hq⟩ := k_g hq
    obtain ⟨-, hq⟩ := k_g hq
    cases hq
    exact ⟨Nat.le_refl _, Nat.le_refl _⟩
  · obtain ⟨p, ep, hq⟩ := ob hq
    have h := mo_X1_makeRoom ep
    (repeat' split at hq) <;> first | (cases hq; exact h) | cases hq

set_option maxHeartbeats 40000000 in
set_option maxRecDepth 100000 in
theorem tX1_add (G : GG) (l : Launch) {qL qLb qLw : Nat} {nb : Nat} {nw : Nat} {lc : Int32} {lb : Nat → Int64} {lw : Nat → Int32} {x1 : Int64} {x3 : Int32} {sz : Nat} {F : Nat} {r : Int32 × Nat × (Nat → Int64) × Nat × (Nat → Int32)} (hq : kX1_add F lc nb lb nw lw x1 x3 = some r) : Met l yX1_add wsX1_add ({ frames := 3, cells := gC nb r.2.1, slots := gS nb r.2.1 nw r.2.2.2.1, locals := 131 } : Room) (pcW G [(qL, .inr (1, [.ref qLb, .ref qLw, .int lc])), (qLb, .inl (G.2.2.1, nb, .inr (.inl lb))), (qLw, .inl (G.2.1, nw, .inl lw))] sz [.ref qL, .long x1, .int x3]) (va_Qv (S := Unit) (fun _ => True) (fun _ t => ∃ ga0 ga1 : Nat, va_P G.1 vwCl [(qL, .inr (1, [.ref ga0, .ref ga1, .int r.1])), (ga0, .inl (G.2.2.1, r.2.1, .inr (.inl r.2.2.1))), (ga1, .inl (G.2.1, r.2.2.2.1, .inl r.2.2.2.2))] t.heap ∧ va_D (va_A [(qL, .inr (1, [.ref qLb, .ref qLw, .int lc])), (qLb, .inl (G.2.2.1, nb, .inr (.inl lb))), (qLw, .inl (G.2.1, nw, .inl lw))] sz) [(qL, .inr (1, [.ref ga0, .ref ga1, .int r.1])), (ga0, .inl (G.2.2.1, r.2.1, .inr (.inl r.2.2.1))), (ga1, .inl (G.2.1, r.2.2.2.1, .inl r.2.2.2.2))]) (va_A [(qL, .inr (1, [.ref qLb, .ref qLw, .int lc])), (qLb, .inl (G.2.2.1, nb, .inr (.inl lb))), (qLw, .inl (G.2.1, nw, .inl lw))] sz)) (gC nb r.2.1) (gS nb r.2.1 nw r.2.2.2.1) (va_A [(qL, .inr (1, [.ref qLb, .ref qLw, .int lc])), (qLb, .inl (G.2.2.1, nb, .inr (.inl lb))), (qLw, .inl (G.2.1, nw, .inl lw))] sz) := by
  refine Met.ofW (cc := cX1_add) (maxL := 5) (ret := none) (by decide) rfl ?_
  intro p e s m args below meth c s₁ B hml hv
  obtain ⟨rfl, hsz, hP, hKK, hD0⟩ := hv
  have hK := hKK.1
  have hx := B.exec
  have hb := B.bytes
  have hr := B.returns
  have hts := atoms_spec (ws := wsX1_add) B.pre
  have hown : s.vm.findClass RX1 = some m.cls := findClass_of_methodNamed B.named
  have hlocks := B.notSynchronized
  subst hsz
  have hD := hD0.self (sz := s.heap.size)
  generalize hAe : va_A [(qL, .inr (1, [.ref qLb, .ref qLw, .int lc])), (qLb, .inl (G.2.2.1, nb, .inr (.inl lb))), (qLw, .inl (G.2.1, nw, .inl lw))] s.heap.size = A at hD ⊢
  have hA : ∀ q : Nat, s.heap.size ≤ q → A q := fun q h => by rw [← hAe]; exact Or.inr h
  have hS : va_S A s.heap s.heap [] := va_S.rf
  have hl := lv_entry ([.ref qL, .long x1, .int x3] : List Value) (n := 5) (Nat.le_of_ble_eq_true rfl)
  rw [lg_entry_eq]
  generalize (lg_sl ([.ref qL, .long x1, .int x3] : List Value) ++ List.replicate (5 - (lg_sl ([.ref qL, .long x1, .int x3] : List Value)).length) Slot.unset).toArray = ls at hl ⊢
  have hl : lv_has ls 5 [(0, .ref qL), (1, .long x1), (3, .int x3)] := hl
  have hi1 : ∀ w ∈ u_ws RX1 TX1 3, w ∈ wsX1_add := by decide +kernel
  have hw0 : (Cond.fieldLink RX1 17 "NetPlumber$BorderList" "count" "I").before #[Value.ref qL, Value.long x1, Value.int x3] s = true := hts _ (by decide +kernel)
  have hw1 : (Cond.fieldLink RX1 7 "NetPlumber$BorderList" "borders" "[J").before #[Value.ref qL, Value.long x1, Value.int x3] s = true := hts _ (by decide +kernel)
  have hw2 : (Cond.fieldLink RX1 13 "NetPlumber$BorderList" "ways" "[I").before #[Value.ref qL, Value.long x1, Value.int x3] s = true := hts _ (by decide +kernel)
  refine wq (fun Q hQ => ?_)
  have hfi0 := mo_X1_add hq
  refine W.widen (k := gC nb nb) (n := gS nb nb nw nw) (Nat.zero_le _) (Nat.zero_le _) ?_
  have hm := And.intro (Nat.le_refl nb) (Nat.le_refl nw)
  have hz := gz hm hfi0
  unfold kX1_add at hq
  refine lv_iconst (v := 0) hx hb dX1_add_0 (by decide) ?_
  refine lv_istore (lv' := [(4, .int 0), (0, .ref qL), (1, .long x1), (3, .int x3)]) hx hb dX1_add_1 hl (by decide) rfl (fun ls hl => ?_)
  have L3 : ∀ (n : Nat) (s9 : Int32) (t_3 : Nat × Int32) (ls : Array Slot) (H : Heap) (locs : List Loc), kloop n (fun s_ => kX1_add_s3 F nb nw lc lb x1 s_) s9 = some t_3 → lv_has ls 5 [(0, .ref qL), (1, .long x1), (3, .int x3), (4, .int s9)] → va_P G.1 vwCl [(qL, .inr (1, [.ref qLb, .ref qLw, .int lc])), (qLb, .inl (G.2.2.1, nb, .inr (.inl lb))), (qLw, .inl (G.2.1, nw, .inl lw))] H → va_D A [(qL, .inr (1, [.ref qLb, .ref qLw, .int lc])), (qLb, .inl (G.2.2.1, nb, .inr (.inl lb))), (qLw, .inl (G.2.1, nw, .inl lw))] → va_S A s.heap H locs → (nb ≤ nb ∧ nw ≤ nw) → (nb ≤ r.2.1 ∧ nw ≤ r.2.2.2.1) → (∀ (_ : t_3.1 = 0) (ls : Array Slot) (H : Heap) (locs : List Loc), lv_has ls 5 [(0, .ref qL), (3, .int x3), (4, .int t_3.2)] → va_P G.1 vwCl [(qL, .inr (1, [.ref qLb, .ref qLw, .int lc])), (qLb, .inl (G.2.2.1, nb, .inr (.inl lb))), (qLw, .inl (G.2.1, nw, .inl lw))] H → va_D A [(qL, .inr (1, [.ref qLb, .ref qLw, .int lc])), (qLb, .inl (G.2.2.1, nb, .inr (.inl lb))), (qLw, .inl (G.2.1, nw, .inl lw))] → va_S A s.heap H locs → (nb ≤ nb ∧ nw ≤ nw) → W p l e (headSpec wsX1_add ({ frames := 3, cells := gC nb r.2.1, slots := gS nb r.2.1 nw r.2.2.2.1, locals := 131 } : Room)).room s m ([.ref qL, .long x1, .int x3] : List Value).toArray below meth c H locs (gC nb nb) (gS nb nb nw nw) Q (F0 m 44 ls [])) → (∀ (_ : t_3.1 = 1) (ls : Array Slot) (H : Heap) (locs : List Loc), lv_has ls 5 [(0, .ref qL), (1, .long x1), (3, .int x3)] → va_P G.1 vwCl [(qL, .inr (1, [.ref qLb, .ref qLw, .int lc])), (qLb, .inl (G.2.2.1, nb, .inr (.inl lb))), (qLw, .inl (G.2.1, nw, .inl lw))] H → va_D A [(qL, .inr (1, [.ref qLb, .ref qLw, .int lc])), (qLb, .inl (G.2.2.1, nb, .inr (.inl lb))), (qLw, .inl (G.2.1, nw, .inl lw))] → va_S A s.heap H locs → (nb ≤ nb ∧ nw ≤ nw) → W p l e (headSpec wsX1_add ({ frames := 3, cells := gC nb r.2.1, slots := gS nb r.2.1 nw r.2.2.2.1, locals := 131 } : Room)).room s m ([.ref qL, .long x1, .int x3] : List Value).toArray below meth c H locs (gC nb nb) (gS nb nb nw nw) Q (F0 m 62 ls [])) → W p l e (headSpec wsX1_add ({ frames := 3, cells := gC nb r.2.1, slots := gS nb r.2.1 nw r.2.2.2.1, locals := 131 } : Room)).room s m ([.ref qL, .long x1, .int x3] : List Value).toArray below meth c H locs (gC nb nb) (gS nb nb nw nw) Q (F0 m 3 ls []) := by
    intro n
    induction n with
    | zero => 
      intro s9 t_3 ls H locs hq hl hP hD hS hm hft3 kk3_44 kk3_62
      exact absurd hq kl_0
    | succ n ih3 =>
      intro s9 t_3 ls H locs hq hl hP hD hS hm hft3 kk3_44 kk3_62
      have hfs := And.intro (Nat.le_refl nb) (Nat.le_refl nw)
      have hz := gz hm (gz_t hfs hft3)
      obtain ⟨y_3, hq, hx3⟩ := kl_s hq
      have hq : kX1_add_s3 F nb nw lc lb x1 s9 = some y_3 := hq
      unfold kX1_add_s3 at hq
      refine lv_iload hx hb dX1_add_3 (lv_at hl 3 rfl) ?_
      refine lv_aload_n hx hb dX1_add_5 rfl (lv_at hl 0 rfl) ?_
      refine va_get (D := G.1) (ci := 1) (v := .int lc) (C := RX1) (T := TX1) (N := 3) hx hb hts hi1 hown hK hP 0 rfl rfl 2 (by decide) hw0 (fun _ h9 => h9) rfl dX1_add_6 ?_
      refine lv_icmp_ge (tgt := 62) hx hb dX1_add_9 (by decide) (fun c_9 => ?_) (fun c_9 => ?_)
      · have hq := k_t c_9 hq
        have et := kl_exit hq hx3
        subst et
        exact kk3_62 rfl ls _ _ (lv_sub hl [0, 1, 2] rfl) hP hD hS hm
      · have hq := k_f c_9 hq
        refine lv_iload hx hb dX1_add_12 (lv_at hl 3 rfl) ?_
        refine lv_aload_n hx hb dX1_add_14 rfl (lv_at hl 0 rfl) ?_
        refine va_get (D := G.1) (ci := 1) (v := .ref qLb) (C := RX1) (T := TX1) (N := 3) hx hb hts hi1 hown hK hP 0 rfl rfl 0 (by decide) hw1 (fun _ h9 => h9) rfl dX1_add_15 ?_
        refine va_alen hx hb hK hP 1 1 rfl rfl (v := (Int32.ofNat nb)) rfl dX1_add_18 ?_
        refine lv_icmp_ge (tgt := 62) hx hb dX1_add_19 (by decide) (fun c_19 => ?_) (fun c_19 => ?_)
        · have hq := k_t c_19 hq
          have et := kl_exit hq hx3
          subst et
          exact kk3_62 rfl ls _ _ (lv_sub hl [0, 1, 2] rfl) hP hD hS hm
        · have hq := k_f c_19 hq
          refine lv_iload hx hb dX1_add_22 (lv_at hl 3 rfl) ?_
          refine lv_aload_n hx hb dX1_add_24 rfl (lv_at hl 0 rfl) ?_
          refine va_get (D := G.1) (ci := 1) (v := .ref qLw) (C := RX1) (T := TX1) (N := 3) hx hb hts hi1 hown hK hP 0 rfl rfl 1 (by decide) hw2 (fun _ h9 => h9) rfl dX1_add_25 ?_
          refine va_alen hx hb hK hP 2 0 rfl rfl (v := (Int32.ofNat nw)) rfl dX1_add_28 ?_
          refine lv_icmp_ge (tgt := 62) hx hb dX1_add_29 (by decide) (fun c_29 => ?_) (fun c_29 => ?_)
          · have hq := k_t c_29 hq
            have et := kl_exit hq hx3
            subst et
            exact kk3_62 rfl ls _ _ (lv_sub hl [0, 1, 2] rfl) hP hD hS hm
          · have hq := k_f c_29 hq
            refine lv_aload_n hx hb dX1_add_32 rfl (lv_at hl 0 rfl) ?_
            refine va_get (D := G.1) (ci := 1) (v := .ref qLb) (C := RX1) (T := TX1) (N := 3) hx hb hts hi1 hown hK hP 0 rfl rfl 0 (by decide) hw1 (fun _ h9 => h9) rfl dX1_add_33 ?_
            refine lv_iload hx hb dX1_add_36 (lv_at hl 3 rfl) ?_
            obtain ⟨hg, hq⟩ := k_g hq
            refine va_lald hx hb hK hP 1 1 rfl rfl (ix_in hg) dX1_add_38 ?_
            refine lv_lload_n hx hb dX1_add_39 rfl (lv_at hl 1 rfl) ?_
            refine W.lcmp hx hb dX1_add_40 ?_
            refine lv_if_ne (tgt := 56) hx hb dX1_add_41 (by decide) (fun c_41 => ?_) (fun c_41 => ?_)
            · have hq := k_f c_41 hq
              refine lv_iinc (v := (s9 + 1)) (lv' := [(4, .int (s9 + 1)), (0, .ref qL), (1, .long x1), (3, .int x3)]) hx hb dX1_add_56 hl (k := 3) rfl rfl (by decide) rfl (fun ls hl => ?_)
              refine lv_goto (tgt := 3) hx hb dX1_add_59 (by decide) ?_
              exact ih3 (s9 + 1) t_3 ls _ _ (kl_back hq hx3) (lv_sub hl [1, 2, 3, 0] rfl) hP hD hS hm hft3 kk3_44 kk3_62
            · have hq := k_t c_41 hq
              have et := kl_exit hq hx3
              subst et
              exact kk3_44 rfl ls _ _ (lv_sub hl [0, 2, 3] rfl) hP hD hS hm
  obtain ⟨q10, eq10, hq⟩ := ob hq
  have hft : (nb ≤ r.2.1 ∧ nw ≤ r.2.2.2.1) := by
    exact hfi0
  refine L3 F 0 q10 ls _ _ (eq10) (lv_sub hl [1, 2, 3, 0] rfl) hP hD hS hm hft (fun he ls H locs hl hP hD hS hm => ?_) (fun he ls H locs hl hP hD hS hm => ?_)
  · have hz := gz hm hft
    have hq := k_t he hq
    refine lv_aload_n hx hb dX1_add_44 rfl (lv_at hl 0 rfl) ?_
    refine va_get (D := G.1) (ci := 1) (v := .ref qLw) (C := RX1) (T := TX1) (N := 3) hx hb hts hi1 hown hK hP 0 rfl rfl 1 (by decide) hw2 (fun _ h9 => h9) rfl dX1_add_45 ?_
    refine lv_iload hx hb dX1_add_48 (lv_at hl 2 rfl) ?_
    refine lv_dup2_11 hx hb dX1_add_50 rfl rfl ?_
    obtain ⟨hg, hq⟩ := k_g hq
    refine va_iald hx hb hK hP 2 0 rfl rfl (ix_in hg) dX1_add_51 ?_
    refine lv_iload_n hx hb dX1_add_52 rfl (lv_at hl 1 rfl) ?_
    refine lv_iadd hx hb dX1_add_53 ?_
    obtain ⟨hg, hq⟩ := k_g hq
    refine va_iast hx hb hK hP hD hS 2 0 rfl rfl (ix_in hg) dX1_add_54 (fun H locs hP hD hS => ?_)
    have hP : va_P G.1 vwCl [(qL, .inr (1, [.ref qLb, .ref qLw, .int lc])), (qLb, .inl (G.2.2.1, nb, .inr (.inl lb))), (qLw, .inl (G.2.1, nw, .inl (upd lw q10.2.toNatClampNeg ((lw q10.2.toNatClampNeg) + x3))))] H := hP
    have hD : va_D A [(qL, .inr (1, [.ref qLb, .ref qLw, .int lc])), (qLb, .inl (G.2.2.1, nb, .inr (.inl lb))), (qLw, .inl (G.2.1, nw, .inl (upd lw q10.2.toNatClampNeg ((lw q10.2.toNatClampNeg) + x3))))] := hD
    obtain rfl := Option.some.inj hq
    rw [hQ]
    exact W.vret hx hb hr (fun t ht hW => ⟨⟨(), rfl, trivial, _, _, va_Pat ht hP, hD⟩, hS.F ht⟩) hS.2.2 dX1_add_55
  · have hz := gz hm hft
    have hq := k_f (show ¬ q10.1 = 0 by rw [he]; decide) hq
    refine lv_aload_n hx hb dX1_add_62 rfl (lv_at hl 0 rfl) ?_
    obtain ⟨q11, eq11, hq⟩ := ob hq
    have hPc := hP.sub (ws' := [(qL, .inr (1, [.ref qLb, .ref qLw, .int lc])), (qLb, .inl (G.2.2.1, nb, .inr (.inl lb))), (qLw, .inl (G.2.1, nw, .inl lw))]) [0, 1, 2] rfl
    have hKc := hK
    have hDc := hD.sub (ws' := [(qL, .inr (1, [.ref qLb, .ref qLw, .int lc])), (qLb, .inl (G.2.2.1, nb, .inr (.inl lb))), (qLw, .inl (G.2.1, nw, .inl lw))]) [0, 1, 2] (by decide) rfl
    have hFc := va_free (wc := [(qL, .inr (1, [.ref qLb, .ref qLw, .int lc])), (qLb, .inl (G.2.2.1, nb, .inr (.inl lb))), (qLw, .inl (G.2.1, nw, .inl lw))]) hD hS hA [0, 1, 2] rfl
    have hmo := mo_X1_makeRoom eq11
    have hfi : q11.1 ≤ r.2.1 ∧ q11.2.2.1 ≤ r.2.2.2.1 := by
      have h9 := hq
      (repeat' split at h9) <;> first | (cases h9; exact ⟨Nat.le_refl _, Nat.le_refl _⟩) | cases h9
    refine va_callv (va_runV (As := []) (rest := []) ⟨hx, hb, hml, hown, hts⟩ (tX1_makeRoom G l eq11) (cwV 0 hts gX1_add_X1_makeRoom rfl rfl rfl (by decide +kernel) ⟨Nat.le_of_ble_eq_true rfl, Nat.le_of_ble_eq_true rfl⟩) ⟨pcW_blind, va_recv hKc hPc (ci := 1) (q0 := 0) rfl rfl, pcW_pre hPc hKK hDc⟩ rfl rfl hl.1 rfl (lv_room (Nat.le_of_ble_eq_true rfl)) dX1_add_63 ⟨gz_c hm hmo hfi, gz_s hm hmo hfi⟩) hS (fun q _ h => hFc q h) hFc (fun u t H1 locs ht hvm hw hB hz1 hk1 hS => ?_)
    obtain ⟨g12, g13, hB, hBD⟩ := hB
    have hB := va_Pto ht hB
    obtain ⟨hP, hD⟩ := va_join (wr := []) (w1 := [(qL, .inr (1, [.ref g12, .ref g13, .int lc])), (g12, .inl (G.2.2.1, q11.1, .inr (.inl q11.2.1))), (g13, .inl (G.2.1, q11.2.2.1, .inl q11.2.2.2))]) hP hD [0, 1, 2] [] rfl rfl (by decide) (by decide) hk1 hFc hB hBD
    generalize H1 = H at hP hS ⊢
    have hP := hP.sub (ws' := [(qL, .inr (1, [.ref g12, .ref g13, .int lc])), (g12, .inl (G.2.2.1, q11.1, .inr (.inl q11.2.1))), (g13, .inl (G.2.1, q11.2.2.1, .inl q11.2.2.2))]) [0, 1, 2] rfl
    have hD := hD.sub (ws' := [(qL, .inr (1, [.ref g12, .ref g13, .int lc])), (g12, .inl (G.2.2.1, q11.1, .inr (.inl q11.2.1))), (g13, .inl (G.2.1, q11.2.2.1, .inl q11.2.2.2))]) [0, 1, 2] (by decide) rfl
    refine W.widen (k := (gC nb q11.1)) (n := (gS nb q11.1 nw q11.2.2.1)) (gC_add hm.1 hmo.1) (gS_add hm hmo) ?_
    have hm : nb ≤ q11.1 ∧ nw ≤ q11.2.2.1 := ⟨Nat.le_trans hm.1 hmo.1, Nat.le_trans hm.2 hmo.2⟩
    have hz := gz hm hfi
    refine lv_aload_n hx hb dX1_add_66 rfl (lv_at hl 0 rfl) ?_
    refine va_get (D := G.1) (ci := 1) (v := .int lc) (C := RX1) (T := TX1) (N := 3) hx hb hts hi1 hown hK hP 0 rfl rfl 2 (by decide) hw0 (fun _ h9 => h9) rfl dX1_add_67 ?_
    refine lv_if_lt (tgt := 127) hx hb dX1_add_70 (by decide) (fun c_70 => ?_) (fun c_70 => ?_)
    · have hq := k_t c_70 hq
      obtain rfl := Option.some.inj hq
      rw [hQ]
      exact W.vret hx hb hr (fun t ht hW => ⟨⟨(), rfl, trivial, _, _, va_Pat ht hP, hD⟩, hS.F ht⟩) hS.2.2 dX1_add_127
    · have hq := k_f c_70 hq
      refine lv_aload_n hx hb dX1_add_73 rfl (lv_at hl 0 rfl) ?_
      refine va_get (D := G.1) (ci := 1) (v := .int lc) (C := RX1) (T := TX1) (N := 3) hx hb hts hi1 hown hK hP 0 rfl rfl 2 (by decide) hw0 (fun _ h9 => h9) rfl dX1_add_74 ?_
      refine lv_aload_n hx hb dX1_add_77 rfl (lv_at hl 0 rfl) ?_
      refine va_get (D := G.1) (ci := 1) (v := .ref g12) (C := RX1) (T := TX1) (N := 3) hx hb hts hi1 hown hK hP 0 rfl rfl 0 (by decide) hw1 (fun _ h9 => h9) rfl dX1_add_78 ?_
      refine va_alen hx hb hK hP 1 1 rfl rfl (v := (Int32.ofNat q11.1)) rfl dX1_add_81 ?_
      refine lv_icmp_ge (tgt := 127) hx hb dX1_add_82 (by decide) (fun c_82 => ?_) (fun c_82 => ?_)
      · have hq := k_t c_82 hq
        obtain rfl := Option.some.inj hq
        rw [hQ]
        exact W.vret hx hb hr (fun t ht hW => ⟨⟨(), rfl, trivial, _, _, va_Pat ht hP, hD⟩, hS.F ht⟩) hS.2.2 dX1_add_127
      · have hq := k_f c_82 hq
        refine lv_aload_n hx hb dX1_add_85 rfl (lv_at hl 0 rfl) ?_
        refine va_get (D := G.1) (ci := 1) (v := .int lc) (C := RX1) (T := TX1) (N := 3) hx hb hts hi1 hown hK hP 0 rfl rfl 2 (by decide) hw0 (fun _ h9 => h9) rfl dX1_add_86 ?_
        refine lv_aload_n hx hb dX1_add_89 rfl (lv_at hl 0 rfl) ?_
        refine va_get (D := G.1) (ci := 1) (v := .ref g13) (C := RX1) (T := TX1) (N := 3) hx hb hts hi1 hown hK hP 0 rfl rfl 1 (by decide) hw2 (fun _ h9 => h9) rfl dX1_add_90 ?_
        refine va_alen hx hb hK hP 2 0 rfl rfl (v := (Int32.ofNat q11.2.2.1)) rfl dX1_add_93 ?_
        refine lv_icmp_ge (tgt := 127) hx hb dX1_add_94 (by decide) (fun c_94 => ?_) (fun c_94 => ?_)
        · have hq := k_t c_94 hq
          obtain rfl := Option.some.inj hq
          rw [hQ]
          exact W.vret hx hb hr (fun t ht hW => ⟨⟨(), rfl, trivial, _, _, va_Pat ht hP, hD⟩, hS.F ht⟩) hS.2.2 dX1_add_127
        · have hq := k_f c_94 hq
          refine lv_aload_n hx hb dX1_add_97 rfl (lv_at hl 0 rfl) ?_
          refine va_get (D := G.1) (ci := 1) (v := .ref g12) (C := RX1) (T := TX1) (N := 3) hx hb hts hi1 hown hK hP 0 rfl rfl 0 (by decide) hw1 (fun _ h9 => h9) rfl dX1_add_98 ?_
          refine lv_aload_n hx hb dX1_add_101 rfl (lv_at hl 0 rfl) ?_
          refine va_get (D := G.1) (ci := 1) (v := .int lc) (C := RX1) (T := TX1) (N := 3) hx hb hts hi1 hown hK hP 0 rfl rfl 2 (by decide) hw0 (fun _ h9 => h9) rfl dX1_add_102 ?_
          refine lv_lload_n hx hb dX1_add_105 rfl (lv_at hl 1 rfl) ?_
          obtain ⟨hg, hq⟩ := k_g hq
          refine va_last hx hb hK hP hD hS 1 1 rfl rfl (ix_in hg) dX1_add_106 (fun H locs hP hD hS => ?_)
          have hP : va_P G.1 vwCl [(qL, .inr (1, [.ref g12, .ref g13, .int lc])), (g12, .inl (G.2.2.1, q11.1, .inr (.inl (vp_updL q11.2.1 lc.toNatClampNeg x1)))), (g13, .inl (G.2.1, q11.2.2.1, .inl q11.2.2.2))] H := hP
          have hD : va_D A [(qL, .inr (1, [.ref g12, .ref g13, .int lc])), (g12, .inl (G.2.2.1, q11.1, .inr (.inl (vp_updL q11.2.1 lc.toNatClampNeg x1)))), (g13, .inl (G.2.1, q11.2.2.1, .inl q11.2.2.2))] := hD
          refine lv_aload_n hx hb dX1_add_107 rfl (lv_at hl 0 rfl) ?_
          refine va_get (D := G.1) (ci := 1) (v := .ref g13) (C := RX1) (T := TX1) (N := 3) hx hb hts hi1 hown hK hP 0 rfl rfl 1 (by decide) hw2 (fun _ h9 => h9) rfl dX1_add_108 ?_
          refine lv_aload_n hx hb dX1_add_111 rfl (lv_at hl 0 rfl) ?_
          refine va_get (D := G.1) (ci := 1) (v := .int lc) (C := RX1) (T := TX1) (N := 3) hx hb hts hi1 hown hK hP 0 rfl rfl 2 (by decide) hw0 (fun _ h9 => h9) rfl dX1_add_112 ?_
          refine lv_iload_n hx hb dX1_add_115 rfl (lv_at hl 2 rfl) ?_
          obtain ⟨hg, hq⟩ := k_g hq
          refine va_iast hx hb hK hP hD hS 2 0 rfl rfl (ix_in hg) dX1_add_116 (fun H locs hP hD hS => ?_)
          have hP : va_P G.1 vwCl [(qL, .inr (1, [.ref g12, .ref g13, .int lc])), (g12, .inl (G.2.2.1, q11.1, .inr (.inl (vp_updL q11.2.1 lc.toNatClampNeg x1)))), (g13, .inl (G.2.1, q11.2.2.1, .inl (upd q11.2.2.2 lc.toNatClampNeg x3)))] H := hP
          have hD : va_D A [(qL, .inr (1, [.ref g12, .ref g13, .int lc])), (g12, .inl (G.2.2.1, q11.1, .inr (.inl (vp_updL q11.2.1 lc.toNatClampNeg x1)))), (g13, .inl (G.2.1, q11.2.2.1, .inl (upd q11.2.2.2 lc.toNatClampNeg x3)))] := hD
          refine lv_aload_n hx hb dX1_add_117 rfl (lv_at hl 0 rfl) ?_
          refine lv_dup hx hb dX1_add_118 rfl ?_
          refine va_get (D := G.1) (ci := 1) (v := .int lc) (C := RX1) (T := TX1) (N := 3) hx hb hts hi1 hown hK hP 0 rfl rfl 2 (by decide) hw0 (fun _ h9 => h9) rfl dX1_add_119 ?_
          refine lv_iconst (v := 1) hx hb dX1_add_122 (by decide) ?_
          refine lv_iadd hx hb dX1_add_123 ?_
          refine va_put (D := G.1) (ci := 1) (v := .int (lc + 1)) (ty := .int) (C := RX1) (T := TX1) (N := 3) hx hb hts hi1 tyX1 tyX1_ok nmX1 hown hK hP hD hS 0 rfl rfl 2 (by decide) hw0 (fun _ h9 => h9) rfl (by decide +kernel) rfl rfl (Nat.le_of_ble_eq_true rfl) dX1_add_124 (fun H locs hP hD hS => ?_)
          have hP : va_P G.1 vwCl [(qL, .inr (1, [.ref g12, .ref g13, .int (lc + 1)])), (g12, .inl (G.2.2.1, q11.1, .inr (.inl (vp_updL q11.2.1 lc.toNatClampNeg x1)))), (g13, .inl (G.2.1, q11.2.2.1, .inl (upd q11.2.2.2 lc.toNatClampNeg x3)))] H := hP
          have hD : va_D A [(qL, .inr (1, [.ref g12, .ref g13, .int (lc + 1)])), (g12, .inl (G.2.2.1, q11.1, .inr (.inl (vp_updL q11.2.1 lc.toNatClampNeg x1)))), (g13, .inl (G.2.1, q11.2.2.1, .inl (upd q11.2.2.2 lc.toNatClampNeg x3)))] := hD
          obtain rfl := Option.some.inj hq
          rw [hQ]
          exact W.vret hx hb hr (fun t ht hW => ⟨⟨(), rfl, trivial, _, _, va_Pat ht hP, hD⟩, hS.F ht⟩) hS.2.2 dX1_add_127
