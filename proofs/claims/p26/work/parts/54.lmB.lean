/-! the law's own method isBoard (laid by wip/p26/lawm.py) -/
abbrev rmL_isBoard : Room := { frames := 5, cells := 0, slots := 0, locals := 112 }
set_option maxHeartbeats 40000000 in
set_option maxRecDepth 100000 in
theorem tL_isBoard (G : GG) (l : Launch) {qX qB qH qK qV qS qW qBT qBC qBN qBW qBL qTT qTW : Nat} {bn : Int32} {bk : Int32} {bs : Int32} {bT : Nat → Int32} {bN : Nat → Int32} {bW : Nat → Int32} {bL : Nat → Int32} {tT : Nat → Int32} {tW : Nat → Int32} {sz : Nat} {F : Nat} {r : Int32 × (Nat → Int32)} (hq : kL_isBoard F bn bs bT bN bW bL tT tW = some r) : Met l yL_isBoard wsL_isBoard rmL_isBoard (pcW G [(qX, .inr (7, [.ref qB, .ref qH, .ref qK, .ref qV, .ref qS, .ref qW])), (qB, .inr (0, [.ref qBT, .ref qBC, .ref qBN, .ref qBW, .ref qBL, .int bn, .int bk, .int bs])), (qBT, .inl (G.2.1, 16, .inl bT)), (qBN, .inl (G.2.1, 64, .inl bN)), (qBW, .inl (G.2.1, 64, .inl bW)), (qBL, .inl (G.2.1, 16, .inl bL)), (qTT, .inl (G.2.1, 64, .inl tT)), (qTW, .inl (G.2.1, 16, .inl tW))] sz [.ref qX, .ref qTT, .ref qTW]) (qcI G r.1 [(qX, .inr (7, [.ref qB, .ref qH, .ref qK, .ref qV, .ref qS, .ref qW])), (qB, .inr (0, [.ref qBT, .ref qBC, .ref qBN, .ref qBW, .ref qBL, .int bn, .int bk, .int bs])), (qBT, .inl (G.2.1, 16, .inl bT)), (qBN, .inl (G.2.1, 64, .inl bN)), (qBW, .inl (G.2.1, 64, .inl bW)), (qBL, .inl (G.2.1, 16, .inl r.2)), (qTT, .inl (G.2.1, 64, .inl tT)), (qTW, .inl (G.2.1, 16, .inl tW))] (va_A [(qX, .inr (7, [.ref qB, .ref qH, .ref qK, .ref qV, .ref qS, .ref qW])), (qB, .inr (0, [.ref qBT, .ref qBC, .ref qBN, .ref qBW, .ref qBL, .int bn, .int bk, .int bs])), (qBT, .inl (G.2.1, 16, .inl bT)), (qBN, .inl (G.2.1, 64, .inl bN)), (qBW, .inl (G.2.1, 64, .inl bW)), (qBL, .inl (G.2.1, 16, .inl bL)), (qTT, .inl (G.2.1, 64, .inl tT)), (qTW, .inl (G.2.1, 16, .inl tW))] sz)) 0 0 (va_A [(qX, .inr (7, [.ref qB, .ref qH, .ref qK, .ref qV, .ref qS, .ref qW])), (qB, .inr (0, [.ref qBT, .ref qBC, .ref qBN, .ref qBW, .ref qBL, .int bn, .int bk, .int bs])), (qBT, .inl (G.2.1, 16, .inl bT)), (qBN, .inl (G.2.1, 64, .inl bN)), (qBW, .inl (G.2.1, 64, .inl bW)), (qBL, .inl (G.2.1, 16, .inl bL)), (qTT, .inl (G.2.1, 64, .inl tT)), (qTW, .inl (G.2.1, 16, .inl tW))] sz) := by
  refine Met.ofW (cc := cL_isBoard) (maxL := 13) (ret := (some .boolean)) (by decide) rfl ?_
  intro p e s m args below meth c s₁ B hml hv
  obtain ⟨rfl, hsz, hP, hKK, hD0⟩ := hv
  have hK := hKK.1
  have hx := B.exec
  have hb := B.bytes
  have hr := B.returns
  have hts := atoms_spec (ws := wsL_isBoard) B.pre
  have hown : s.vm.findClass RL = some m.cls := findClass_of_methodNamed B.named
  have hlocks := B.notSynchronized
  subst hsz
  have hD := hD0.self (sz := s.heap.size)
  generalize hAe : va_A [(qX, .inr (7, [.ref qB, .ref qH, .ref qK, .ref qV, .ref qS, .ref qW])), (qB, .inr (0, [.ref qBT, .ref qBC, .ref qBN, .ref qBW, .ref qBL, .int bn, .int bk, .int bs])), (qBT, .inl (G.2.1, 16, .inl bT)), (qBN, .inl (G.2.1, 64, .inl bN)), (qBW, .inl (G.2.1, 64, .inl bW)), (qBL, .inl (G.2.1, 16, .inl bL)), (qTT, .inl (G.2.1, 64, .inl tT)), (qTW, .inl (G.2.1, 16, .inl tW))] s.heap.size = A at hD ⊢
  have hA : ∀ q : Nat, s.heap.size ≤ q → A q := fun q h => by rw [← hAe]; exact Or.inr h
  have hS : va_S A s.heap s.heap [] := va_S.rf
  have hl := lv_entry ([.ref qX, .ref qTT, .ref qTW] : List Value) (n := 13) (Nat.le_of_ble_eq_true rfl)
  rw [lg_entry_eq]
  generalize (lg_sl ([.ref qX, .ref qTT, .ref qTW] : List Value) ++ List.replicate (13 - (lg_sl ([.ref qX, .ref qTT, .ref qTW] : List Value)).length) Slot.unset).toArray = ls at hl ⊢
  have hl : lv_has ls 13 [(0, .ref qX), (1, .ref qTT), (2, .ref qTW)] := hl
  refine wq (fun Q hQ => ?_)
  unfold kL_isBoard at hq
  refine lv_iconst (v := 0) hx hb dL_isBoard_0 (by decide) ?_
  refine lv_istore_n (lv' := [(3, .int 0), (0, .ref qX), (1, .ref qTT), (2, .ref qTW)]) hx hb dL_isBoard_1 rfl hl (by decide) rfl (fun ls hl => ?_)
  refine lv_iconst (v := 0) hx hb dL_isBoard_2 (by decide) ?_
  refine lv_istore (lv' := [(4, .int 0), (3, .int 0), (0, .ref qX), (1, .ref qTT), (2, .ref qTW)]) hx hb dL_isBoard_3 hl (by decide) rfl (fun ls hl => ?_)
  refine lv_iconst (v := 1) hx hb dL_isBoard_5 (by decide) ?_
  refine lv_istore (lv' := [(5, .int 1), (4, .int 0), (3, .int 0), (0, .ref qX), (1, .ref qTT), (2, .ref qTW)]) hx hb dL_isBoard_6 hl (by decide) rfl (fun ls hl => ?_)
  refine lv_iconst (v := 0) hx hb dL_isBoard_8 (by decide) ?_
  refine lv_istore (lv' := [(6, .int 0), (5, .int 1), (4, .int 0), (3, .int 0), (0, .ref qX), (1, .ref qTT), (2, .ref qTW)]) hx hb dL_isBoard_9 hl (by decide) rfl (fun ls hl => ?_)
  have L11 : ∀ (n : Nat) (s63 : Int32) (s64 : Int32) (s65 : Int32) (s66 : Int32) (s67 : Nat → Int32) (t_11 : Int32 × Int32 × Int32 × (Nat → Int32)) (ls : Array Slot) (H : Heap) (locs : List Loc), kloop n (fun s_ => kL_isBoard_s11 F bn bs bT bN bW tT tW s_.1 s_.2.1 s_.2.2.1 s_.2.2.2.1 s_.2.2.2.2) (s63, s64, s65, s66, s67) = some t_11 → lv_has ls 13 [(0, .ref qX), (1, .ref qTT), (2, .ref qTW), (3, .int s63), (4, .int s64), (5, .int s65), (6, .int s66)] → va_P G.1 vwCl [(qX, .inr (7, [.ref qB, .ref qH, .ref qK, .ref qV, .ref qS, .ref qW])), (qB, .inr (0, [.ref qBT, .ref qBC, .ref qBN, .ref qBW, .ref qBL, .int bn, .int bk, .int bs])), (qBT, .inl (G.2.1, 16, .inl bT)), (qBN, .inl (G.2.1, 64, .inl bN)), (qBW, .inl (G.2.1, 64, .inl bW)), (qBL, .inl (G.2.1, 16, .inl s67)), (qTT, .inl (G.2.1, 64, .inl tT)), (qTW, .inl (G.2.1, 16, .inl tW))] H → va_D A [(qX, .inr (7, [.ref qB, .ref qH, .ref qK, .ref qV, .ref qS, .ref qW])), (qB, .inr (0, [.ref qBT, .ref qBC, .ref qBN, .ref qBW, .ref qBL, .int bn, .int bk, .int bs])), (qBT, .inl (G.2.1, 16, .inl bT)), (qBN, .inl (G.2.1, 64, .inl bN)), (qBW, .inl (G.2.1, 64, .inl bW)), (qBL, .inl (G.2.1, 16, .inl s67)), (qTT, .inl (G.2.1, 64, .inl tT)), (qTW, .inl (G.2.1, 16, .inl tW))] → va_S A s.heap H locs → (∀ (ls : Array Slot) (H : Heap) (locs : List Loc), lv_has ls 13 [(0, .ref qX), (3, .int t_11.1), (4, .int t_11.2.1), (5, .int t_11.2.2.1)] → va_P G.1 vwCl [(qX, .inr (7, [.ref qB, .ref qH, .ref qK, .ref qV, .ref qS, .ref qW])), (qB, .inr (0, [.ref qBT, .ref qBC, .ref qBN, .ref qBW, .ref qBL, .int bn, .int bk, .int bs])), (qBT, .inl (G.2.1, 16, .inl bT)), (qBN, .inl (G.2.1, 64, .inl bN)), (qBW, .inl (G.2.1, 64, .inl bW)), (qBL, .inl (G.2.1, 16, .inl t_11.2.2.2)), (qTT, .inl (G.2.1, 64, .inl tT)), (qTW, .inl (G.2.1, 16, .inl tW))] H → va_D A [(qX, .inr (7, [.ref qB, .ref qH, .ref qK, .ref qV, .ref qS, .ref qW])), (qB, .inr (0, [.ref qBT, .ref qBC, .ref qBN, .ref qBW, .ref qBL, .int bn, .int bk, .int bs])), (qBT, .inl (G.2.1, 16, .inl bT)), (qBN, .inl (G.2.1, 64, .inl bN)), (qBW, .inl (G.2.1, 64, .inl bW)), (qBL, .inl (G.2.1, 16, .inl t_11.2.2.2)), (qTT, .inl (G.2.1, 64, .inl tT)), (qTW, .inl (G.2.1, 16, .inl tW))] → va_S A s.heap H locs → W p l e (headSpec wsL_isBoard rmL_isBoard).room s m ([.ref qX, .ref qTT, .ref qTW] : List Value).toArray below meth c H locs 0 0 Q (F0 m 248 ls [])) → W p l e (headSpec wsL_isBoard rmL_isBoard).room s m ([.ref qX, .ref qTT, .ref qTW] : List Value).toArray below meth c H locs 0 0 Q (F0 m 11 ls []) := by
    intro n
    induction n with
    | zero => 
      intro s63 s64 s65 s66 s67 t_11 ls H locs hq hl hP hD hS kk11_248
      exact absurd hq kl_0
    | succ n ih11 =>
      intro s63 s64 s65 s66 s67 t_11 ls H locs hq hl hP hD hS kk11_248
      obtain ⟨y_11, hq, hx11⟩ := kl_s hq
      have hq : kL_isBoard_s11 F bn bs bT bN bW tT tW s63 s64 s65 s66 s67 = some y_11 := hq
      unfold kL_isBoard_s11 at hq
      refine lv_iload hx hb dL_isBoard_11 (lv_at hl 6 rfl) ?_
      refine lv_aload_n hx hb dL_isBoard_13 rfl (lv_at hl 0 rfl) ?_
      obtain ⟨q68, eq68, hq⟩ := ob hq
      have hPc := hP.sub (ws' := [(qX, .inr (7, [.ref qB, .ref qH, .ref qK, .ref qV, .ref qS, .ref qW])), (qB, .inr (0, [.ref qBT, .ref qBC, .ref qBN, .ref qBW, .ref qBL, .int bn, .int bk, .int bs]))]) [0, 1] rfl
      have hKc := hK
      refine vp_callSi (va_Run.run (va_runV (As := []) (rest := [.int s66]) ⟨hx, hb, hml, hown, hts⟩ (tX7_size G l eq68) (cwV 0 hts gL_isBoard_X7_size rfl rfl rfl (by decide +kernel) ⟨Nat.le_of_ble_eq_true rfl, Nat.le_of_ble_eq_true rfl⟩) ⟨pcP_blind, va_recv hKc hPc (ci := 7) (q0 := 0) rfl rfl, pcP_pre hPc hKK⟩ rfl rfl hl.1 rfl (lv_room (Nat.le_of_ble_eq_true rfl)) dL_isBoard_14 ⟨Nat.zero_le _, Nat.zero_le _⟩)) (fun r0 hr0 => ?_)
      obtain rfl := hr0
      refine lv_icmp_ge (tgt := 248) hx hb dL_isBoard_17 (by decide) (fun c_17 => ?_) (fun c_17 => ?_)
      · have hq := k_t c_17 hq
        have et := kl_exit hq hx11
        subst et
        exact kk11_248 ls _ _ (lv_sub hl [0, 3, 4, 5] rfl) hP hD hS
      · have hq := k_f c_17 hq
        refine lv_iload hx hb dL_isBoard_20 (lv_at hl 5 rfl) ?_
        refine lv_if_eq (tgt := 248) hx hb dL_isBoard_22 (by decide) (fun c_22 => ?_) (fun c_22 => ?_)
        · have hq := k_t c_22 hq
          have et := kl_exit hq hx11
          subst et
          exact kk11_248 ls _ _ (lv_sub hl [0, 3, 4, 5] rfl) hP hD hS
        · have hq := k_f c_22 hq
          refine lv_aload_n hx hb dL_isBoard_25 rfl (lv_at hl 0 rfl) ?_
          refine lv_iload hx hb dL_isBoard_26 (lv_at hl 6 rfl) ?_
          obtain ⟨q69, eq69, hq⟩ := ob hq
          have hPc := hP.sub (ws' := [(qX, .inr (7, [.ref qB, .ref qH, .ref qK, .ref qV, .ref qS, .ref qW])), (qB, .inr (0, [.ref qBT, .ref qBC, .ref qBN, .ref qBW, .ref qBL, .int bn, .int bk, .int bs])), (qBT, .inl (G.2.1, 16, .inl bT))]) [0, 1, 2] rfl
          have hKc := hK
          have hDc := hD.sub (ws' := [(qX, .inr (7, [.ref qB, .ref qH, .ref qK, .ref qV, .ref qS, .ref qW])), (qB, .inr (0, [.ref qBT, .ref qBC, .ref qBN, .ref qBW, .ref qBL, .int bn, .int bk, .int bs])), (qBT, .inl (G.2.1, 16, .inl bT))]) [0, 1, 2] (by decide) rfl
          have hFc := va_free (wc := [(qX, .inr (7, [.ref qB, .ref qH, .ref qK, .ref qV, .ref qS, .ref qW])), (qB, .inr (0, [.ref qBT, .ref qBC, .ref qBN, .ref qBW, .ref qBL, .int bn, .int bk, .int bs])), (qBT, .inl (G.2.1, 16, .inl bT))]) hD hS hA [0, 1, 2] rfl
          refine va_calli (va_runV (As := [.int s66]) (rest := []) ⟨hx, hb, hml, hown, hts⟩ (tX7_tile G l eq69) (cwV 1 hts gL_isBoard_X7_tile rfl rfl rfl (by decide +kernel) ⟨Nat.le_of_ble_eq_true rfl, Nat.le_of_ble_eq_true rfl⟩) ⟨pcW_blind, va_recv hKc hPc (ci := 7) (q0 := 0) rfl rfl, pcW_pre hPc hKK hDc⟩ rfl rfl hl.1 rfl (lv_room (Nat.le_of_ble_eq_true rfl)) dL_isBoard_28 ⟨Nat.zero_le _, Nat.zero_le _⟩) hS (fun q _ h => hFc q h) hFc (fun r0 u t H1 locs ht hvm hw hB hz1 hk1 hS => ?_)
          obtain rfl := hw
          have hB := va_Pto ht hB
          obtain ⟨hP, hD⟩ := jn (ws' := [(qX, .inr (7, [.ref qB, .ref qH, .ref qK, .ref qV, .ref qS, .ref qW])), (qB, .inr (0, [.ref qBT, .ref qBC, .ref qBN, .ref qBW, .ref qBL, .int bn, .int bk, .int bs])), (qBT, .inl (G.2.1, 16, .inl bT)), (qBN, .inl (G.2.1, 64, .inl bN)), (qBW, .inl (G.2.1, 64, .inl bW)), (qBL, .inl (G.2.1, 16, .inl s67)), (qTT, .inl (G.2.1, 64, .inl tT)), (qTW, .inl (G.2.1, 16, .inl tW))]) hP hD hk1 hB [0, 1, 2] rfl rfl rfl rfl
          generalize H1 = H at hP hS ⊢
          refine lv_aload_n hx hb dL_isBoard_31 rfl (lv_at hl 1 rfl) ?_
          refine lv_iload hx hb dL_isBoard_32 (lv_at hl 6 rfl) ?_
          obtain ⟨hg, hq⟩ := k_g hq
          refine va_iald hx hb hK hP 6 0 rfl rfl (ix_in hg) dL_isBoard_34 ?_
          have J43 : ∀ (v70 : Int32) (ls : Array Slot) (H : Heap) (locs : List Loc), kL_isBoard_j43 F bn bs bT bN bW tT tW s63 s64 s66 s67 v70 = some y_11 → lv_has ls 13 [(0, .ref qX), (1, .ref qTT), (2, .ref qTW), (3, .int s63), (4, .int s64), (6, .int s66)] → va_P G.1 vwCl [(qX, .inr (7, [.ref qB, .ref qH, .ref qK, .ref qV, .ref qS, .ref qW])), (qB, .inr (0, [.ref qBT, .ref qBC, .ref qBN, .ref qBW, .ref qBL, .int bn, .int bk, .int bs])), (qBT, .inl (G.2.1, 16, .inl bT)), (qBN, .inl (G.2.1, 64, .inl bN)), (qBW, .inl (G.2.1, 64, .inl bW)), (qBL, .inl (G.2.1, 16, .inl s67)), (qTT, .inl (G.2.1, 64, .inl tT)), (qTW, .inl (G.2.1, 16, .inl tW))] H → va_D A [(qX, .inr (7, [.ref qB, .ref qH, .ref qK, .ref qV, .ref qS, .ref qW])), (qB, .inr (0, [.ref qBT, .ref qBC, .ref qBN, .ref qBW, .ref qBL, .int bn, .int bk, .int bs])), (qBT, .inl (G.2.1, 16, .inl bT)), (qBN, .inl (G.2.1, 64, .inl bN)), (qBW, .inl (G.2.1, 64, .inl bW)), (qBL, .inl (G.2.1, 16, .inl s67)), (qTT, .inl (G.2.1, 64, .inl tT)), (qTW, .inl (G.2.1, 16, .inl tW))] → va_S A s.heap H locs → W p l e (headSpec wsL_isBoard rmL_isBoard).room s m ([.ref qX, .ref qTT, .ref qTW] : List Value).toArray below meth c H locs 0 0 Q (F0 m 43 ls [.int v70]) := by
            intro v70 ls H locs hq hl hP hD hS
            unfold kL_isBoard_j43 at hq
            refine lv_istore (lv' := [(5, .int v70), (0, .ref qX), (1, .ref qTT), (2, .ref qTW), (3, .int s63), (4, .int s64), (6, .int s66)]) hx hb dL_isBoard_43 hl (by decide) rfl (fun ls hl => ?_)
            refine lv_iconst (v := 0) hx hb dL_isBoard_45 (by decide) ?_
            refine lv_istore (lv' := [(7, .int 0), (5, .int v70), (0, .ref qX), (1, .ref qTT), (2, .ref qTW), (3, .int s63), (4, .int s64), (6, .int s66)]) hx hb dL_isBoard_46 hl (by decide) rfl (fun ls hl => ?_)
            have L48 : ∀ (n : Nat) (s98 : Int32) (s99 : Int32) (s100 : Int32) (s101 : Int32) (s102 : Nat → Int32) (t_48 : Int32 × Int32 × Int32 × (Nat → Int32)) (ls : Array Slot) (H : Heap) (locs : List Loc), kloop n (fun s_ => kL_isBoard_s48 F bn bs bT bN bW tT tW s66 s_.1 s_.2.1 s_.2.2.1 s_.2.2.2.1 s_.2.2.2.2) (s98, s99, s100, s101, s102) = some t_48 → lv_has ls 13 [(0, .ref qX), (1, .ref qTT), (2, .ref qTW), (3, .int s98), (4, .int s99), (5, .int s100), (6, .int s66), (7, .int s101)] → va_P G.1 vwCl [(qX, .inr (7, [.ref qB, .ref qH, .ref qK, .ref qV, .ref qS, .ref qW])), (qB, .inr (0, [.ref qBT, .ref qBC, .ref qBN, .ref qBW, .ref qBL, .int bn, .int bk, .int bs])), (qBT, .inl (G.2.1, 16, .inl bT)), (qBN, .inl (G.2.1, 64, .inl bN)), (qBW, .inl (G.2.1, 64, .inl bW)), (qBL, .inl (G.2.1, 16, .inl s102)), (qTT, .inl (G.2.1, 64, .inl tT)), (qTW, .inl (G.2.1, 16, .inl tW))] H → va_D A [(qX, .inr (7, [.ref qB, .ref qH, .ref qK, .ref qV, .ref qS, .ref qW])), (qB, .inr (0, [.ref qBT, .ref qBC, .ref qBN, .ref qBW, .ref qBL, .int bn, .int bk, .int bs])), (qBT, .inl (G.2.1, 16, .inl bT)), (qBN, .inl (G.2.1, 64, .inl bN)), (qBW, .inl (G.2.1, 64, .inl bW)), (qBL, .inl (G.2.1, 16, .inl s102)), (qTT, .inl (G.2.1, 64, .inl tT)), (qTW, .inl (G.2.1, 16, .inl tW))] → va_S A s.heap H locs → (∀ (ls : Array Slot) (H : Heap) (locs : List Loc), lv_has ls 13 [(0, .ref qX), (1, .ref qTT), (2, .ref qTW), (3, .int t_48.1), (4, .int t_48.2.1), (5, .int t_48.2.2.1), (6, .int s66)] → va_P G.1 vwCl [(qX, .inr (7, [.ref qB, .ref qH, .ref qK, .ref qV, .ref qS, .ref qW])), (qB, .inr (0, [.ref qBT, .ref qBC, .ref qBN, .ref qBW, .ref qBL, .int bn, .int bk, .int bs])), (qBT, .inl (G.2.1, 16, .inl bT)), (qBN, .inl (G.2.1, 64, .inl bN)), (qBW, .inl (G.2.1, 64, .inl bW)), (qBL, .inl (G.2.1, 16, .inl t_48.2.2.2)), (qTT, .inl (G.2.1, 64, .inl tT)), (qTW, .inl (G.2.1, 16, .inl tW))] H → va_D A [(qX, .inr (7, [.ref qB, .ref qH, .ref qK, .ref qV, .ref qS, .ref qW])), (qB, .inr (0, [.ref qBT, .ref qBC, .ref qBN, .ref qBW, .ref qBL, .int bn, .int bk, .int bs])), (qBT, .inl (G.2.1, 16, .inl bT)), (qBN, .inl (G.2.1, 64, .inl bN)), (qBW, .inl (G.2.1, 64, .inl bW)), (qBL, .inl (G.2.1, 16, .inl t_48.2.2.2)), (qTT, .inl (G.2.1, 64, .inl tT)), (qTW, .inl (G.2.1, 16, .inl tW))] → va_S A s.heap H locs → W p l e (headSpec wsL_isBoard rmL_isBoard).room s m ([.ref qX, .ref qTT, .ref qTW] : List Value).toArray below meth c H locs 0 0 Q (F0 m 242 ls [])) → W p l e (headSpec wsL_isBoard rmL_isBoard).room s m ([.ref qX, .ref qTT, .ref qTW] : List Value).toArray below meth c H locs 0 0 Q (F0 m 48 ls []) := by
              intro n
              induction n with
              | zero => 
                intro s98 s99 s100 s101 s102 t_48 ls H locs hq hl hP hD hS kk48_242
                exact absurd hq kl_0
              | succ n ih48 =>
                intro s98 s99 s100 s101 s102 t_48 ls H locs hq hl hP hD hS kk48_242
                obtain ⟨y_48, hq, hx48⟩ := kl_s hq
                have hq : kL_isBoard_s48 F bn bs bT bN bW tT tW s66 s98 s99 s100 s101 s102 = some y_48 := hq
                unfold kL_isBoard_s48 at hq
                refine lv_iload hx hb dL_isBoard_48 (lv_at hl 7 rfl) ?_
                refine lv_iconst (v := 4) hx hb dL_isBoard_50 (by decide) ?_
                refine lv_icmp_ge (tgt := 242) hx hb dL_isBoard_51 (by decide) (fun c_51 => ?_) (fun c_51 => ?_)
                · have hq := k_t c_51 hq
                  have et := kl_exit hq hx48
                  subst et
                  exact kk48_242 ls _ _ (lv_sub hl [0, 1, 2, 3, 4, 5, 6] rfl) hP hD hS
                · have hq := k_f c_51 hq
                  refine lv_iload hx hb dL_isBoard_54 (lv_at hl 5 rfl) ?_
                  refine lv_if_eq (tgt := 242) hx hb dL_isBoard_56 (by decide) (fun c_56 => ?_) (fun c_56 => ?_)
                  · have hq := k_t c_56 hq
                    have et := kl_exit hq hx48
                    subst et
                    exact kk48_242 ls _ _ (lv_sub hl [0, 1, 2, 3, 4, 5, 6] rfl) hP hD hS
                  · have hq := k_f c_56 hq
                    refine lv_aload_n hx hb dL_isBoard_59 rfl (lv_at hl 0 rfl) ?_
                    refine lv_iload hx hb dL_isBoard_60 (lv_at hl 6 rfl) ?_
                    refine lv_iload hx hb dL_isBoard_62 (lv_at hl 7 rfl) ?_
                    obtain ⟨q103, eq103, hq⟩ := ob hq
                    have hPc := hP.sub (ws' := [(qX, .inr (7, [.ref qB, .ref qH, .ref qK, .ref qV, .ref qS, .ref qW])), (qB, .inr (0, [.ref qBT, .ref qBC, .ref qBN, .ref qBW, .ref qBL, .int bn, .int bk, .int bs])), (qBN, .inl (G.2.1, 64, .inl bN))]) [0, 1, 3] rfl
                    have hKc := hK
                    have hDc := hD.sub (ws' := [(qX, .inr (7, [.ref qB, .ref qH, .ref qK, .ref qV, .ref qS, .ref qW])), (qB, .inr (0, [.ref qBT, .ref qBC, .ref qBN, .ref qBW, .ref qBL, .int bn, .int bk, .int bs])), (qBN, .inl (G.2.1, 64, .inl bN))]) [0, 1, 3] (by decide) rfl
                    have hFc := va_free (wc := [(qX, .inr (7, [.ref qB, .ref qH, .ref qK, .ref qV, .ref qS, .ref qW])), (qB, .inr (0, [.ref qBT, .ref qBC, .ref qBN, .ref qBW, .ref qBL, .int bn, .int bk, .int bs])), (qBN, .inl (G.2.1, 64, .inl bN))]) hD hS hA [0, 1, 3] rfl
                    refine va_calli (va_runV (As := [.int s66, .int s101]) (rest := []) ⟨hx, hb, hml, hown, hts⟩ (tX7_neighbour G l eq103) (cwV 2 hts gL_isBoard_X7_neighbour rfl rfl rfl (by decide +kernel) ⟨Nat.le_of_ble_eq_true rfl, Nat.le_of_ble_eq_true rfl⟩) ⟨pcW_blind, va_recv hKc hPc (ci := 7) (q0 := 0) rfl rfl, pcW_pre hPc hKK hDc⟩ rfl rfl hl.1 rfl (lv_room (Nat.le_of_ble_eq_true rfl)) dL_isBoard_64 ⟨Nat.zero_le _, Nat.zero_le _⟩) hS (fun q _ h => hFc q h) hFc (fun r0 u t H1 locs ht hvm hw hB hz1 hk1 hS => ?_)
                    obtain rfl := hw
                    have hB := va_Pto ht hB
                    obtain ⟨hP, hD⟩ := jn (ws' := [(qX, .inr (7, [.ref qB, .ref qH, .ref qK, .ref qV, .ref qS, .ref qW])), (qB, .inr (0, [.ref qBT, .ref qBC, .ref qBN, .ref qBW, .ref qBL, .int bn, .int bk, .int bs])), (qBT, .inl (G.2.1, 16, .inl bT)), (qBN, .inl (G.2.1, 64, .inl bN)), (qBW, .inl (G.2.1, 64, .inl bW)), (qBL, .inl (G.2.1, 16, .inl s102)), (qTT, .inl (G.2.1, 64, .inl tT)), (qTW, .inl (G.2.1, 16, .inl tW))]) hP hD hk1 hB [0, 1, 3] rfl rfl rfl rfl
                    generalize H1 = H at hP hS ⊢
                    refine lv_istore (lv' := [(8, .int q103), (0, .ref qX), (1, .ref qTT), (2, .ref qTW), (3, .int s98), (4, .int s99), (5, .int s100), (6, .int s66), (7, .int s101)]) hx hb dL_isBoard_67 hl (by decide) rfl (fun ls hl => ?_)
                    refine lv_aload_n hx hb dL_isBoard_69 rfl (lv_at hl 1 rfl) ?_
                    refine lv_iload hx hb dL_isBoard_70 (lv_at hl 7 rfl) ?_
                    refine lv_iload hx hb dL_isBoard_72 (lv_at hl 8 rfl) ?_
                    obtain ⟨q104, eq104, hq⟩ := ob hq
                    have hPc := hP.sub (ws' := [(qX, .inr (7, [.ref qB, .ref qH, .ref qK, .ref qV, .ref qS, .ref qW])), (qB, .inr (0, [.ref qBT, .ref qBC, .ref qBN, .ref qBW, .ref qBL, .int bn, .int bk, .int bs])), (qBT, .inl (G.2.1, 16, .inl bT)), (qBW, .inl (G.2.1, 64, .inl bW))]) [0, 1, 2, 4] rfl
                    have hKc := hK
                    have hDc := hD.sub (ws' := [(qX, .inr (7, [.ref qB, .ref qH, .ref qK, .ref qV, .ref qS, .ref qW])), (qB, .inr (0, [.ref qBT, .ref qBC, .ref qBN, .ref qBW, .ref qBL, .int bn, .int bk, .int bs])), (qBT, .inl (G.2.1, 16, .inl bT)), (qBW, .inl (G.2.1, 64, .inl bW))]) [0, 1, 2, 4] (by decide) rfl
                    have hFc := va_free (wc := [(qX, .inr (7, [.ref qB, .ref qH, .ref qK, .ref qV, .ref qS, .ref qW])), (qB, .inr (0, [.ref qBT, .ref qBC, .ref qBN, .ref qBW, .ref qBL, .int bn, .int bk, .int bs])), (qBT, .inl (G.2.1, 16, .inl bT)), (qBW, .inl (G.2.1, 64, .inl bW))]) hD hS hA [0, 1, 2, 4] rfl
                    refine va_calli (va_runV (As := [.int s66, .int s101]) (rest := []) ⟨hx, hb, hml, hown, hts⟩ (tX7_isJoined G l eq104) (cwV 2 hts gL_isBoard_X7_isJoined rfl rfl rfl (by decide +kernel) ⟨Nat.le_of_ble_eq_true rfl, Nat.le_of_ble_eq_true rfl⟩) ⟨pcW_blind, va_recv hKc hPc (ci := 7) (q0 := 0) rfl rfl, pcW_pre hPc hKK hDc⟩ rfl rfl hl.1 rfl (lv_room (Nat.le_of_ble_eq_true rfl)) dL_isBoard_74 ⟨Nat.zero_le _, Nat.zero_le _⟩) hS (fun q _ h => hFc q h) hFc (fun r0 u t H1 locs ht hvm hw hB hz1 hk1 hS => ?_)
                    obtain rfl := hw
                    have hB := va_Pto ht hB
                    obtain ⟨hP, hD⟩ := jn (ws' := [(qX, .inr (7, [.ref qB, .ref qH, .ref qK, .ref qV, .ref qS, .ref qW])), (qB, .inr (0, [.ref qBT, .ref qBC, .ref qBN, .ref qBW, .ref qBL, .int bn, .int bk, .int bs])), (qBT, .inl (G.2.1, 16, .inl bT)), (qBN, .inl (G.2.1, 64, .inl bN)), (qBW, .inl (G.2.1, 64, .inl bW)), (qBL, .inl (G.2.1, 16, .inl s102)), (qTT, .inl (G.2.1, 64, .inl tT)), (qTW, .inl (G.2.1, 16, .inl tW))]) hP hD hk1 hB [0, 1, 2, 4] rfl rfl rfl rfl
                    generalize H1 = H at hP hS ⊢
                    refine lv_istore (lv' := [(9, .int q104), (8, .int q103), (0, .ref qX), (1, .ref qTT), (2, .ref qTW), (3, .int s98), (4, .int s99), (5, .int s100), (6, .int s66), (7, .int s101)]) hx hb dL_isBoard_77 hl (by decide) rfl (fun ls hl => ?_)
                    refine lv_aload_n hx hb dL_isBoard_79 rfl (lv_at hl 3 rfl) ?_
                    refine lv_iload hx hb dL_isBoard_80 (lv_at hl 8 rfl) ?_
                    obtain ⟨hg, hq⟩ := k_g hq
                    refine va_iald hx hb hK hP 6 0 rfl rfl (ix_in hg) dL_isBoard_82 ?_
                    refine lv_iload hx hb dL_isBoard_83 (lv_at hl 9 rfl) ?_
                    refine lv_ishr hx hb dL_isBoard_85 ?_
                    refine lv_iconst (v := 1) hx hb dL_isBoard_86 (by decide) ?_
                    refine lv_iand hx hb dL_isBoard_87 ?_
                    refine lv_iconst (v := 1) hx hb dL_isBoard_88 (by decide) ?_
                    have J97 : ∀ (v105 : Int32) (ls : Array Slot) (H : Heap) (locs : List Loc), kL_isBoard_j97 F bn bs bT bN bW tT tW s66 s98 s99 s101 s102 q103 q104 v105 = some y_48 → lv_has ls 13 [(0, .ref qX), (1, .ref qTT), (2, .ref qTW), (3, .int s98), (4, .int s99), (6, .int s66), (7, .int s101), (8, .int q103), (9, .int q104)] → va_P G.1 vwCl [(qX, .inr (7, [.ref qB, .ref qH, .ref qK, .ref qV, .ref qS, .ref qW])), (qB, .inr (0, [.ref qBT, .ref qBC, .ref qBN, .ref qBW, .ref qBL, .int bn, .int bk, .int bs])), (qBT, .inl (G.2.1, 16, .inl bT)), (qBN, .inl (G.2.1, 64, .inl bN)), (qBW, .inl (G.2.1, 64, .inl bW)), (qBL, .inl (G.2.1, 16, .inl s102)), (qTT, .inl (G.2.1, 64, .inl tT)), (qTW, .inl (G.2.1, 16, .inl tW))] H → va_D A [(qX, .inr (7, [.ref qB, .ref qH, .ref qK, .ref qV, .ref qS, .ref qW])), (qB, .inr (0, [.ref qBT, .ref qBC, .ref qBN, .ref qBW, .ref qBL, .int bn, .int bk, .int bs])), (qBT, .inl (G.2.1, 16, .inl bT)), (qBN, .inl (G.2.1, 64, .inl bN)), (qBW, .inl (G.2.1, 64, .inl bW)), (qBL, .inl (G.2.1, 16, .inl s102)), (qTT, .inl (G.2.1, 64, .inl tT)), (qTW, .inl (G.2.1, 16, .inl tW))] → va_S A s.heap H locs → W p l e (headSpec wsL_isBoard rmL_isBoard).room s m ([.ref qX, .ref qTT, .ref qTW] : List Value).toArray below meth c H locs 0 0 Q (F0 m 97 ls [.int v105]) := by
                      intro v105 ls H locs hq hl hP hD hS
                      unfold kL_isBoard_j97 at hq
                      refine lv_istore (lv' := [(10, .int v105), (0, .ref qX), (1, .ref qTT), (2, .ref qTW), (3, .int s98), (4, .int s99), (6, .int s66), (7, .int s101), (8, .int q103), (9, .int q104)]) hx hb dL_isBoard_97 hl (by decide) rfl (fun ls hl => ?_)
                      refine lv_iload_n hx hb dL_isBoard_99 rfl (lv_at hl 4 rfl) ?_
                      refine lv_iload hx hb dL_isBoard_100 (lv_at hl 0 rfl) ?_
                      have J115 : ∀ (v106 : Int32) (ls : Array Slot) (H : Heap) (locs : List Loc), kL_isBoard_j115 F bn bs bT bN bW tT tW s66 s98 s99 s101 s102 q103 q104 v105 v106 = some y_48 → lv_has ls 13 [(0, .ref qX), (1, .ref qTT), (2, .ref qTW), (4, .int s99), (6, .int s66), (7, .int s101), (8, .int q103), (9, .int q104), (10, .int v105)] → va_P G.1 vwCl [(qX, .inr (7, [.ref qB, .ref qH, .ref qK, .ref qV, .ref qS, .ref qW])), (qB, .inr (0, [.ref qBT, .ref qBC, .ref qBN, .ref qBW, .ref qBL, .int bn, .int bk, .int bs])), (qBT, .inl (G.2.1, 16, .inl bT)), (qBN, .inl (G.2.1, 64, .inl bN)), (qBW, .inl (G.2.1, 64, .inl bW)), (qBL, .inl (G.2.1, 16, .inl s102)), (qTT, .inl (G.2.1, 64, .inl tT)), (qTW, .inl (G.2.1, 16, .inl tW))] H → va_D A [(qX, .inr (7, [.ref qB, .ref qH, .ref qK, .ref qV, .ref qS, .ref qW])), (qB, .inr (0, [.ref qBT, .ref qBC, .ref qBN, .ref qBW, .ref qBL, .int bn, .int bk, .int bs])), (qBT, .inl (G.2.1, 16, .inl bT)), (qBN, .inl (G.2.1, 64, .inl bN)), (qBW, .inl (G.2.1, 64, .inl bW)), (qBL, .inl (G.2.1, 16, .inl s102)), (qTT, .inl (G.2.1, 64, .inl tT)), (qTW, .inl (G.2.1, 16, .inl tW))] → va_S A s.heap H locs → W p l e (headSpec wsL_isBoard rmL_isBoard).room s m ([.ref qX, .ref qTT, .ref qTW] : List Value).toArray below meth c H locs 0 0 Q (F0 m 115 ls [.int v106, .int s98]) := by
                        intro v106 ls H locs hq hl hP hD hS
                        unfold kL_isBoard_j115 at hq
                        refine lv_iadd hx hb dL_isBoard_115 ?_
                        refine lv_istore_n (lv' := [(3, .int (s98 + v106)), (0, .ref qX), (1, .ref qTT), (2, .ref qTW), (4, .int s99), (6, .int s66), (7, .int s101), (8, .int q103), (9, .int q104), (10, .int v105)]) hx hb dL_isBoard_116 rfl hl (by decide) rfl (fun ls hl => ?_)
                        obtain ⟨y107, ey107, hq⟩ := ob hq
                        have ey107 := Option.some.inj ey107
                        have hl : lv_has ls 13 [(3, .int y107), (0, .ref qX), (1, .ref qTT), (2, .ref qTW), (4, .int s99), (6, .int s66), (7, .int s101), (8, .int q103), (9, .int q104), (10, .int v105)] := ey107 ▸ hl
                        refine lv_iload hx hb dL_isBoard_117 (lv_at hl 4 rfl) ?_
                        refine lv_iload hx hb dL_isBoard_119 (lv_at hl 8 rfl) ?_
                        have J129 : ∀ (v108 : Int32) (ls : Array Slot) (H : Heap) (locs : List Loc), kL_isBoard_j129 F bn bs bT bN bW tT tW s66 s99 s101 s102 q103 q104 v105 y107 v108 = some y_48 → lv_has ls 13 [(0, .ref qX), (1, .ref qTT), (2, .ref qTW), (3, .int y107), (6, .int s66), (7, .int s101), (8, .int q103), (9, .int q104), (10, .int v105)] → va_P G.1 vwCl [(qX, .inr (7, [.ref qB, .ref qH, .ref qK, .ref qV, .ref qS, .ref qW])), (qB, .inr (0, [.ref qBT, .ref qBC, .ref qBN, .ref qBW, .ref qBL, .int bn, .int bk, .int bs])), (qBT, .inl (G.2.1, 16, .inl bT)), (qBN, .inl (G.2.1, 64, .inl bN)), (qBW, .inl (G.2.1, 64, .inl bW)), (qBL, .inl (G.2.1, 16, .inl s102)), (qTT, .inl (G.2.1, 64, .inl tT)), (qTW, .inl (G.2.1, 16, .inl tW))] H → va_D A [(qX, .inr (7, [.ref qB, .ref qH, .ref qK, .ref qV, .ref qS, .ref qW])), (qB, .inr (0, [.ref qBT, .ref qBC, .ref qBN, .ref qBW, .ref qBL, .int bn, .int bk, .int bs])), (qBT, .inl (G.2.1, 16, .inl bT)), (qBN, .inl (G.2.1, 64, .inl bN)), (qBW, .inl (G.2.1, 64, .inl bW)), (qBL, .inl (G.2.1, 16, .inl s102)), (qTT, .inl (G.2.1, 64, .inl tT)), (qTW, .inl (G.2.1, 16, .inl tW))] → va_S A s.heap H locs → W p l e (headSpec wsL_isBoard rmL_isBoard).room s m ([.ref qX, .ref qTT, .ref qTW] : List Value).toArray below meth c H locs 0 0 Q (F0 m 129 ls [.int v108, .int s99]) := by
                          intro v108 ls H locs hq hl hP hD hS
                          unfold kL_isBoard_j129 at hq
                          refine lv_iadd hx hb dL_isBoard_129 ?_
                          refine lv_istore (lv' := [(4, .int (s99 + v108)), (0, .ref qX), (1, .ref qTT), (2, .ref qTW), (3, .int y107), (6, .int s66), (7, .int s101), (8, .int q103), (9, .int q104), (10, .int v105)]) hx hb dL_isBoard_130 hl (by decide) rfl (fun ls hl => ?_)
                          obtain ⟨y109, ey109, hq⟩ := ob hq
                          have ey109 := Option.some.inj ey109
                          have hl : lv_has ls 13 [(4, .int y109), (0, .ref qX), (1, .ref qTT), (2, .ref qTW), (3, .int y107), (6, .int s66), (7, .int s101), (8, .int q103), (9, .int q104), (10, .int v105)] := ey109 ▸ hl
                          refine lv_iload hx hb dL_isBoard_132 (lv_at hl 6 rfl) ?_
                          refine lv_iconst (v := 2) hx hb dL_isBoard_134 (by decide) ?_
                          refine lv_iadd hx hb dL_isBoard_135 ?_
                          refine lv_iconst (v := 4) hx hb dL_isBoard_136 (by decide) ?_
                          refine lv_irem hx hb dL_isBoard_137 (by decide) ?_
                          refine lv_istore (lv' := [(11, .int ((s101 + 2) - (s101 + 2) / 4 * 4)), (4, .int y109), (0, .ref qX), (1, .ref qTT), (2, .ref qTW), (3, .int y107), (6, .int s66), (7, .int s101), (8, .int q103), (9, .int q104), (10, .int v105)]) hx hb dL_isBoard_138 hl (by decide) rfl (fun ls hl => ?_)
                          obtain ⟨y110, ey110, hq⟩ := ob hq
                          have ey110 := Option.some.inj ey110
                          have hl : lv_has ls 13 [(11, .int y110), (4, .int y109), (0, .ref qX), (1, .ref qTT), (2, .ref qTW), (3, .int y107), (6, .int s66), (7, .int s101), (8, .int q103), (9, .int q104), (10, .int v105)] := ey110 ▸ hl
                          refine lv_iload hx hb dL_isBoard_140 (lv_at hl 8 rfl) ?_
                          refine lv_iconst (v := (-1)) hx hb dL_isBoard_142 (by decide) ?_
                          have J181 : ∀ (v111 : Int32) (ls : Array Slot) (H : Heap) (locs : List Loc), kL_isBoard_j181 F bn bs bT bN bW s66 s101 s102 q103 q104 y107 y109 y110 v111 = some y_48 → lv_has ls 13 [(0, .ref qX), (1, .ref qTT), (2, .ref qTW), (3, .int y107), (4, .int y109), (6, .int s66), (7, .int s101), (8, .int q103), (9, .int q104), (11, .int y110)] → va_P G.1 vwCl [(qX, .inr (7, [.ref qB, .ref qH, .ref qK, .ref qV, .ref qS, .ref qW])), (qB, .inr (0, [.ref qBT, .ref qBC, .ref qBN, .ref qBW, .ref qBL, .int bn, .int bk, .int bs])), (qBT, .inl (G.2.1, 16, .inl bT)), (qBN, .inl (G.2.1, 64, .inl bN)), (qBW, .inl (G.2.1, 64, .inl bW)), (qBL, .inl (G.2.1, 16, .inl s102)), (qTT, .inl (G.2.1, 64, .inl tT)), (qTW, .inl (G.2.1, 16, .inl tW))] H → va_D A [(qX, .inr (7, [.ref qB, .ref qH, .ref qK, .ref qV, .ref qS, .ref qW])), (qB, .inr (0, [.ref qBT, .ref qBC, .ref qBN, .ref qBW, .ref qBL, .int bn, .int bk, .int bs])), (qBT, .inl (G.2.1, 16, .inl bT)), (qBN, .inl (G.2.1, 64, .inl bN)), (qBW, .inl (G.2.1, 64, .inl bW)), (qBL, .inl (G.2.1, 16, .inl s102)), (qTT, .inl (G.2.1, 64, .inl tT)), (qTW, .inl (G.2.1, 16, .inl tW))] → va_S A s.heap H locs → W p l e (headSpec wsL_isBoard rmL_isBoard).room s m ([.ref qX, .ref qTT, .ref qTW] : List Value).toArray below meth c H locs 0 0 Q (F0 m 181 ls [.int v111]) := by
                            intro v111 ls H locs hq hl hP hD hS
                            unfold kL_isBoard_j181 at hq
                            refine lv_istore (lv' := [(12, .int v111), (0, .ref qX), (1, .ref qTT), (2, .ref qTW), (3, .int y107), (4, .int y109), (6, .int s66), (7, .int s101), (8, .int q103), (9, .int q104), (11, .int y110)]) hx hb dL_isBoard_181 hl (by decide) rfl (fun ls hl => ?_)
                            refine lv_iload hx hb dL_isBoard_183 (lv_at hl 9 rfl) ?_
                            refine lv_iload hx hb dL_isBoard_185 (lv_at hl 0 rfl) ?_
                            have J234 : ∀ (v117 : Int32) (w118 : Nat → Int32) (ls : Array Slot) (H : Heap) (locs : List Loc), kL_isBoard_j234 F s101 y107 y109 v117 w118 = some y_48 → lv_has ls 13 [(0, .ref qX), (1, .ref qTT), (2, .ref qTW), (3, .int y107), (4, .int y109), (6, .int s66), (7, .int s101)] → va_P G.1 vwCl [(qX, .inr (7, [.ref qB, .ref qH, .ref qK, .ref qV, .ref qS, .ref qW])), (qB, .inr (0, [.ref qBT, .ref qBC, .ref qBN, .ref qBW, .ref qBL, .int bn, .int bk, .int bs])), (qBT, .inl (G.2.1, 16, .inl bT)), (qBN, .inl (G.2.1, 64, .inl bN)), (qBW, .inl (G.2.1, 64, .inl bW)), (qBL, .inl (G.2.1, 16, .inl w118)), (qTT, .inl (G.2.1, 64, .inl tT)), (qTW, .inl (G.2.1, 16, .inl tW))] H → va_D A [(qX, .inr (7, [.ref qB, .ref qH, .ref qK, .ref qV, .ref qS, .ref qW])), (qB, .inr (0, [.ref qBT, .ref qBC, .ref qBN, .ref qBW, .ref qBL, .int bn, .int bk, .int bs])), (qBT, .inl (G.2.1, 16, .inl bT)), (qBN, .inl (G.2.1, 64, .inl bN)), (qBW, .inl (G.2.1, 64, .inl bW)), (qBL, .inl (G.2.1, 16, .inl w118)), (qTT, .inl (G.2.1, 64, .inl tT)), (qTW, .inl (G.2.1, 16, .inl tW))] → va_S A s.heap H locs → W p l e (headSpec wsL_isBoard rmL_isBoard).room s m ([.ref qX, .ref qTT, .ref qTW] : List Value).toArray below meth c H locs 0 0 Q (F0 m 234 ls [.int v117]) := by
                              intro v117 w118 ls H locs hq hl hP hD hS
                              unfold kL_isBoard_j234 at hq
                              refine lv_istore (lv' := [(5, .int v117), (0, .ref qX), (1, .ref qTT), (2, .ref qTW), (3, .int y107), (4, .int y109), (6, .int s66), (7, .int s101)]) hx hb dL_isBoard_234 hl (by decide) rfl (fun ls hl => ?_)
                              refine lv_iinc (v := (s101 + 1)) (lv' := [(7, .int (s101 + 1)), (5, .int v117), (0, .ref qX), (1, .ref qTT), (2, .ref qTW), (3, .int y107), (4, .int y109), (6, .int s66)]) hx hb dL_isBoard_236 hl (k := 7) rfl rfl (by decide) rfl (fun ls hl => ?_)
                              refine lv_goto (tgt := 48) hx hb dL_isBoard_239 (by decide) ?_
                              exact ih48 y107 y109 v117 (s101 + 1) w118 t_48 ls _ _ (kl_back hq hx48) (lv_sub hl [2, 3, 4, 5, 6, 1, 7, 0] rfl) hP hD hS kk48_242
                            refine lv_icmp_ne (tgt := 233) hx hb dL_isBoard_187 (by decide) (fun c_187 => ?_) (fun c_187 => ?_)
                            · have hq := k_f c_187 hq
                              refine lv_iconst (v := 0) hx hb dL_isBoard_233 (by decide) ?_
                              exact J234 0 s102 ls _ _ hq (lv_sub hl [1, 2, 3, 4, 5, 6, 7] rfl) hP hD hS
                            · have hq := k_t c_187 hq
                              refine lv_iload hx hb dL_isBoard_190 (lv_at hl 8 rfl) ?_
                              refine lv_iconst (v := (-1)) hx hb dL_isBoard_192 (by decide) ?_
                              refine lv_icmp_eq (tgt := 209) hx hb dL_isBoard_193 (by decide) (fun c_193 => ?_) (fun c_193 => ?_)
                              · have hq := k_t c_193 hq
                                refine lv_iload hx hb dL_isBoard_209 (lv_at hl 9 rfl) ?_
                                refine lv_if_eq (tgt := 229) hx hb dL_isBoard_211 (by decide) (fun c_211 => ?_) (fun c_211 => ?_)
                                · have hq := k_t c_211 hq
                                  refine lv_iconst (v := 1) hx hb dL_isBoard_229 (by decide) ?_
                                  refine lv_goto (tgt := 234) hx hb dL_isBoard_230 (by decide) ?_
                                  exact J234 1 s102 ls _ _ hq (lv_sub hl [1, 2, 3, 4, 5, 6, 7] rfl) hP hD hS
                                · have hq := k_f c_211 hq
                                  refine lv_aload_n hx hb dL_isBoard_214 rfl (lv_at hl 1 rfl) ?_
                                  refine lv_iload hx hb dL_isBoard_215 (lv_at hl 6 rfl) ?_
                                  obtain ⟨q119, eq119, hq⟩ := ob hq
                                  have hPc := hP.sub (ws' := [(qX, .inr (7, [.ref qB, .ref qH, .ref qK, .ref qV, .ref qS, .ref qW])), (qB, .inr (0, [.ref qBT, .ref qBC, .ref qBN, .ref qBW, .ref qBL, .int bn, .int bk, .int bs])), (qBT, .inl (G.2.1, 16, .inl bT)), (qBW, .inl (G.2.1, 64, .inl bW)), (qBL, .inl (G.2.1, 16, .inl s102))]) [0, 1, 2, 4, 5] rfl
                                  have hKc := hK
                                  have hDc := hD.sub (ws' := [(qX, .inr (7, [.ref qB, .ref qH, .ref qK, .ref qV, .ref qS, .ref qW])), (qB, .inr (0, [.ref qBT, .ref qBC, .ref qBN, .ref qBW, .ref qBL, .int bn, .int bk, .int bs])), (qBT, .inl (G.2.1, 16, .inl bT)), (qBW, .inl (G.2.1, 64, .inl bW)), (qBL, .inl (G.2.1, 16, .inl s102))]) [0, 1, 2, 4, 5] (by decide) rfl
                                  have hFc := va_free (wc := [(qX, .inr (7, [.ref qB, .ref qH, .ref qK, .ref qV, .ref qS, .ref qW])), (qB, .inr (0, [.ref qBT, .ref qBC, .ref qBN, .ref qBW, .ref qBL, .int bn, .int bk, .int bs])), (qBT, .inl (G.2.1, 16, .inl bT)), (qBW, .inl (G.2.1, 64, .inl bW)), (qBL, .inl (G.2.1, 16, .inl s102))]) hD hS hA [0, 1, 2, 4, 5] rfl
                                  refine va_calli (va_runV (As := [.int s66]) (rest := []) ⟨hx, hb, hml, hown, hts⟩ (tX7_isWatered G l eq119) (cwV 1 hts gL_isBoard_X7_isWatered rfl rfl rfl (by decide +kernel) ⟨Nat.le_of_ble_eq_true rfl, Nat.le_of_ble_eq_true rfl⟩) ⟨pcW_blind, va_recv hKc hPc (ci := 7) (q0 := 0) rfl rfl, pcW_pre hPc hKK hDc⟩ rfl rfl hl.1 rfl (lv_room (Nat.le_of_ble_eq_true rfl)) dL_isBoard_217 ⟨Nat.zero_le _, Nat.zero_le _⟩) hS (fun q _ h => hFc q h) hFc (fun r0 u t H1 locs ht hvm hw hB hz1 hk1 hS => ?_)
                                  obtain rfl := hw
                                  have hB := va_Pto ht hB
                                  obtain ⟨hP, hD⟩ := jn (ws' := [(qX, .inr (7, [.ref qB, .ref qH, .ref qK, .ref qV, .ref qS, .ref qW])), (qB, .inr (0, [.ref qBT, .ref qBC, .ref qBN, .ref qBW, .ref qBL, .int bn, .int bk, .int bs])), (qBT, .inl (G.2.1, 16, .inl bT)), (qBN, .inl (G.2.1, 64, .inl bN)), (qBW, .inl (G.2.1, 64, .inl bW)), (qBL, .inl (G.2.1, 16, .inl q119.2)), (qTT, .inl (G.2.1, 64, .inl tT)), (qTW, .inl (G.2.1, 16, .inl tW))]) hP hD hk1 hB [0, 1, 2, 4, 5] rfl rfl rfl rfl
                                  generalize H1 = H at hP hS ⊢
                                  refine lv_aload_n hx hb dL_isBoard_220 rfl (lv_at hl 1 rfl) ?_
                                  refine lv_iload hx hb dL_isBoard_221 (lv_at hl 8 rfl) ?_
                                  obtain ⟨q120, eq120, hq⟩ := ob hq
                                  have hPc := hP.sub (ws' := [(qX, .inr (7, [.ref qB, .ref qH, .ref qK, .ref qV, .ref qS, .ref qW])), (qB, .inr (0, [.ref qBT, .ref qBC, .ref qBN, .ref qBW, .ref qBL, .int bn, .int bk, .int bs])), (qBT, .inl (G.2.1, 16, .inl bT)), (qBW, .inl (G.2.1, 64, .inl bW)), (qBL, .inl (G.2.1, 16, .inl q119.2))]) [0, 1, 2, 4, 5] rfl
                                  have hKc := hK
                                  have hDc := hD.sub (ws' := [(qX, .inr (7, [.ref qB, .ref qH, .ref qK, .ref qV, .ref qS, .ref qW])), (qB, .inr (0, [.ref qBT, .ref qBC, .ref qBN, .ref qBW, .ref qBL, .int bn, .int bk, .int bs])), (qBT, .inl (G.2.1, 16, .inl bT)), (qBW, .inl (G.2.1, 64, .inl bW)), (qBL, .inl (G.2.1, 16, .inl q119.2))]) [0, 1, 2, 4, 5] (by decide) rfl
                                  have hFc := va_free (wc := [(qX, .inr (7, [.ref qB, .ref qH, .ref qK, .ref qV, .ref qS, .ref qW])), (qB, .inr (0, [.ref qBT, .ref qBC, .ref qBN, .ref qBW, .ref qBL, .int bn, .int bk, .int bs])), (qBT, .inl (G.2.1, 16, .inl bT)), (qBW, .inl (G.2.1, 64, .inl bW)), (qBL, .inl (G.2.1, 16, .inl q119.2))]) hD hS hA [0, 1, 2, 4, 5] rfl
                                  refine va_calli (va_runV (As := [.int q103]) (rest := [.int q119.1]) ⟨hx, hb, hml, hown, hts⟩ (tX7_isWatered G l eq120) (cwV 1 hts gL_isBoard_X7_isWatered rfl rfl rfl (by decide +kernel) ⟨Nat.le_of_ble_eq_true rfl, Nat.le_of_ble_eq_true rfl⟩) ⟨pcW_blind, va_recv hKc hPc (ci := 7) (q0 := 0) rfl rfl, pcW_pre hPc hKK hDc⟩ rfl rfl hl.1 rfl (lv_room (Nat.le_of_ble_eq_true rfl)) dL_isBoard_223 ⟨Nat.zero_le _, Nat.zero_le _⟩) hS (fun q _ h => hFc q h) hFc (fun r0 u t H1 locs ht hvm hw hB hz1 hk1 hS => ?_)
                                  obtain rfl := hw
                                  have hB := va_Pto ht hB
                                  obtain ⟨hP, hD⟩ := jn (ws' := [(qX, .inr (7, [.ref qB, .ref qH, .ref qK, .ref qV, .ref qS, .ref qW])), (qB, .inr (0, [.ref qBT, .ref qBC, .ref qBN, .ref qBW, .ref qBL, .int bn, .int bk, .int bs])), (qBT, .inl (G.2.1, 16, .inl bT)), (qBN, .inl (G.2.1, 64, .inl bN)), (qBW, .inl (G.2.1, 64, .inl bW)), (qBL, .inl (G.2.1, 16, .inl q120.2)), (qTT, .inl (G.2.1, 64, .inl tT)), (qTW, .inl (G.2.1, 16, .inl tW))]) hP hD hk1 hB [0, 1, 2, 4, 5] rfl rfl rfl rfl
                                  generalize H1 = H at hP hS ⊢
                                  refine lv_icmp_ne (tgt := 233) hx hb dL_isBoard_226 (by decide) (fun c_226 => ?_) (fun c_226 => ?_)
                                  · have hq := k_f c_226 hq
                                    refine lv_iconst (v := 0) hx hb dL_isBoard_233 (by decide) ?_
                                    exact J234 0 q120.2 ls _ _ hq (lv_sub hl [1, 2, 3, 4, 5, 6, 7] rfl) hP hD hS
                                  · have hq := k_t c_226 hq
                                    refine lv_iconst (v := 1) hx hb dL_isBoard_229 (by decide) ?_
                                    refine lv_goto (tgt := 234) hx hb dL_isBoard_230 (by decide) ?_
                                    exact J234 1 q120.2 ls _ _ hq (lv_sub hl [1, 2, 3, 4, 5, 6, 7] rfl) hP hD hS
                              · have hq := k_f c_193 hq
                                refine lv_aload_n hx hb dL_isBoard_196 rfl (lv_at hl 1 rfl) ?_
                                refine lv_iload hx hb dL_isBoard_197 (lv_at hl 8 rfl) ?_
                                refine lv_iload hx hb dL_isBoard_199 (lv_at hl 10 rfl) ?_
                                obtain ⟨q121, eq121, hq⟩ := ob hq
                                have hPc := hP.sub (ws' := [(qX, .inr (7, [.ref qB, .ref qH, .ref qK, .ref qV, .ref qS, .ref qW])), (qB, .inr (0, [.ref qBT, .ref qBC, .ref qBN, .ref qBW, .ref qBL, .int bn, .int bk, .int bs])), (qBN, .inl (G.2.1, 64, .inl bN))]) [0, 1, 3] rfl
                                have hKc := hK
                                have hDc := hD.sub (ws' := [(qX, .inr (7, [.ref qB, .ref qH, .ref qK, .ref qV, .ref qS, .ref qW])), (qB, .inr (0, [.ref qBT, .ref qBC, .ref qBN, .ref qBW, .ref qBL, .int bn, .int bk, .int bs])), (qBN, .inl (G.2.1, 64, .inl bN))]) [0, 1, 3] (by decide) rfl
                                have hFc := va_free (wc := [(qX, .inr (7, [.ref qB, .ref qH, .ref qK, .ref qV, .ref qS, .ref qW])), (qB, .inr (0, [.ref qBT, .ref qBC, .ref qBN, .ref qBW, .ref qBL, .int bn, .int bk, .int bs])), (qBN, .inl (G.2.1, 64, .inl bN))]) hD hS hA [0, 1, 3] rfl
                                refine va_calli (va_runV (As := [.int q103, .int y110]) (rest := []) ⟨hx, hb, hml, hown, hts⟩ (tX7_neighbour G l eq121) (cwV 2 hts gL_isBoard_X7_neighbour rfl rfl rfl (by decide +kernel) ⟨Nat.le_of_ble_eq_true rfl, Nat.le_of_ble_eq_true rfl⟩) ⟨pcW_blind, va_recv hKc hPc (ci := 7) (q0 := 0) rfl rfl, pcW_pre hPc hKK hDc⟩ rfl rfl hl.1 rfl (lv_room (Nat.le_of_ble_eq_true rfl)) dL_isBoard_201 ⟨Nat.zero_le _, Nat.zero_le _⟩) hS (fun q _ h => hFc q h) hFc (fun r0 u t H1 locs ht hvm hw hB hz1 hk1 hS => ?_)
                                obtain rfl := hw
                                have hB := va_Pto ht hB
                                obtain ⟨hP, hD⟩ := jn (ws' := [(qX, .inr (7, [.ref qB, .ref qH, .ref qK, .ref qV, .ref qS, .ref qW])), (qB, .inr (0, [.ref qBT, .ref qBC, .ref qBN, .ref qBW, .ref qBL, .int bn, .int bk, .int bs])), (qBT, .inl (G.2.1, 16, .inl bT)), (qBN, .inl (G.2.1, 64, .inl bN)), (qBW, .inl (G.2.1, 64, .inl bW)), (qBL, .inl (G.2.1, 16, .inl s102)), (qTT, .inl (G.2.1, 64, .inl tT)), (qTW, .inl (G.2.1, 16, .inl tW))]) hP hD hk1 hB [0, 1, 3] rfl rfl rfl rfl
                                generalize H1 = H at hP hS ⊢
                                refine lv_iload hx hb dL_isBoard_204 (lv_at hl 6 rfl) ?_
                                refine lv_icmp_ne (tgt := 233) hx hb dL_isBoard_206 (by decide) (fun c_206 => ?_) (fun c_206 => ?_)
                                · have hq := k_f c_206 hq
                                  refine lv_iconst (v := 0) hx hb dL_isBoard_233 (by decide) ?_
                                  exact J234 0 s102 ls _ _ hq (lv_sub hl [1, 2, 3, 4, 5, 6, 7] rfl) hP hD hS
                                · have hq := k_t c_206 hq
                                  refine lv_iload hx hb dL_isBoard_209 (lv_at hl 9 rfl) ?_
                                  refine lv_if_eq (tgt := 229) hx hb dL_isBoard_211 (by decide) (fun c_211 => ?_) (fun c_211 => ?_)
                                  · have hq := k_t c_211 hq
                                    refine lv_iconst (v := 1) hx hb dL_isBoard_229 (by decide) ?_
                                    refine lv_goto (tgt := 234) hx hb dL_isBoard_230 (by decide) ?_
                                    exact J234 1 s102 ls _ _ hq (lv_sub hl [1, 2, 3, 4, 5, 6, 7] rfl) hP hD hS
                                  · have hq := k_f c_211 hq
                                    refine lv_aload_n hx hb dL_isBoard_214 rfl (lv_at hl 1 rfl) ?_
                                    refine lv_iload hx hb dL_isBoard_215 (lv_at hl 6 rfl) ?_
                                    obtain ⟨q122, eq122, hq⟩ := ob hq
                                    have hPc := hP.sub (ws' := [(qX, .inr (7, [.ref qB, .ref qH, .ref qK, .ref qV, .ref qS, .ref qW])), (qB, .inr (0, [.ref qBT, .ref qBC, .ref qBN, .ref qBW, .ref qBL, .int bn, .int bk, .int bs])), (qBT, .inl (G.2.1, 16, .inl bT)), (qBW, .inl (G.2.1, 64, .inl bW)), (qBL, .inl (G.2.1, 16, .inl s102))]) [0, 1, 2, 4, 5] rfl
                                    have hKc := hK
                                    have hDc := hD.sub (ws' := [(qX, .inr (7, [.ref qB, .ref qH, .ref qK, .ref qV, .ref qS, .ref qW])), (qB, .inr (0, [.ref qBT, .ref qBC, .ref qBN, .ref qBW, .ref qBL, .int bn, .int bk, .int bs])), (qBT, .inl (G.2.1, 16, .inl bT)), (qBW, .inl (G.2.1, 64, .inl bW)), (qBL, .inl (G.2.1, 16, .inl s102))]) [0, 1, 2, 4, 5] (by decide) rfl
                                    have hFc := va_free (wc := [(qX, .inr (7, [.ref qB, .ref qH, .ref qK, .ref qV, .ref qS, .ref qW])), (qB, .inr (0, [.ref qBT, .ref qBC, .ref qBN, .ref qBW, .ref qBL, .int bn, .int bk, .int bs])), (qBT, .inl (G.2.1, 16, .inl bT)), (qBW, .inl (G.2.1, 64, .inl bW)), (qBL, .inl (G.2.1, 16, .inl s102))]) hD hS hA [0, 1, 2, 4, 5] rfl
                                    refine va_calli (va_runV (As := [.int s66]) (rest := []) ⟨hx, hb, hml, hown, hts⟩ (tX7_isWatered G l eq122) (cwV 1 hts gL_isBoard_X7_isWatered rfl rfl rfl (by decide +kernel) ⟨Nat.le_of_ble_eq_true rfl, Nat.le_of_ble_eq_true rfl⟩) ⟨pcW_blind, va_recv hKc hPc (ci := 7) (q0 := 0) rfl rfl, pcW_pre hPc hKK hDc⟩ rfl rfl hl.1 rfl (lv_room (Nat.le_of_ble_eq_true rfl)) dL_isBoard_217 ⟨Nat.zero_le _, Nat.zero_le _⟩) hS (fun q _ h => hFc q h) hFc (fun r0 u t H1 locs ht hvm hw hB hz1 hk1 hS => ?_)
                                    obtain rfl := hw
                                    have hB := va_Pto ht hB
                                    obtain ⟨hP, hD⟩ := jn (ws' := [(qX, .inr (7, [.ref qB, .ref qH, .ref qK, .ref qV, .ref qS, .ref qW])), (qB, .inr (0, [.ref qBT, .ref qBC, .ref qBN, .ref qBW, .ref qBL, .int bn, .int bk, .int bs])), (qBT, .inl (G.2.1, 16, .inl bT)), (qBN, .inl (G.2.1, 64, .inl bN)), (qBW, .inl (G.2.1, 64, .inl bW)), (qBL, .inl (G.2.1, 16, .inl q122.2)), (qTT, .inl (G.2.1, 64, .inl tT)), (qTW, .inl (G.2.1, 16, .inl tW))]) hP hD hk1 hB [0, 1, 2, 4, 5] rfl rfl rfl rfl
                                    generalize H1 = H at hP hS ⊢
                                    refine lv_aload_n hx hb dL_isBoard_220 rfl (lv_at hl 1 rfl) ?_
                                    refine lv_iload hx hb dL_isBoard_221 (lv_at hl 8 rfl) ?_
                                    obtain ⟨q123, eq123, hq⟩ := ob hq
                                    have hPc := hP.sub (ws' := [(qX, .inr (7, [.ref qB, .ref qH, .ref qK, .ref qV, .ref qS, .ref qW])), (qB, .inr (0, [.ref qBT, .ref qBC, .ref qBN, .ref qBW, .ref qBL, .int bn, .int bk, .int bs])), (qBT, .inl (G.2.1, 16, .inl bT)), (qBW, .inl (G.2.1, 64, .inl bW)), (qBL, .inl (G.2.1, 16, .inl q122.2))]) [0, 1, 2, 4, 5] rfl
                                    have hKc := hK
                                    have hDc := hD.sub (ws' := [(qX, .inr (7, [.ref qB, .ref qH, .ref qK, .ref qV, .ref qS, .ref qW])), (qB, .inr (0, [.ref qBT, .ref qBC, .ref qBN, .ref qBW, .ref qBL, .int bn, .int bk, .int bs])), (qBT, .inl (G.2.1, 16, .inl bT)), (qBW, .inl (G.2.1, 64, .inl bW)), (qBL, .inl (G.2.1, 16, .inl q122.2))]) [0, 1, 2, 4, 5] (by decide) rfl
                                    have hFc := va_free (wc := [(qX, .inr (7, [.ref qB, .ref qH, .ref qK, .ref qV, .ref qS, .ref qW])), (qB, .inr (0, [.ref qBT, .ref qBC, .ref qBN, .ref qBW, .ref qBL, .int bn, .int bk, .int bs])), (qBT, .inl (G.2.1, 16, .inl bT)), (qBW, .inl (G.2.1, 64, .inl bW)), (qBL, .inl (G.2.1, 16, .inl q122.2))]) hD hS hA [0, 1, 2, 4, 5] rfl
                                    refine va_calli (va_runV (As := [.int q103]) (rest := [.int q122.1]) ⟨hx, hb, hml, hown, hts⟩ (tX7_isWatered G l eq123) (cwV 1 hts gL_isBoard_X7_isWatered rfl rfl rfl (by decide +kernel) ⟨Nat.le_of_ble_eq_true rfl, Nat.le_of_ble_eq_true rfl⟩) ⟨pcW_blind, va_recv hKc hPc (ci := 7) (q0 := 0) rfl rfl, pcW_pre hPc hKK hDc⟩ rfl rfl hl.1 rfl (lv_room (Nat.le_of_ble_eq_true rfl)) dL_isBoard_223 ⟨Nat.zero_le _, Nat.zero_le _⟩) hS (fun q _ h => hFc q h) hFc (fun r0 u t H1 locs ht hvm hw hB hz1 hk1 hS => ?_)
                                    obtain rfl := hw
                                    have hB := va_Pto ht hB
                                    obtain ⟨hP, hD⟩ := jn (ws' := [(qX, .inr (7, [.ref qB, .ref qH, .ref qK, .ref qV, .ref qS, .ref qW])), (qB, .inr (0, [.ref qBT, .ref qBC, .ref qBN, .ref qBW, .ref qBL, .int bn, .int bk, .int bs])), (qBT, .inl (G.2.1, 16, .inl bT)), (qBN, .inl (G.2.1, 64, .inl bN)), (qBW, .inl (G.2.1, 64, .inl bW)), (qBL, .inl (G.2.1, 16, .inl q123.2)), (qTT, .inl (G.2.1, 64, .inl tT)), (qTW, .inl (G.2.1, 16, .inl tW))]) hP hD hk1 hB [0, 1, 2, 4, 5] rfl rfl rfl rfl
                                    generalize H1 = H at hP hS ⊢
                                    refine lv_icmp_ne (tgt := 233) hx hb dL_isBoard_226 (by decide) (fun c_226 => ?_) (fun c_226 => ?_)
                                    · have hq := k_f c_226 hq
                                      refine lv_iconst (v := 0) hx hb dL_isBoard_233 (by decide) ?_
                                      exact J234 0 q123.2 ls _ _ hq (lv_sub hl [1, 2, 3, 4, 5, 6, 7] rfl) hP hD hS
                                    · have hq := k_t c_226 hq
                                      refine lv_iconst (v := 1) hx hb dL_isBoard_229 (by decide) ?_
                                      refine lv_goto (tgt := 234) hx hb dL_isBoard_230 (by decide) ?_
                                      exact J234 1 q123.2 ls _ _ hq (lv_sub hl [1, 2, 3, 4, 5, 6, 7] rfl) hP hD hS
                          refine lv_icmp_eq (tgt := 180) hx hb dL_isBoard_143 (by decide) (fun c_143 => ?_) (fun c_143 => ?_)
                          · have hq := k_t c_143 hq
                            refine lv_iconst (v := 0) hx hb dL_isBoard_180 (by decide) ?_
                            exact J181 0 ls _ _ hq (lv_sub hl [2, 3, 4, 5, 1, 6, 7, 8, 9, 0] rfl) hP hD hS
                          · have hq := k_f c_143 hq
                            refine lv_aload_n hx hb dL_isBoard_146 rfl (lv_at hl 4 rfl) ?_
                            refine lv_iload hx hb dL_isBoard_147 (lv_at hl 6 rfl) ?_
                            obtain ⟨hg, hq⟩ := k_g hq
                            refine va_iald hx hb hK hP 7 0 rfl rfl (ix_in hg) dL_isBoard_149 ?_
                            refine lv_iload hx hb dL_isBoard_150 (lv_at hl 7 rfl) ?_
                            refine lv_ishr hx hb dL_isBoard_152 ?_
                            refine lv_iconst (v := 1) hx hb dL_isBoard_153 (by decide) ?_
                            refine lv_iand hx hb dL_isBoard_154 ?_
                            refine lv_if_ne (tgt := 180) hx hb dL_isBoard_155 (by decide) (fun c_155 => ?_) (fun c_155 => ?_)
                            · have hq := k_f c_155 hq
                              refine lv_iconst (v := 0) hx hb dL_isBoard_180 (by decide) ?_
                              exact J181 0 ls _ _ hq (lv_sub hl [2, 3, 4, 5, 1, 6, 7, 8, 9, 0] rfl) hP hD hS
                            · have hq := k_t c_155 hq
                              refine lv_iload hx hb dL_isBoard_158 (lv_at hl 10 rfl) ?_
                              refine lv_if_eq (tgt := 180) hx hb dL_isBoard_160 (by decide) (fun c_160 => ?_) (fun c_160 => ?_)
                              · have hq := k_t c_160 hq
                                refine lv_iconst (v := 0) hx hb dL_isBoard_180 (by decide) ?_
                                exact J181 0 ls _ _ hq (lv_sub hl [2, 3, 4, 5, 1, 6, 7, 8, 9, 0] rfl) hP hD hS
                              · have hq := k_f c_160 hq
                                refine lv_aload_n hx hb dL_isBoard_163 rfl (lv_at hl 3 rfl) ?_
                                refine lv_iload hx hb dL_isBoard_164 (lv_at hl 8 rfl) ?_
                                obtain ⟨hg, hq⟩ := k_g hq
                                refine va_iald hx hb hK hP 6 0 rfl rfl (ix_in hg) dL_isBoard_166 ?_
                                refine lv_iload hx hb dL_isBoard_167 (lv_at hl 0 rfl) ?_
                                refine lv_ishr hx hb dL_isBoard_169 ?_
                                refine lv_iconst (v := 1) hx hb dL_isBoard_170 (by decide) ?_
                                refine lv_iand hx hb dL_isBoard_171 ?_
                                refine lv_iconst (v := 1) hx hb dL_isBoard_172 (by decide) ?_
                                refine lv_icmp_ne (tgt := 180) hx hb dL_isBoard_173 (by decide) (fun c_173 => ?_) (fun c_173 => ?_)
                                · have hq := k_f c_173 hq
                                  refine lv_iconst (v := 0) hx hb dL_isBoard_180 (by decide) ?_
                                  exact J181 0 ls _ _ hq (lv_sub hl [2, 3, 4, 5, 1, 6, 7, 8, 9, 0] rfl) hP hD hS
                                · have hq := k_t c_173 hq
                                  refine lv_iconst (v := 1) hx hb dL_isBoard_176 (by decide) ?_
                                  refine lv_goto (tgt := 181) hx hb dL_isBoard_177 (by decide) ?_
                                  exact J181 1 ls _ _ hq (lv_sub hl [2, 3, 4, 5, 1, 6, 7, 8, 9, 0] rfl) hP hD hS
                        refine lv_if_eq (tgt := 128) hx hb dL_isBoard_121 (by decide) (fun c_121 => ?_) (fun c_121 => ?_)
                        · have hq := k_t c_121 hq
                          refine lv_iconst (v := 0) hx hb dL_isBoard_128 (by decide) ?_
                          exact J129 0 ls _ _ hq (lv_sub hl [1, 2, 3, 0, 5, 6, 7, 8, 9] rfl) hP hD hS
                        · have hq := k_f c_121 hq
                          refine lv_iconst (v := 1) hx hb dL_isBoard_124 (by decide) ?_
                          refine lv_goto (tgt := 129) hx hb dL_isBoard_125 (by decide) ?_
                          exact J129 1 ls _ _ hq (lv_sub hl [1, 2, 3, 0, 5, 6, 7, 8, 9] rfl) hP hD hS
                      refine lv_if_eq (tgt := 114) hx hb dL_isBoard_102 (by decide) (fun c_102 => ?_) (fun c_102 => ?_)
                      · have hq := k_t c_102 hq
                        refine lv_iconst (v := 0) hx hb dL_isBoard_114 (by decide) ?_
                        exact J115 0 ls _ _ hq (lv_sub hl [1, 2, 3, 5, 6, 7, 8, 9, 0] rfl) hP hD hS
                      · have hq := k_f c_102 hq
                        refine lv_iload hx hb dL_isBoard_105 (lv_at hl 9 rfl) ?_
                        refine lv_if_ne (tgt := 114) hx hb dL_isBoard_107 (by decide) (fun c_107 => ?_) (fun c_107 => ?_)
                        · have hq := k_f c_107 hq
                          refine lv_iconst (v := 0) hx hb dL_isBoard_114 (by decide) ?_
                          exact J115 0 ls _ _ hq (lv_sub hl [1, 2, 3, 5, 6, 7, 8, 9, 0] rfl) hP hD hS
                        · have hq := k_t c_107 hq
                          refine lv_iconst (v := 1) hx hb dL_isBoard_110 (by decide) ?_
                          refine lv_goto (tgt := 115) hx hb dL_isBoard_111 (by decide) ?_
                          exact J115 1 ls _ _ hq (lv_sub hl [1, 2, 3, 5, 6, 7, 8, 9, 0] rfl) hP hD hS
                    refine lv_icmp_ne (tgt := 96) hx hb dL_isBoard_89 (by decide) (fun c_89 => ?_) (fun c_89 => ?_)
                    · have hq := k_f c_89 hq
                      refine lv_iconst (v := 0) hx hb dL_isBoard_96 (by decide) ?_
                      exact J97 0 ls _ _ hq (lv_sub hl [2, 3, 4, 5, 6, 8, 9, 1, 0] rfl) hP hD hS
                    · have hq := k_t c_89 hq
                      refine lv_iconst (v := 1) hx hb dL_isBoard_92 (by decide) ?_
                      refine lv_goto (tgt := 97) hx hb dL_isBoard_93 (by decide) ?_
                      exact J97 1 ls _ _ hq (lv_sub hl [2, 3, 4, 5, 6, 8, 9, 1, 0] rfl) hP hD hS
            obtain ⟨q124, eq124, hq⟩ := ob hq
            refine L48 F s63 s64 v70 0 s67 q124 ls _ _ (eq124) (lv_sub hl [2, 3, 4, 5, 6, 1, 7, 0] rfl) hP hD hS (fun ls H locs hl hP hD hS => ?_)
            · refine lv_iinc (v := (s66 + 1)) (lv' := [(6, .int (s66 + 1)), (0, .ref qX), (1, .ref qTT), (2, .ref qTW), (3, .int q124.1), (4, .int q124.2.1), (5, .int q124.2.2.1)]) hx hb dL_isBoard_242 hl (k := 6) rfl rfl (by decide) rfl (fun ls hl => ?_)
              refine lv_goto (tgt := 11) hx hb dL_isBoard_245 (by decide) ?_
              exact ih11 q124.1 q124.2.1 q124.2.2.1 (s66 + 1) q124.2.2.2 t_11 ls _ _ (kl_back hq hx11) (lv_sub hl [1, 2, 3, 4, 5, 6, 0] rfl) hP hD hS kk11_248
          refine lv_icmp_ne (tgt := 42) hx hb dL_isBoard_35 (by decide) (fun c_35 => ?_) (fun c_35 => ?_)
          · have hq := k_f c_35 hq
            refine lv_iconst (v := 0) hx hb dL_isBoard_42 (by decide) ?_
            exact J43 0 ls _ _ hq (lv_sub hl [0, 1, 2, 3, 4, 6] rfl) hP hD hS
          · have hq := k_t c_35 hq
            refine lv_iconst (v := 1) hx hb dL_isBoard_38 (by decide) ?_
            refine lv_goto (tgt := 43) hx hb dL_isBoard_39 (by decide) ?_
            exact J43 1 ls _ _ hq (lv_sub hl [0, 1, 2, 3, 4, 6] rfl) hP hD hS
  obtain ⟨q125, eq125, hq⟩ := ob hq
  refine L11 F 0 0 1 0 bL q125 ls _ _ (eq125) (lv_sub hl [4, 5, 6, 3, 2, 1, 0] rfl) hP hD hS (fun ls H locs hl hP hD hS => ?_)
  · refine lv_iconst (v := 0) hx hb dL_isBoard_248 (by decide) ?_
    refine lv_istore (lv' := [(6, .int 0), (0, .ref qX), (3, .int q125.1), (4, .int q125.2.1), (5, .int q125.2.2.1)]) hx hb dL_isBoard_249 hl (by decide) rfl (fun ls hl => ?_)
    refine lv_iconst (v := 0) hx hb dL_isBoard_251 (by decide) ?_
    refine lv_istore (lv' := [(7, .int 0), (6, .int 0), (0, .ref qX), (3, .int q125.1), (4, .int q125.2.1), (5, .int q125.2.2.1)]) hx hb dL_isBoard_252 hl (by decide) rfl (fun ls hl => ?_)
    have L254 : ∀ (n : Nat) (s138 : Int32) (s139 : Int32) (s140 : Nat → Int32) (t_254 : Int32 × (Nat → Int32)) (ls : Array Slot) (H : Heap) (locs : List Loc), kloop n (fun s_ => kL_isBoard_s254 F bn bs bT bW s_.1 s_.2.1 s_.2.2) (s138, s139, s140) = some t_254 → lv_has ls 13 [(0, .ref qX), (3, .int q125.1), (4, .int q125.2.1), (5, .int q125.2.2.1), (6, .int s138), (7, .int s139)] → va_P G.1 vwCl [(qX, .inr (7, [.ref qB, .ref qH, .ref qK, .ref qV, .ref qS, .ref qW])), (qB, .inr (0, [.ref qBT, .ref qBC, .ref qBN, .ref qBW, .ref qBL, .int bn, .int bk, .int bs])), (qBT, .inl (G.2.1, 16, .inl bT)), (qBN, .inl (G.2.1, 64, .inl bN)), (qBW, .inl (G.2.1, 64, .inl bW)), (qBL, .inl (G.2.1, 16, .inl s140)), (qTT, .inl (G.2.1, 64, .inl tT)), (qTW, .inl (G.2.1, 16, .inl tW))] H → va_D A [(qX, .inr (7, [.ref qB, .ref qH, .ref qK, .ref qV, .ref qS, .ref qW])), (qB, .inr (0, [.ref qBT, .ref qBC, .ref qBN, .ref qBW, .ref qBL, .int bn, .int bk, .int bs])), (qBT, .inl (G.2.1, 16, .inl bT)), (qBN, .inl (G.2.1, 64, .inl bN)), (qBW, .inl (G.2.1, 64, .inl bW)), (qBL, .inl (G.2.1, 16, .inl s140)), (qTT, .inl (G.2.1, 64, .inl tT)), (qTW, .inl (G.2.1, 16, .inl tW))] → va_S A s.heap H locs → (∀ (ls : Array Slot) (H : Heap) (locs : List Loc), lv_has ls 13 [(0, .ref qX), (3, .int q125.1), (4, .int q125.2.1), (5, .int q125.2.2.1), (6, .int t_254.1)] → va_P G.1 vwCl [(qX, .inr (7, [.ref qB, .ref qH, .ref qK, .ref qV, .ref qS, .ref qW])), (qB, .inr (0, [.ref qBT, .ref qBC, .ref qBN, .ref qBW, .ref qBL, .int bn, .int bk, .int bs])), (qBT, .inl (G.2.1, 16, .inl bT)), (qBN, .inl (G.2.1, 64, .inl bN)), (qBW, .inl (G.2.1, 64, .inl bW)), (qBL, .inl (G.2.1, 16, .inl t_254.2)), (qTT, .inl (G.2.1, 64, .inl tT)), (qTW, .inl (G.2.1, 16, .inl tW))] H → va_D A [(qX, .inr (7, [.ref qB, .ref qH, .ref qK, .ref qV, .ref qS, .ref qW])), (qB, .inr (0, [.ref qBT, .ref qBC, .ref qBN, .ref qBW, .ref qBL, .int bn, .int bk, .int bs])), (qBT, .inl (G.2.1, 16, .inl bT)), (qBN, .inl (G.2.1, 64, .inl bN)), (qBW, .inl (G.2.1, 64, .inl bW)), (qBL, .inl (G.2.1, 16, .inl t_254.2)), (qTT, .inl (G.2.1, 64, .inl tT)), (qTW, .inl (G.2.1, 16, .inl tW))] → va_S A s.heap H locs → W p l e (headSpec wsL_isBoard rmL_isBoard).room s m ([.ref qX, .ref qTT, .ref qTW] : List Value).toArray below meth c H locs 0 0 Q (F0 m 288 ls [])) → W p l e (headSpec wsL_isBoard rmL_isBoard).room s m ([.ref qX, .ref qTT, .ref qTW] : List Value).toArray below meth c H locs 0 0 Q (F0 m 254 ls []) := by
      intro n
      induction n with
      | zero => 
        intro s138 s139 s140 t_254 ls H locs hq hl hP hD hS kk254_288
        exact absurd hq kl_0
      | succ n ih254 =>
        intro s138 s139 s140 t_254 ls H locs hq hl hP hD hS kk254_288
        obtain ⟨y_254, hq, hx254⟩ := kl_s hq
        have hq : kL_isBoard_s254 F bn bs bT bW s138 s139 s140 = some y_254 := hq
        unfold kL_isBoard_s254 at hq
        refine lv_iload hx hb dL_isBoard_254 (lv_at hl 5 rfl) ?_
        refine lv_aload_n hx hb dL_isBoard_256 rfl (lv_at hl 0 rfl) ?_
        obtain ⟨q141, eq141, hq⟩ := ob hq
        have hPc := hP.sub (ws' := [(qX, .inr (7, [.ref qB, .ref qH, .ref qK, .ref qV, .ref qS, .ref qW])), (qB, .inr (0, [.ref qBT, .ref qBC, .ref qBN, .ref qBW, .ref qBL, .int bn, .int bk, .int bs]))]) [0, 1] rfl
        have hKc := hK
        refine vp_callSi (va_Run.run (va_runV (As := []) (rest := [.int s139]) ⟨hx, hb, hml, hown, hts⟩ (tX7_size G l eq141) (cwV 0 hts gL_isBoard_X7_size rfl rfl rfl (by decide +kernel) ⟨Nat.le_of_ble_eq_true rfl, Nat.le_of_ble_eq_true rfl⟩) ⟨pcP_blind, va_recv hKc hPc (ci := 7) (q0 := 0) rfl rfl, pcP_pre hPc hKK⟩ rfl rfl hl.1 rfl (lv_room (Nat.le_of_ble_eq_true rfl)) dL_isBoard_257 ⟨Nat.zero_le _, Nat.zero_le _⟩)) (fun r0 hr0 => ?_)
        obtain rfl := hr0
        refine lv_icmp_ge (tgt := 288) hx hb dL_isBoard_260 (by decide) (fun c_260 => ?_) (fun c_260 => ?_)
        · have hq := k_t c_260 hq
          have et := kl_exit hq hx254
          subst et
          exact kk254_288 ls _ _ (lv_sub hl [0, 1, 2, 3, 4] rfl) hP hD hS
        · have hq := k_f c_260 hq
          refine lv_iload hx hb dL_isBoard_263 (lv_at hl 4 rfl) ?_
          refine lv_aload_n hx hb dL_isBoard_265 rfl (lv_at hl 0 rfl) ?_
          refine lv_iload hx hb dL_isBoard_266 (lv_at hl 5 rfl) ?_
          obtain ⟨q142, eq142, hq⟩ := ob hq
          have hPc := hP.sub (ws' := [(qX, .inr (7, [.ref qB, .ref qH, .ref qK, .ref qV, .ref qS, .ref qW])), (qB, .inr (0, [.ref qBT, .ref qBC, .ref qBN, .ref qBW, .ref qBL, .int bn, .int bk, .int bs])), (qBT, .inl (G.2.1, 16, .inl bT)), (qBW, .inl (G.2.1, 64, .inl bW)), (qBL, .inl (G.2.1, 16, .inl s140))]) [0, 1, 2, 4, 5] rfl
          have hKc := hK
          have hDc := hD.sub (ws' := [(qX, .inr (7, [.ref qB, .ref qH, .ref qK, .ref qV, .ref qS, .ref qW])), (qB, .inr (0, [.ref qBT, .ref qBC, .ref qBN, .ref qBW, .ref qBL, .int bn, .int bk, .int bs])), (qBT, .inl (G.2.1, 16, .inl bT)), (qBW, .inl (G.2.1, 64, .inl bW)), (qBL, .inl (G.2.1, 16, .inl s140))]) [0, 1, 2, 4, 5] (by decide) rfl
          have hFc := va_free (wc := [(qX, .inr (7, [.ref qB, .ref qH, .ref qK, .ref qV, .ref qS, .ref qW])), (qB, .inr (0, [.ref qBT, .ref qBC, .ref qBN, .ref qBW, .ref qBL, .int bn, .int bk, .int bs])), (qBT, .inl (G.2.1, 16, .inl bT)), (qBW, .inl (G.2.1, 64, .inl bW)), (qBL, .inl (G.2.1, 16, .inl s140))]) hD hS hA [0, 1, 2, 4, 5] rfl
          refine va_calli (va_runV (As := [.int s139]) (rest := [.int s138]) ⟨hx, hb, hml, hown, hts⟩ (tX7_isWatered G l eq142) (cwV 1 hts gL_isBoard_X7_isWatered rfl rfl rfl (by decide +kernel) ⟨Nat.le_of_ble_eq_true rfl, Nat.le_of_ble_eq_true rfl⟩) ⟨pcW_blind, va_recv hKc hPc (ci := 7) (q0 := 0) rfl rfl, pcW_pre hPc hKK hDc⟩ rfl rfl hl.1 rfl (lv_room (Nat.le_of_ble_eq_true rfl)) dL_isBoard_268 ⟨Nat.zero_le _, Nat.zero_le _⟩) hS (fun q _ h => hFc q h) hFc (fun r0 u t H1 locs ht hvm hw hB hz1 hk1 hS => ?_)
          obtain rfl := hw
          have hB := va_Pto ht hB
          obtain ⟨hP, hD⟩ := jn (ws' := [(qX, .inr (7, [.ref qB, .ref qH, .ref qK, .ref qV, .ref qS, .ref qW])), (qB, .inr (0, [.ref qBT, .ref qBC, .ref qBN, .ref qBW, .ref qBL, .int bn, .int bk, .int bs])), (qBT, .inl (G.2.1, 16, .inl bT)), (qBN, .inl (G.2.1, 64, .inl bN)), (qBW, .inl (G.2.1, 64, .inl bW)), (qBL, .inl (G.2.1, 16, .inl q142.2)), (qTT, .inl (G.2.1, 64, .inl tT)), (qTW, .inl (G.2.1, 16, .inl tW))]) hP hD hk1 hB [0, 1, 2, 4, 5] rfl rfl rfl rfl
          generalize H1 = H at hP hS ⊢
          refine lv_if_eq (tgt := 278) hx hb dL_isBoard_271 (by decide) (fun c_271 => ?_) (fun c_271 => ?_)
          · have hq := k_t c_271 hq
            refine lv_iconst (v := 0) hx hb dL_isBoard_278 (by decide) ?_
            refine lv_iadd hx hb dL_isBoard_279 ?_
            refine lv_istore (lv' := [(6, .int (s138 + 0)), (0, .ref qX), (3, .int q125.1), (4, .int q125.2.1), (5, .int q125.2.2.1), (7, .int s139)]) hx hb dL_isBoard_280 hl (by decide) rfl (fun ls hl => ?_)
            obtain ⟨y145, ey145, hq⟩ := ob hq
            have ey145 := Option.some.inj ey145
            have hl : lv_has ls 13 [(6, .int y145), (0, .ref qX), (3, .int q125.1), (4, .int q125.2.1), (5, .int q125.2.2.1), (7, .int s139)] := ey145 ▸ hl
            refine lv_iinc (v := (s139 + 1)) (lv' := [(7, .int (s139 + 1)), (6, .int y145), (0, .ref qX), (3, .int q125.1), (4, .int q125.2.1), (5, .int q125.2.2.1)]) hx hb dL_isBoard_282 hl (k := 5) rfl rfl (by decide) rfl (fun ls hl => ?_)
            refine lv_goto (tgt := 254) hx hb dL_isBoard_285 (by decide) ?_
            exact ih254 y145 (s139 + 1) q142.2 t_254 ls _ _ (kl_back hq hx254) (lv_sub hl [2, 3, 4, 5, 1, 0] rfl) hP hD hS kk254_288
          · have hq := k_f c_271 hq
            refine lv_iconst (v := 1) hx hb dL_isBoard_274 (by decide) ?_
            refine lv_goto (tgt := 279) hx hb dL_isBoard_275 (by decide) ?_
            refine lv_iadd hx hb dL_isBoard_279 ?_
            refine lv_istore (lv' := [(6, .int (s138 + 1)), (0, .ref qX), (3, .int q125.1), (4, .int q125.2.1), (5, .int q125.2.2.1), (7, .int s139)]) hx hb dL_isBoard_280 hl (by decide) rfl (fun ls hl => ?_)
            obtain ⟨y146, ey146, hq⟩ := ob hq
            have ey146 := Option.some.inj ey146
            have hl : lv_has ls 13 [(6, .int y146), (0, .ref qX), (3, .int q125.1), (4, .int q125.2.1), (5, .int q125.2.2.1), (7, .int s139)] := ey146 ▸ hl
            refine lv_iinc (v := (s139 + 1)) (lv' := [(7, .int (s139 + 1)), (6, .int y146), (0, .ref qX), (3, .int q125.1), (4, .int q125.2.1), (5, .int q125.2.2.1)]) hx hb dL_isBoard_282 hl (k := 5) rfl rfl (by decide) rfl (fun ls hl => ?_)
            refine lv_goto (tgt := 254) hx hb dL_isBoard_285 (by decide) ?_
            exact ih254 y146 (s139 + 1) q142.2 t_254 ls _ _ (kl_back hq hx254) (lv_sub hl [2, 3, 4, 5, 1, 0] rfl) hP hD hS kk254_288
    obtain ⟨q147, eq147, hq⟩ := ob hq
    refine L254 F 0 0 q125.2.2.2 q147 ls _ _ (eq147) (lv_sub hl [2, 3, 4, 5, 1, 0] rfl) hP hD hS (fun ls H locs hl hP hD hS => ?_)
    · refine lv_iload hx hb dL_isBoard_288 (lv_at hl 3 rfl) ?_
      have J359 : ∀ (v156 : Int32) (w157 : Nat → Int32) (ls : Array Slot) (H : Heap) (locs : List Loc), kL_isBoard_j359 F v156 w157 = some r → lv_has ls 13 [] → va_P G.1 vwCl [(qX, .inr (7, [.ref qB, .ref qH, .ref qK, .ref qV, .ref qS, .ref qW])), (qB, .inr (0, [.ref qBT, .ref qBC, .ref qBN, .ref qBW, .ref qBL, .int bn, .int bk, .int bs])), (qBT, .inl (G.2.1, 16, .inl bT)), (qBN, .inl (G.2.1, 64, .inl bN)), (qBW, .inl (G.2.1, 64, .inl bW)), (qBL, .inl (G.2.1, 16, .inl w157)), (qTT, .inl (G.2.1, 64, .inl tT)), (qTW, .inl (G.2.1, 16, .inl tW))] H → va_D A [(qX, .inr (7, [.ref qB, .ref qH, .ref qK, .ref qV, .ref qS, .ref qW])), (qB, .inr (0, [.ref qBT, .ref qBC, .ref qBN, .ref qBW, .ref qBL, .int bn, .int bk, .int bs])), (qBT, .inl (G.2.1, 16, .inl bT)), (qBN, .inl (G.2.1, 64, .inl bN)), (qBW, .inl (G.2.1, 64, .inl bW)), (qBL, .inl (G.2.1, 16, .inl w157)), (qTT, .inl (G.2.1, 64, .inl tT)), (qTW, .inl (G.2.1, 16, .inl tW))] → va_S A s.heap H locs → W p l e (headSpec wsL_isBoard rmL_isBoard).room s m ([.ref qX, .ref qTT, .ref qTW] : List Value).toArray below meth c H locs 0 0 Q (F0 m 359 ls [.int v156]) := by
        intro v156 w157 ls H locs hq hl hP hD hS
        unfold kL_isBoard_j359 at hq
        obtain ⟨hg, hq⟩ := k_g hq
        obtain rfl := Option.some.inj hq
        rw [hQ]
        exact W.zret hx hb hr (isZ_n hg) (fun t ht hW => ⟨⟨_, (), rfl, rfl, va_Pat ht hP⟩, hS.F ht⟩) hS.2.2 dL_isBoard_359
      refine lv_if_eq (tgt := 358) hx hb dL_isBoard_290 (by decide) (fun c_290 => ?_) (fun c_290 => ?_)
      · have hq := k_t c_290 hq
        refine lv_iconst (v := 0) hx hb dL_isBoard_358 (by decide) ?_
        exact J359 0 q147.2 ls _ _ hq (lv_sub hl [] rfl) hP hD hS
      · have hq := k_f c_290 hq
        refine lv_aload_n hx hb dL_isBoard_293 rfl (lv_at hl 0 rfl) ?_
        obtain ⟨q158, eq158, hq⟩ := ob hq
        have hPc := hP.sub (ws' := [(qX, .inr (7, [.ref qB, .ref qH, .ref qK, .ref qV, .ref qS, .ref qW])), (qB, .inr (0, [.ref qBT, .ref qBC, .ref qBN, .ref qBW, .ref qBL, .int bn, .int bk, .int bs])), (qBT, .inl (G.2.1, 16, .inl bT)), (qBW, .inl (G.2.1, 64, .inl bW))]) [0, 1, 2, 4] rfl
        have hKc := hK
        refine vp_callSi (va_Run.run (va_runV (As := []) (rest := []) ⟨hx, hb, hml, hown, hts⟩ (tX7_loose G l eq158) (cwV 0 hts gL_isBoard_X7_loose rfl rfl rfl (by decide +kernel) ⟨Nat.le_of_ble_eq_true rfl, Nat.le_of_ble_eq_true rfl⟩) ⟨pcP_blind, va_recv hKc hPc (ci := 7) (q0 := 0) rfl rfl, pcP_pre hPc hKK⟩ rfl rfl hl.1 rfl (lv_room (Nat.le_of_ble_eq_true rfl)) dL_isBoard_294 ⟨Nat.zero_le _, Nat.zero_le _⟩)) (fun r0 hr0 => ?_)
        obtain rfl := hr0
        refine lv_iload_n hx hb dL_isBoard_297 rfl (lv_at hl 1 rfl) ?_
        refine lv_icmp_ne (tgt := 358) hx hb dL_isBoard_298 (by decide) (fun c_298 => ?_) (fun c_298 => ?_)
        · have hq := k_f c_298 hq
          refine lv_iconst (v := 0) hx hb dL_isBoard_358 (by decide) ?_
          exact J359 0 q147.2 ls _ _ hq (lv_sub hl [] rfl) hP hD hS
        · have hq := k_t c_298 hq
          refine lv_aload_n hx hb dL_isBoard_301 rfl (lv_at hl 0 rfl) ?_
          obtain ⟨q159, eq159, hq⟩ := ob hq
          have hPc := hP.sub (ws' := [(qX, .inr (7, [.ref qB, .ref qH, .ref qK, .ref qV, .ref qS, .ref qW])), (qB, .inr (0, [.ref qBT, .ref qBC, .ref qBN, .ref qBW, .ref qBL, .int bn, .int bk, .int bs])), (qBT, .inl (G.2.1, 16, .inl bT)), (qBW, .inl (G.2.1, 64, .inl bW)), (qBL, .inl (G.2.1, 16, .inl q147.2))]) [0, 1, 2, 4, 5] rfl
          have hKc := hK
          have hDc := hD.sub (ws' := [(qX, .inr (7, [.ref qB, .ref qH, .ref qK, .ref qV, .ref qS, .ref qW])), (qB, .inr (0, [.ref qBT, .ref qBC, .ref qBN, .ref qBW, .ref qBL, .int bn, .int bk, .int bs])), (qBT, .inl (G.2.1, 16, .inl bT)), (qBW, .inl (G.2.1, 64, .inl bW)), (qBL, .inl (G.2.1, 16, .inl q147.2))]) [0, 1, 2, 4, 5] (by decide) rfl
          have hFc := va_free (wc := [(qX, .inr (7, [.ref qB, .ref qH, .ref qK, .ref qV, .ref qS, .ref qW])), (qB, .inr (0, [.ref qBT, .ref qBC, .ref qBN, .ref qBW, .ref qBL, .int bn, .int bk, .int bs])), (qBT, .inl (G.2.1, 16, .inl bT)), (qBW, .inl (G.2.1, 64, .inl bW)), (qBL, .inl (G.2.1, 16, .inl q147.2))]) hD hS hA [0, 1, 2, 4, 5] rfl
          refine va_calli (va_runV (As := []) (rest := []) ⟨hx, hb, hml, hown, hts⟩ (tX7_watered G l eq159) (cwV 0 hts gL_isBoard_X7_watered rfl rfl rfl (by decide +kernel) ⟨Nat.le_of_ble_eq_true rfl, Nat.le_of_ble_eq_true rfl⟩) ⟨pcW_blind, va_recv hKc hPc (ci := 7) (q0 := 0) rfl rfl, pcW_pre hPc hKK hDc⟩ rfl rfl hl.1 rfl (lv_room (Nat.le_of_ble_eq_true rfl)) dL_isBoard_302 ⟨Nat.zero_le _, Nat.zero_le _⟩) hS (fun q _ h => hFc q h) hFc (fun r0 u t H1 locs ht hvm hw hB hz1 hk1 hS => ?_)
          obtain rfl := hw
          have hB := va_Pto ht hB
          obtain ⟨hP, hD⟩ := jn (ws' := [(qX, .inr (7, [.ref qB, .ref qH, .ref qK, .ref qV, .ref qS, .ref qW])), (qB, .inr (0, [.ref qBT, .ref qBC, .ref qBN, .ref qBW, .ref qBL, .int bn, .int bk, .int bs])), (qBT, .inl (G.2.1, 16, .inl bT)), (qBN, .inl (G.2.1, 64, .inl bN)), (qBW, .inl (G.2.1, 64, .inl bW)), (qBL, .inl (G.2.1, 16, .inl q159.2)), (qTT, .inl (G.2.1, 64, .inl tT)), (qTW, .inl (G.2.1, 16, .inl tW))]) hP hD hk1 hB [0, 1, 2, 4, 5] rfl rfl rfl rfl
          generalize H1 = H at hP hS ⊢
          refine lv_iload hx hb dL_isBoard_305 (lv_at hl 4 rfl) ?_
          refine lv_icmp_ne (tgt := 358) hx hb dL_isBoard_307 (by decide) (fun c_307 => ?_) (fun c_307 => ?_)
          · have hq := k_f c_307 hq
            refine lv_iconst (v := 0) hx hb dL_isBoard_358 (by decide) ?_
            exact J359 0 q159.2 ls _ _ hq (lv_sub hl [] rfl) hP hD hS
          · have hq := k_t c_307 hq
            refine lv_iload hx hb dL_isBoard_310 (lv_at hl 4 rfl) ?_
            refine lv_iconst (v := 1) hx hb dL_isBoard_312 (by decide) ?_
            refine lv_icmp_lt (tgt := 358) hx hb dL_isBoard_313 (by decide) (fun c_313 => ?_) (fun c_313 => ?_)
            · have hq := k_t c_313 hq
              refine lv_iconst (v := 0) hx hb dL_isBoard_358 (by decide) ?_
              exact J359 0 q159.2 ls _ _ hq (lv_sub hl [] rfl) hP hD hS
            · have hq := k_f c_313 hq
              refine lv_aload_n hx hb dL_isBoard_316 rfl (lv_at hl 0 rfl) ?_
              obtain ⟨q160, eq160, hq⟩ := ob hq
              have hPc := hP.sub (ws' := [(qX, .inr (7, [.ref qB, .ref qH, .ref qK, .ref qV, .ref qS, .ref qW])), (qB, .inr (0, [.ref qBT, .ref qBC, .ref qBN, .ref qBW, .ref qBL, .int bn, .int bk, .int bs])), (qBT, .inl (G.2.1, 16, .inl bT)), (qBW, .inl (G.2.1, 64, .inl bW)), (qBL, .inl (G.2.1, 16, .inl q159.2))]) [0, 1, 2, 4, 5] rfl
              have hKc := hK
              have hDc := hD.sub (ws' := [(qX, .inr (7, [.ref qB, .ref qH, .ref qK, .ref qV, .ref qS, .ref qW])), (qB, .inr (0, [.ref qBT, .ref qBC, .ref qBN, .ref qBW, .ref qBL, .int bn, .int bk, .int bs])), (qBT, .inl (G.2.1, 16, .inl bT)), (qBW, .inl (G.2.1, 64, .inl bW)), (qBL, .inl (G.2.1, 16, .inl q159.2))]) [0, 1, 2, 4, 5] (by decide) rfl
              have hFc := va_free (wc := [(qX, .inr (7, [.ref qB, .ref qH, .ref qK, .ref qV, .ref qS, .ref qW])), (qB, .inr (0, [.ref qBT, .ref qBC, .ref qBN, .ref qBW, .ref qBL, .int bn, .int bk, .int bs])), (qBT, .inl (G.2.1, 16, .inl bT)), (qBW, .inl (G.2.1, 64, .inl bW)), (qBL, .inl (G.2.1, 16, .inl q159.2))]) hD hS hA [0, 1, 2, 4, 5] rfl
              refine va_calli (va_runV (As := []) (rest := []) ⟨hx, hb, hml, hown, hts⟩ (tX7_isSolved G l eq160) (cwV 0 hts gL_isBoard_X7_isSolved rfl rfl rfl (by decide +kernel) ⟨Nat.le_of_ble_eq_true rfl, Nat.le_of_ble_eq_true rfl⟩) ⟨pcW_blind, va_recv hKc hPc (ci := 7) (q0 := 0) rfl rfl, pcW_pre hPc hKK hDc⟩ rfl rfl hl.1 rfl (lv_room (Nat.le_of_ble_eq_true rfl)) dL_isBoard_317 ⟨Nat.zero_le _, Nat.zero_le _⟩) hS (fun q _ h => hFc q h) hFc (fun r0 u t H1 locs ht hvm hw hB hz1 hk1 hS => ?_)
              obtain rfl := hw
              have hB := va_Pto ht hB
              obtain ⟨hP, hD⟩ := jn (ws' := [(qX, .inr (7, [.ref qB, .ref qH, .ref qK, .ref qV, .ref qS, .ref qW])), (qB, .inr (0, [.ref qBT, .ref qBC, .ref qBN, .ref qBW, .ref qBL, .int bn, .int bk, .int bs])), (qBT, .inl (G.2.1, 16, .inl bT)), (qBN, .inl (G.2.1, 64, .inl bN)), (qBW, .inl (G.2.1, 64, .inl bW)), (qBL, .inl (G.2.1, 16, .inl q160.2)), (qTT, .inl (G.2.1, 64, .inl tT)), (qTW, .inl (G.2.1, 16, .inl tW))]) hP hD hk1 hB [0, 1, 2, 4, 5] rfl rfl rfl rfl
              generalize H1 = H at hP hS ⊢
              refine lv_iload_n hx hb dL_isBoard_320 rfl (lv_at hl 1 rfl) ?_
              have J351 : ∀ (v163 : Int32) (ls : Array Slot) (H : Heap) (locs : List Loc), kL_isBoard_j351 F q160 v163 = some r → lv_has ls 13 [] → va_P G.1 vwCl [(qX, .inr (7, [.ref qB, .ref qH, .ref qK, .ref qV, .ref qS, .ref qW])), (qB, .inr (0, [.ref qBT, .ref qBC, .ref qBN, .ref qBW, .ref qBL, .int bn, .int bk, .int bs])), (qBT, .inl (G.2.1, 16, .inl bT)), (qBN, .inl (G.2.1, 64, .inl bN)), (qBW, .inl (G.2.1, 64, .inl bW)), (qBL, .inl (G.2.1, 16, .inl q160.2)), (qTT, .inl (G.2.1, 64, .inl tT)), (qTW, .inl (G.2.1, 16, .inl tW))] H → va_D A [(qX, .inr (7, [.ref qB, .ref qH, .ref qK, .ref qV, .ref qS, .ref qW])), (qB, .inr (0, [.ref qBT, .ref qBC, .ref qBN, .ref qBW, .ref qBL, .int bn, .int bk, .int bs])), (qBT, .inl (G.2.1, 16, .inl bT)), (qBN, .inl (G.2.1, 64, .inl bN)), (qBW, .inl (G.2.1, 64, .inl bW)), (qBL, .inl (G.2.1, 16, .inl q160.2)), (qTT, .inl (G.2.1, 64, .inl tT)), (qTW, .inl (G.2.1, 16, .inl tW))] → va_S A s.heap H locs → W p l e (headSpec wsL_isBoard rmL_isBoard).room s m ([.ref qX, .ref qTT, .ref qTW] : List Value).toArray below meth c H locs 0 0 Q (F0 m 351 ls [.int v163, .int q160.1]) := by
                intro v163 ls H locs hq hl hP hD hS
                unfold kL_isBoard_j351 at hq
                refine lv_icmp_ne (tgt := 358) hx hb dL_isBoard_351 (by decide) (fun c_351 => ?_) (fun c_351 => ?_)
                · have hq := k_f c_351 hq
                  refine lv_iconst (v := 0) hx hb dL_isBoard_358 (by decide) ?_
                  exact J359 0 q160.2 ls _ _ hq (lv_sub hl [] rfl) hP hD hS
                · have hq := k_t c_351 hq
                  refine lv_iconst (v := 1) hx hb dL_isBoard_354 (by decide) ?_
                  refine lv_goto (tgt := 359) hx hb dL_isBoard_355 (by decide) ?_
                  exact J359 1 q160.2 ls _ _ hq (lv_sub hl [] rfl) hP hD hS
              refine lv_if_ne (tgt := 350) hx hb dL_isBoard_321 (by decide) (fun c_321 => ?_) (fun c_321 => ?_)
              · have hq := k_f c_321 hq
                refine lv_iconst (v := 0) hx hb dL_isBoard_350 (by decide) ?_
                exact J351 0 ls _ _ hq (lv_sub hl [] rfl) hP hD hS
              · have hq := k_t c_321 hq
                refine lv_iload hx hb dL_isBoard_324 (lv_at hl 4 rfl) ?_
                refine lv_aload_n hx hb dL_isBoard_326 rfl (lv_at hl 0 rfl) ?_
                obtain ⟨q164, eq164, hq⟩ := ob hq
                have hPc := hP.sub (ws' := [(qX, .inr (7, [.ref qB, .ref qH, .ref qK, .ref qV, .ref qS, .ref qW])), (qB, .inr (0, [.ref qBT, .ref qBC, .ref qBN, .ref qBW, .ref qBL, .int bn, .int bk, .int bs]))]) [0, 1] rfl
                have hKc := hK
                refine vp_callSi (va_Run.run (va_runV (As := []) (rest := [.int q147.1, .int q160.1]) ⟨hx, hb, hml, hown, hts⟩ (tX7_size G l eq164) (cwV 0 hts gL_isBoard_X7_size rfl rfl rfl (by decide +kernel) ⟨Nat.le_of_ble_eq_true rfl, Nat.le_of_ble_eq_true rfl⟩) ⟨pcP_blind, va_recv hKc hPc (ci := 7) (q0 := 0) rfl rfl, pcP_pre hPc hKK⟩ rfl rfl hl.1 rfl (lv_room (Nat.le_of_ble_eq_true rfl)) dL_isBoard_327 ⟨Nat.zero_le _, Nat.zero_le _⟩)) (fun r0 hr0 => ?_)
                obtain rfl := hr0
                refine lv_icmp_ne (tgt := 350) hx hb dL_isBoard_330 (by decide) (fun c_330 => ?_) (fun c_330 => ?_)
                · have hq := k_f c_330 hq
                  refine lv_iconst (v := 0) hx hb dL_isBoard_350 (by decide) ?_
                  exact J351 0 ls _ _ hq (lv_sub hl [] rfl) hP hD hS
                · have hq := k_t c_330 hq
                  refine lv_iload hx hb dL_isBoard_333 (lv_at hl 2 rfl) ?_
                  refine lv_iconst (v := 2) hx hb dL_isBoard_335 (by decide) ?_
                  refine lv_aload_n hx hb dL_isBoard_336 rfl (lv_at hl 0 rfl) ?_
                  obtain ⟨q165, eq165, hq⟩ := ob hq
                  have hPc := hP.sub (ws' := [(qX, .inr (7, [.ref qB, .ref qH, .ref qK, .ref qV, .ref qS, .ref qW])), (qB, .inr (0, [.ref qBT, .ref qBC, .ref qBN, .ref qBW, .ref qBL, .int bn, .int bk, .int bs]))]) [0, 1] rfl
                  have hKc := hK
                  refine vp_callSi (va_Run.run (va_runV (As := []) (rest := [.int 2, .int q125.2.1, .int q160.1]) ⟨hx, hb, hml, hown, hts⟩ (tX7_size G l eq165) (cwV 0 hts gL_isBoard_X7_size rfl rfl rfl (by decide +kernel) ⟨Nat.le_of_ble_eq_true rfl, Nat.le_of_ble_eq_true rfl⟩) ⟨pcP_blind, va_recv hKc hPc (ci := 7) (q0 := 0) rfl rfl, pcP_pre hPc hKK⟩ rfl rfl hl.1 rfl (lv_room (Nat.le_of_ble_eq_true rfl)) dL_isBoard_337 ⟨Nat.zero_le _, Nat.zero_le _⟩)) (fun r0 hr0 => ?_)
                  obtain rfl := hr0
                  refine lv_imul hx hb dL_isBoard_340 ?_
                  refine lv_iconst (v := 2) hx hb dL_isBoard_341 (by decide) ?_
                  refine lv_isub hx hb dL_isBoard_342 ?_
                  refine lv_icmp_ne (tgt := 350) hx hb dL_isBoard_343 (by decide) (fun c_343 => ?_) (fun c_343 => ?_)
                  · have hq := k_f c_343 hq
                    refine lv_iconst (v := 0) hx hb dL_isBoard_350 (by decide) ?_
                    exact J351 0 ls _ _ hq (lv_sub hl [] rfl) hP hD hS
                  · have hq := k_t c_343 hq
                    refine lv_iconst (v := 1) hx hb dL_isBoard_346 (by decide) ?_
                    refine lv_goto (tgt := 351) hx hb dL_isBoard_347 (by decide) ?_
                    exact J351 1 ls _ _ hq (lv_sub hl [] rfl) hP hD hS
