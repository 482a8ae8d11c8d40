/-! what each method answers, as numbers (laid by wip/whole/gen.py) -/
def kX0_allows (F : Nat) (x0 : Int32) (x1 : Int32) (x2 : Int32) : Option (Int32) :=
  (if x0 < 2 then some 0 else (if 5 < x0 then some 0 else (if x1 < 2 then some 0 else (if x1 ≤ 5 then (if x2 = 0 then (if 16 < (x0 * x1) then some 0 else some 1) else (if x0 ≤ 2 then some 0 else (if x1 ≤ 2 then some 0 else (if 12 < (x0 * x1) then some 0 else some 1)))) else some 0))))
def kX0_has (F : Nat) (bn : Int32) (x1 : Int32) : Option (Int32) :=
  (if x1 < 0 then some 0 else (if bn ≤ x1 then some 0 else (if 16 ≤ x1 then some 0 else some 1)))
def kX0_count (F : Nat) (bn : Int32) : Option (Int32) :=
  some bn
def kX0_allCells (F : Nat) (bn : Int32) : Option (Int32) :=
  some (((1 : Int32) <<< (bn &&& 31)) - 1)
def kX0_source (F : Nat) (bs : Int32) : Option (Int32) :=
  some bs
def kX0_putSource (F : Nat) (bs : Int32) (x1 : Int32) : Option (Int32) :=
  some x1
def kX0_lay (F : Nat) (bn : Int32) (bT : Nat → Int32) (x1 : Int32) (x2 : Int32) : Option (Nat → Int32) :=
  ((kX0_has F bn x1).bind fun q1 => (if q1 = 0 then some bT else (if ix x1 16 = true then some (upd bT x1.toNatClampNeg x2) else none)))
def kX0_putLock (F : Nat) (bk : Int32) (x1 : Int32) (x2 : Int32) : Option (Int32) :=
  (if x2 = 0 then some (bk &&& (((1 : Int32) <<< (x1 &&& 31)) ^^^ (-1))) else some (bk ||| ((1 : Int32) <<< (x1 &&& 31))))
def kX0_beside (F : Nat) (bN : Nat → Int32) (x1 : Int32) (x2 : Int32) : Option (Int32) :=
  (if ((x1 * 4) + x2) < 0 then some (-1) else (if 64 ≤ ((x1 * 4) + x2) then some (-1) else (if ix ((x1 * 4) + x2) 64 = true then some (bN ((x1 * 4) + x2).toNatClampNeg) else none)))
def kX0_across (F : Nat) (bW : Nat → Int32) (x1 : Int32) (x2 : Int32) : Option (Int32) :=
  (if ((x1 * 4) + x2) < 0 then some (-1) else (if 64 ≤ ((x1 * 4) + x2) then some (-1) else (if ix ((x1 * 4) + x2) 64 = true then some (bW ((x1 * 4) + x2).toNatClampNeg) else none)))
def kX1_clear (F : Nat) (lc : Int32) : Option (Int32) :=
  some 0
def kX1_count (F : Nat) (lc : Int32) : Option (Int32) :=
  some lc
def kX1_borderAt (F : Nat) (lc : Int32) (nb : Nat) (lb : Nat → Int64) (x1 : Int32) : Option (Int64) :=
  (if x1 < 0 then some 0 else (if lc ≤ x1 then some 0 else (if (Int32.ofNat nb) ≤ x1 then some 0 else (if ix x1 nb = true then some (lb x1.toNatClampNeg) else none))))
def kX1_waysAt (F : Nat) (lc : Int32) (nw : Nat) (lw : Nat → Int32) (x1 : Int32) : Option (Int32) :=
  (if x1 < 0 then some 0 else (if lc ≤ x1 then some 0 else (if (Int32.ofNat nw) ≤ x1 then some 0 else (if ix x1 nw = true then some (lw x1.toNatClampNeg) else none))))
def kX2_forget (F : Nat) (hd : Int32) (hk : Int32) : Option (Int32 × Int32) :=
  some (0, 0)
def kX2_done (F : Nat) (hd : Int32) : Option (Int32) :=
  some hd
def kX2_isFull (F : Nat) (hd : Int32) : Option (Int32) :=
  (if hd < 512 then some 0 else some 1)
def kX2_note (F : Nat) (hd : Int32) (hk : Int32) (hM : Nat → Int32) (x1 : Int32) : Option (Int32 × Int32 × (Nat → Int32)) :=
  (if hd < 0 then some (hd, hk, hM) else (if 512 ≤ hd then some (hd, hk, hM) else (if ix hd 512 = true then some (hd + 1, hd + 1, upd hM hd.toNatClampNeg x1) else none)))
def kX2_stepBack (F : Nat) (hd : Int32) (hM : Nat → Int32) : Option (Int32 × Int32) :=
  (if hd ≤ 0 then some ((-1), hd) else (if hd ≤ 512 then (if ix (hd - 1) 512 = true then some (hM (hd - 1).toNatClampNeg, hd - 1) else none) else some ((-1), hd)))
def kX2_stepOn (F : Nat) (hd : Int32) (hk : Int32) (hM : Nat → Int32) : Option (Int32 × Int32) :=
  (if hd < 0 then some ((-1), hd) else (if hk ≤ hd then some ((-1), hd) else (if hd < 512 then (if ix ((hd + 1) - 1) 512 = true then some (hM ((hd + 1) - 1).toNatClampNeg, hd + 1) else none) else some ((-1), hd))))
def kX3_draw (F : Nat) (ku : Int32) : Option (Int32 × Int32) :=
  some (((24693 * ku) + 3517) - ((24693 * ku) + 3517) / 65536 * 65536, ((24693 * ku) + 3517) - ((24693 * ku) + 3517) / 65536 * 65536)
def kX3_listPairs_s20 (F : Nat) (bN : Nat → Int32) (s36 : Int32) (s56 : Int32) (s57 : Int32) (s58 : Nat → Int32) (s59 : Nat → Int32) : Option ((Int32 × Int32 × (Nat → Int32) × (Nat → Int32)) ⊕ (Int32 × (Nat → Int32) × (Nat → Int32))) :=
  (if 2 < s56 then some (.inr (s57, s58, s59)) else ((kX0_beside F bN s36 s56).bind fun q60 => (if q60 = (-1) then some (.inl (s56 + 1, s57, s58, s59)) else (if s57 < 0 then some (.inl (s56 + 1, s57, s58, s59)) else (if 32 ≤ s57 then some (.inl (s56 + 1, s57, s58, s59)) else (if ix s57 32 = true then (if ix s57 32 = true then some (.inl (s56 + 1, s57 + 1, upd s58 s57.toNatClampNeg s36, upd s59 s57.toNatClampNeg s56)) else none) else none))))))
def kX3_listPairs_s7 (F : Nat) (bn : Int32) (bN : Nat → Int32) (s36 : Int32) (s37 : Int32) (s38 : Nat → Int32) (s39 : Nat → Int32) : Option ((Int32 × Int32 × (Nat → Int32) × (Nat → Int32)) ⊕ (Int32 × (Nat → Int32) × (Nat → Int32))) :=
  ((kX0_count F bn).bind fun q40 => (if q40 ≤ s36 then some (.inr (s37, s38, s39)) else ((kloop F (fun s_ => kX3_listPairs_s20 F bN s36 s_.1 s_.2.1 s_.2.2.1 s_.2.2.2) (1, s37, s38, s39)).bind fun q70 => some (.inl (s36 + 1, q70.1, q70.2.1, q70.2.2)))))
def kX3_listPairs (F : Nat) (bn : Int32) (bN : Nat → Int32) (kp : Int32) (kC : Nat → Int32) (kS : Nat → Int32) : Option (Int32 × (Nat → Int32) × (Nat → Int32)) :=
  ((kloop F (fun s_ => kX3_listPairs_s7 F bn bN s_.1 s_.2.1 s_.2.2.1 s_.2.2.2) (0, 0, kC, kS)).bind fun q71 => some (q71.1, q71.2.1, q71.2.2))
def kX3_exchange (F : Nat) (n0 : Nat) (p0 : Nat → Int32) (x1 : Int32) (x2 : Int32) : Option (Nat → Int32) :=
  (if x1 < 0 then some p0 else (if (Int32.ofNat n0) ≤ x1 then some p0 else (if x2 < 0 then some p0 else (if (Int32.ofNat n0) ≤ x2 then some p0 else (if ix x1 n0 = true then (if ix x2 n0 = true then (if ix x1 n0 = true then (if ix x2 n0 = true then some (upd (upd p0 x1.toNatClampNeg (p0 x2.toNatClampNeg)) x2.toNatClampNeg (p0 x1.toNatClampNeg)) else none) else none) else none) else none)))))
def kX4_fewest (F : Nat) (sw : Int32) : Option (Int32) :=
  some sw
def kX6_unpack_s2 (F : Nat) (x1 : Int64) (s4 : Int32) (s5 : Nat → Int32) : Option ((Int32 × (Nat → Int32)) ⊕ (Nat → Int32)) :=
  (if 12 ≤ s4 then some (.inr s5) else (if ix s4 12 = true then some (.inl (s4 + 1, upd s5 s4.toNatClampNeg (((x1 >>> ((4 * s4).toInt64 &&& 63)).toInt32) &&& 15))) else none))
def kX6_unpack (F : Nat) (wP : Nat → Int32) (x1 : Int64) : Option (Nat → Int32) :=
  ((kloop F (fun s_ => kX6_unpack_s2 F x1 s_.1 s_.2) (0, wP)).bind fun q6 => some q6)
def kX6_put (F : Nat) (wP : Nat → Int32) (x1 : Int32) (x2 : Int32) : Option (Nat → Int32) :=
  (if x1 < 0 then some wP else (if 12 ≤ x1 then some wP else (if x2 = 0 then (if ix x1 12 = true then some (upd wP x1.toNatClampNeg 0) else none) else (if ix x1 12 = true then some (upd wP x1.toNatClampNeg 15) else none))))
def kX6_goesOn_s2 (F : Nat) (wP : Nat → Int32) (s2 : Int32) : Option ((Int32) ⊕ (Nat)) :=
  (if 12 ≤ s2 then some (.inr 1) else (if ix s2 12 = true then (if (wP s2.toNatClampNeg) = 15 then some (.inr 0) else some (.inl (s2 + 1))) else none))
def kX6_goesOn (F : Nat) (wP : Nat → Int32) : Option (Int32) :=
  ((kloop F (fun s_ => kX6_goesOn_s2 F wP s_) 0).bind fun q3 => (if q3 = 0 then some 1 else some 0))
def kX7_moves (F : Nat) (hd : Int32) : Option (Int32) :=
  ((kX2_done F hd).bind fun q1 => some q1)
def kX7_size (F : Nat) (bn : Int32) : Option (Int32) :=
  ((kX0_count F bn).bind fun q1 => some q1)
def kX7_holds (F : Nat) (x0 : Int32) (x1 : Int32) : Option (Int32) :=
  (if ((x0 >>> (x1 &&& 31)) &&& 1) = 0 then some 0 else some 1)
def kX7_at (F : Nat) (n0 : Nat) (p0 : Nat → Int32) (x1 : Int32) : Option (Int32) :=
  (if x1 < 0 then some 0 else (if (Int32.ofNat n0) ≤ x1 then some 0 else (if ix x1 n0 = true then some (p0 x1.toNatClampNeg) else none)))
def kX7_opposite (F : Nat) (x0 : Int32) : Option (Int32) :=
  some ((x0 + 2) &&& 3)
def kX7_turned (F : Nat) (x0 : Int32) (x1 : Int32) : Option (Int32) :=
  some (((x0 <<< (x1 &&& 31)) ||| (x0 >>> ((4 - x1) &&& 31))) &&& 15)
def kX7_spread_s28 (F : Nat) (n0 : Nat) (p0 : Nat → Int32) (x2 : Int32) (s34 : Int32) (s35 : Int32) : Option ((Int32 × Int32) ⊕ (Int32)) :=
  (if (Int32.ofNat n0) ≤ s35 then some (.inr s34) else (if s35 = x2 then some (.inl (s34, s35 + 1)) else ((kX7_holds F s34 s35).bind fun q38 => (if q38 = 0 then some (.inl (s34, s35 + 1)) else (if ix s35 n0 = true then some (.inl (s34 ||| (p0 s35.toNatClampNeg), s35 + 1)) else none)))))
def kX7_spread_s10 (F : Nat) (n0 : Nat) (p0 : Nat → Int32) (x2 : Int32) (s22 : Int32) (s23 : Int32) (s24 : Int32) : Option ((Int32 × Int32 × Int32) ⊕ (Int32)) :=
  (if s23 = 0 then some (.inr s22) else (if (Int32.ofNat n0) ≤ s24 then some (.inr s22) else ((kloop F (fun s_ => kX7_spread_s28 F n0 p0 x2 s_.1 s_.2) (s22, 0)).bind fun q40 => (if q40 = s22 then some (.inl (q40, 0, s24 + 1)) else some (.inl (q40, 1, s24 + 1))))))
def kX7_spread (F : Nat) (n0 : Nat) (p0 : Nat → Int32) (x1 : Int32) (x2 : Int32) : Option (Int32) :=
  ((kloop F (fun s_ => kX7_spread_s10 F n0 p0 x2 s_.1 s_.2.1 s_.2.2) ((1 : Int32) <<< (x1 &&& 31), 1, 0)).bind fun q42 => some q42)
def kJ6_bitCount_0f7a4 (F : Nat) (x0 : Int32) : Option (Int32) :=
  some ((((((((x0 - (((x0.toUInt32 >>> ((1 : Int32).toUInt32 &&& Int32.toUInt32 31)).toInt32) &&& 1431655765)) &&& 858993459) + ((((x0 - (((x0.toUInt32 >>> ((1 : Int32).toUInt32 &&& Int32.toUInt32 31)).toInt32) &&& 1431655765)).toUInt32 >>> ((2 : Int32).toUInt32 &&& Int32.toUInt32 31)).toInt32) &&& 858993459)) + (((((x0 - (((x0.toUInt32 >>> ((1 : Int32).toUInt32 &&& Int32.toUInt32 31)).toInt32) &&& 1431655765)) &&& 858993459) + ((((x0 - (((x0.toUInt32 >>> ((1 : Int32).toUInt32 &&& Int32.toUInt32 31)).toInt32) &&& 1431655765)).toUInt32 >>> ((2 : Int32).toUInt32 &&& Int32.toUInt32 31)).toInt32) &&& 858993459)).toUInt32 >>> ((4 : Int32).toUInt32 &&& Int32.toUInt32 31)).toInt32)) &&& 252645135) + (((((((x0 - (((x0.toUInt32 >>> ((1 : Int32).toUInt32 &&& Int32.toUInt32 31)).toInt32) &&& 1431655765)) &&& 858993459) + ((((x0 - (((x0.toUInt32 >>> ((1 : Int32).toUInt32 &&& Int32.toUInt32 31)).toInt32) &&& 1431655765)).toUInt32 >>> ((2 : Int32).toUInt32 &&& Int32.toUInt32 31)).toInt32) &&& 858993459)) + (((((x0 - (((x0.toUInt32 >>> ((1 : Int32).toUInt32 &&& Int32.toUInt32 31)).toInt32) &&& 1431655765)) &&& 858993459) + ((((x0 - (((x0.toUInt32 >>> ((1 : Int32).toUInt32 &&& Int32.toUInt32 31)).toInt32) &&& 1431655765)).toUInt32 >>> ((2 : Int32).toUInt32 &&& Int32.toUInt32 31)).toInt32) &&& 858993459)).toUInt32 >>> ((4 : Int32).toUInt32 &&& Int32.toUInt32 31)).toInt32)) &&& 252645135).toUInt32 >>> ((8 : Int32).toUInt32 &&& Int32.toUInt32 31)).toInt32)) + ((((((((x0 - (((x0.toUInt32 >>> ((1 : Int32).toUInt32 &&& Int32.toUInt32 31)).toInt32) &&& 1431655765)) &&& 858993459) + ((((x0 - (((x0.toUInt32 >>> ((1 : Int32).toUInt32 &&& Int32.toUInt32 31)).toInt32) &&& 1431655765)).toUInt32 >>> ((2 : Int32).toUInt32 &&& Int32.toUInt32 31)).toInt32) &&& 858993459)) + (((((x0 - (((x0.toUInt32 >>> ((1 : Int32).toUInt32 &&& Int32.toUInt32 31)).toInt32) &&& 1431655765)) &&& 858993459) + ((((x0 - (((x0.toUInt32 >>> ((1 : Int32).toUInt32 &&& Int32.toUInt32 31)).toInt32) &&& 1431655765)).toUInt32 >>> ((2 : Int32).toUInt32 &&& Int32.toUInt32 31)).toInt32) &&& 858993459)).toUInt32 >>> ((4 : Int32).toUInt32 &&& Int32.toUInt32 31)).toInt32)) &&& 252645135) + (((((((x0 - (((x0.toUInt32 >>> ((1 : Int32).toUInt32 &&& Int32.toUInt32 31)).toInt32) &&& 1431655765)) &&& 858993459) + ((((x0 - (((x0.toUInt32 >>> ((1 : Int32).toUInt32 &&& Int32.toUInt32 31)).toInt32) &&& 1431655765)).toUInt32 >>> ((2 : Int32).toUInt32 &&& Int32.toUInt32 31)).toInt32) &&& 858993459)) + (((((x0 - (((x0.toUInt32 >>> ((1 : Int32).toUInt32 &&& Int32.toUInt32 31)).toInt32) &&& 1431655765)) &&& 858993459) + ((((x0 - (((x0.toUInt32 >>> ((1 : Int32).toUInt32 &&& Int32.toUInt32 31)).toInt32) &&& 1431655765)).toUInt32 >>> ((2 : Int32).toUInt32 &&& Int32.toUInt32 31)).toInt32) &&& 858993459)).toUInt32 >>> ((4 : Int32).toUInt32 &&& Int32.toUInt32 31)).toInt32)) &&& 252645135).toUInt32 >>> ((8 : Int32).toUInt32 &&& Int32.toUInt32 31)).toInt32)).toUInt32 >>> ((16 : Int32).toUInt32 &&& Int32.toUInt32 31)).toInt32)) &&& 63)
def kJ7_fill_53178_s5 (F : Nat) (n0 : Nat) (x1 : Int32) (s5 : Int32) (s6 : Nat → Int32) : Option ((Int32 × (Nat → Int32)) ⊕ (Nat → Int32)) :=
  (if (Int32.ofNat n0) ≤ s5 then some (.inr s6) else (if ix s5 n0 = true then some (.inl (s5 + 1, upd s6 s5.toNatClampNeg x1)) else none))
def kJ7_fill_53178 (F : Nat) (n0 : Nat) (p0 : Nat → Int32) (x1 : Int32) : Option (Nat → Int32) :=
  ((kloop F (fun s_ => kJ7_fill_53178_s5 F n0 x1 s_.1 s_.2) (0, p0)).bind fun q7 => some q7)
def kX0_link (F : Nat) (bn : Int32) (bN : Nat → Int32) (x1 : Int32) (x2 : Int32) (x3 : Int32) : Option (Nat → Int32) :=
  ((kX0_has F bn x1).bind fun q1 => (if q1 = 0 then some bN else ((kX0_has F bn x3).bind fun q5 => (if q5 = 0 then some bN else (if ix ((x1 * 4) + x2) 64 = true then ((kX7_opposite F x2).bind fun q8 => (if ix ((x3 * 4) + q8) 64 = true then some (upd (upd bN ((x1 * 4) + x2).toNatClampNeg x3) ((x3 * 4) + q8).toNatClampNeg x1) else none)) else none)))))
def kX0_columnOf (F : Nat) (bC : Nat → Int32) (x1 : Int32) : Option (Int32) :=
  ((kX7_at F 16 bC x1).bind fun q1 => some q1)
def kX0_sidesOf (F : Nat) (bT : Nat → Int32) (x1 : Int32) : Option (Int32) :=
  ((kX7_at F 16 bT x1).bind fun q1 => some q1)
def kX0_spin (F : Nat) (bn : Int32) (bT : Nat → Int32) (x1 : Int32) (x2 : Int32) : Option (Nat → Int32) :=
  ((kX0_sidesOf F bT x1).bind fun q1 => ((kX7_turned F q1 x2).bind fun q2 => ((kX0_lay F bn bT x1 q2).bind fun q3 => some q3)))
def kX0_hasLock (F : Nat) (bk : Int32) (x1 : Int32) : Option (Int32) :=
  ((kX7_holds F bk x1).bind fun q1 => (if isZ q1 = true then some q1 else none))
def kX0_putWall_j44 (F : Nat) (bW : Nat → Int32) (x1 : Int32) (x2 : Int32) (x3 : Int32) (q1 : Int32) (v13 : Int32) : Option (Nat → Int32) :=
  (if ix ((x1 * 4) + x2) 64 = true then ((kX7_opposite F x2).bind fun q14 => (if x3 = 0 then (if ix ((q1 * 4) + q14) 64 = true then some (upd (upd bW ((x1 * 4) + x2).toNatClampNeg v13) ((q1 * 4) + q14).toNatClampNeg x1) else none) else (if ix ((q1 * 4) + q14) 64 = true then some (upd (upd bW ((x1 * 4) + x2).toNatClampNeg v13) ((q1 * 4) + q14).toNatClampNeg (-1)) else none))) else none)
def kX0_putWall (F : Nat) (bn : Int32) (bN : Nat → Int32) (bW : Nat → Int32) (x1 : Int32) (x2 : Int32) (x3 : Int32) : Option (Nat → Int32) :=
  ((kX0_beside F bN x1 x2).bind fun q1 => ((kX0_has F bn x1).bind fun q2 => (if q2 = 0 then some bW else ((kX0_has F bn q1).bind fun q8 => (if q8 = 0 then some bW else (if x3 = 0 then kX0_putWall_j44 F bW x1 x2 x3 q1 q1 else kX0_putWall_j44 F bW x1 x2 x3 q1 (-1)))))))
def kX0_joins (F : Nat) (bT : Nat → Int32) (bW : Nat → Int32) (x1 : Int32) (x2 : Int32) : Option (Int32) :=
  ((kX0_across F bW x1 x2).bind fun q1 => (if q1 = (-1) then some 0 else ((kX7_at F 16 bT x1).bind fun q8 => ((kX7_holds F q8 x2).bind fun q9 => (if q9 = 0 then some 0 else ((kX7_at F 16 bT q1).bind fun q14 => ((kX7_opposite F x2).bind fun q15 => ((kX7_holds F q14 q15).bind fun q16 => (if q16 = 0 then some 0 else some 1)))))))))
def kX0_countOpen_s4 (F : Nat) (bn : Int32) (bT : Nat → Int32) (s5 : Int32) (s6 : Int32) : Option ((Int32 × Int32) ⊕ (Int32)) :=
  (if bn ≤ s6 then some (.inr s5) else ((kX0_sidesOf F bT s6).bind fun q7 => ((kJ6_bitCount_0f7a4 F q7).bind fun q8 => some (.inl (s5 + q8, s6 + 1)))))
def kX0_countOpen (F : Nat) (bn : Int32) (bT : Nat → Int32) : Option (Int32) :=
  ((kloop F (fun s_ => kX0_countOpen_s4 F bn bT s_.1 s_.2) (0, 0)).bind fun q9 => some q9)
def kX0_countEnds_s4 (F : Nat) (bn : Int32) (bT : Nat → Int32) (s6 : Int32) (s7 : Int32) : Option ((Int32 × Int32) ⊕ (Int32)) :=
  (if bn ≤ s7 then some (.inr s6) else ((kX0_sidesOf F bT s7).bind fun q8 => ((kJ6_bitCount_0f7a4 F q8).bind fun q9 => (if q9 = 1 then some (.inl (s6 + 1, s7 + 1)) else some (.inl (s6, s7 + 1))))))
def kX0_countEnds (F : Nat) (bn : Int32) (bT : Nat → Int32) : Option (Int32) :=
  ((kloop F (fun s_ => kX0_countEnds_s4 F bn bT s_.1 s_.2) (0, 0)).bind fun q11 => some q11)
def kX0_joinedTo_s4 (F : Nat) (bT : Nat → Int32) (bW : Nat → Int32) (x1 : Int32) (s8 : Int32) (s9 : Int32) : Option ((Int32 × Int32) ⊕ (Int32)) :=
  (if 3 < s9 then some (.inr s8) else ((kX0_joins F bT bW x1 s9).bind fun q10 => (if q10 = 0 then some (.inl (s8, s9 + 1)) else ((kX0_across F bW x1 s9).bind fun q13 => some (.inl (s8 ||| ((1 : Int32) <<< (q13 &&& 31)), s9 + 1))))))
def kX0_joinedTo (F : Nat) (bT : Nat → Int32) (bW : Nat → Int32) (x1 : Int32) : Option (Int32) :=
  ((kloop F (fun s_ => kX0_joinedTo_s4 F bT bW x1 s_.1 s_.2) (0, 0)).bind fun q14 => some q14)
def kX0_ownLays (F : Nat) (bk : Int32) (bT : Nat → Int32) (x1 : Int32) : Option (Int32) :=
  ((kX0_sidesOf F bT x1).bind fun q1 => ((kX0_hasLock F bk x1).bind fun q2 => (if q2 = 0 then ((kX7_turned F q1 1).bind fun q3 => (if q3 = q1 then some 1 else ((kX7_turned F q1 2).bind fun q4 => (if q4 = q1 then some 3 else some 15)))) else some 1)))
def kX3_mixPairs_s7 (F : Nat) (s8 : Int32) (s9 : Int32) (s10 : Nat → Int32) (s11 : Nat → Int32) : Option ((Int32 × Int32 × (Nat → Int32) × (Nat → Int32)) ⊕ (Int32 × (Nat → Int32) × (Nat → Int32))) :=
  (if s8 ≤ 0 then some (.inr (s9, s10, s11)) else ((kX3_draw F s9).bind fun q12 => (if nz (s8 + 1) = true then ((kX3_exchange F 32 s10 s8 (q12.1 - q12.1 / (s8 + 1) * (s8 + 1))).bind fun q13 => ((kX3_exchange F 32 s11 s8 (q12.1 - q12.1 / (s8 + 1) * (s8 + 1))).bind fun q14 => some (.inl (s8 + (-1), q12.2, q13, q14)))) else none)))
def kX3_mixPairs (F : Nat) (kp : Int32) (ku : Int32) (kC : Nat → Int32) (kS : Nat → Int32) : Option (Int32 × (Nat → Int32) × (Nat → Int32)) :=
  ((kloop F (fun s_ => kX3_mixPairs_s7 F s_.1 s_.2.1 s_.2.2.1 s_.2.2.2) (kp - 1, ku, kC, kS)).bind fun q15 => some (q15.1, q15.2.1, q15.2.2))
def kX4_firstAt (F : Nat) (sF : Nat → Int32) (x1 : Int32) : Option (Int32) :=
  ((kX7_at F 16 sF x1).bind fun q1 => some q1)
def kX4_fits_s2 (F : Nat) (bW : Nat → Int32) (sI : Nat → Int32) (x1 : Int32) (s9 : Int32) : Option ((Int32) ⊕ (Nat)) :=
  (if 3 < s9 then some (.inr 1) else ((kX0_across F bW x1 s9).bind fun q10 => ((kX7_at F 16 sI x1).bind fun q11 => ((kX7_holds F q11 s9).bind fun q12 => (if q10 = (-1) then some (.inl (s9 + 1)) else (if x1 ≤ q10 then some (.inl (s9 + 1)) else ((kX7_at F 16 sI q10).bind fun q13 => ((kX7_opposite F s9).bind fun q14 => ((kX7_holds F q13 q14).bind fun q15 => (if q12 = q15 then some (.inl (s9 + 1)) else some (.inr 0)))))))))))
def kX4_fits (F : Nat) (bW : Nat → Int32) (sI : Nat → Int32) (x1 : Int32) : Option (Int32) :=
  ((kloop F (fun s_ => kX4_fits_s2 F bW sI x1 s_) 0).bind fun q16 => (if q16 = 0 then some 0 else some 1))
def kX4_merge_s2 (F : Nat) (n0 : Nat) (x1 : Int32) (s6 : Int32) (s7 : Nat → Int32) : Option ((Int32 × (Nat → Int32)) ⊕ (Nat → Int32)) :=
  (if (Int32.ofNat n0) ≤ s6 then some (.inr s7) else ((kX7_holds F x1 s6).bind fun q8 => (if q8 = 0 then some (.inl (s6 + 1, s7)) else (if ix s6 n0 = true then some (.inl (s6 + 1, upd s7 s6.toNatClampNeg x1)) else none))))
def kX4_merge (F : Nat) (n0 : Nat) (p0 : Nat → Int32) (x1 : Int32) : Option (Nat → Int32) :=
  ((kloop F (fun s_ => kX4_merge_s2 F n0 x1 s_.1 s_.2) (0, p0)).bind fun q10 => some q10)
def kX5_leftAt (F : Nat) (vL : Nat → Int32) (x1 : Int32) : Option (Int32) :=
  ((kX7_at F 16 vL x1).bind fun q1 => some q1)
def kX5_openAtSome_s4 (F : Nat) (bT : Nat → Int32) (vL : Nat → Int32) (x1 : Int32) (s11 : Int32) (s12 : Int32) : Option ((Int32 × Int32) ⊕ (Int32)) :=
  (if 4 ≤ s12 then some (.inr s11) else ((kX5_leftAt F vL x1).bind fun q13 => ((kX7_holds F q13 s12).bind fun q14 => (if q14 = 0 then some (.inl (s11, s12 + 1)) else ((kX0_sidesOf F bT x1).bind fun q18 => ((kX7_turned F q18 s12).bind fun q19 => some (.inl (s11 ||| q19, s12 + 1))))))))
def kX5_openAtSome (F : Nat) (bT : Nat → Int32) (vL : Nat → Int32) (x1 : Int32) : Option (Int32) :=
  ((kloop F (fun s_ => kX5_openAtSome_s4 F bT vL x1 s_.1 s_.2) (0, 0)).bind fun q20 => some q20)
def kX5_openAtAll_s5 (F : Nat) (bT : Nat → Int32) (vL : Nat → Int32) (x1 : Int32) (s11 : Int32) (s12 : Int32) : Option ((Int32 × Int32) ⊕ (Int32)) :=
  (if 4 ≤ s12 then some (.inr s11) else ((kX5_leftAt F vL x1).bind fun q13 => ((kX7_holds F q13 s12).bind fun q14 => (if q14 = 0 then some (.inl (s11, s12 + 1)) else ((kX0_sidesOf F bT x1).bind fun q18 => ((kX7_turned F q18 s12).bind fun q19 => some (.inl (s11 &&& q19, s12 + 1))))))))
def kX5_openAtAll (F : Nat) (bT : Nat → Int32) (vL : Nat → Int32) (x1 : Int32) : Option (Int32) :=
  ((kloop F (fun s_ => kX5_openAtAll_s5 F bT vL x1 s_.1 s_.2) (15, 0)).bind fun q20 => some q20)
def kX5_settledWith_s4 (F : Nat) (bW : Nat → Int32) (vA : Nat → Int32) (x1 : Int32) (s21 : Int32) (s22 : Int32) : Option ((Int32 × Int32) ⊕ (Int32)) :=
  (if 3 < s22 then some (.inr s21) else ((kX0_across F bW x1 s22).bind fun q23 => (if q23 = (-1) then some (.inl (s21, s22 + 1)) else ((kX7_at F 16 vA x1).bind fun q30 => ((kX7_holds F q30 s22).bind fun q31 => (if q31 = 0 then some (.inl (s21, s22 + 1)) else ((kX7_at F 16 vA q23).bind fun q36 => ((kX7_opposite F s22).bind fun q37 => ((kX7_holds F q36 q37).bind fun q38 => (if q38 = 0 then some (.inl (s21, s22 + 1)) else some (.inl (s21 ||| ((1 : Int32) <<< (q23 &&& 31)), s22 + 1))))))))))))
def kX5_settledWith (F : Nat) (bW : Nat → Int32) (vA : Nat → Int32) (x1 : Int32) : Option (Int32) :=
  ((kloop F (fun s_ => kX5_settledWith_s4 F bW vA x1 s_.1 s_.2) (0, 0)).bind fun q40 => some q40)
def kX5_closesCircle_s5 (F : Nat) (bW : Nat → Int32) (vT : Nat → Int32) (x1 : Int32) (x2 : Int32) (s9 : Int32) (s10 : Int32) : Option ((Int32 × Int32) ⊕ (Nat)) :=
  (if 3 < s10 then some (.inr 1) else ((kX0_across F bW x1 s10).bind fun q11 => (if q11 = (-1) then some (.inl (s9, s10 + 1)) else ((kX7_holds F x2 s10).bind fun q12 => (if q12 = 0 then some (.inl (s9, s10 + 1)) else ((kX7_holds F s9 q11).bind fun q13 => (if q13 = 0 then ((kX7_spread F 16 vT q11 x1).bind fun q14 => some (.inl (s9 ||| q14, s10 + 1))) else some (.inr 0))))))))
def kX5_closesCircle (F : Nat) (bW : Nat → Int32) (vT : Nat → Int32) (x1 : Int32) (x2 : Int32) : Option (Int32) :=
  ((kloop F (fun s_ => kX5_closesCircle_s5 F bW vT x1 x2 s_.1 s_.2) (0, 0)).bind fun q15 => (if q15 = 0 then some 1 else some 0))
def kX6_pack_j60 (F : Nat) (wP : Nat → Int32) (s9 : Int64) (s10 : Int32) (v12 : Int32) (w13 : Nat → Int32) : Option ((Int32 × Int64 × Int32 × (Nat → Int32)) ⊕ (Int64 × (Nat → Int32))) :=
  (if ix ((wP s10.toNatClampNeg) &&& 15) 16 = true then some (.inl (v12, s9 ||| (((w13 ((wP s10.toNatClampNeg) &&& 15).toNatClampNeg).toInt64) <<< ((4 * s10).toInt64 &&& 63)), s10 + 1, w13)) else none)
def kX6_pack_s15 (F : Nat) (wP : Nat → Int32) (s8 : Int32) (s9 : Int64) (s10 : Int32) (s11 : Nat → Int32) : Option ((Int32 × Int64 × Int32 × (Nat → Int32)) ⊕ (Int64 × (Nat → Int32))) :=
  (if 12 ≤ s10 then some (.inr (s9, s11)) else (if ix s10 12 = true then (if ((wP s10.toNatClampNeg) &&& 15) = 0 then kX6_pack_j60 F wP s9 s10 s8 s11 else (if ix ((wP s10.toNatClampNeg) &&& 15) 16 = true then (if (s11 ((wP s10.toNatClampNeg) &&& 15).toNatClampNeg) = 0 then (if ix ((wP s10.toNatClampNeg) &&& 15) 16 = true then kX6_pack_j60 F wP s9 s10 (s8 + 1) (upd s11 ((wP s10.toNatClampNeg) &&& 15).toNatClampNeg (s8 + 1)) else none) else kX6_pack_j60 F wP s9 s10 s8 s11) else none)) else none))
def kX6_pack (F : Nat) (wP : Nat → Int32) (wN : Nat → Int32) : Option (Int64 × (Nat → Int32)) :=
  ((kJ7_fill_53178 F 16 wN 0).bind fun q1 => ((kloop F (fun s_ => kX6_pack_s15 F wP s_.1 s_.2.1 s_.2.2.1 s_.2.2.2) (0, 0, 0, q1)).bind fun q14 => some (q14.1, q14.2)))
def kX6_take_s33 (F : Nat) (x2 : Int32) (q1 : Int32) (s10 : Int32) (s11 : Nat → Int32) : Option ((Int32 × (Nat → Int32)) ⊕ (Nat → Int32)) :=
  (if 12 ≤ s10 then some (.inr s11) else (if x2 = 0 then some (.inl (s10 + 1, s11)) else (if ix s10 12 = true then (if (s11 s10.toNatClampNeg) = q1 then (if ix s10 12 = true then some (.inl (s10 + 1, upd s11 s10.toNatClampNeg 15)) else none) else some (.inl (s10 + 1, s11))) else none)))
def kX6_take_j25 (F : Nat) (wP : Nat → Int32) (x1 : Int32) (x2 : Int32) (q1 : Int32) (v2 : Int32) : Option (Int32 × (Nat → Int32)) :=
  (if x2 = v2 then ((kloop F (fun s_ => kX6_take_s33 F x2 q1 s_.1 s_.2) (0, wP)).bind fun q14 => ((kX6_put F q14 x1 0).bind fun q15 => some (1, q15))) else some (0, wP))
def kX6_take (F : Nat) (wP : Nat → Int32) (x1 : Int32) (x2 : Int32) : Option (Int32 × (Nat → Int32)) :=
  ((kX7_at F 12 wP x1).bind fun q1 => (if q1 = 15 then some (0, wP) else (if q1 = 0 then kX6_take_j25 F wP x1 x2 q1 0 else kX6_take_j25 F wP x1 x2 q1 1)))
def kX6_placeOf_j66 (F : Nat) (v4 : Int32) (v7 : Int32) : Option (Int32) :=
  (if v4 = 0 then some v7 else some (v7 + 6))
def kX6_placeOf_j43 (F : Nat) (bC : Nat → Int32) (x1 : Int32) (x2 : Int32) (v4 : Int32) : Option (Int32) :=
  (if x2 = 0 then ((kX0_columnOf F bC x1).bind fun q9 => kX6_placeOf_j66 F v4 q9) else (if x2 = 2 then ((kX0_columnOf F bC x1).bind fun q10 => kX6_placeOf_j66 F v4 q10) else kX6_placeOf_j66 F v4 5))
def kX6_placeOf_j35 (F : Nat) (bC : Nat → Int32) (x1 : Int32) (x2 : Int32) (v2 : Int32) (v3 : Int32) : Option (Int32) :=
  (if v2 = v3 then kX6_placeOf_j43 F bC x1 x2 0 else kX6_placeOf_j43 F bC x1 x2 1)
def kX6_placeOf_j18 (F : Nat) (bC : Nat → Int32) (x1 : Int32) (x2 : Int32) (v2 : Int32) : Option (Int32) :=
  (if x2 = 1 then kX6_placeOf_j35 F bC x1 x2 v2 1 else (if x2 = 2 then kX6_placeOf_j35 F bC x1 x2 v2 1 else kX6_placeOf_j35 F bC x1 x2 v2 0))
def kX6_placeOf (F : Nat) (bC : Nat → Int32) (bN : Nat → Int32) (x1 : Int32) (x2 : Int32) : Option (Int32) :=
  ((kX0_beside F bN x1 x2).bind fun q1 => (if q1 ≤ x1 then kX6_placeOf_j18 F bC x1 x2 0 else kX6_placeOf_j18 F bC x1 x2 1))
def kX0_clear_j145 (F : Nat) (s152 : Int32) (s153 : Int32) (s154 : Nat → Int32) (w173 : Nat → Int32) : Option ((Int32 × Int32 × (Nat → Int32) × (Nat → Int32)) ⊕ (Int32 × (Nat → Int32) × (Nat → Int32))) :=
  some (.inl (s152 + 1, s153 + 1, upd s154 s152.toNatClampNeg s153, w173))
def kX0_clear_j109 (F : Nat) (x1 : Int32) (x2 : Int32) (x3 : Int32) (s102 : Int32) (s152 : Int32) (s153 : Int32) (s154 : Nat → Int32) (w164 : Nat → Int32) : Option ((Int32 × Int32 × (Nat → Int32) × (Nat → Int32)) ⊕ (Int32 × (Nat → Int32) × (Nat → Int32))) :=
  (if x3 = 0 then (if (x2 - 1) ≤ s102 then kX0_clear_j145 F s152 s153 s154 w164 else (if (x2 - 1) ≤ s102 then ((kX0_link F (x1 * x2) w164 s152 2 s153).bind fun q180 => kX0_clear_j145 F s152 s153 s154 q180) else ((kX0_link F (x1 * x2) w164 s152 2 (s152 + x1)).bind fun q181 => kX0_clear_j145 F s152 s153 s154 q181))) else (if (x2 - 1) ≤ s102 then ((kX0_link F (x1 * x2) w164 s152 2 s153).bind fun q176 => kX0_clear_j145 F s152 s153 s154 q176) else ((kX0_link F (x1 * x2) w164 s152 2 (s152 + x1)).bind fun q177 => kX0_clear_j145 F s152 s153 s154 q177)))
def kX0_clear_s48 (F : Nat) (x1 : Int32) (x2 : Int32) (x3 : Int32) (s102 : Int32) (s152 : Int32) (s153 : Int32) (s154 : Nat → Int32) (s155 : Nat → Int32) : Option ((Int32 × Int32 × (Nat → Int32) × (Nat → Int32)) ⊕ (Int32 × (Nat → Int32) × (Nat → Int32))) :=
  (if x1 ≤ s153 then some (.inr (s152, s154, s155)) else (if 16 ≤ s152 then some (.inr (s152, s154, s155)) else (if ix s152 16 = true then (if x3 = 0 then (if (x1 - 1) ≤ s153 then kX0_clear_j109 F x1 x2 x3 s102 s152 s153 s154 s155 else (if (x1 - 1) ≤ s153 then ((kX0_link F (x1 * x2) s155 s152 1 (s152 - s153)).bind fun q188 => kX0_clear_j109 F x1 x2 x3 s102 s152 s153 s154 q188) else ((kX0_link F (x1 * x2) s155 s152 1 (s152 + 1)).bind fun q189 => kX0_clear_j109 F x1 x2 x3 s102 s152 s153 s154 q189))) else (if (x1 - 1) ≤ s153 then ((kX0_link F (x1 * x2) s155 s152 1 (s152 - s153)).bind fun q184 => kX0_clear_j109 F x1 x2 x3 s102 s152 s153 s154 q184) else ((kX0_link F (x1 * x2) s155 s152 1 (s152 + 1)).bind fun q185 => kX0_clear_j109 F x1 x2 x3 s102 s152 s153 s154 q185))) else none)))
def kX0_clear_s39 (F : Nat) (x1 : Int32) (x2 : Int32) (x3 : Int32) (s101 : Int32) (s102 : Int32) (s103 : Nat → Int32) (s104 : Nat → Int32) : Option ((Int32 × Int32 × (Nat → Int32) × (Nat → Int32)) ⊕ ((Nat → Int32) × (Nat → Int32))) :=
  (if x2 ≤ s102 then some (.inr (s103, s104)) else ((kloop F (fun s_ => kX0_clear_s48 F x1 x2 x3 s102 s_.1 s_.2.1 s_.2.2.1 s_.2.2.2) (s101, 0, s103, s104)).bind fun q190 => some (.inl (q190.1, s102 + 1, q190.2.1, q190.2.2))))
def kX0_clear (F : Nat) (bn : Int32) (bk : Int32) (bs : Int32) (bT : Nat → Int32) (bC : Nat → Int32) (bN : Nat → Int32) (bW : Nat → Int32) (x1 : Int32) (x2 : Int32) (x3 : Int32) : Option (Int32 × Int32 × Int32 × (Nat → Int32) × (Nat → Int32) × (Nat → Int32) × (Nat → Int32)) :=
  ((kJ7_fill_53178 F 16 bT 0).bind fun q1 => ((kJ7_fill_53178 F 64 bN (-1)).bind fun q2 => ((kloop F (fun s_ => kX0_clear_s39 F x1 x2 x3 s_.1 s_.2.1 s_.2.2.1 s_.2.2.2) (0, 0, bC, q2)).bind fun q191 => (if cpok 0 0 64 64 64 = true then some (x1 * x2, 0, 0, q1, q191.1, q191.2, va_cpy q191.2 bW (0 : Int32).toNatClampNeg (0 : Int32).toNatClampNeg (64 : Int32).toNatClampNeg) else none))))
def kX0_countJoined_s4 (F : Nat) (bn : Int32) (bT : Nat → Int32) (bW : Nat → Int32) (s5 : Int32) (s6 : Int32) : Option ((Int32 × Int32) ⊕ (Int32)) :=
  (if bn ≤ s6 then some (.inr s5) else ((kX0_joinedTo F bT bW s6).bind fun q7 => ((kJ6_bitCount_0f7a4 F q7).bind fun q8 => some (.inl (s5 + q8, s6 + 1)))))
def kX0_countJoined (F : Nat) (bn : Int32) (bT : Nat → Int32) (bW : Nat → Int32) : Option (Int32) :=
  ((kloop F (fun s_ => kX0_countJoined_s4 F bn bT bW s_.1 s_.2) (0, 0)).bind fun q9 => some q9)
def kX0_reachedFrom_s2 (F : Nat) (bT : Nat → Int32) (bW : Nat → Int32) (s5 : Int32) (s6 : Nat → Int32) : Option ((Int32 × (Nat → Int32)) ⊕ (Nat → Int32)) :=
  (if 16 ≤ s5 then some (.inr s6) else ((kX0_joinedTo F bT bW s5).bind fun q7 => (if ix s5 16 = true then some (.inl (s5 + 1, upd s6 s5.toNatClampNeg q7)) else none)))
def kX0_reachedFrom (F : Nat) (bT : Nat → Int32) (bW : Nat → Int32) (bL : Nat → Int32) (x1 : Int32) : Option (Int32 × (Nat → Int32)) :=
  ((kloop F (fun s_ => kX0_reachedFrom_s2 F bT bW s_.1 s_.2) (0, bL)).bind fun q8 => ((kX7_spread F 16 q8 x1 (-1)).bind fun q9 => some (q9, q8)))
def kX3_joinPair (F : Nat) (bn : Int32) (bT : Nat → Int32) (bN : Nat → Int32) (bW : Nat → Int32) (bL : Nat → Int32) (x1 : Int32) (x2 : Int32) : Option ((Nat → Int32) × (Nat → Int32)) :=
  ((kX0_beside F bN x1 x2).bind fun q1 => (if q1 = (-1) then some (bT, bL) else ((kX0_reachedFrom F bT bW bL x1).bind fun q11 => ((kX7_holds F q11.1 q1).bind fun q12 => (if q12 = 0 then ((kX0_sidesOf F bT x1).bind fun q19 => ((kX0_lay F bn bT x1 (q19 ||| ((1 : Int32) <<< (x2 &&& 31)))).bind fun q20 => ((kX0_sidesOf F q20 q1).bind fun q21 => ((kX7_opposite F x2).bind fun q22 => ((kX0_lay F bn q20 q1 (q21 ||| ((1 : Int32) <<< (q22 &&& 31)))).bind fun q23 => some (q23, q11.2)))))) else some (bT, q11.2))))))
def kX5_keptLays_j60 (F : Nat) (vA : Nat → Int32) (s24 : Int32) (s25 : Int32) (s26 : Int32) (q27 : Int32) (v41 : Int32) : Option ((Int32 × Int32 × Int32) ⊕ (Int32 × Int32)) :=
  ((kX7_at F 16 vA q27).bind fun q42 => ((kX7_opposite F s26).bind fun q43 => ((kX7_holds F q42 q43).bind fun q44 => (if q44 = 0 then some (.inl (s24 ||| v41, s25 ||| 0, s26 + 1)) else some (.inl (s24 ||| v41, s25 ||| ((1 : Int32) <<< (s26 &&& 31)), s26 + 1))))))
def kX5_keptLays_s7 (F : Nat) (bW : Nat → Int32) (vS : Nat → Int32) (vA : Nat → Int32) (x1 : Int32) (s24 : Int32) (s25 : Int32) (s26 : Int32) : Option ((Int32 × Int32 × Int32) ⊕ (Int32 × Int32)) :=
  (if 3 < s26 then some (.inr (s24, s25)) else ((kX0_across F bW x1 s26).bind fun q27 => (if q27 = (-1) then some (.inl (s24, s25, s26 + 1)) else ((kX7_at F 16 vS q27).bind fun q38 => ((kX7_opposite F s26).bind fun q39 => ((kX7_holds F q38 q39).bind fun q40 => (if q40 = 0 then kX5_keptLays_j60 F vA s24 s25 s26 q27 0 else kX5_keptLays_j60 F vA s24 s25 s26 q27 ((1 : Int32) <<< (s26 &&& 31)))))))))
def kX5_keptLays_j149 (F : Nat) (bW : Nat → Int32) (vL : Nat → Int32) (vT : Nat → Int32) (x1 : Int32) (s63 : Int32) (s64 : Int32) (q66 : Int32) (v67 : Int32) : Option ((Int32 × Int32) ⊕ (Int32)) :=
  ((kX5_leftAt F vL x1).bind fun q68 => ((kX7_holds F q68 s64).bind fun q69 => (if q69 = 0 then some (.inl (s63, s64 + 1)) else (if v67 = 0 then some (.inl (s63, s64 + 1)) else ((kX5_closesCircle F bW vT x1 q66).bind fun q74 => (if q74 = 0 then some (.inl (s63 ||| ((1 : Int32) <<< (s64 &&& 31)), s64 + 1)) else some (.inl (s63, s64 + 1))))))))
def kX5_keptLays_s105 (F : Nat) (bT : Nat → Int32) (bW : Nat → Int32) (vL : Nat → Int32) (vT : Nat → Int32) (x1 : Int32) (q46 : Int32 × Int32) (s63 : Int32) (s64 : Int32) : Option ((Int32 × Int32) ⊕ (Int32)) :=
  (if 4 ≤ s64 then some (.inr s63) else ((kX0_sidesOf F bT x1).bind fun q65 => ((kX7_turned F q65 s64).bind fun q66 => (if (q66 &&& (q46.1 ^^^ (-1))) = 0 then (if (q46.2 &&& (q66 ^^^ (-1))) = 0 then kX5_keptLays_j149 F bW vL vT x1 s63 s64 q66 1 else kX5_keptLays_j149 F bW vL vT x1 s63 s64 q66 0) else kX5_keptLays_j149 F bW vL vT x1 s63 s64 q66 0))))
def kX5_keptLays (F : Nat) (bT : Nat → Int32) (bW : Nat → Int32) (vL : Nat → Int32) (vS : Nat → Int32) (vA : Nat → Int32) (vT : Nat → Int32) (x1 : Int32) : Option (Int32) :=
  ((kloop F (fun s_ => kX5_keptLays_s7 F bW vS vA x1 s_.1 s_.2.1 s_.2.2) (0, 0, 0)).bind fun q46 => ((kloop F (fun s_ => kX5_keptLays_s105 F bT bW vL vT x1 q46 s_.1 s_.2) (0, 0)).bind fun q76 => some q76))
def kX6_pass_s2 (F : Nat) (bC : Nat → Int32) (bN : Nat → Int32) (bW : Nat → Int32) (x1 : Int32) (x2 : Int32) (s11 : Int32) (s12 : Nat → Int32) : Option ((Int32 × (Nat → Int32)) ⊕ (Nat × (Nat → Int32))) :=
  (if 3 < s11 then some (.inr (2, s12)) else ((kX0_across F bW x1 s11).bind fun q13 => ((kX7_holds F x2 s11).bind fun q14 => (if q13 = (-1) then (if q14 = 0 then (if q13 = (-1) then some (.inl (s11 + 1, s12)) else (if x1 ≤ q13 then some (.inl (s11 + 1, s12)) else ((kX6_placeOf F bC bN x1 s11).bind fun q17 => ((kX6_take F s12 q17 q14).bind fun q18 => (if q18.1 = 0 then some (.inr (1, q18.2)) else some (.inl (s11 + 1, q18.2))))))) else some (.inr (0, s12))) else (if q13 = (-1) then some (.inl (s11 + 1, s12)) else (if x1 ≤ q13 then some (.inl (s11 + 1, s12)) else ((kX6_placeOf F bC bN x1 s11).bind fun q15 => ((kX6_take F s12 q15 q14).bind fun q16 => (if q16.1 = 0 then some (.inr (1, q16.2)) else some (.inl (s11 + 1, q16.2)))))))))))
def kX6_pass_s75 (F : Nat) (bC : Nat → Int32) (bN : Nat → Int32) (bW : Nat → Int32) (x1 : Int32) (x2 : Int32) (s32 : Int32) (s33 : Nat → Int32) : Option ((Int32 × (Nat → Int32)) ⊕ (Nat → Int32)) :=
  (if 3 < s32 then some (.inr s33) else ((kX0_across F bW x1 s32).bind fun q34 => (if q34 ≤ x1 then some (.inl (s32 + 1, s33)) else ((kX6_placeOf F bC bN x1 s32).bind fun q39 => ((kX7_holds F x2 s32).bind fun q40 => ((kX6_put F s33 q39 q40).bind fun q41 => some (.inl (s32 + 1, q41))))))))
def kX6_pass (F : Nat) (bn : Int32) (bC : Nat → Int32) (bN : Nat → Int32) (bW : Nat → Int32) (wP : Nat → Int32) (x1 : Int32) (x2 : Int32) : Option (Int32 × (Nat → Int32)) :=
  ((kloop F (fun s_ => kX6_pass_s2 F bC bN bW x1 x2 s_.1 s_.2) (0, wP)).bind fun q19 => (if q19.1 = 0 then some (0, q19.2) else (if q19.1 = 1 then some (0, q19.2) else ((kloop F (fun s_ => kX6_pass_s75 F bC bN bW x1 x2 s_.1 s_.2) (0, q19.2)).bind fun q42 => ((kX0_count F bn).bind fun q43 => (if x1 = (q43 - 1) then some (1, q42) else ((kX6_goesOn F q42).bind fun q46 => (if q46 = 0 then some (0, q42) else some (1, q42)))))))))
def kX7_loose (F : Nat) (bn : Int32) (bT : Nat → Int32) (bW : Nat → Int32) : Option (Int32) :=
  ((kX0_countOpen F bn bT).bind fun q1 => ((kX0_countJoined F bn bT bW).bind fun q2 => some (q1 - q2)))
def kX7_watered (F : Nat) (bs : Int32) (bT : Nat → Int32) (bW : Nat → Int32) (bL : Nat → Int32) : Option (Int32 × (Nat → Int32)) :=
  ((kX0_source F bs).bind fun q1 => ((kX0_reachedFrom F bT bW bL q1).bind fun q2 => ((kJ6_bitCount_0f7a4 F q2.1).bind fun q3 => some (q3, q2.2))))
def kX7_isSolved (F : Nat) (bn : Int32) (bT : Nat → Int32) (bW : Nat → Int32) (bL : Nat → Int32) : Option (Int32 × (Nat → Int32)) :=
  ((kX0_countJoined F bn bT bW).bind fun q1 => ((kX0_countOpen F bn bT).bind fun q2 => (if q1 = q2 then ((kX0_count F bn).bind fun q8 => (if q1 = (2 * (q8 - 1)) then ((kX0_reachedFrom F bT bW bL 0).bind fun q13 => ((kX0_allCells F bn).bind fun q14 => (if q13.1 = q14 then some (1, q13.2) else some (0, q13.2)))) else some (0, bL))) else some (0, bL))))
def kX7_startBoard (F : Nat) (bn : Int32) (bk : Int32) (bs : Int32) (bT : Nat → Int32) (bC : Nat → Int32) (bN : Nat → Int32) (bW : Nat → Int32) (hd : Int32) (hk : Int32) (x1 : Int32) (x2 : Int32) (x3 : Int32) : Option (Int32 × Int32 × Int32 × (Nat → Int32) × (Nat → Int32) × (Nat → Int32) × (Nat → Int32) × Int32 × Int32) :=
  ((kX0_clear F bn bk bs bT bC bN bW x1 x2 x3).bind fun q1 => ((kX2_forget F hd hk).bind fun q2 => some (q1.1, q1.2.1, q1.2.2.1, q1.2.2.2.1, q1.2.2.2.2.1, q1.2.2.2.2.2.1, q1.2.2.2.2.2.2, q2.1, q2.2)))
def kX3_fillBoard_s15 (F : Nat) (bn : Int32) (bN : Nat → Int32) (bW : Nat → Int32) (q1 : Int32 × (Nat → Int32) × (Nat → Int32)) (q2 : Int32 × (Nat → Int32) × (Nat → Int32)) (s13 : Int32) (s14 : Nat → Int32) (s15 : Nat → Int32) : Option ((Int32 × (Nat → Int32) × (Nat → Int32)) ⊕ ((Nat → Int32) × (Nat → Int32))) :=
  (if q1.1 ≤ s13 then some (.inr (s14, s15)) else ((kX7_at F 32 q2.2.1 s13).bind fun q16 => ((kX7_at F 32 q2.2.2 s13).bind fun q17 => ((kX3_joinPair F bn s14 bN bW s15 q16 q17).bind fun q18 => some (.inl (s13 + 1, q18.1, q18.2))))))
def kX3_fillBoard_s51 (F : Nat) (bn : Int32) (s30 : Int32) (s31 : Nat → Int32) (s32 : Int32) : Option ((Int32 × (Nat → Int32) × Int32) ⊕ ((Nat → Int32) × Int32)) :=
  ((kX0_count F bn).bind fun q33 => (if q33 ≤ s30 then some (.inr (s31, s32)) else ((kX3_draw F s32).bind fun q34 => ((kX0_spin F bn s31 s30 (q34.1 - q34.1 / 4 * 4)).bind fun q35 => some (.inl (s30 + 1, q35, q34.2))))))
def kX3_fillBoard (F : Nat) (bn : Int32) (bT : Nat → Int32) (bN : Nat → Int32) (bW : Nat → Int32) (bL : Nat → Int32) (kp : Int32) (ku : Int32) (kC : Nat → Int32) (kS : Nat → Int32) (x1 : Int32) : Option ((Nat → Int32) × (Nat → Int32) × Int32 × Int32 × (Nat → Int32) × (Nat → Int32)) :=
  ((kX3_listPairs F bn bN kp kC kS).bind fun q1 => ((kX3_mixPairs F q1.1 x1 q1.2.1 q1.2.2).bind fun q2 => ((kloop F (fun s_ => kX3_fillBoard_s15 F bn bN bW q1 q2 s_.1 s_.2.1 s_.2.2) (0, bT, bL)).bind fun q19 => ((kloop F (fun s_ => kX3_fillBoard_s51 F bn s_.1 s_.2.1 s_.2.2) (0, q19.1, q2.1)).bind fun q36 => some (q36.1, q19.2, q1.1, q36.2, q2.2.1, q2.2.2)))))
def kX5_strikeOnce_s2 (F : Nat) (bT : Nat → Int32) (vL : Nat → Int32) (s8 : Int32) (s9 : Nat → Int32) (s10 : Nat → Int32) : Option ((Int32 × (Nat → Int32) × (Nat → Int32)) ⊕ ((Nat → Int32) × (Nat → Int32))) :=
  (if 16 ≤ s8 then some (.inr (s9, s10)) else ((kX5_openAtSome F bT vL s8).bind fun q11 => (if ix s8 16 = true then ((kX5_openAtAll F bT vL s8).bind fun q12 => (if ix s8 16 = true then some (.inl (s8 + 1, upd s9 s8.toNatClampNeg q11, upd s10 s8.toNatClampNeg q12)) else none)) else none)))
def kX5_strikeOnce_s38 (F : Nat) (bW : Nat → Int32) (q13 : (Nat → Int32) × (Nat → Int32)) (s20 : Int32) (s21 : Nat → Int32) : Option ((Int32 × (Nat → Int32)) ⊕ (Nat → Int32)) :=
  (if 16 ≤ s20 then some (.inr s21) else ((kX5_settledWith F bW q13.2 s20).bind fun q22 => (if ix s20 16 = true then some (.inl (s20 + 1, upd s21 s20.toNatClampNeg q22)) else none)))
def kX5_strikeOnce_s65 (F : Nat) (bT : Nat → Int32) (bW : Nat → Int32) (q13 : (Nat → Int32) × (Nat → Int32)) (q23 : Nat → Int32) (s32 : Int32) (s33 : Int32) (s34 : Nat → Int32) : Option ((Int32 × Int32 × (Nat → Int32)) ⊕ (Int32 × (Nat → Int32))) :=
  (if 16 ≤ s33 then some (.inr (s32, s34)) else ((kX5_keptLays F bT bW s34 q13.1 q13.2 q23 s33).bind fun q35 => (if ix s33 16 = true then (if q35 = (s34 s33.toNatClampNeg) then (if ix s33 16 = true then some (.inl (s32 ||| 0, s33 + 1, upd s34 s33.toNatClampNeg q35)) else none) else (if ix s33 16 = true then some (.inl (s32 ||| 1, s33 + 1, upd s34 s33.toNatClampNeg q35)) else none)) else none)))
def kX5_strikeOnce (F : Nat) (bT : Nat → Int32) (bW : Nat → Int32) (vL : Nat → Int32) (vS : Nat → Int32) (vA : Nat → Int32) (vT : Nat → Int32) : Option (Int32 × (Nat → Int32) × (Nat → Int32) × (Nat → Int32) × (Nat → Int32)) :=
  ((kloop F (fun s_ => kX5_strikeOnce_s2 F bT vL s_.1 s_.2.1 s_.2.2) (0, vS, vA)).bind fun q13 => ((kloop F (fun s_ => kX5_strikeOnce_s38 F bW q13 s_.1 s_.2) (0, vT)).bind fun q23 => ((kloop F (fun s_ => kX5_strikeOnce_s65 F bT bW q13 q23 s_.1 s_.2.1 s_.2.2) (0, 0, vL)).bind fun q37 => (if isZ q37.1 = true then some (q37.1, q37.2, q13.1, q13.2, q23) else none))))
def kX5_sift_s2 (F : Nat) (bn : Int32) (bk : Int32) (bT : Nat → Int32) (s10 : Int32) (s11 : Nat → Int32) : Option ((Int32 × (Nat → Int32)) ⊕ (Nat → Int32)) :=
  (if 16 ≤ s10 then some (.inr s11) else ((kX0_has F bn s10).bind fun q12 => (if q12 = 0 then (if ix s10 16 = true then some (.inl (s10 + 1, upd s11 s10.toNatClampNeg 0)) else none) else ((kX0_ownLays F bk bT s10).bind fun q15 => (if ix s10 16 = true then some (.inl (s10 + 1, upd s11 s10.toNatClampNeg q15)) else none)))))
def kX5_sift_s47 (F : Nat) (bT : Nat → Int32) (bW : Nat → Int32) (s24 : Int32) (s25 : Int32) (s26 : Nat → Int32) (s27 : Nat → Int32) (s28 : Nat → Int32) (s29 : Nat → Int32) : Option ((Int32 × Int32 × (Nat → Int32) × (Nat → Int32) × (Nat → Int32) × (Nat → Int32)) ⊕ ((Nat → Int32) × (Nat → Int32) × (Nat → Int32) × (Nat → Int32))) :=
  (if s24 = 0 then some (.inr (s26, s27, s28, s29)) else (if 64 < s25 then some (.inr (s26, s27, s28, s29)) else ((kX5_strikeOnce F bT bW s26 s27 s28 s29).bind fun q30 => some (.inl (q30.1, s25 + 1, q30.2.1, q30.2.2.1, q30.2.2.2.1, q30.2.2.2.2)))))
def kX5_sift (F : Nat) (bn : Int32) (bk : Int32) (bT : Nat → Int32) (bW : Nat → Int32) (vL : Nat → Int32) (vS : Nat → Int32) (vA : Nat → Int32) (vT : Nat → Int32) : Option ((Nat → Int32) × (Nat → Int32) × (Nat → Int32) × (Nat → Int32)) :=
  ((kloop F (fun s_ => kX5_sift_s2 F bn bk bT s_.1 s_.2) (0, vL)).bind fun q16 => ((kloop F (fun s_ => kX5_sift_s47 F bT bW s_.1 s_.2.1 s_.2.2.1 s_.2.2.2.1 s_.2.2.2.2.1 s_.2.2.2.2.2) (1, 0, q16, vS, vA, vT)).bind fun q31 => some (q31.1, q31.2.1, q31.2.2.1, q31.2.2.2)))
