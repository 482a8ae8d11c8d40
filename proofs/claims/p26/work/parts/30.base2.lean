/-! rows of an array of arrays of numbers: 17 of 16 places -/
def outR (qR : Nat → Nat) : Nat → Option Nat := fun i => if i < 17 then some (qR i) else none
def rws (G : GG) (qR : Nat → Nat) (sP : Nat → Nat → Int32) : va_W := (List.range 17).map (fun i => (qR i, .inl (G.2.1, 16, .inl (sP i))))
def upR (sP : Nat → Nat → Int32) (i : Nat) (f : Nat → Int32) : Nat → Nat → Int32 := fun j => if j = i then f else sP j
theorem rws_get {G : GG} {qR : Nat → Nat} {sP : Nat → Nat → Int32} {X : va_W} {n j : Nat} (hn : X.length = n) (hj : j < 17) : (X ++ rws G qR sP)[n + j]? = some (qR j, .inl (G.2.1, 16, .inl (sP j))) := by
  subst hn
  rw [List.getElem?_append_right (Nat.le_add_right _ _), Nat.add_sub_cancel_left]
  unfold rws
  rw [List.getElem?_map, List.getElem?_range hj]
  rfl
theorem rws_set {G : GG} {qR : Nat → Nat} {sP : Nat → Nat → Int32} {f : Nat → Int32} {X : va_W} {n j : Nat} (hn : X.length = n) (hj : j < 17) : (X ++ rws G qR sP).set (n + j) (qR j, .inl (G.2.1, 16, .inl f)) = X ++ rws G qR (upR sP j f) := by
  subst hn
  rw [List.set_append_right _ _ (Nat.le_add_right _ _), Nat.add_sub_cancel_left]
  congr 1
  apply List.ext_getElem?
  intro k
  unfold rws
  rw [List.getElem?_set, List.length_map, List.length_range, List.getElem?_map, List.getElem?_map]
  by_cases h : j = k
  · subst h
    rw [if_pos rfl, if_pos hj, List.getElem?_range hj]
    simp [upR]
  · rw [if_neg h]
    by_cases hk : k < 17
    · rw [List.getElem?_range hk]
      have e : upR sP j f k = sP k := if_neg (fun x => h x.symm)
      simp [e]
    · rw [List.getElem?_eq_none (by rw [List.length_range]; omega)]
      rfl
theorem set_P {D : va_G} {cl : List vw_C} {ws ws' : va_W} {H : Heap} (e : ws = ws') (h : va_P D cl ws H) : va_P D cl ws' H := e ▸ h
theorem set_D {A : Nat → Prop} {ws ws' : va_W} (e : ws = ws') (h : va_D A ws) : va_D A ws' := e ▸ h
theorem sub1 {ws : va_W} {k : Nat} {e : Nat × va_E} (h : ws[k]? = some e) : [k].filterMap (fun i => ws[i]?) = [e] := by
  rw [List.filterMap_cons, h]
  rfl
theorem map1 {ws : va_W} {k : Nat} {e : Nat × va_E} (h : ws[k]? = some e) : [k].map (fun i => ws[i]?) = [e].map some := by
  rw [List.map_cons, h]
  rfl
theorem ix_lt {i : Int32} {n : Nat} (h : ix i n = true) : i.toNatClampNeg < n := Nat.not_le.mp fun q => ix_in h (Or.inr q)
/-- behind a call that had the rows: as jn -/
theorem jnR {cl : List vw_C} {G : GG} {A : Nat → Prop} {X cx w1 X' : va_W} {qR : Nat → Nat} {sP sP' : Nat → Nat → Int32} {H H1 : Heap} (hP : va_P G.1 cl (X ++ rws G qR sP) H) (hD : va_D A (X ++ rws G qR sP)) (hk : ∀ q : Nat, q < H.size → ¬ va_A (cx ++ rws G qR sP) H.size q → H1[q]? = H[q]?) (hP1 : va_P G.1 cl (w1 ++ rws G qR sP') H1) (js : List Nat) (h1 : js.map (fun i => X[i]?) = cx.map some) (h2 : w1.map Prod.fst = cx.map Prod.fst) (h3 : X' = setAll X js w1) (h4 : X'.map Prod.fst = X.map Prod.fst) : va_P G.1 cl (X' ++ rws G qR sP') H1 ∧ va_D A (X' ++ rws G qR sP') := by
  refine ⟨fun k q hq => ?_, hD.same (by rw [List.map_append, List.map_append, h4]; simp [rws])⟩
  have hlen : js.length = w1.length := by
    have a := congrArg List.length h1
    have b := congrArg List.length h2
    simp only [List.length_map] at a b
    omega
  by_cases hk0 : k < X'.length
  · rw [List.getElem?_append_left hk0, h3] at hq
    rcases setAll_get js w1 X k q hlen hq with h | ⟨h, hn⟩
    · obtain ⟨i, hi⟩ := List.getElem?_of_mem h
      exact hP1 i q (by rw [List.getElem?_append_left (List.getElem?_eq_some_iff.mp hi).1]; exact hi)
    · have hkX : k < X.length := (List.getElem?_eq_some_iff.mp h).1
      have hX : (X ++ rws G qR sP)[k]? = some q := by rw [List.getElem?_append_left hkX]; exact h
      have hat := hP k q hX
      refine va_at.kept hat (hk q.1 hat.lt ?_)
      rintro (⟨i, e, hi⟩ | hge)
      · by_cases hc : i < cx.length
        · rw [List.getElem?_append_left hc] at hi
          have a : (cx.map some)[i]? = some (some (q.1, e)) := by rw [List.getElem?_map, hi]; rfl
          rw [← h1, List.getElem?_map] at a
          cases hj : js[i]? with
          | none => rw [hj] at a; cases a
          | some j =>
            rw [hj] at a
            have a : X[j]? = some (q.1, e) := Option.some.inj a
            have e1 := hD.1 k j q (q.1, e) hX (by rw [List.getElem?_append_left (List.getElem?_eq_some_iff.mp a).1]; exact a) rfl
            exact hn (e1 ▸ List.mem_of_getElem? hj)
        · rw [List.getElem?_append_right (by omega)] at hi
          have e1 := hD.1 k (X.length + (i - cx.length)) q (q.1, e) hX (by rw [List.getElem?_append_right (by omega), Nat.add_sub_cancel_left]; exact hi) rfl
          omega
      · exact absurd hat.lt (Nat.not_lt.mpr hge)
  · rw [List.getElem?_append_right (by omega)] at hq
    exact hP1 (w1.length + (k - X'.length)) q (by rw [List.getElem?_append_right (by omega), Nat.add_sub_cancel_left]; exact hq)
/-- behind a call that had none of the rest R: as jn -/
theorem jnL {D : va_G} {cl : List vw_C} {A : Nat → Prop} {X cx w1 X' Rs : va_W} {H H1 : Heap} (hP : va_P D cl (X ++ Rs) H) (hD : va_D A (X ++ Rs)) (hk : ∀ q : Nat, q < H.size → ¬ va_A cx H.size q → H1[q]? = H[q]?) (hP1 : va_P D cl w1 H1) (js : List Nat) (h1 : js.map (fun i => X[i]?) = cx.map some) (h2 : w1.map Prod.fst = cx.map Prod.fst) (h3 : X' = setAll X js w1) (h4 : X'.map Prod.fst = X.map Prod.fst) : va_P D cl (X' ++ Rs) H1 ∧ va_D A (X' ++ Rs) := by
  have hl4 : X'.length = X.length := by
    have a := congrArg List.length h4
    simpa only [List.length_map] using a
  refine ⟨fun k q hq => ?_, hD.same (by rw [List.map_append, List.map_append, h4])⟩
  have hlen : js.length = w1.length := by
    have a := congrArg List.length h1
    have b := congrArg List.length h2
    simp only [List.length_map] at a b
    omega
  have key : ∀ (k : Nat) (q : Nat × va_E), (X ++ Rs)[k]? = some q → k ∉ js → va_at D cl q H1 := by
    intro k q hX hn
    have hat := hP k q hX
    refine va_at.kept hat (hk q.1 hat.lt ?_)
    rintro (⟨i, e, hi⟩ | hge)
    · have a : (cx.map some)[i]? = some (some (q.1, e)) := by rw [List.getElem?_map, hi]; rfl
      rw [← h1, List.getElem?_map] at a
      cases hj : js[i]? with
      | none => rw [hj] at a; cases a
      | some j =>
        rw [hj] at a
        have a : X[j]? = some (q.1, e) := Option.some.inj a
        have e1 := hD.1 k j q (q.1, e) hX (by rw [List.getElem?_append_left (List.getElem?_eq_some_iff.mp a).1]; exact a) rfl
        exact hn (e1 ▸ List.mem_of_getElem? hj)
    · exact absurd hat.lt (Nat.not_lt.mpr hge)
  by_cases hk0 : k < X'.length
  · rw [List.getElem?_append_left hk0, h3] at hq
    rcases setAll_get js w1 X k q hlen hq with h | ⟨h, hn⟩
    · obtain ⟨i, hi⟩ := List.getElem?_of_mem h
      exact hP1 i q hi
    · exact key k q (by rw [List.getElem?_append_left (by omega)]; exact h) hn
  · rw [List.getElem?_append_right (by omega), hl4] at hq
    refine key k q (by rw [List.getElem?_append_right (by omega)]; exact hq) (fun hm => ?_)
    have a : some (X[k]?) ∈ (cx.map some).map some := by rw [← h1, List.map_map]; exact List.mem_map.mpr ⟨k, hm, rfl⟩
    obtain ⟨y, hy, e⟩ := List.mem_map.mp a
    obtain ⟨z, -, rfl⟩ := List.mem_map.mp hy
    have e := Option.some.inj e
    have := (List.getElem?_eq_some_iff.mp e.symm).1
    omega
section RWL
variable {p : Program} {l : Launch} {e : Env} {R : Room} {s : State} {m : MethodId} {args : Array Value} {below : List Frame} {meth : Method} {c : Code} {H : Heap} {locs : List Loc} {cells slots : Nat} {Q : State → Prop}
variable {cc : ByteArray} {pc : Nat} {ls : Array Slot} {rest : List Value} {D : va_G} {cl : List vw_C} {a : Nat} {G : GG} {ws : va_W}
theorem rw_ld {qR : Nat → Nat} (hexec : p.tables.exec = Jvm.exec) (hb : c.code = cc) (hK : va_K D cl (tysG G) s) (hP : va_P D cl ws H) (q0 : Nat) (ha : ws[q0]? = some (a, .inl (G.2.2.2.2, 17, .inr (.inr (.inr (.inr (outR qR))))))) {i : Int32} (hg : ix i 17 = true) (hdg : decode cc pc = .ok (.aaload, 1))
    (kk : W p l e R s m args below meth c H locs cells slots Q (F0 m (pc + 1) ls (.ref (qR i.toNatClampNeg) :: rest))) : W p l e R s m args below meth c H locs cells slots Q (F0 m pc ls (.int i :: .ref a :: rest)) := by
  have hin := ix_in hg
  have hlt := ix_lt hg
  exact W.aald (v := .ref (qR i.toNatClampNeg)) (ty := .array .int) hexec hb (hP q0 _ ha) ((hK.2 3 _ rfl).1 17 (fun j => va_rf (outR qR j))) rfl (fun q => by cases q) (by show ¬ (i < 0 ∨ (arrV _ _ _).slots.size ≤ _); rw [arrV_size]; exact hin) (by show (arrV _ _ _).slots[_]? = _; rw [arrV_read _ _ hlt]; simp [outR, hlt, va_rf]) rfl rfl hdg kk
end RWL
