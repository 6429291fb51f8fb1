/-! ===== the law, from its entry ===== -/
def strTm (i : Nat) : Term := match strT[i]? with
  | some q => .string q.1 q.2.1
  | none => .int 0
def strV (i : Nat) : Term := .field (strTm i) "java/lang/String" "value" "[B"
def nwF : List Cond := flatC (Jvm.Cond.and given_1 narrow_1)
def blkS (i : Nat) : List Cond := [Cond.exactly (strTm i) "java/lang/String", Cond.eq (.field (strTm i) "java/lang/String" "coder" "B") (.int 0), Cond.arrayOf (strV i) .byte, Cond.eq (.length (strV i)) (.int (Int32.ofNat (strB.getD i []).length))] ++ (List.range (strB.getD i []).length).map fun j => Cond.eq (.elem (strV i) (.int (Int32.ofNat j))) (.int ((strB.getD i []).getD j 0))
theorem nw_all : nwF.drop 33 = (List.range 27).flatMap blkS := by decide +kernel
theorem nw_m {i : Nat} {c : Cond} (hi : i < nStr) (h : c ∈ blkS i) : c ∈ nwF := by
  refine List.mem_of_mem_drop (i := 33) ?_
  rw [nw_all]
  exact List.mem_flatMap.mpr ⟨i, List.mem_range.mpr hi, h⟩
theorem nw_1 : ∀ i, i < nStr → Cond.exactly (strTm i) "java/lang/String" ∈ nwF ∧ Cond.eq (.field (strTm i) "java/lang/String" "coder" "B") (.int 0) ∈ nwF ∧ Cond.arrayOf (strV i) .byte ∈ nwF ∧ Cond.eq (.length (strV i)) (.int (Int32.ofNat (strB.getD i []).length)) ∈ nwF := fun i hi => ⟨nw_m hi (List.mem_append_left _ (by simp)), nw_m hi (List.mem_append_left _ (by simp)), nw_m hi (List.mem_append_left _ (by simp)), nw_m hi (List.mem_append_left _ (by simp))⟩
theorem nw_2 : ∀ i, i < nStr → ∀ j, j < (strB.getD i []).length → Cond.eq (.elem (strV i) (.int (Int32.ofNat j))) (.int ((strB.getD i []).getD j 0)) ∈ nwF := fun i hi j hj => nw_m hi (List.mem_append_right _ (List.mem_map.mpr ⟨j, List.mem_range.mpr hj, rfl⟩))
theorem nw_3 : ∀ i, i < nStr → ∃ q, strT[i]? = some q ∧ Cond.stringRef q.1 q.2.1 q.2.2 ∈ lw_tbl := by
  intro i hi
  have h : ∀ i, i < nStr → (match strT[i]? with | some q => decide (Cond.stringRef q.1 q.2.1 q.2.2 ∈ tables_1) | none => false) = true := by decide +kernel
  have h1 := h i hi
  cases hq : strT[i]? with
  | none => rw [hq] at h1; cases h1
  | some q => rw [hq] at h1; exact ⟨q, rfl, List.mem_append_right _ (of_decide_eq_true h1)⟩
theorem ro_start {s : State} {b : Nat} (hts : ∀ w ∈ lw_tbl, w.before #[Value.ref b] s = true) (hgv : (Jvm.Cond.and given_1 narrow_1).before #[Value.ref b] s = true) : ∃ adK : Nat → Nat, adK 27 = b ∧ ∀ (D : va_G) (ca : Nat → ClassId), RO (D, ca, s.heap.size, adK, fun _ => 0) s s.heap := by
  have hs : ∀ c ∈ nwF, c.before #[Value.ref b] s = true := flat_of_before _ hgv
  have hA : ∀ a : Nat, a < s.heap.size → ¬ (fun q : Nat => s.heap.size ≤ q) a := fun a h => Nat.not_le.mpr h
  have h0 : ∀ i : Nat, ∃ q : Nat × Nat, i < nStr → (strTm i).eval #[Value.ref b] s none [] s = some (.ref q.1) ∧ va_O "java/lang/String" q.1 (fun q : Nat => s.heap.size ≤ q) s s.heap ∧ va_OF "java/lang/String" "coder" "B" (.int 0) q.1 (fun q : Nat => s.heap.size ≤ q) s s.heap ∧ va_OF "java/lang/String" "value" "[B" (.ref q.2) q.1 (fun q : Nat => s.heap.size ≤ q) s s.heap ∧ va_T .byte q.2 (strB.getD i []).length (fun j => .int ((strB.getD i []).getD j 0)) (fun q : Nat => s.heap.size ≤ q) s s.heap := by
    intro i
    by_cases hi : i < nStr
    · obtain ⟨w1, w2, w3, w4⟩ := nw_1 i hi
      obtain ⟨a, c, cA, kA, q1, q2, q3, q4, q5, q6, -⟩ := Cond.exactly_spec (args := #[Value.ref b]) (first := s) (o := none) (s := s) (idx := []) (t := strTm i) (cls := "java/lang/String") (hs _ w1)
      obtain ⟨t, ht, hT⟩ := va_Tof (f := fun j => .int ((strB.getD i []).getD j 0)) (A := fun q : Nat => s.heap.size ≤ q) (by have := (chOK i hi).1; omega) (hs _ w3) (va_eqt (hs _ w4)) (fun j hj => va_eqt (hs _ (nw_2 i hi j hj))) hA
      exact ⟨(a, t), fun _ => ⟨q1, ⟨cA, q3, q5, by rw [q6]; exact q2, hA a (Array.getElem?_eq_some_iff.mp q3).1⟩, vk_OFof q1 (va_eqt (hs _ w2)) hA, vk_OFof q1 ht hA, hT⟩⟩
    · exact ⟨(0, 0), fun h => absurd h hi⟩
  obtain ⟨ad, had⟩ := Classical.axiomOfChoice h0
  have hF := va_Zqof (C := "jdk/internal/util/Preconditions") (n := "SIOOBE_FORMATTER") (d := "Ljava/util/function/BiFunction;") (A := fun q : Nat => s.heap.size ≤ q) (hts (.laysStatic "jdk/internal/util/Preconditions" "SIOOBE_FORMATTER" "Ljava/util/function/BiFunction;") (by decide +kernel)) (hts (.initialized "jdk/internal/util/Preconditions") (by decide +kernel)) (hs (.isRef (.static "jdk/internal/util/Preconditions" "SIOOBE_FORMATTER" "Ljava/util/function/BiFunction;")) (by decide +kernel)) hA
  obtain ⟨t28, h28⟩ : ∃ t28 : Nat, va_Z "jdk/internal/util/Preconditions" "SIOOBE_FORMATTER" "Ljava/util/function/BiFunction;" .null (fun q : Nat => s.heap.size ≤ q) s s.heap ∨ va_Z "jdk/internal/util/Preconditions" "SIOOBE_FORMATTER" "Ljava/util/function/BiFunction;" (.ref t28) (fun q : Nat => s.heap.size ≤ q) s s.heap := by
    rcases hF with h | ⟨t, h⟩
    · exact ⟨0, Or.inl h⟩
    · exact ⟨t, Or.inr h⟩
  refine ⟨fun k => if k < 27 then (ad k).1 else if k = 27 then b else if k = 28 then t28 else (ad (k - 1000)).2, rfl, fun D ca => ⟨?_, ?_, ?_, ?_, ?_, ?_, ?_, ?_, ?_⟩⟩
  · intro i hi
    have hi' : i < 27 := hi
    have e1 : (fun k => if k < 27 then (ad k).1 else if k = 27 then b else if k = 28 then t28 else (ad (k - 1000)).2) i = (ad i).1 := by simp [hi']
    have e2 : (fun k => if k < 27 then (ad k).1 else if k = 27 then b else if k = 28 then t28 else (ad (k - 1000)).2) (1000 + i) = (ad i).2 := by
      have z1 : ¬ (1000 + i < 27) := by omega
      have z2 : ¬ (1000 + i = 27) := by omega
      have z3 : ¬ (1000 + i = 28) := by omega
      simp only [z1, z2, z3, if_false, Nat.add_sub_cancel_left]
    have h9 := (had i hi).2
    show va_O "java/lang/String" ((fun k => if k < 27 then (ad k).1 else if k = 27 then b else if k = 28 then t28 else (ad (k - 1000)).2) i) _ s s.heap ∧ va_OF "java/lang/String" "coder" "B" (.int 0) ((fun k => if k < 27 then (ad k).1 else if k = 27 then b else if k = 28 then t28 else (ad (k - 1000)).2) i) _ s s.heap ∧ va_OF "java/lang/String" "value" "[B" (.ref ((fun k => if k < 27 then (ad k).1 else if k = 27 then b else if k = 28 then t28 else (ad (k - 1000)).2) (1000 + i))) ((fun k => if k < 27 then (ad k).1 else if k = 27 then b else if k = 28 then t28 else (ad (k - 1000)).2) i) _ s s.heap ∧ va_T .byte ((fun k => if k < 27 then (ad k).1 else if k = 27 then b else if k = 28 then t28 else (ad (k - 1000)).2) (1000 + i)) _ _ _ s s.heap
    rw [e1, e2]
    exact h9
  · intro i q hq
    have hi : i < nStr := (List.getElem?_eq_some_iff.mp hq).1
    obtain ⟨q', hq', hw⟩ := nw_3 i hi
    cases Option.some.inj (hq.symm.trans hq')
    have hi' : i < 27 := hi
    have e1 : (fun k => if k < 27 then (ad k).1 else if k = 27 then b else if k = 28 then t28 else (ad (k - 1000)).2) i = (ad i).1 := by simp [hi']
    show vk_R q.1 q.2.1 q.2.2 ((fun k => if k < 27 then (ad k).1 else if k = 27 then b else if k = 28 then t28 else (ad (k - 1000)).2) i) s
    rw [e1]
    refine vk_R.of (hts _ hw) ?_
    have h1 := (had i hi).1
    unfold strTm at h1
    rw [hq] at h1
    exact h1
  · exact va_Zof (hts (.laysStatic "java/lang/String" "COMPACT_STRINGS" "Z") (by decide +kernel)) (hts (.initialized "java/lang/String") (by decide +kernel)) (va_eqt (hs (.eq (.static "java/lang/String" "COMPACT_STRINGS" "Z") (.int 1)) (by decide +kernel))) hA
  · exact vx_Zqof (hts (.laysStatic Bundle.tN "UNASSIGNED_STACK" Bundle.steD) (by decide +kernel)) (hts (.initialized Bundle.tN) (by decide +kernel)) (hs (.isRef (.static Bundle.tN "UNASSIGNED_STACK" Bundle.steD)) (by decide +kernel)) hA
  · exact vx_Zqof (hts (.laysStatic Bundle.tN "SUPPRESSED_SENTINEL" Bundle.listD) (by decide +kernel)) (hts (.initialized Bundle.tN) (by decide +kernel)) (hs (.isRef (.static Bundle.tN "SUPPRESSED_SENTINEL" Bundle.listD)) (by decide +kernel)) hA
  · exact fun w hw => va_any (xws_tab hw) (hts w (List.mem_append_right _ (List.mem_filter.mp hw).1))
  · exact va_AO.of (hts (.arrayOver (.object "HornHouses$State")) (by decide +kernel))
  · exact va_Nc.of (hs (.not (.castable "java/lang/IllegalArgumentException" "java/util/NoSuchElementException")) (by decide +kernel))
  · exact h28
theorem k_start {s : State} {b : Nat} (hts : ∀ w ∈ lw_tbl, w.before #[Value.ref b] s = true) : ∃ (D : va_G) (ca : Nat → ClassId), ∀ (B0 : Nat) (adK adV : Nat → Nat), va_K D vwCl (gty (D, ca, B0, adK, adV)) s := by
  have hg : ∀ w ∈ gws, w.before #[Value.ref b] s = true := fun w hw => hts w (List.mem_filter.mp hw).1
  have hc : ∀ ci : Nat, ∃ q : ClassId × (Nat → Nat), ∀ r : vw_C, vwCl[ci]? = some r → u_Kn s r.1 r.2.1 r.2.2 q.1 q.2 := by
    intro ci
    cases hr : vwCl[ci]? with
    | none => exact ⟨(0, fun _ => 0), fun r h => by cases h⟩
    | some r =>
      obtain ⟨h10, hin, -, -⟩ := clf ci r hr
      have hi : (Cond.instantiable r.1 r.2.2).before #[Value.ref b] s = true := by
        match ci, hr with
        | 0, hr => cases hr; exact hg _ ib_0
        | 1, hr => cases hr; exact hg _ ib_1
        | 2, hr => cases hr; exact hg _ ib_2
        | 3, hr => cases hr; exact hg _ ib_3
        | 4, hr => cases hr; exact hg _ ib_4
        | 5, hr => cases hr; exact hg _ ib_5
        | 6, hr => cases hr; exact hg _ ib_6
        | 7, hr => cases hr; exact hg _ ib_7
        | 8, hr => cases hr; exact hg _ ib_8
        | 9, hr => cases hr; exact hg _ ib_9
        | k + 10, hr => simp [vwCl] at hr
      obtain ⟨cC, iS, h⟩ := u_known (C := r.1) (T := r.2.1) (N := r.2.2) (n := r.2.2) hg hin hi
      exact ⟨(cC, iS), fun r' h' => by cases h'; exact h⟩
  obtain ⟨f, hf⟩ := Classical.axiomOfChoice hc
  have har : ∀ ty : FieldType, Cond.arrayClass ty ∈ gws → ∃ cA : ClassId, ArrOfT s cA ty ∧ s.vm.findClass ("[" ++ ty.toString) = some cA := by
    intro ty hw
    obtain ⟨cA, kA, comp, h1, h2, h3⟩ := Cond.arrayClass_spec (hg _ hw)
    exact ⟨cA, fun n z => ⟨fun k h => (by cases h), kA, h2, comp, h3⟩, h1⟩
  obtain ⟨cI, i1, i2⟩ := har .int ar_int
  obtain ⟨cB, b1, b2⟩ := har .byte ar_byte
  obtain ⟨cZ, z1, z2⟩ := har .boolean ar_boolean
  obtain ⟨cJ, j1, j2⟩ := har .long ar_long
  obtain ⟨comp, cR, kR, r1, -, r3, r4, r5⟩ := Cond.arrayOver_spec (hts (.arrayOver (.object "HornHouses$State")) (by decide +kernel))
  refine ⟨(fun k => (f k).1, fun k => (f k).2), fun k => if k = 100 then cI else if k = 101 then cB else if k = 102 then cZ else if k = 103 then cJ else cR, fun B0 adK adV => ⟨fun ci q hq => hf ci q hq, fun k q hk => ?_⟩⟩
  match k, hk with
  | 0, hk => cases hk; exact ⟨i1, i2⟩
  | 1, hk => cases hk; exact ⟨b1, b2⟩
  | 2, hk => cases hk; exact ⟨z1, z2⟩
  | 3, hk => cases hk; exact ⟨j1, j2⟩
  | 4, hk => cases hk; exact ⟨fun n z => ⟨fun k h => (by cases h), kR, r3, comp, r4⟩, kR, comp, r3, r4, r1, r5⟩
  | k + 5, hk => simp [gty] at hk
theorem law_start {p : Program} {e : Env} {s : State} {m : MethodId} {below : List Frame} {meth : Method} {c : Code} (l : Launch) (hl : l.stackTraces = false) {b L : Nat} {xs : Nat → Int32} (C0 : lw_At p s m meth c b L xs) {M' : Mem} (hF : F_L_law M00 L xs = some (1, M')) : W p l e room_1 s m #[Value.ref b] below meth c s.heap [] 0 0 (lw_Z below #[Value.ref b] s) (entryFrame m ([Value.ref b] : List Value).toArray 7) := by
  obtain ⟨hx, hb, hr, hml, hown, hts, hX, hbl, hlocks, hgv⟩ := C0
  obtain ⟨adK, h27, hRO⟩ := ro_start hts hgv
  obtain ⟨D, ca, hK⟩ := k_start hts
  have hw := w_L_law (X := ((p, l, e, room_1, s, m), (#[Value.ref b], below, meth, c), (D, ca, s.heap.size, adK, fun _ => 0), M00, lw_Z below #[Value.ref b] s)) (y := (1, M')) ⟨hx, hb, hml, hown, fun w hw => hts w (List.mem_filter.mp hw).1, hK _ _ _, Nat.le_refl _, hlocks, rfl, rfl, rfl, rfl⟩ (hRO D ca) hl (L := L) (xs := xs)
    ⟨by show va_X (adK 27) L xs s s.heap; rw [h27]; exact hX, by show adK 27 < s.heap.size; rw [h27]; exact hbl, by show ¬ s.heap.size ≤ adK 27; rw [h27]; exact Nat.not_le.mpr hbl⟩ M00 hF ⟨rfl, b, rfl, rfl, hr, rfl, rfl, rfl, rfl⟩
  have hl0 := lv_entry ([.ref b]) (n := 7) (Nat.le_of_ble_eq_true rfl)
  rw [lg_entry_eq]
  have h9 := hw s.heap [] _ ⟨rfl, fun k t hk => by simp [M00] at hk⟩ va_S.rf (by
    show lv_has _ 7 [(0, .ref (adK 27))]
    rw [h27]; exact hl0) ⟨Nat.le_refl _, by decide⟩ ⟨Nat.le_refl _, by decide⟩
  exact h9
