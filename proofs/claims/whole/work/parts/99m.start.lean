/-! WHAT STOOD BEFORE: out of the words of the start -/
/-- the words of the start, one by one -/
def FL : List Cond := flatC (Jvm.Cond.and given_1 narrow_1)
theorem tb1 {w : Cond} (i : Nat) (h : tables_1[i]? = some w) : w ∈ lw_tbl := List.mem_append_right _ (List.mem_of_getElem? h)
def pSg (i : Nat) : Nat := [170, 175, 180, 185, 125, 130, 190, 195, 200, 205, 68, 73, 78, 83, 88, 93, 98, 110, 115, 120, 165, 160, 210, 215, 220, 225, 230, 235, 240, 245, 103, 135, 140, 150, 155, 145, 9, 4, 14].getD i 0
def pSl (i : Nat) : Nat := [2058, 2059, 2060, 2061, 828, 843, 2062, 2063, 2064, 2065, 680, 699, 704, 706, 711, 713, 715, 820, 822, 824, 869, 867, 2066, 2067, 2068, 2069, 2070, 2071, 2072, 2073, 717, 845, 847, 863, 865, 861, 604, 63, 606].getD i 0
def pSt (i : Nat) : Nat := [366, 400, 426, 458, 485, 515, 546, 577, 606, 628, 644, 660, 686, 748, 773, 789, 816, 824, 832, 838, 845, 852, 858, 865, 871, 877, 885, 893, 903, 913, 921, 930, 938, 946, 955, 963, 971, 980, 990, 999, 1009, 1017, 1024, 1031, 1040, 1047, 1053, 1057, 1066, 1077, 1088, 1097, 1107, 1116, 1125, 1130, 1140, 1149, 1158, 1165, 1173, 1178, 1183, 1188, 1193, 1198, 1206, 1213, 1222, 1229, 1237, 1245, 1252, 1259, 1268, 1277, 1287, 1298, 1308, 1319, 1328, 1336, 1344].getD i 0
def pSr (i : Nat) : Nat := [761, 797, 871, 898, 935, 957, 962, 980, 991, 1052, 1115, 1182, 1222, 1284, 1292, 1321, 1492, 1518, 1519, 1520, 1521, 1522, 1523, 1524, 1525, 1526, 1527, 1546, 1556, 1557, 1566, 1567, 1568, 1573, 1574, 1575, 1600, 1601, 1602, 1615, 1616, 1617, 1618, 1619, 1620, 1621, 2057, 2074, 2075, 2076, 2077, 2078, 2079, 2080, 2081, 2082, 2083, 2084, 2085, 2086, 2087, 2088, 2089, 2090, 2091, 2092, 2093, 2094, 2095, 2096, 2097, 2098, 2099, 2100, 2101, 2102, 2103, 2104, 2105, 2106, 2107, 2108, 2109].getD i 0
def sgT (i : Nat) : Term := .static "HalfOaths$Sign" (sgName i) "LHalfOaths$Sign;"
def stTm (i : Nat) : Term := .string (stOwn i) (stIdx i)
def sgL (i : Nat) : List Cond := [.exactly (sgT i) "HalfOaths$Sign", .eq (.field (sgT i) "java/lang/Enum" "ordinal" "I") (.int (Int32.ofNat i)), .eq (.field (sgT i) "HalfOaths$Sign" "spelling" "Ljava/lang/String;") (stTm (sgStr i)), .eq (.field (sgT i) "HalfOaths$Sign" "kind" "I") (.int (Int32.ofInt (sgKind i))), .eq (.field (sgT i) "HalfOaths$Sign" "fact" "I") (.int (Int32.ofInt (sgFact i)))]
def vlT (i : Nat) : Term := .field (stTm i) "java/lang/String" "value" "[B"
def stL (i : Nat) : List Cond := [.exactly (stTm i) "java/lang/String", .eq (.field (stTm i) "java/lang/String" "coder" "B") (.int 0), .arrayOf (vlT i) .byte, .eq (.length (vlT i)) (.int (Int32.ofNat (stByt i).length))] ++ (List.range (stByt i).length).map (fun j => .eq (.elem (vlT i) (.int (Int32.ofNat j))) (.int (Int32.ofInt ((stByt i).getD j 0))))
def snT : Term := .static "HalfOaths" "SIGNS" "[LHalfOaths$Sign;"
set_option maxRecDepth 100000 in
theorem fl_sg : (List.range 39).all (fun i => decide ((FL.drop (pSg i)).take 5 = sgL i)) = true := by decide +kernel
set_option maxRecDepth 100000 in
theorem fl_st : (List.range 83).all (fun i => decide ((FL.drop (pSt i)).take (4 + (stByt i).length) = stL i)) = true := by decide +kernel
set_option maxRecDepth 100000 in
theorem fl_sn : (FL.drop 24).take 39 = (List.range 39).map (fun j => Cond.eq (.elem snT (.int (Int32.ofNat j))) (sgT j)) := by decide +kernel
set_option maxRecDepth 100000 in
theorem tl_sg : (List.range 39).all (fun i => decide (tables_1[pSl i]? = some (Cond.laysStatic "HalfOaths$Sign" (sgName i) "LHalfOaths$Sign;"))) = true := by decide +kernel
set_option maxRecDepth 100000 in
theorem tl_st : (List.range 83).all (fun i => decide (tables_1[pSr i]? = some (Cond.stringRef (stOwn i) (stIdx i) (stTxt i)))) = true := by decide +kernel
set_option maxRecDepth 100000 in
theorem fl_nc : ncT.all (fun q => decide (Cond.not (.castable q.1 q.2) ∈ FL)) = true := by decide +kernel
theorem st_len : (List.range 83).all (fun i => decide ((stByt i).length < 100)) = true := by decide +kernel
theorem sg_str : (List.range 39).all (fun i => decide (sgStr i < 83)) = true := by decide +kernel
set_option maxRecDepth 100000 in
theorem xw_tb : xw.all (fun w => decide (w ∈ lw_tbl)) = true := by decide +kernel
theorem mem_cut {L M : List Cond} {p n : Nat} (h : (L.drop p).take n = M) {w : Cond} (hw : w ∈ M) : w ∈ L := by
  rw [← h] at hw
  exact List.mem_of_mem_drop (List.mem_of_mem_take hw)
theorem fl_sg' {i : Nat} (hi : i < 39) {w : Cond} (hw : w ∈ sgL i) : w ∈ FL := mem_cut (of_decide_eq_true (List.all_eq_true.mp fl_sg i (List.mem_range.mpr hi))) hw
theorem fl_st' {i : Nat} (hi : i < 83) {w : Cond} (hw : w ∈ stL i) : w ∈ FL := mem_cut (of_decide_eq_true (List.all_eq_true.mp fl_st i (List.mem_range.mpr hi))) hw
theorem k_arr {s : State} {args : Array Value} {ty : FieldType} (h : (Cond.arrayClass ty).before args s = true) (ho : ∀ C, ty ≠ .object C) : ∃ c : ClassId, ArrOfT s c ty ∧ va_RA s c ty := by
  obtain ⟨c, k, comp, h1, h2, h3⟩ := Cond.arrayClass_spec h
  refine ⟨c, fun n z => ⟨fun k h => (by cases h), k, h2, comp, h3⟩, ?_⟩
  cases ty with
  | object C => exact absurd rfl (ho C)
  | _ => exact h1
theorem k_arq {s : State} {args : Array Value} {C : String} (h : (Cond.arrayOver (.object C)).before args s = true) : ∃ c : ClassId, ArrOfT s c (.object C) ∧ va_RA s c (.object C) := by
  obtain ⟨comp, c, k, h1, h2, h3, h4, h5⟩ := Cond.arrayOver_spec h
  exact ⟨c, fun n z => ⟨fun k h => (by cases h), k, h3, comp, h4⟩, k, comp, h3, h4, h1, h5⟩
theorem st_signs {s : State} {b : Nat} (hf : ∀ w ∈ FL, w.before #[Value.ref b] s = true) (ht : ∀ w ∈ lw_tbl, w.before #[Value.ref b] s = true) (A : Nat → Prop) (hA : ∀ a : Nat, a < s.heap.size → ¬ A a) (adK : Nat → Nat) (hK : ∀ i : Nat, i < 83 → (stTm i).eval #[Value.ref b] s none [] s = some (.ref (adK i))) :
    ∃ ad : Nat → Nat, (∀ i : Nat, i < 39 → (sgT i).eval #[Value.ref b] s none [] s = some (.ref (ad i)) ∧ va_Z RX8 (sgName i) "LHalfOaths$Sign;" (.ref (ad i)) A s s.heap ∧ va_O RX8 (ad i) A s s.heap ∧ va_OF RX8 "kind" "I" (.int (Int32.ofInt (sgKind i))) (ad i) A s s.heap ∧ va_OF RX8 "fact" "I" (.int (Int32.ofInt (sgFact i))) (ad i) A s s.heap ∧ va_OF RX8 "spelling" "Ljava/lang/String;" (.ref (adK (sgStr i))) (ad i) A s s.heap) ∧ ∀ i j : Nat, i < 39 → j < 39 → ad i = ad j → i = j := by
  have h0 : ∀ i : Nat, ∃ a : Nat, i < 39 → (sgT i).eval #[Value.ref b] s none [] s = some (.ref a) ∧ va_O RX8 a A s s.heap := by
    intro i
    by_cases hi : i < 39
    · obtain ⟨a, c, cA, kA, q1, q2, q3, q4, q5, q6, -⟩ := Cond.exactly_spec (hf _ (fl_sg' hi (w := .exactly (sgT i) "HalfOaths$Sign") (by simp [sgL])))
      exact ⟨a, fun _ => ⟨q1, ⟨cA, q3, q5, by rw [q6]; exact q2, hA a (Array.getElem?_eq_some_iff.mp q3).1⟩⟩⟩
    · exact ⟨0, fun h => absurd h hi⟩
  obtain ⟨ad, had⟩ := Classical.axiomOfChoice h0
  have hord : ∀ i : Nat, i < 39 → va_OF "java/lang/Enum" "ordinal" "I" (.int (Int32.ofNat i)) (ad i) A s s.heap := fun i hi =>
    vk_OFof (had i hi).1 (va_eqt (hf _ (fl_sg' hi (w := .eq (.field (sgT i) "java/lang/Enum" "ordinal" "I") (.int (Int32.ofNat i))) (by simp [sgL])))) hA
  refine ⟨ad, fun i hi => ⟨(had i hi).1, ?_, (had i hi).2, ?_, ?_, ?_⟩, fun i j hi hj e => ?_⟩
  · exact va_Zref (ht _ (tb1 _ (of_decide_eq_true (List.all_eq_true.mp tl_sg i (List.mem_range.mpr hi))))) (ht _ (tb1 5 (by decide +kernel))) (had i hi).1 hA
  · exact vk_OFof (had i hi).1 (va_eqt (hf _ (fl_sg' hi (w := .eq (.field (sgT i) "HalfOaths$Sign" "kind" "I") (.int (Int32.ofInt (sgKind i)))) (by simp [sgL])))) hA
  · exact vk_OFof (had i hi).1 (va_eqt (hf _ (fl_sg' hi (w := .eq (.field (sgT i) "HalfOaths$Sign" "fact" "I") (.int (Int32.ofInt (sgFact i)))) (by simp [sgL])))) hA
  · exact vk_OFof (had i hi).1 (va_eqv (hf _ (fl_sg' hi (w := .eq (.field (sgT i) "HalfOaths$Sign" "spelling" "Ljava/lang/String;") (stTm (sgStr i))) (by simp [sgL]))) (hK _ (of_decide_eq_true (List.all_eq_true.mp sg_str i (List.mem_range.mpr hi))))) hA
  · obtain ⟨cf, k, fi, f, cell, e1, e2, e3, e4, e5, e6⟩ := hord i hi
    obtain ⟨cf', k', fi', f', cell', d1, d2, d3, d4, d5, d6⟩ := hord j hj
    cases e1.symm.trans d1
    rw [e] at e3
    cases e3.symm.trans d3
    have h3 := Value.int.inj (Option.some.inj (e5.symm.trans d5))
    have h4 : (Int32.ofNat i).toInt = (Int32.ofNat j).toInt := by rw [h3]
    rw [Int32.toInt_ofNat_of_lt (by omega), Int32.toInt_ofNat_of_lt (by omega)] at h4
    omega
theorem st_texts {s : State} {b : Nat} (hf : ∀ w ∈ FL, w.before #[Value.ref b] s = true) (A : Nat → Prop) (hA : ∀ a : Nat, a < s.heap.size → ¬ A a) :
    ∃ adK adV : Nat → Nat, ∀ i : Nat, i < 83 → (stTm i).eval #[Value.ref b] s none [] s = some (.ref (adK i)) ∧ va_O "java/lang/String" (adK i) A s s.heap ∧ va_OF "java/lang/String" "coder" "B" (.int 0) (adK i) A s s.heap ∧ va_OF "java/lang/String" "value" "[B" (.ref (adV i)) (adK i) A s s.heap ∧ va_T .byte (adV i) (stByt i).length (fun j => .int (Int32.ofInt ((stByt i).getD j 0))) A s s.heap := by
  have h0 : ∀ i : Nat, ∃ q : Nat × Nat, i < 83 → (stTm i).eval #[Value.ref b] s none [] s = some (.ref q.1) ∧ va_O "java/lang/String" q.1 A s s.heap ∧ va_OF "java/lang/String" "coder" "B" (.int 0) q.1 A s s.heap ∧ va_OF "java/lang/String" "value" "[B" (.ref q.2) q.1 A s s.heap ∧ va_T .byte q.2 (stByt i).length (fun j => .int (Int32.ofInt ((stByt i).getD j 0))) A s s.heap := by
    intro i
    by_cases hi : i < 83
    · have hm : ∀ w ∈ stL i, w.before #[Value.ref b] s = true := fun w hw => hf w (fl_st' hi hw)
      obtain ⟨a, c, cA, kA, q1, q2, q3, q4, q5, q6, -⟩ := Cond.exactly_spec (hm (.exactly (stTm i) "java/lang/String") (by simp [stL]))
      have hlen : (stByt i).length < 100 := of_decide_eq_true (List.all_eq_true.mp st_len i (List.mem_range.mpr hi))
      obtain ⟨t, ht, hT⟩ := va_Tof (tm := vlT i) (ty := .byte) (N := (stByt i).length) (f := fun j => .int (Int32.ofInt ((stByt i).getD j 0))) (A := A) (by omega) (hm (.arrayOf (vlT i) .byte) (by simp [stL])) (va_eqt (hm (.eq (.length (vlT i)) (.int (Int32.ofNat (stByt i).length))) (by simp [stL]))) (fun j hj => va_eqt (hm (.eq (.elem (vlT i) (.int (Int32.ofNat j))) (.int (Int32.ofInt ((stByt i).getD j 0)))) (List.mem_append_right _ (List.mem_map.mpr ⟨j, List.mem_range.mpr hj, rfl⟩)))) hA
      exact ⟨(a, t), fun _ => ⟨q1, ⟨cA, q3, q5, by rw [q6]; exact q2, hA a (Array.getElem?_eq_some_iff.mp q3).1⟩, vk_OFof q1 (va_eqt (hm (.eq (.field (stTm i) "java/lang/String" "coder" "B") (.int 0)) (by simp [stL]))) hA, vk_OFof q1 ht hA, hT⟩⟩
    · exact ⟨(0, 0), fun h => absurd h hi⟩
  obtain ⟨ad, had⟩ := Classical.axiomOfChoice h0
  exact ⟨fun i => (ad i).1, fun i => (ad i).2, fun i hi => had i hi⟩
