/-! FROM THE LAW'S ENTRY TO ITS END -/
theorem adr_ex (b f0 aN : Nat) (adV adK adS : Nat → Nat) : ∃ adr : Int → Nat, adr 4000 = b ∧ adr 5001 = f0 ∧ (∀ i : Nat, i < 83 → adr (3000 + i) = adV i) ∧ (∀ i : Nat, i < 83 → adr (2000 + i) = adK i) ∧ adr 1040 = aN ∧ ∀ i : Nat, i < 39 → adr (1000 + i) = adS i := by
  refine ⟨fun r => if r = 4000 then b else if r = 5001 then f0 else if 3000 ≤ r then adV (r - 3000).toNat else if 2000 ≤ r then adK (r - 2000).toNat else if r = 1040 then aN else adS (r - 1000).toNat, rfl, rfl, fun i hi => ?_, fun i hi => ?_, rfl, fun i hi => ?_⟩
  · show (if (3000 + (i : Int)) = 4000 then b else if (3000 + (i : Int)) = 5001 then f0 else if 3000 ≤ (3000 + (i : Int)) then adV ((3000 + (i : Int)) - 3000).toNat else _) = _
    rw [if_neg (by omega), if_neg (by omega), if_pos (by omega), show ((3000 + (i : Int)) - 3000).toNat = i by omega]
  · show (if (2000 + (i : Int)) = 4000 then b else if (2000 + (i : Int)) = 5001 then f0 else if 3000 ≤ (2000 + (i : Int)) then _ else if 2000 ≤ (2000 + (i : Int)) then adK ((2000 + (i : Int)) - 2000).toNat else _) = _
    rw [if_neg (by omega), if_neg (by omega), if_neg (by omega), if_pos (by omega), show ((2000 + (i : Int)) - 2000).toNat = i by omega]
  · show (if (1000 + (i : Int)) = 4000 then b else if (1000 + (i : Int)) = 5001 then f0 else if 3000 ≤ (1000 + (i : Int)) then _ else if 2000 ≤ (1000 + (i : Int)) then _ else if (1000 + (i : Int)) = 1040 then aN else adS ((1000 + (i : Int)) - 1000).toNat) = _
    rw [if_neg (by omega), if_neg (by omega), if_neg (by omega), if_neg (by omega), if_neg (by omega), show ((1000 + (i : Int)) - 1000).toNat = i by omega]
theorem st_start {s : State} {b L : Nat} {xs : Nat → Int32} (hts : ∀ w ∈ lw_tbl, w.before #[Value.ref b] s = true) (hgv : (Jvm.Cond.and given_1 narrow_1).before #[Value.ref b] s = true) (hX : va_X b L xs s s.heap) (hbl : b < s.heap.size) :
    ∃ Γ : Cfg, Γ.1 = s.heap.size ∧ Γ.2.1 4000 = b ∧ Γ.2.2.2.2.1 = L ∧ StS Γ s s.heap := by
  have hf : ∀ w ∈ FL, w.before #[Value.ref b] s = true := fun w hw => flat_of_before _ hgv w hw
  have hA : ∀ a : Nat, a < s.heap.size → ¬ (fun q : Nat => s.heap.size ≤ q) a := fun a h => Nat.not_le.mpr h
  have hgw : ∀ w ∈ gw, w.before #[Value.ref b] s = true := fun w hw => hts w (List.mem_filter.mp hw).1
  obtain ⟨adK, adV, hSt⟩ := st_texts hf (fun q : Nat => s.heap.size ≤ q) hA
  obtain ⟨adS, hSg, hinj⟩ := st_signs hf hts (fun q : Nat => s.heap.size ≤ q) hA adK (fun i hi => (hSt i hi).1)
  obtain ⟨aN, hN1, hN2⟩ := va_Tof (tm := snT) (ty := .object "HalfOaths$Sign") (N := 39) (f := fun j => .ref (adS j)) (A := fun q : Nat => s.heap.size ≤ q) (by decide) (hf (.arrayOf snT (.object "HalfOaths$Sign")) (List.mem_of_getElem? (i := 21) (by decide +kernel))) (va_eqt (hf (.eq (.length snT) (.int (Int32.ofNat 39))) (List.mem_of_getElem? (i := 22) (by decide +kernel)))) (fun j hj => va_eqv (hf _ (mem_cut fl_sn (List.mem_map.mpr ⟨j, List.mem_range.mpr hj, rfl⟩))) (hSg j hj).1) hA
  have hZN : va_Z RX11 "SIGNS" "[LHalfOaths$Sign;" (.ref aN) (fun q : Nat => s.heap.size ≤ q) s s.heap := va_Zref (hts _ (tb1 608 (by decide +kernel))) (hts _ (tb1 1 (by decide +kernel))) hN1 hA
  have hk : ∀ k : Nat, ∃ q : ClassId × (Nat → Nat), ∀ r, vwCl[k]? = some r → u_Kn s r.1 r.2.1 r.2.2 q.1 q.2 := by
    intro k
    match k with
    | 0 =>
      obtain ⟨c, iS, h⟩ := u_known (C := RX0) (T := TX0) (N := 8) (n := 8) hgw inX0 (hts _ (tb1 225 (by decide +kernel)))
      exact ⟨(c, iS), fun r hr => by have hr : some _ = some r := hr; cases hr; exact h⟩
    | 1 =>
      obtain ⟨c, iS, h⟩ := u_known (C := RX1) (T := TX1) (N := 1) (n := 1) hgw inX1 (hts _ (tb1 277 (by decide +kernel)))
      exact ⟨(c, iS), fun r hr => by have hr : some _ = some r := hr; cases hr; exact h⟩
    | 2 =>
      obtain ⟨c, iS, h⟩ := u_known (C := RX2) (T := TX2) (N := 15) (n := 15) hgw inX2 (hts _ (tb1 92 (by decide +kernel)))
      exact ⟨(c, iS), fun r hr => by have hr : some _ = some r := hr; cases hr; exact h⟩
    | 3 =>
      obtain ⟨c, iS, h⟩ := u_known (C := RX4) (T := TX4) (N := 8) (n := 8) hgw inX4 (hts _ (tb1 182 (by decide +kernel)))
      exact ⟨(c, iS), fun r hr => by have hr : some _ = some r := hr; cases hr; exact h⟩
    | 4 =>
      obtain ⟨c, iS, h⟩ := u_known (C := RX5) (T := TX5) (N := 9) (n := 9) hgw inX5 (hts _ (tb1 287 (by decide +kernel)))
      exact ⟨(c, iS), fun r hr => by have hr : some _ = some r := hr; cases hr; exact h⟩
    | 5 =>
      obtain ⟨c, iS, h⟩ := u_known (C := RX6) (T := TX6) (N := 3) (n := 3) hgw inX6 (hts _ (tb1 324 (by decide +kernel)))
      exact ⟨(c, iS), fun r hr => by have hr : some _ = some r := hr; cases hr; exact h⟩
    | 6 =>
      obtain ⟨c, iS, h⟩ := u_known (C := RX7) (T := TX7) (N := 4) (n := 4) hgw inX7 (hts _ (tb1 219 (by decide +kernel)))
      exact ⟨(c, iS), fun r hr => by have hr : some _ = some r := hr; cases hr; exact h⟩
    | 7 =>
      obtain ⟨c, iS, h⟩ := u_known (C := RX9) (T := TX9) (N := 2) (n := 2) hgw inX9 (hts _ (tb1 39 (by decide +kernel)))
      exact ⟨(c, iS), fun r hr => by have hr : some _ = some r := hr; cases hr; exact h⟩
    | 8 =>
      obtain ⟨c, iS, h⟩ := u_known (C := RX10) (T := TX10) (N := 7) (n := 7) hgw inX10 (hts _ (tb1 55 (by decide +kernel)))
      exact ⟨(c, iS), fun r hr => by have hr : some _ = some r := hr; cases hr; exact h⟩
    | 9 =>
      obtain ⟨c, iS, h⟩ := u_known (C := RX11) (T := TX11) (N := 18) (n := 18) hgw inX11 (hts _ (tb1 31 (by decide +kernel)))
      exact ⟨(c, iS), fun r hr => by have hr : some _ = some r := hr; cases hr; exact h⟩
    | 10 =>
      obtain ⟨c, iS, h⟩ := u_known (C := RX12) (T := TX12) (N := 34) (n := 34) hgw inX12 (hts _ (tb1 1327 (by decide +kernel)))
      exact ⟨(c, iS), fun r hr => by have hr : some _ = some r := hr; cases hr; exact h⟩
    | k + 11 => exact ⟨(0, fun _ => 0), fun r hr => by have hr : none = some r := hr; cases hr⟩
  obtain ⟨dd, hdd⟩ := Classical.axiomOfChoice hk
  obtain ⟨c0, ha0⟩ := k_arr (ty := .int) (hts _ (tb1 53 (by decide +kernel))) (fun C h => by cases h)
  obtain ⟨c1, ha1⟩ := k_arr (ty := .byte) (hts _ (tb1 787 (by decide +kernel))) (fun C h => by cases h)
  obtain ⟨c2, ha2⟩ := k_arr (ty := .boolean) (hts _ (tb1 1435 (by decide +kernel))) (fun C h => by cases h)
  obtain ⟨c3, ha3⟩ := k_arr (ty := .long) (hts _ (tb1 2030 (by decide +kernel))) (fun C h => by cases h)
  obtain ⟨c4, ha4⟩ := k_arq (C := "HalfOaths$Hills") (hts _ (tb1 217 (by decide +kernel)))
  obtain ⟨c5, ha5⟩ := k_arq (C := "HalfOaths$Sign") (hts _ (tb1 61 (by decide +kernel)))
  have hz : va_Zq "jdk/internal/util/Preconditions" "SIOOBE_FORMATTER" "Ljava/util/function/BiFunction;" (fun q : Nat => s.heap.size ≤ q) s s.heap := va_Zqof (hts _ (tb1 637 (by decide +kernel))) (hts _ (tb1 16 (by decide +kernel))) (hf _ (List.mem_of_getElem? (i := 64) (by decide +kernel))) hA
  obtain ⟨f0, hf0⟩ : ∃ f0 : Nat, va_Z "jdk/internal/util/Preconditions" "SIOOBE_FORMATTER" "Ljava/util/function/BiFunction;" .null (fun q : Nat => s.heap.size ≤ q) s s.heap ∨ va_Z "jdk/internal/util/Preconditions" "SIOOBE_FORMATTER" "Ljava/util/function/BiFunction;" (.ref f0) (fun q : Nat => s.heap.size ≤ q) s s.heap := by
    rcases hz with h | ⟨t, h⟩
    · exact ⟨0, Or.inl h⟩
    · exact ⟨t, Or.inr h⟩
  obtain ⟨adr, e4, e5, e3, e2, e40, e1⟩ := adr_ex b f0 aN adV adK adS
  refine ⟨(s.heap.size, adr, (fun k => (dd k).1, fun k => (dd k).2), (fun k => match k with | 0 => c0 | 1 => c1 | 2 => c2 | 3 => c3 | 4 => c4 | _ => c5), L, xs), rfl, e4, rfl, ?_⟩
  refine ⟨⟨fun k q hq => hdd k q hq, fun k q hq => ?_⟩, ⟨fun w hw => ?_, fun w hw => ?_⟩, ⟨fun i hi => ?_, fun i j hi hj h => ?_, ?_, ?_⟩, ⟨fun i hi => ?_, ?_, ?_, ⟨?_, ?_⟩, fun q hq => ?_⟩, ⟨?_, ?_⟩, ⟨?_, ?_, ?_⟩, Nat.le_refl _⟩
  · match k, hq with
    | 0, hq => have hq : some _ = some q := hq; cases hq; exact ha0
    | 1, hq => have hq : some _ = some q := hq; cases hq; exact ha1
    | 2, hq => have hq : some _ = some q := hq; cases hq; exact ha2
    | 3, hq => have hq : some _ = some q := hq; cases hq; exact ha3
    | 4, hq => have hq : some _ = some q := hq; cases hq; exact ha4
    | 5, hq => have hq : some _ = some q := hq; cases hq; exact ha5
    | k + 6, hq => have hq : none = some q := hq; cases hq
  · have h1 := List.mem_filter.mp hw
    have hb := hts w (List.mem_append_right _ h1.1)
    have h2 := h1.2
    cases w with
    | fieldLinkNest a i b n d h => exact va_Nw.of rfl hb
    | methodLinkNest a i x h => exact va_Nw.of rfl hb
    | _ => simp [isNest] at h2
  · have hb := hts w (of_decide_eq_true (List.all_eq_true.mp xw_tb w hw))
    have h2 := List.all_eq_true.mp xw_is w hw
    cases w with
    | declares x => exact va_Nw.of rfl hb
    | castable a b => exact va_Nw.of rfl hb
    | _ => simp [isXw] at h2
  · obtain ⟨q1, q2, q3, q4, q5, q6⟩ := hSg i hi
    have hs := of_decide_eq_true (List.all_eq_true.mp sg_str i (List.mem_range.mpr hi))
    show va_Z RX8 (sgName i) "LHalfOaths$Sign;" (.ref (adr (1000 + i))) _ s s.heap ∧ va_O RX8 (adr (1000 + i)) _ s s.heap ∧ va_OF RX8 "kind" "I" _ (adr (1000 + i)) _ s s.heap ∧ va_OF RX8 "fact" "I" _ (adr (1000 + i)) _ s s.heap ∧ va_OF RX8 "spelling" "Ljava/lang/String;" (.ref (adr (2000 + sgStr i))) (adr (1000 + i)) _ s s.heap
    rw [e1 i hi, e2 _ hs]
    exact ⟨q2, q3, q4, q5, q6⟩
  · have h : adr (1000 + i) = adr (1000 + j) := h
    rw [e1 i hi, e1 j hj] at h
    exact hinj i j hi hj h
  · show va_Z RX11 "SIGNS" "[LHalfOaths$Sign;" (.ref (adr 1040)) _ s s.heap
    rw [e40]
    exact hZN
  · show va_T (.object RX8) (adr 1040) 39 (fun j => .ref (adr (1000 + j))) _ s s.heap
    rw [e40]
    obtain ⟨cell, z1, z2, z3, z4, z5, z6, z7⟩ := hN2
    exact ⟨cell, z1, z2, z3, z4, z5, fun j hj => (z6 j hj).trans (by show some (Value.ref (adS j)) = some (Value.ref (adr (1000 + j))); rw [e1 j hj]), z7⟩
  · obtain ⟨q1, q2, q3, q4, q5⟩ := hSt i hi
    show vk_R (stOwn i) (stIdx i) (stTxt i) (adr (2000 + i)) s ∧ va_O "java/lang/String" (adr (2000 + i)) _ s s.heap ∧ va_OF "java/lang/String" "coder" "B" (.int 0) (adr (2000 + i)) _ s s.heap ∧ va_OF "java/lang/String" "value" "[B" (.ref (adr (3000 + i))) (adr (2000 + i)) _ s s.heap ∧ va_T .byte (adr (3000 + i)) _ _ _ s s.heap
    rw [e2 i hi, e3 i hi]
    exact ⟨vk_R.of (hts _ (tb1 _ (of_decide_eq_true (List.all_eq_true.mp tl_st i (List.mem_range.mpr hi))))) q1, q2, q3, q4, q5⟩
  · exact va_Zof (hts _ (tb1 621 (by decide +kernel))) (hts _ (tb1 14 (by decide +kernel))) (va_eqi (hf _ (List.mem_of_getElem? (i := 63) (by decide +kernel)))) hA
  · show va_Z _ _ _ .null _ s s.heap ∨ va_Z _ _ _ (.ref (adr 5001)) _ s s.heap
    rw [e5]
    exact hf0
  · exact va_AO.of (hts _ (tb1 217 (by decide +kernel)))
  · exact va_AO.of (hts _ (tb1 61 (by decide +kernel)))
  · exact va_Nc.of (hf _ (of_decide_eq_true (List.all_eq_true.mp fl_nc q hq)))
  · exact vx_Zqof (hts _ (tb1 745 (by decide +kernel))) (hts _ (tb1 20 (by decide +kernel))) (hf _ (List.mem_of_getElem? (i := 108) (by decide +kernel))) hA
  · exact vx_Zqof (hts _ (tb1 747 (by decide +kernel))) (hts _ (tb1 20 (by decide +kernel))) (hf _ (List.mem_of_getElem? (i := 109) (by decide +kernel))) hA
  · show va_X (adr 4000) L xs s s.heap
    rw [e4]
    exact hX
  · show adr 4000 < s.heap.size
    rw [e4]
    exact hbl
  · show adr 4000 < s.heap.size
    rw [e4]
    exact hbl
