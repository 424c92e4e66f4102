/-! THE LAW'S LOOP, its beginning, and the world in which it begins -/
set_option maxHeartbeats 1000000 in
theorem lc_all {Γ : Cfg} {l : Launch} {b : Nat} {i : Int} {g : GG} {K : Ou → HP → Prop} (hi : 0 ≤ i ∧ i + 6 ≤ (Γ.2.2.2.2.1 : Int)) (hN : Γ.2.2.2.2.1 ≤ 3072) (h : Rel9 g) (hb : 8 ≤ b) (next : ∀ (g' : GG) (b' : Nat), b - 4 ≤ b' → Rel9 g' → AW Γ l mL_law_ 60 b' 2539 [vR 4000, vR 1, vR 171, vR 190, vI i, vU, vU] [] (stt g') K) : AW Γ l mL_law_ 60 b 40 [vR 4000, vR 1, vR 171, vR 190, vI i, vU, vU] [vI (iAnd (SC Γ i) 63)] (stt g) K := by
  refine ax_tsw (dflt := 2499) (lo := 0) (hi := 43) (offs := #[192, 265, 290, 334, 378, 391, 459, 555, 635, 703, 759, 815, 871, 939, 995, 1051, 1119, 1175, 1243, 1311, 1379, 1447, 1522, 1535, 1548, 1592, 1636, 1680, 1743, 1799, 1855, 1911, 1967, 2023, 2079, 2092, 2176, 2260, 2344, 2412, 2437, 2450, 2461, 2474]) (len := 192) [232, 305, 330, 374, 418, 431, 499, 595, 675, 743, 799, 855, 911, 979, 1035, 1091, 1159, 1215, 1283, 1351, 1419, 1487, 1562, 1575, 1588, 1632, 1676, 1720, 1783, 1839, 1895, 1951, 2007, 2063, 2119, 2132, 2216, 2300, 2384, 2452, 2477, 2490, 2501, 2514] 2539 (by decide +kernel) (by decide) (by decide) (by decide) (by decide) (fun j hj hc => ?_) (fun hc => next g b (by omega) h)
  match j, hj, hc with
  | 0, _, _ => exact lc_0 hi hN h hb next
  | 1, _, _ => exact lc_1 hi hN h hb next
  | 2, _, _ => exact lc_2 hi hN h hb next
  | 3, _, _ => exact lc_3 hi hN h hb next
  | 4, _, _ => exact lc_4 hi hN h hb next
  | 5, _, _ => exact lc_5 hi hN h hb next
  | 6, _, _ => exact lc_6 hi hN h hb next
  | 7, _, _ => exact lc_7 hi hN h hb next
  | 8, _, _ => exact lc_8 hi hN h hb next
  | 9, _, _ => exact lc_9 hi hN h hb next
  | 10, _, _ => exact lc_10 hi hN h hb next
  | 11, _, _ => exact lc_11 hi hN h hb next
  | 12, _, _ => exact lc_12 hi hN h hb next
  | 13, _, _ => exact lc_13 hi hN h hb next
  | 14, _, _ => exact lc_14 hi hN h hb next
  | 15, _, _ => exact lc_15 hi hN h hb next
  | 16, _, _ => exact lc_16 hi hN h hb next
  | 17, _, _ => exact lc_17 hi hN h hb next
  | 18, _, _ => exact lc_18 hi hN h hb next
  | 19, _, _ => exact lc_19 hi hN h hb next
  | 20, _, _ => exact lc_20 hi hN h hb next
  | 21, _, _ => exact lc_21 hi hN h hb next
  | 22, _, _ => exact lc_22 hi hN h hb next
  | 23, _, _ => exact lc_23 hi hN h hb next
  | 24, _, _ => exact lc_24 hi hN h hb next
  | 25, _, _ => exact lc_25 hi hN h hb next
  | 26, _, _ => exact lc_26 hi hN h hb next
  | 27, _, _ => exact lc_27 hi hN h hb next
  | 28, _, _ => exact lc_28 hi hN h hb next
  | 29, _, _ => exact lc_29 hi hN h hb next
  | 30, _, _ => exact lc_30 hi hN h hb next
  | 31, _, _ => exact lc_31 hi hN h hb next
  | 32, _, _ => exact lc_32 hi hN h hb next
  | 33, _, _ => exact lc_33 hi hN h hb next
  | 34, _, _ => exact lc_34 hi hN h hb next
  | 35, _, _ => exact lc_35 hi hN h hb next
  | 36, _, _ => exact lc_36 hi hN h hb next
  | 37, _, _ => exact lc_37 hi hN h hb next
  | 38, _, _ => exact lc_38 hi hN h hb next
  | 39, _, _ => exact lc_39 hi hN h hb next
  | 40, _, _ => exact lc_40 hi hN h hb next
  | 41, _, _ => exact lc_41 hi hN h hb next
  | 42, _, _ => exact lc_42 hi hN h hb next
  | 43, _, _ => exact lc_43 hi hN h hb next
  | j + 44, hj, _ => exact absurd hj (by simp)
set_option maxHeartbeats 1000000 in
theorem lc_loop {Γ : Cfg} {l : Launch} {K : Ou → HP → Prop} (hN : Γ.2.2.2.2.1 ≤ 3072) (hK : ∀ g, K (.inl (vI 1)) (stt g)) : ∀ (n b : Nat) (i : Int) (g : GG), 0 ≤ i → (Γ.2.2.2.2.1 : Int) ≤ i + 6 * n + 5 → i ≤ 3100 → 8 * (n + 1) ≤ b → Rel9 g → AW Γ l mL_law_ 60 b 23 [vR 4000, vR 1, vR 171, vR 190, vI i, vU, vU] [] (stt g) K := by
  intro n
  induction n with
  | zero =>
    intro b i g i0 hn hi9 hb h
    refine aw_iload (i := 4) (by decide +kernel) rfl ?_
    refine aw_aload_n (k' := 0) (by decide +kernel) rfl ?_
    refine aw_slen9 (by decide +kernel) ?_
    refine aw_bipush (n := 6) (by decide +kernel) (by decide +kernel) ?_
    refine aw_isub (by decide +kernel) ?_
    refine ax_icmp_gt (off := 2515) (tgt := 2545) (x' := i) (y' := (Γ.2.2.2.2.1 : Int) - 6) (by decide +kernel) (by decide) (wr_id (by omega) (by omega)) (wr_id (by omega) (by omega)) (fun _ => ?_) (fun hc => absurd (show (Γ.2.2.2.2.1 : Int) - 6 < i by omega) hc)
    refine aw_iconst (n := 1) (by decide +kernel) ?_
    exact aw_zret (by decide +kernel) rfl rfl (hK g)
  | succ n ih =>
    intro b i g i0 hn hi9 hb h
    refine aw_iload (i := 4) (by decide +kernel) rfl ?_
    refine aw_aload_n (k' := 0) (by decide +kernel) rfl ?_
    refine aw_slen9 (by decide +kernel) ?_
    refine aw_bipush (n := 6) (by decide +kernel) (by decide +kernel) ?_
    refine aw_isub (by decide +kernel) ?_
    refine ax_icmp_gt (off := 2515) (tgt := 2545) (x' := i) (y' := (Γ.2.2.2.2.1 : Int) - 6) (by decide +kernel) (by decide) (wr_id (by omega) (by omega)) (wr_id (by omega) (by omega)) (fun _ => ?_) (fun hc => ?_)
    · refine aw_iconst (n := 1) (by decide +kernel) ?_
      exact aw_zret (by decide +kernel) rfl rfl (hK g)
    · refine aw_aload_n (k' := 0) (by decide +kernel) rfl ?_
      refine aw_iload (i := 4) (by decide +kernel) rfl ?_
      refine aw_sld (x' := i) (by decide +kernel) (wr_id (by omega) (by omega)) (by omega) ?_
      refine aw_bipush (n := 63) (by decide +kernel) (by decide +kernel) ?_
      refine aw_iand (by decide +kernel) ?_
      refine lc_all ⟨i0, by omega⟩ hN h (by omega) (fun g' b' hb' h' => ?_)
      refine aw_iinc (i := 4) (n := 6) (by decide +kernel) rfl (by decide) ?_
      refine aw_goto (off := -2519) (tgt := 23) (by decide +kernel) (by decide) ?_
      exact ih b' (i + 6) g' (by omega) (by omega) (by omega) (by omega) h'
/-- the world counts by what its cells hold -/
theorem AW.cells {Γ : Cfg} {l : Launch} {M : MT} {d b pc : Nat} {L S : List AV} {h h' : HP} {K : Ou → HP → Prop} (e2 : h'.2.2 = h.2.2) (e : ∀ t : Int, 1 ≤ t → t ≤ 190 → va_at Γ.2.2.1 vwCl (ad Γ t, ent Γ h t) = va_at Γ.2.2.1 vwCl (ad Γ t, ent Γ h' t)) (hn : h.2.2 ≤ 190) (k : AW Γ l M d b pc L S h' K) : AW Γ l M d b pc L S h K := by
  intro p e9 R s m args below meth c H locs cells slots mc ms ls C0 hls hx
  obtain ⟨hx0, hb, hml, hown, hts, hlk, hret, hst, hS, hv, hR, hrest⟩ := C0
  refine k p e9 R s m args below meth c H locs cells slots mc ms ls ⟨hx0, hb, hml, hown, hts, hlk, hret, hst, hS, hv, ⟨?_, ?_⟩, hrest⟩ hls hx
  · intro q z hz
    simp only [wl, va_pl, List.getElem?_map, Option.map_eq_some_iff] at hz
    obtain ⟨a, ha, rfl⟩ := hz
    have hal := List.mem_range'_1.mp (List.mem_of_getElem? ha)
    rw [e2] at ha hal
    have hz2 : (wl Γ h)[q]? = some (a, ent Γ h (idOf Γ a)) := by
      simp only [wl, va_pl, List.getElem?_map, ha, Option.map_some]
    have h1 := hR.1 q _ hz2
    have ea : ad Γ (idOf Γ a) = a := by
      unfold idOf
      rw [ad_lo Γ (by omega)]
      omega
    have h2 := e (idOf Γ a) (by unfold idOf; omega) (by unfold idOf; omega)
    rw [ea] at h2
    show va_at Γ.2.2.1 vwCl (a, ent Γ h' (idOf Γ a)) H
    rw [← h2]
    exact h1
  · unfold szOK
    rw [e2]
    exact hR.2
