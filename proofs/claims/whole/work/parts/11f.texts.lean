/-! THE TEXTS' OWN METHODS: length and charAt -/
section AMS
variable {Γ : Cfg} {l : Launch} {M : MT} {d b pc : Nat} {L S : List AV} {h : HP} {K : Ou → HP → Prop} {g : GG}
def iC (x : Int) : Int := ((Int32.ofInt x).toUInt32 % 65536).toInt32.toInt
theorem aw_i2c {x : Int} (dg : decode M.2.1 pc = .ok (.i2c, 1)) (k : AW Γ l M d b (pc + 1) L (vI (iC x) :: S) h K) : AW Γ l M d b pc L (vI x :: S) h K :=
  AW.step k fun hx hb _ _ hl kk => lv_i2c hx hb dg rfl (by have := kk _ hl; simpa only [List.map_cons, conc, iC, Int32.ofInt_toInt] using this)
theorem aw_compact {idx : Nat} (dg : decode M.2.1 pc = .ok (.getstatic idx, 3)) (hl : Cond.fieldLink M.1 idx "java/lang/String" "COMPACT_STRINGS" "Z" ∈ gw) (k : AW Γ l M d b (pc + 3) L (vI 1 :: S) h K) : AW Γ l M d b pc L S h K := by
  intro p e R s m args below meth c H locs cells slots mc ms ls C0 hls hx
  have k1 := k p e R s m args below meth c H locs cells slots mc ms ls C0 hls hx
  obtain ⟨hx0, hb, hml, hown, hts, hlk, hret, hst, hS, hv, hrest⟩ := C0
  exact va_gets hx0 hb hS.2.2.2.1.2.1 hv hown (hts _ hl) (fun _ h => h) dg k1
theorem aw_sioobe {idx : Nat} (dg : decode M.2.1 pc = .ok (.getstatic idx, 3)) (hl : Cond.fieldLink M.1 idx "jdk/internal/util/Preconditions" "SIOOBE_FORMATTER" "Ljava/util/function/BiFunction;" ∈ gw) (k : ∀ r : Int, AW Γ l M d b (pc + 3) L (vR r :: S) h K) : AW Γ l M d b pc L S h K := by
  intro p e R s m args below meth c H locs cells slots mc ms ls C0 hls hx
  have k0 := k 0 p e R s m args below meth c H locs cells slots mc ms ls C0 hls hx
  have k1 := k 5001 p e R s m args below meth c H locs cells slots mc ms ls C0 hls hx
  obtain ⟨hx0, hb, hml, hown, hts, hlk, hret, hst, hS, hv, hrest⟩ := C0
  have e : conc Γ (vR 5001) = .ref (Γ.2.1 5001) := by
    show va_rf (rf Γ 5001) = _
    rw [rf_st (by omega)]
    rfl
  rw [List.map_cons, e] at k1
  rcases hS.2.2.2.1.2.2.1 with hz | hz
  · exact va_gets hx0 hb hz hv hown (hts _ hl) (fun _ h => h) dg k0
  · exact va_gets hx0 hb hz hv hown (hts _ hl) (fun _ h => h) dg k1
theorem ofSSc {r : Int} (hr : SS r) {s : State} (hS : StS Γ s s.heap) : va_OF "java/lang/String" "coder" "B" (conc Γ (vI 0)) (Γ.2.1 r) (own0 Γ) s s.heap := by
  obtain ⟨i, hi, rfl⟩ := hr.eq
  exact (hS.2.2.2.1.1 i hi).2.2.1
theorem ofSSv {r : Int} (hr : SS r) {s : State} (hS : StS Γ s s.heap) : va_OF "java/lang/String" "value" "[B" (conc Γ (vR (r + 1000))) (Γ.2.1 r) (own0 Γ) s s.heap := by
  obtain ⟨i, hi, rfl⟩ := hr.eq
  have e : conc Γ (vR (2000 + i + 1000)) = .ref (Γ.2.1 (3000 + i)) := by
    show va_rf (rf Γ (2000 + (i : Int) + 1000)) = _
    rw [rf_st (by omega), show (2000 + (i : Int) + 1000) = 3000 + i by omega]
    rfl
  rw [e]
  exact (hS.2.2.2.1.1 i hi).2.2.2.1
theorem taSS {r : Int} (hr : SS r) {s : State} (hS : StS Γ s s.heap) : va_T .byte (Γ.2.1 (r + 1000)) (ssB r).length (fun j => .int (Int32.ofInt ((ssB r).getD j 0))) (own0 Γ) s s.heap := by
  obtain ⟨i, hi, rfl⟩ := hr.eq
  have e : (2000 + (i : Int) - 2000).toNat = i := by omega
  have := (hS.2.2.2.1.1 i hi).2.2.2.2
  unfold ssB
  rw [e, show (2000 + (i : Int) + 1000) = 3000 + i by omega]
  exact this
theorem aw_slen {r : Int} (hr : SS r) (dg : decode M.2.1 pc = .ok (.arraylength, 1)) (k : AW Γ l M d b (pc + 1) L (vI (ssL r) :: S) h K) : AW Γ l M d b pc L (vR (r + 1000) :: S) h K := by
  intro p e R s m args below meth c H locs cells slots mc ms ls C0 hls hx
  have k1 := k p e R s m args below meth c H locs cells slots mc ms ls C0 hls hx
  obtain ⟨hx0, hb, hml, hown, hts, hlk, hret, hst, hS, hv, hrest⟩ := C0
  show W p l e R s m args below meth c H locs cells slots _ (F0 m pc ls (va_rf (rf Γ (r + 1000)) :: S.map (conc Γ)))
  rw [rf_st (by have := hr.1; omega)]
  exact va_tlen hx0 hb (taSS hr hS) hv (v := Int32.ofInt (ssL r)) Int32.ofInt_eq_ofNat.symm dg k1
theorem aw_sat {r j : Int} (hr : SS r) (h0 : 0 ≤ wr j) (h1 : wr j < ssL r) (dg : decode M.2.1 pc = .ok (.baload, 1)) (k : AW Γ l M d b (pc + 1) L (vI ((ssB r).getD (wr j).toNat 0) :: S) h K) : AW Γ l M d b pc L (vI j :: vR (r + 1000) :: S) h K := by
  intro p e R s m args below meth c H locs cells slots mc ms ls C0 hls hx
  have k1 := k p e R s m args below meth c H locs cells slots mc ms ls C0 hls hx
  obtain ⟨hx0, hb, hml, hown, hts, hlk, hret, hst, hS, hv, hrest⟩ := C0
  show W p l e R s m args below meth c H locs cells slots _ (F0 m pc ls (.int (Int32.ofInt j) :: va_rf (rf Γ (r + 1000)) :: S.map (conc Γ)))
  rw [rf_st (by have := hr.1; omega)]
  refine va_tb hx0 hb (taSS hr hS) hv (vp_in_wr h0 h1) (v := .int (Int32.ofInt ((ssB r).getD (wr j).toNat 0))) ?_ dg k1
  have := clamp_wr h0
  show Value.int (Int32.ofInt ((ssB r).getD (Int32.ofInt j).toNatClampNeg 0)) = _
  rw [show (Int32.ofInt j).toNatClampNeg = (wr j).toNat by omega]
/-- a byte as the text's own rows give it back -/
theorem sc_ok : stT.all (fun q => decide (q.2.2.2.length < 100) && q.2.2.2.all (fun x => decide (iC (iAnd x 255) = x) && decide (narrow .char (.int (Int32.ofInt x)) = .int (Int32.ofInt x)) && decide (0 ≤ x) && decide (x < 128))) = true := by decide +kernel
theorem ss_mem {r : Int} (hr : SS r) : ∃ q ∈ stT, ssB r = q.2.2.2 := by
  obtain ⟨i, hi, rfl⟩ := hr.eq
  have e : (2000 + (i : Int) - 2000).toNat = i := by omega
  have hl : stT.length = nST := by decide +kernel
  refine ⟨stT[i]'(by omega), List.getElem_mem _, ?_⟩
  unfold ssB stByt
  rw [e, List.getD_eq_getElem?_getD, List.getElem?_eq_getElem (by omega)]
  rfl
theorem ssL_lt {r : Int} (hr : SS r) : ssL r < 100 := by
  obtain ⟨q, hq, e⟩ := ss_mem hr
  have := List.all_eq_true.mp sc_ok q hq
  simp only [Bool.and_eq_true, decide_eq_true_eq] at this
  unfold ssL
  rw [e]
  omega
theorem ss_ch {r : Int} (hr : SS r) {k : Nat} (hk : k < (ssB r).length) : iC (iAnd ((ssB r).getD k 0) 255) = (ssB r).getD k 0 ∧ narrow .char (.int (Int32.ofInt ((ssB r).getD k 0))) = .int (Int32.ofInt ((ssB r).getD k 0)) := by
  obtain ⟨q, hq, e⟩ := ss_mem hr
  have := List.all_eq_true.mp sc_ok q hq
  simp only [Bool.and_eq_true] at this
  have h2 := List.all_eq_true.mp this.2 ((ssB r).getD k 0) (by
    rw [e] at hk ⊢
    rw [List.getD_eq_getElem?_getD, List.getElem?_eq_getElem hk]
    exact List.getElem_mem _)
  simp only [Bool.and_eq_true, decide_eq_true_eq] at h2
  exact ⟨h2.1.1.1, h2.1.1.2⟩
theorem sh_0 {x : Int} (h0 : 0 ≤ x) (h1 : x < 100) : iShr x 0 = x := by
  have h : (List.range 100).all (fun n => decide (iShr (n : Int) 0 = n)) = true := by decide +kernel
  have := List.all_eq_true.mp h x.toNat (List.mem_range.mpr (by omega))
  simp only [decide_eq_true_eq] at this
  rw [show ((x.toNat : Nat) : Int) = x by omega] at this
  exact this
theorem c_coder {r : Int} (hr : SS r) (k : K (.inl (vI 0)) (stt g)) : Ct Γ l d b yJ0_coder_7d493 mJ0_coder_7d493 [vR r] (stt g) K := by
  refine Ct.enter (L := [vR r]) rfl rfl rfl (by decide +kernel) (by simp [oneSlot]) (Nat.le_of_ble_eq_true rfl) rfl ?_
  refine aw_compact (idx := 38) (by decide +kernel) (tm3 140 (by decide +kernel) (by decide +kernel)) ?_
  refine ax_if_eq (off := 10) (tgt := 13) (x' := 1) (by decide +kernel) (by decide) (by decide +kernel) (fun hc => absurd hc (by decide)) (fun hc => ?_)
  refine aw_aload_n (k' := 0) (by decide +kernel) rfl ?_
  refine aw_stf (idx := 15) (v := vI 0) (by have := hr.1; omega) (fun hS => ofSSc hr hS) (fun hown hts hnw => Or.inl (hts _ (tm9 133 (by decide +kernel) (by decide +kernel)))) (by decide +kernel) ?_
  refine aw_goto (off := 4) (tgt := 14) (by decide +kernel) (by decide) ?_
  exact aw_zret (by decide +kernel) rfl (by decide +kernel) k
theorem c_latin {r : Int} (hr : SS r) (k : K (.inl (vI 1)) (stt g)) : Ct Γ l d b yJ0_isLatin1_aae02 mJ0_isLatin1_aae02 [vR r] (stt g) K := by
  refine Ct.enter (L := [vR r]) rfl rfl rfl (by decide +kernel) (by simp [oneSlot]) (Nat.le_of_ble_eq_true rfl) rfl ?_
  refine aw_compact (idx := 38) (by decide +kernel) (tm3 140 (by decide +kernel) (by decide +kernel)) ?_
  refine ax_if_eq (off := 14) (tgt := 17) (x' := 1) (by decide +kernel) (by decide) (by decide +kernel) (fun hc => absurd hc (by decide)) (fun hc => ?_)
  refine aw_aload_n (k' := 0) (by decide +kernel) rfl ?_
  refine aw_stf (idx := 15) (v := vI 0) (by have := hr.1; omega) (fun hS => ofSSc hr hS) (fun hown hts hnw => Or.inl (hts _ (tm9 133 (by decide +kernel) (by decide +kernel)))) (by decide +kernel) ?_
  refine ax_if_ne (off := 7) (tgt := 17) (x' := 0) (by decide +kernel) (by decide) (by decide +kernel) (fun hc => absurd rfl hc) (fun hc => ?_)
  refine aw_iconst (n := 1) (by decide +kernel) ?_
  refine aw_goto (off := 4) (tgt := 18) (by decide +kernel) (by decide) ?_
  exact aw_zret (by decide +kernel) rfl (by decide +kernel) k
theorem c_len {r : Int} (hr : SS r) (k : K (.inl (vI (ssL r))) (stt g)) : Ct Γ l (d + 1) b yJ0_length_8abf5 mJ0_length_8abf5 [vR r] (stt g) K := by
  refine Ct.enter (L := [vR r]) rfl rfl rfl (by decide +kernel) (by simp [oneSlot]) (Nat.le_of_ble_eq_true rfl) rfl ?_
  refine aw_aload_n (k' := 0) (by decide +kernel) rfl ?_
  refine aw_stf (idx := 9) (v := vR (r + 1000)) (by have := hr.1; omega) (fun hS => ofSSv hr hS) (fun hown hts hnw => Or.inl (hts _ (tm9 132 (by decide +kernel) (by decide +kernel)))) (by decide +kernel) ?_
  refine aw_slen hr (by decide +kernel) ?_
  refine aw_aload_n (k' := 0) (by decide +kernel) rfl ?_
  refine aw_callO (y := yJ0_coder_7d493) (M2 := mJ0_coder_7d493) (as := []) (S := [vI (ssL r)]) (r := r) (d2 := d) (b2 := 0) (b3 := b) cwJ0_coder_7d493 mlJ0_335 imJ0_coder_7d493 seJ0_coder_7d493 (by decide +kernel) rfl (by have := hr.1; omega) (fun hS => recSS hr hS) (Nat.le_refl _) (Nat.le_of_eq (Nat.zero_add _)) rfl rfl (by simp [oneSlot]) (Nat.le_of_ble_eq_true rfl) (c_coder hr ?_)
  show AW Γ l mJ0_length_8abf5 (d + 1) b 9 [vR r] [vI 0, vI (ssL r)] (stt g) K
  refine aw_ishr (by decide +kernel) ?_
  rw [sh_0 (by show (0 : Int) ≤ ((ssB r).length : Nat); omega) (ssL_lt hr)]
  exact aw_iret (by decide +kernel) rfl k
theorem c_pre {x y r : Int} (h0 : 0 ≤ wr x) (h1 : wr x < wr y) (k : K (.inl (vI x)) (stt g)) : Ct Γ l d b yJ3_checkIndex_8e157 mJ3_checkIndex_8e157 [vI x, vI y, vR r] (stt g) K := by
  refine Ct.enter (L := [vI x, vI y, vR r]) rfl rfl rfl (by decide +kernel) (by simp [oneSlot]) (Nat.le_of_ble_eq_true rfl) rfl ?_
  refine aw_iload_n (k' := 0) (by decide +kernel) rfl ?_
  refine ax_if_lt (off := 8) (tgt := 9) (by decide +kernel) (by decide) rfl (fun hc => absurd hc (by omega)) (fun hc => ?_)
  refine aw_iload_n (k' := 0) (by decide +kernel) rfl ?_
  refine aw_iload_n (k' := 1) (by decide +kernel) rfl ?_
  refine ax_icmp_lt (off := 10) (tgt := 16) (by decide +kernel) (by decide) rfl rfl (fun hc => ?_) (fun hc => absurd h1 hc)
  refine aw_iload_n (k' := 0) (by decide +kernel) rfl ?_
  exact aw_iret (by decide +kernel) rfl k
theorem c_check {x y : Int} (h0 : 0 ≤ wr x) (h1 : wr x < wr y) (k : K (.inl vU) (stt g)) : Ct Γ l (d + 1) b yJ0_checkIndex_df160 mJ0_checkIndex_df160 [vI x, vI y] (stt g) K := by
  refine Ct.enter (L := [vI x, vI y]) rfl rfl rfl (by decide +kernel) (by simp [oneSlot]) (Nat.le_of_ble_eq_true rfl) rfl ?_
  refine aw_iload_n (k' := 0) (by decide +kernel) rfl ?_
  refine aw_iload_n (k' := 1) (by decide +kernel) rfl ?_
  refine aw_sioobe (idx := 1053) (by decide +kernel) (tm3 156 (by decide +kernel) (by decide +kernel)) (fun r => ?_)
  refine aw_callS (y := yJ3_checkIndex_8e157) (M2 := mJ3_checkIndex_8e157) (as := [vI x, vI y, vR r]) (S := []) (d2 := d) (b2 := 0) (b3 := b) cwJ3_checkIndex_8e157 mlJ0_1059 stJ3_checkIndex_8e157 (by decide +kernel) rfl (Nat.le_refl _) (Nat.le_of_eq (Nat.zero_add _)) rfl rfl (by simp [oneSlot]) (Nat.le_of_ble_eq_true rfl) (c_pre h0 h1 ?_)
  show AW Γ l mJ0_checkIndex_df160 (d + 1) b 8 [vI x, vI y] [vI x] (stt g) K
  refine aw_pop (by decide +kernel) trivial ?_
  exact aw_vret (by decide +kernel) rfl k
theorem c_latCh {r j : Int} (hr : SS r) (h0 : 0 ≤ wr j) (h1 : wr j < ssL r) (k : K (.inl (vI ((ssB r).getD (wr j).toNat 0))) (stt g)) : Ct Γ l (d + 2) b yJ1_charAt_3b067 mJ1_charAt_3b067 [vR (r + 1000), vI j] (stt g) K := by
  refine Ct.enter (L := [vR (r + 1000), vI j]) rfl rfl rfl (by decide +kernel) (by simp [oneSlot]) (Nat.le_of_ble_eq_true rfl) rfl ?_
  refine aw_iload_n (k' := 1) (by decide +kernel) rfl ?_
  refine aw_aload_n (k' := 0) (by decide +kernel) rfl ?_
  refine aw_slen hr (by decide +kernel) ?_
  have hL := ssL_lt hr
  have hL0 : 0 ≤ ssL r := by show (0 : Int) ≤ ((ssB r).length : Nat); omega
  refine aw_callS (y := yJ0_checkIndex_df160) (M2 := mJ0_checkIndex_df160) (as := [vI j, vI (ssL r)]) (S := []) (d2 := d + 1) (b2 := 0) (b3 := b) cwJ0_checkIndex_df160 mlJ1_9 stJ0_checkIndex_df160 (by decide +kernel) rfl (Nat.le_refl _) (Nat.le_of_eq (Nat.zero_add _)) rfl rfl (by simp [oneSlot]) (Nat.le_of_ble_eq_true rfl) (c_check h0 (by rw [wr_id (x := ssL r) (by omega) (by omega)]; exact h1) ?_)
  show AW Γ l mJ1_charAt_3b067 (d + 2) b 6 [vR (r + 1000), vI j] [] (stt g) K
  refine aw_aload_n (k' := 0) (by decide +kernel) rfl ?_
  refine aw_iload_n (k' := 1) (by decide +kernel) rfl ?_
  refine aw_sat hr h0 h1 (by decide +kernel) ?_
  refine aw_sipush (n := 255) (by decide +kernel) (by decide +kernel) ?_
  refine aw_iand (by decide +kernel) ?_
  refine aw_i2c (by decide +kernel) ?_
  have hk : (wr j).toNat < (ssB r).length := by
    have : ssL r = ((ssB r).length : Nat) := rfl
    omega
  rw [(ss_ch hr hk).1]
  exact aw_zret (by decide +kernel) rfl (ss_ch hr hk).2 k
theorem c_charAt {r j : Int} (hr : SS r) (h0 : 0 ≤ wr j) (h1 : wr j < ssL r) (k : K (.inl (vI ((ssB r).getD (wr j).toNat 0))) (stt g)) : Ct Γ l (d + 3) b yJ0_charAt_5068e mJ0_charAt_5068e [vR r, vI j] (stt g) K := by
  refine Ct.enter (L := [vR r, vI j]) rfl rfl rfl (by decide +kernel) (by simp [oneSlot]) (Nat.le_of_ble_eq_true rfl) rfl ?_
  refine aw_aload_n (k' := 0) (by decide +kernel) rfl ?_
  refine aw_callO (y := yJ0_isLatin1_aae02) (M2 := mJ0_isLatin1_aae02) (as := []) (S := []) (r := r) (d2 := d + 2) (b2 := 0) (b3 := b) cwJ0_isLatin1_aae02 mlJ0_492 imJ0_isLatin1_aae02 seJ0_isLatin1_aae02 (by decide +kernel) rfl (by have := hr.1; omega) (fun hS => recSS hr hS) (Nat.le_refl _) (Nat.le_of_eq (Nat.zero_add _)) rfl rfl (by simp [oneSlot]) (Nat.le_of_ble_eq_true rfl) (c_latin hr ?_)
  show AW Γ l mJ0_charAt_5068e (d + 3) b 4 [vR r, vI j] [vI 1] (stt g) K
  refine ax_if_eq (off := 12) (tgt := 16) (x' := 1) (by decide +kernel) (by decide) (by decide +kernel) (fun hc => absurd hc (by decide)) (fun hc => ?_)
  refine aw_aload_n (k' := 0) (by decide +kernel) rfl ?_
  refine aw_stf (idx := 9) (v := vR (r + 1000)) (by have := hr.1; omega) (fun hS => ofSSv hr hS) (fun hown hts hnw => Or.inl (hts _ (tm9 132 (by decide +kernel) (by decide +kernel)))) (by decide +kernel) ?_
  refine aw_iload_n (k' := 1) (by decide +kernel) rfl ?_
  refine aw_callS (y := yJ1_charAt_3b067) (M2 := mJ1_charAt_3b067) (as := [vR (r + 1000), vI j]) (S := []) (d2 := d + 2) (b2 := 0) (b3 := b) cwJ1_charAt_3b067 mlJ0_495 stJ1_charAt_3b067 (by decide +kernel) rfl (Nat.le_refl _) (Nat.le_of_eq (Nat.zero_add _)) rfl rfl (by simp [oneSlot]) (Nat.le_of_ble_eq_true rfl) (c_latCh hr h0 h1 ?_)
  show AW Γ l mJ0_charAt_5068e (d + 3) b 15 [vR r, vI j] [vI ((ssB r).getD (wr j).toNat 0)] (stt g) K
  have hk : (wr j).toNat < (ssB r).length := by
    have : ssL r = ((ssB r).length : Nat) := rfl
    omega
  exact aw_zret (by decide +kernel) rfl (ss_ch hr hk).2 k
end AMS
