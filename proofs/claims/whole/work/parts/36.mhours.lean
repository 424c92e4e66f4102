/-! HOURS: the reference's side -/
theorem dr_bv (z : BitVec 32) : z.sshiftRight 16 &&& 32767#32 = (z >>> 16) &&& 32767#32 := by
  have h : (List.range 32).all (fun i => decide (i < 15) || !((32767#32).getLsbD i)) = true := by decide +kernel
  apply BitVec.eq_of_getLsbD_eq
  intro i hi
  have h1 := List.all_eq_true.mp h i (List.mem_range.mpr hi)
  rw [BitVec.getLsbD_and, BitVec.getLsbD_and]
  by_cases q : i < 15
  · rw [BitVec.getLsbD_sshiftRight, BitVec.getLsbD_ushiftRight]
    simp [show ¬ 32 ≤ i by omega, show 16 + i < 32 by omega]
  · have h2 : (32767#32).getLsbD i = false := by
      simpa [q] using h1
    rw [h2, Bool.and_false, Bool.and_false]
theorem dr_eq (x : Int) : iAnd (iShr x 16) 32767 = iAnd (iUsh x 16) 32767 := by
  unfold iAnd iShr iUsh
  rw [Int32.ofInt_toInt, Int32.ofInt_toInt]
  congr 1
  apply Int32.toBitVec_inj.mp
  rw [Int32.toBitVec_and, Int32.toBitVec_and]
  have e1 : (Int32.ofInt x >>> (Int32.ofInt 16 &&& 31)).toBitVec = (Int32.ofInt x).toBitVec.sshiftRight 16 := by
    rw [Int32.toBitVec_shiftRight]
    rfl
  have e2 : (((Int32.ofInt x).toUInt32 >>> ((Int32.ofInt 16).toUInt32 &&& Int32.toUInt32 31)).toInt32).toBitVec = (Int32.ofInt x).toBitVec >>> 16 := rfl
  rw [e1, e2]
  exact dr_bv _
section MH
variable {Γ : Cfg} {l : Launch} {d b : Nat} {g : GG} {K : Ou → HP → Prop} {V : VV} {p : Int}
theorem m_drawn {n : Int} (hv : g 172 = V) (n0 : 1 ≤ n) (n1 : n ≤ 100) (kk : ∀ g', g' 172 = upV V 7 (sdS V) → onlyM g g' → K (.inl (vI (iRem (drS V) n))) (stt g')) : Ct Γ l d b yX12_drawn mX12_drawn [vR 171, vI n] (stt g) K := by
  apply wpX12_drawn
  intro g1 e1
  rw [hv] at e1
  have v1 : g1 172 = upV V 7 (sdS V) := by rw [e1, upd_v, hv]; rfl
  have e2 : g1 172 7 = sdS V := by rw [v1, upV_eq]
  rw [e2, dr_eq]
  exact ⟨by rw [wr_id (x := n) (by omega) (by omega)]; omega, kk g1 v1 (by rw [e1]; exact upd_m _ _ _)⟩
theorem spk3_c (V : VV) (p : Int) (p0 : 0 ≤ p) : zS (spk3 V p) p = zS V p := by
  unfold spk3
  by_cases q : zS V p = 2
  · rw [if_pos q]; exact upV_ne (by omega)
  · rw [if_neg q]
/-- behind the draw: one that speaks says its words -/
theorem m_sp35 (hv : g 172 = V) (hV : WF V) (hW : okLaw V) (ho : inO g) (p0 : 0 ≤ p) (p1 : p < 6) (ht : zS V p = 2 → g 171 24 = heardS V p)
    (kk : ∀ g', g' 172 = spk2 V p → WF (spk2 V p) → okLaw (spk2 V p) → (zS (spk2 V p) p = 2 → g' 171 24 = heardS (spk2 V p) p) → onlyM g g' → K (.inl (vI (if zS (spk2 V p) p = 2 then 1 else 0))) (stt g')) : AW Γ l mX12_speaksOn (d + 10) b 35 [vR 171, vI p, vU] [] (stt g) K := by
  have hp := hV.pn p0 p1
  have at9 : ∀ {g' : GG} {U : VV}, g' 172 = U → (ofP g' p 0 = zL U p ∧ okP p 0) ∧ (ofP g' p 1 = zB U p ∧ okP p 1) ∧ (ofP g' p 3 = zS U p ∧ okP p 3) ∧ (ofP g' p 4 = zC U p ∧ okP p 4) := fun hu => ⟨ofP_at hu (by omega) (by omega), ofP_at hu (by omega) (by omega), ofP_at hu (by omega) (by omega), ofP_at hu (by omega) (by omega)⟩
  obtain ⟨a0, a1, a3, a4⟩ := at9 hv
  apply wpX12_speaksOn_35
  rw [a0.1, a1.1, a3.1, a4.1, wr_id (x := zS V p) (by omega) (by omega), wr_id (x := 12 + 29 * p + 4) (by omega) (by omega), iMin_id (x := zL V p) (by omega) (by omega) (by omega) (by omega)]
  refine ⟨a3.2, fun q => ⟨a3.2, ?_⟩, fun q => ⟨a0.2, a4.2, a1.2, by omega, fun g1 e1 => ⟨a0.2, ?_⟩⟩⟩
  · have e : spk2 V p = V := by unfold spk2; rw [if_neg q]
    rw [e] at kk
    have k2 := kk g hv hV hW ht onlyM.rf
    refine ⟨fun z => ?_, fun z => ?_⟩
    · rw [if_neg z] at k2; exact k2
    · rw [if_pos (by omega)] at k2; exact k2
  · have q1 : zS V p = 1 := by omega
    have v1 : ∀ c, c = (if zC V p + zB V p < zL V p then zC V p + zB V p else zL V p) → g1 172 = upV V (12 + 29 * p + 4) c := fun c hc => by rw [e1, upd_v, hv, hc]
    have o1 : onlyM g g1 := by rw [e1]; exact upd_m _ _ _
    by_cases q2 : zC V p + zB V p < zL V p
    · rw [if_pos q2]
      have v2 := v1 _ (by rw [if_pos q2])
      have zl : zL (upV V (12 + 29 * p + 4) (zC V p + zB V p)) p = zL V p := upV_ne (by omega)
      have zs : zS (upV V (12 + 29 * p + 4) (zC V p + zB V p)) p = zS V p := upV_ne (by omega)
      obtain ⟨b0, b1, b3, b4⟩ := at9 v2
      have e : spk2 V p = upV V (12 + 29 * p + 4) (zC V p + zB V p) := by unfold spk2; rw [if_pos q1, if_pos q2]
      rw [e] at kk
      have w2 : WF (upV V (12 + 29 * p + 4) (zC V p + zB V p)) := by
        rw [cnt_set]
        exact hV.set p0 p1 (by omega) (by omega) (by omega) (by omega)
      have k2 := kk g1 v2 w2 (hW.cg (upV_ne (by omega)) fun j hj => upV_ne (by omega)) (fun z => by omega) o1
      rw [if_neg (by omega)] at k2
      rw [b0.1, b3.1, zl, zs, wr_id (x := zC V p + zB V p) (by omega) (by omega), wr_id (x := zL V p) (by omega) (by omega), wr_id (x := zS V p) (by omega) (by omega)]
      exact ⟨fun _ => ⟨b3.2, fun _ => k2, fun z => absurd (by omega) z⟩, fun z => absurd (by omega) z⟩
    · rw [if_neg q2]
      have v2 := v1 _ (by rw [if_neg q2])
      have zl : zL (upV V (12 + 29 * p + 4) (zL V p)) p = zL V p := upV_ne (by omega)
      obtain ⟨b0, b1, b3, b4⟩ := at9 v2
      have w2 : WF (upV V (12 + 29 * p + 4) (zL V p)) := by
        rw [cnt_set]
        exact hV.set p0 p1 (by omega) (by omega) hp.1.1 (Int.le_refl _)
      have W2 : okLaw (upV V (12 + 29 * p + 4) (zL V p)) := hW.cg (upV_ne (by omega)) fun j hj => upV_ne (by omega)
      have es : setS (upV V (12 + 29 * p + 4) (zL V p)) p 2 (zL V p) = setS V p 2 (zL V p) := by
        unfold setS
        funext j
        by_cases z4 : j = 12 + 29 * p + 4
        · rw [z4, upV_eq, upV_eq]
        · rw [upV_ne z4, upV_ne z4]
          by_cases z3 : j = 12 + 29 * p + 3
          · rw [z3, upV_eq, upV_eq]
          · rw [upV_ne z3, upV_ne z3, upV_ne z4]
      have eh : heldT (upV V (12 + 29 * p + 4) (zL V p)) p (zL V p) 5 = heldT V p (zL V p) 5 := by
        unfold heldT
        rw [es]
      have e : spk2 V p = heldT V p (zL V p) 5 := by unfold spk2; rw [if_pos q1, if_neg q2]
      rw [e] at kk
      rw [b0.1, zl]
      refine ⟨fun z => absurd rfl z, fun _ => m_isHeld v2 w2 W2 (ho.m o1) p0 p1 hp.1.1 (by rw [zl]; exact Int.le_refl _) fun g2 h2 t2 _ o2 => bV_in ?_⟩
      rw [eh] at h2 t2
      obtain ⟨f0, f1, f3, f4⟩ := at9 h2
      have zs := (heldT_s (V := V) (many := zL V p) (how := 5) p0 p1).1
      have k2 := kk g2 h2 (hV.hld p0 p1 hp.1.1 (Int.le_refl _)) (hW.cg (heldT_ne (by omega) (by omega) (by decide) (by decide)) fun j hj => heldT_ne (by omega) (by omega) (by omega) (by omega)) (fun _ => t2) (o1.tr o2)
      rw [if_pos zs] at k2
      rw [f3.1, zs]
      exact ⟨f3.2, fun z => absurd (show wr 2 = 2 by decide +kernel) z, fun _ => k2⟩
theorem brk_wf (hV : WF V) (p0 : 0 ≤ p) (p1 : p < 6) (kind : Int) : WF (brkV V p kind) := by
  have hm := manyS_rng hV p0 p1 kind
  unfold brkV
  by_cases q : kind = 1
  · rw [if_pos q]; exact hV.nte _ _ _ _
  · rw [if_neg q]; exact hV.hld p0 p1 hm.1 hm.2
theorem m_speaksOn (hv : g 172 = V) (hV : WF V) (hW : okLaw V) (ho : inO g) (p0 : 0 ≤ p) (p1 : p < 6) (hs : zS V p = 1)
    (kk : ∀ g', g' 172 = spk2 (spk1 V p) p → WF (spk2 (spk1 V p) p) → okLaw (spk2 (spk1 V p) p) → (zS (spk2 (spk1 V p) p) p = 2 → g' 171 24 = heardS (spk2 (spk1 V p) p) p) → onlyM g g' → K (.inl (vI (if zS (spk2 (spk1 V p) p) p = 2 then 1 else 0))) (stt g')) : Ct Γ l (d + 10) b yX12_speaksOn mX12_speaksOn [vR 171, vI p] (stt g) K := by
  have hp := hV.pn p0 p1
  have h3 := hV.1
  have hd1 := iAnd_mask (iUsh (sdS V) 16)
  have hd2 := iAnd_mask (iUsh (sdS (upV V 7 (sdS V))) 16)
  have e1 : iRem (drS V) 100 = drS V % 100 := iRem_nn hd1.1 (show drS V < _ by unfold drS; omega) (by decide) (by decide)
  have e2 : iRem (drS (upV V 7 (sdS V))) 5 = drS (upV V 7 (sdS V)) % 5 := iRem_nn hd2.1 (show drS (upV V 7 (sdS V)) < _ by unfold drS; omega) (by decide) (by decide)
  apply wpX12_speaksOn
  refine m_drawn hv (by decide) (by decide) fun g1 v1 o1 => bI_in ?_
  have w1 := hV.see (sdS V)
  have W1 : okLaw (upV V 7 (sdS V)) := hW.cg (upV_ne (by decide)) fun j hj => upV_ne (by omega)
  have ez : zG (upV V 7 (sdS V)) p = zG V p := upV_ne (by omega)
  have es : zS (upV V 7 (sdS V)) p = zS V p := upV_ne (by omega)
  have eg : ofP g1 p 2 = zG (upV V 7 (sdS V)) p ∧ okP p 2 := ofP_at v1 (by omega) (by omega)
  have e3 : g1 172 3 = V 3 := by rw [v1, upV_ne (by decide)]
  rw [eg.1, ez, e3]
  refine ⟨eg.2, ?_⟩
  apply wpX12_chanceOf
  refine bI_in ?_
  rw [iMax_id (x := 0) (by omega) (by omega) (by omega) (by omega), wr_iRem, wr_id (x := if (0 : Int) < V 3 - 10 * zG V p then V 3 - 10 * zG V p else 0) (by omega) (by omega)]
  unfold spk1 at kk
  refine ⟨fun q => ?_, fun q => ?_⟩
  · rw [if_neg (by omega)] at kk
    exact m_sp35 v1 w1 W1 (ho.m o1) p0 p1 (fun z => by omega) fun g2 h2 a1 a2 a3 o2 => kk g2 h2 a1 a2 a3 (o1.tr o2)
  · rw [if_pos (by omega)] at kk
    refine m_drawn v1 (by decide) (by decide) fun g2 v2 o2 => bI_in ?_
    have w2 := w1.see (sdS (upV V 7 (sdS V)))
    have W2 : okLaw (upV (upV V 7 (sdS V)) 7 (sdS (upV V 7 (sdS V)))) := W1.cg (upV_ne (by decide)) fun j hj => upV_ne (by omega)
    refine m_isBroken v2 w2 W2 (ho.m (o1.tr o2)) p0 p1 (by omega) (by omega) fun g3 v3 t3 o3 => bI_in ?_
    refine m_sp35 v3 (brk_wf w2 p0 p1 _) (W2.cg (brkV_ne (by omega) (by omega) (by decide) (by decide)) fun j hj => brkV_ne (by omega) (by omega) (by omega) (by omega)) (ho.m ((o1.tr o2).tr o3)) p0 p1 (fun z => t3 (fun w => ?_)) fun g4 h4 a1 a2 a3 o4 => kk g4 h4 a1 a2 a3 (((o1.tr o2).tr o3).tr o4)
    rw [w] at z
    have b1 : zS (brkV (upV (upV V 7 (sdS V)) 7 (sdS (upV V 7 (sdS V)))) p 1) p = zS (upV (upV V 7 (sdS V)) 7 (sdS (upV V 7 (sdS V)))) p := by
      unfold brkV
      rw [if_pos rfl]
      exact zNote_ne (by omega) (by omega)
    have b2 : zS (upV (upV V 7 (sdS V)) 7 (sdS (upV V 7 (sdS V)))) p = zS (upV V 7 (sdS V)) p := upV_ne (by omega)
    omega
end MH
