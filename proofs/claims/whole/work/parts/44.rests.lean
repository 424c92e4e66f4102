/-! CHOICES of a speaker and a rival: the reference's side -/
def spH (s w a c : Int) : Int := if a = 0 then (if c = 0 then s else w) else (if c = 0 then 2 else 1)
def rvH (gd a c : Int) : Int := if a = 0 then (if c = 0 then 3 else 0) else (if c = 0 then -gd else 1)
section MR
variable {Γ : Cfg} {l : Launch} {d b : Nat} {g : GG} {K : Ou → HP → Prop} {V : VV} {p : Int}
theorem m_speakerHas {a c : Int} (hv : g 172 = V) (hV : WF V) (hW : okLaw V) (p0 : 0 ≤ p) (p1 : p < V 0) (ha : a = 0 ∨ a = 1) (hc : c = 0 ∨ c = 1) (kk : ∀ g', onlyO g g' → K (.inl (vI (spH (wV V V p (wstS V V p)) (wV V V p (zL V p)) a c))) (stt g')) : Ct Γ l (d + 10) b yX12_speakerHas mX12_speakerHas [vR 171, vI p, vI a, vI c] (stt g) K := by
  have h6 := hV.1.1
  have hq := hV.pn p0 (show p < 6 by omega)
  have w0 : wr 0 = 0 := wr_0
  have w1 : wr 1 = 1 := by decide +kernel
  apply wpX12_speakerHas
  refine m_inOrder fun g1 i1 o1 => bV_in ?_
  have v1 : g1 172 = V := by rw [← hv]; exact funext fun j => o1 _ _ (by decide)
  have oO : onlyO g g1 := fun a j _ ha => o1 a j ha
  obtain ⟨a0, -⟩ := ofP_all v1 p0 (show p < 6 by omega)
  unfold spH at kk
  rw [a0.1]
  rcases ha with rfl | rfl
  · rcases hc with rfl | rfl
    · rw [w0]
      refine ⟨fun z => absurd rfl z, fun _ => ⟨fun z => absurd rfl z, fun _ => m_sureOf v1 hV hW i1 p0 (by omega) fun g2 o2 => bI_in ?_⟩⟩
      rw [sv_eq hV hW p0 p1]
      exact kk g2 (oO.tr o2.o)
    · rw [w0, w1]
      exact ⟨fun z => absurd rfl z, fun _ => ⟨fun _ => ⟨a0.2, m_weightAt v1 hV hW i1 p0 (by omega) hq.1.1 (Int.le_refl _) fun g2 _ o2 => bI_in (kk g2 (oO.tr o2.o))⟩, fun z => absurd (by decide) z⟩⟩
  · rcases hc with rfl | rfl
    · rw [w0, w1]
      exact ⟨fun _ => ⟨fun z => absurd rfl z, fun _ => kk g1 oO⟩, fun z => absurd (by decide) z⟩
    · rw [w1]
      exact ⟨fun _ => ⟨fun _ => kk g1 oO, fun z => absurd (by decide) z⟩, fun z => absurd (by decide) z⟩
theorem m_rivalHas {a c : Int} (hv : g 172 = V) (p0 : 0 ≤ p) (p1 : p < 6) (ha : a = 0 ∨ a = 1) (hc : c = 0 ∨ c = 1) (kk : K (.inl (vI (rvH (zG V p) a c))) (stt g)) : Ct Γ l (d + 2) b yX12_rivalHas mX12_rivalHas [vR 171, vI p, vI a, vI c] (stt g) K := by
  have w0 : wr 0 = 0 := wr_0
  have w1 : wr 1 = 1 := by decide +kernel
  obtain ⟨a0, a1, a2, -⟩ := ofP_all hv p0 p1
  apply wpX12_rivalHas
  unfold rvH at kk
  rw [a2.1]
  rcases ha with rfl | rfl
  · rcases hc with rfl | rfl
    · rw [w0]
      exact ⟨fun z => absurd rfl z, fun _ => ⟨fun z => absurd rfl z, fun _ => kk⟩⟩
    · rw [w0, w1]
      exact ⟨fun z => absurd rfl z, fun _ => ⟨fun _ => kk, fun z => absurd (by decide) z⟩⟩
  · rcases hc with rfl | rfl
    · rw [w0, w1]
      exact ⟨fun _ => ⟨fun z => absurd rfl z, fun _ => ⟨a2.2, kk⟩⟩, fun z => absurd (by decide) z⟩
    · rw [w1]
      exact ⟨fun _ => ⟨fun _ => kk, fun z => absurd (by decide) z⟩, fun z => absurd (by decide) z⟩
theorem m_rests1 {a c y : Int} (hv : g 172 = V) (hV : WF V) (hW : okLaw V) (p0 : 0 ≤ p) (p1 : p < V 0) (ha : a = 0 ∨ a = 1) (hc : c = 0 ∨ c = 1)
    (kk : ∀ g', onlyO g g' → AW Γ l mX12_rests (d + 11) b 32 [vR 171, vI p, vI (if spH (wV V V p (wstS V V p)) (wV V V p (zL V p)) (1 - a) c ≤ spH (wV V V p (wstS V V p)) (wV V V p (zL V p)) a c ∧ rvH (zG V p) a (1 - c) ≤ rvH (zG V p) a c then iOr y (iShl 1 (2 * a + c)) else iOr y 0), vI a, vI (c + 1)] [] (stt g') K) :
    AW Γ l mX12_rests (d + 11) b 32 [vR 171, vI p, vI y, vI a, vI c] [] (stt g) K := by
  have h6 := hV.1.1
  have hq := hV.pn p0 (show p < 6 by omega)
  have hr := wst_in (W := V) hV p0 p1
  have s1 := wV_rng hV hW p0 (show p < 6 by omega) (n := wstS V V p) (by omega) (by omega)
  have s2 := wV_rng hV hW p0 (show p < 6 by omega) (n := zL V p) (by omega) (by omega)
  have ha' : 1 - a = 0 ∨ 1 - a = 1 := by omega
  have hc' : 1 - c = 0 ∨ 1 - c = 1 := by omega
  have sr : ∀ x y, 0 ≤ spH (wV V V p (wstS V V p)) (wV V V p (zL V p)) x y ∧ spH (wV V V p (wstS V V p)) (wV V V p (zL V p)) x y ≤ 599 := fun x y => by
    unfold spH
    omega
  have rr : ∀ x y, -9 ≤ rvH (zG V p) x y ∧ rvH (zG V p) x y ≤ 9 := fun x y => by
    unfold rvH
    omega
  have e1 := sr a c
  have e2 := sr (1 - a) c
  have e3 := rr a c
  have e4 := rr a (1 - c)
  apply wpX12_rests_32
  refine ⟨fun z => absurd z (by rw [wr_id (x := c) (by omega) (by omega)]; omega), fun _ => m_speakerHas hv hV hW p0 p1 ha hc fun g1 o1 => bI_in (m_speakerHas (o1.v.trans hv) hV hW p0 p1 ha' hc fun g2 o2 => bI_in ?_)⟩
  have o12 := o1.tr o2
  have kk := kk g2 o12
  generalize spH (wV V V p (wstS V V p)) (wV V V p (zL V p)) a c = x1 at e1 kk ⊢
  generalize spH (wV V V p (wstS V V p)) (wV V V p (zL V p)) (1 - a) c = x2 at e2 kk ⊢
  rw [wr_id (x := x1) (by omega) (by omega), wr_id (x := x2) (by omega) (by omega)]
  refine ⟨fun z => ?_, fun z => m_rivalHas (o12.v.trans hv) p0 (by omega) ha hc (bI_in (m_rivalHas (o12.v.trans hv) p0 (by omega) ha hc' (bI_in ?_)))⟩
  · rw [if_neg (by omega)] at kk; exact kk
  · rw [wr_id (x := rvH (zG V p) a c) (by omega) (by omega), wr_id (x := rvH (zG V p) a (1 - c)) (by omega) (by omega)]
    refine ⟨fun z2 => ?_, fun z2 => ?_⟩
    · rw [if_neg (by omega)] at kk; exact kk
    · rw [if_pos (by omega)] at kk; exact kk
theorem m_rests2 {a y : Int} (k : AW Γ l mX12_rests (d + 2) b 24 [vR 171, vI p, vI y, vI (a + 1), vU] [] (stt g) K) : AW Γ l mX12_rests (d + 2) b 32 [vR 171, vI p, vI y, vI a, vI (1 + 1)] [] (stt g) K := by
  apply wpX12_rests_32
  exact ⟨fun _ => AW.weak k (by simp [leP]), fun z => absurd (show 2 ≤ wr (1 + 1) by decide +kernel) z⟩
theorem m_rests (hv : g 172 = V) (hV : WF V) (hW : okLaw V) (hp : wr p = p) (kk : mc g (s_rests V p) K) : Ct Γ l (d + 11) b yX12_rests mX12_rests [vR 171, vI p] (stt g) K := by
  have h6 := hV.1.1
  apply wpX12_rests
  have v1 := th_v (c := 0) hv
  rw [pcond hV v1 hp]
  have m1 : kM g (upd2 g 171 0 0) := kM.th
  have z1 : upd2 g 171 0 0 171 0 = 0 := th_z
  generalize upd2 g 171 0 0 = g1 at v1 m1 z1 ⊢
  refine ⟨fun z => mc_fin kk ?_ (m1.tr kM.th) th_z, fun z => ?_⟩
  · unfold s_rests; rw [if_neg z]
  · obtain ⟨p0, p1⟩ := Decidable.not_not.mp z
    have hq := hV.pn p0 (show p < 6 by omega)
    apply wpX12_rests_24
    refine ⟨fun z => absurd (show 2 ≤ wr 0 from z) (by decide +kernel), fun _ => ?_⟩
    refine m_rests1 v1 hV hW p0 p1 (Or.inl rfl) (Or.inl rfl) fun g2 o2 => ?_
    refine m_rests1 (o2.v.trans v1) hV hW p0 p1 (Or.inl rfl) (Or.inr rfl) fun g3 o3 => ?_
    have o3 := o2.tr o3
    refine m_rests2 ?_
    apply wpX12_rests_24
    refine ⟨fun z => absurd (show 2 ≤ wr (0 + 1) from z) (by decide +kernel), fun _ => ?_⟩
    refine m_rests1 (o3.v.trans v1) hV hW p0 p1 (Or.inr rfl) (Or.inl rfl) fun g4 o4 => ?_
    have o4 := o3.tr o4
    refine m_rests1 (o4.v.trans v1) hV hW p0 p1 (Or.inr rfl) (Or.inr rfl) fun g5 o5 => ?_
    have o5 := o4.tr o5
    refine m_rests2 ?_
    apply wpX12_rests_24
    refine ⟨fun _ => mc_fin kk ?_ (m1.tr o5.k) (by rw [o5.z, z1]), fun z => absurd (show 2 ≤ wr (1 + 1) by decide +kernel) z⟩
    unfold s_rests rsS
    rw [if_pos ⟨p0, p1⟩]
    refine congrArg (Prod.mk 0) ?_
    generalize wV V V p (wstS V V p) = s
    generalize wV V V p (zL V p) = w
    have c1 : (spH s w (1 - 0) 0 ≤ spH s w 0 0 ∧ rvH (zG V p) 0 (1 - 0) ≤ rvH (zG V p) 0 0) ↔ 2 ≤ s := ⟨fun h => h.1, fun h => ⟨h, show (0 : Int) ≤ 3 by decide⟩⟩
    have c2 : ¬ (spH s w (1 - 0) (0 + 1) ≤ spH s w 0 (0 + 1) ∧ rvH (zG V p) 0 (1 - (0 + 1)) ≤ rvH (zG V p) 0 (0 + 1)) := fun h => absurd (show (3 : Int) ≤ 0 from h.2) (by decide)
    have c3 : ¬ (spH s w (1 - (0 + 1)) 0 ≤ spH s w (0 + 1) 0 ∧ rvH (zG V p) (0 + 1) (1 - 0) ≤ rvH (zG V p) (0 + 1) 0) := fun h => absurd (show (1 : Int) ≤ -zG V p from h.2) (by omega)
    have c4 : (spH s w (1 - (0 + 1)) (0 + 1) ≤ spH s w (0 + 1) (0 + 1) ∧ rvH (zG V p) (0 + 1) (1 - (0 + 1)) ≤ rvH (zG V p) (0 + 1) (0 + 1)) ↔ w ≤ 1 := ⟨fun h => h.1, fun h => ⟨h, show -zG V p ≤ 1 by omega⟩⟩
    rw [if_neg c3, if_neg c2]
    by_cases q1 : 2 ≤ s
    · rw [if_pos q1, if_pos (c1.mpr q1)]
      by_cases q2 : w ≤ 1
      · rw [if_pos q2, if_pos (c4.mpr q2)]; decide +kernel
      · rw [if_neg q2, if_neg (fun h => q2 (c4.mp h))]; decide +kernel
    · rw [if_neg q1, if_neg (fun h => q1 (c1.mp h))]
      by_cases q2 : w ≤ 1
      · rw [if_pos q2, if_pos (c4.mpr q2)]; decide +kernel
      · rw [if_neg q2, if_neg (fun h => q2 (c4.mp h))]; decide +kernel
end MR
