/-! PUBLIC CALLS that only ask: the reference's side -/
def mS (a j : Int) : Prop := a < 171 ∨ 190 ≤ a ∨ a = 172 ∨ a = 173 ∨ a = 176 ∨ a = 177 ∨ (a = 171 ∧ (j = 6 ∨ j = 7 ∨ j = 9 ∨ j = 14))
def kM (g g' : GG) : Prop := ∀ a j, mS a j → g' a j = g a j
theorem kM.rf {g : GG} : kM g g := fun _ _ _ => rfl
theorem kM.tr {g g1 g2 : GG} (h : kM g g1) (h2 : kM g1 g2) : kM g g2 := fun a j hs => by rw [h2 a j hs, h a j hs]
theorem kM.th {g : GG} {c : Int} : kM g (upd2 g 171 0 c) := fun a j hs => by
  by_cases e : j = 0 ∧ a = 171
  · unfold mS at hs; omega
  · exact if_neg e
theorem onlyO.k {g g' : GG} (h : onlyO g g') : kM g g' := fun a j hs => h a j (by unfold rW; unfold mS at hs; omega) (by unfold mS at hs; omega)
theorem onlyO.z {g g' : GG} (h : onlyO g g') : g' 171 0 = g 171 0 := h _ _ (by unfold rW; omega) (by decide)
theorem onlyR.z {g g' : GG} (h : onlyR g g') : g' 171 0 = g 171 0 := h _ _ (by unfold rW; omega)
def mc (g : GG) (s : Int × Int) (K : Ou → HP → Prop) : Prop := ∀ g', kM g g' → g' 171 0 = s.1 → K (.inl (vI s.2)) (stt g')
theorem mc_fin {g g' : GG} {s : Int × Int} {c v : Int} {K : Ou → HP → Prop} (kk : mc g s K) (e : s = (c, v)) (h : kM g g') (h0 : g' 171 0 = c) : K (.inl (vI v)) (stt g') := by
  subst e
  exact kk g' h h0
theorem th_z {g : GG} {c : Int} : upd2 g 171 0 c 171 0 = c := upd2_eq
theorem sv_wst {V : VV} (hV : WF V) (hW : okLaw V) {p : Int} (p0 : 0 ≤ p) (p1 : p < 6) : ∀ n : Nat, (n : Int) + 1 ≤ zL V p → svP V p (zW V p) (n + 1) = wV V V p (fd (fun b i => if wV V V p (i + 2) < wV V V p b then i + 2 else b) 1 n) := by
  have hp := hV.pn p0 p1
  intro n
  induction n with
  | zero =>
    intro hl
    have w1 := wV_rng hV hW p0 p1 (n := 1) (by omega) (by omega)
    show iMin 1000000 (wV V V p (((0 : Nat) : Int) + 1)) = wV V V p 1
    rw [show ((0 : Nat) : Int) + 1 = 1 by rfl, iMin_id (by omega) (by omega) (by omega) (by omega), if_pos (by omega)]
  | succ n ih =>
    intro hl
    have ih := ih (by omega)
    have hr := wst_rng V V p n
    have e1 : svP V p (zW V p) (n + 1 + 1) = iMin (svP V p (zW V p) (n + 1)) (wV V V p (((n + 1 : Nat) : Int) + 1)) := rfl
    rw [e1, ih]
    have e2 : fd (fun b i => if wV V V p (i + 2) < wV V V p b then i + 2 else b) 1 (n + 1) = if wV V V p ((n : Int) + 2) < wV V V p (fd (fun b i => if wV V V p (i + 2) < wV V V p b then i + 2 else b) 1 n) then (n : Int) + 2 else fd (fun b i => if wV V V p (i + 2) < wV V V p b then i + 2 else b) 1 n := rfl
    rw [e2]
    generalize fd (fun b i => if wV V V p (i + 2) < wV V V p b then i + 2 else b) 1 n = x at hr ⊢
    have w1 := wV_rng hV hW p0 p1 (n := x) (by omega) (by omega)
    have w2 := wV_rng hV hW p0 p1 (n := (n : Int) + 2) (by omega) (by omega)
    rw [show ((n + 1 : Nat) : Int) + 1 = (n : Int) + 2 by omega, iMin_id (by omega) (by omega) (by omega) (by omega)]
    by_cases c : wV V V p (n + 2) < wV V V p x
    · rw [if_pos c, if_pos c]
    · rw [if_neg c, if_neg c]
theorem sv_eq {V : VV} (hV : WF V) (hW : okLaw V) {p : Int} (p0 : 0 ≤ p) (p1 : p < V 0) : svP V p (zW V p) (zL V p).toNat = wV V V p (wstS V V p) := by
  have h6 := hV.1.1
  have hp := hV.pn p0 (show p < 6 by omega)
  have hl := (hp.2.2.2.2.2 p1).1
  have := sv_wst hV hW p0 (show p < 6 by omega) (zL V p - 1).toNat (by omega)
  rw [show (zL V p - 1).toNat + 1 = (zL V p).toNat by omega] at this
  exact this
section MQ2
variable {Γ : Cfg} {l : Launch} {d b : Nat} {g : GG} {K : Ou → HP → Prop} {V : VV} {p q n w k : Int}
theorem th_v {c : Int} (hv : g 172 = V) : (upd2 g 171 0 c) 172 = V := by
  rw [← hv]
  exact funext fun j => upd2_ne (by decide)
theorem pcond (hV : WF V) {g1 : GG} (v1 : g1 172 = V) (hp : wr p = p) : (0 ≤ wr p ∧ wr p ≤ wr (g1 172 0 - 1)) ↔ (0 ≤ p ∧ p < V 0) := by
  have h6 := hV.1.1
  rw [v1, hp, wr_id (x := V 0 - 1) (by omega) (by omega)]
  omega
theorem m_person (hv : g 172 = V) (hV : WF V) (hW : okLaw V) (hp : wr p = p) (hw : wr w = w) (kk : mc g (s_person V p w) K) : Ct Γ l (d + 9) b yX12_person mX12_person [vR 171, vI p, vI w] (stt g) K := by
  have h6 := hV.1.1
  apply wpX12_person
  have v1 := th_v (c := 0) hv
  rw [pcond hV v1 hp, hw]
  have m1 : kM g (upd2 g 171 0 0) := kM.th
  have z1 : upd2 g 171 0 0 171 0 = 0 := th_z
  generalize upd2 g 171 0 0 = g1 at v1 m1 z1 ⊢
  refine ⟨fun z => mc_fin kk ?_ (m1.tr kM.th) th_z, fun z => ⟨fun z2 => ?_, fun z2 => mc_fin kk ?_ (m1.tr kM.th) th_z⟩⟩
  · unfold s_person; rw [if_neg z]
  · have z := Decidable.not_not.mp z
    obtain ⟨p0, p1⟩ := z
    have fin : ∀ v g', s_person V p w = (0, v) → onlyO g1 g' → K (.inl (vI v)) (stt g') := fun v g' e o => mc_fin kk e (m1.tr o.k) (by rw [o.z, z1])
    unfold s_person at fin
    rw [if_pos ⟨p0, p1⟩] at fin
    refine ⟨fun z => ?_, fun z => ?_, fun z => ?_, fun z => ?_, fun z => ?_, fun z => ?_, fun z => ?_⟩
    · subst z; exact m_wordAt v1 hV hW p0 p1 (Or.inl rfl) fun g' o => bI_in (fin _ g' rfl o)
    · subst z; exact m_wordAt v1 hV hW p0 p1 (Or.inr rfl) fun g' o => bI_in (fin _ g' rfl o)
    · subst z
      refine m_inOrder fun g2 i2 o2 => bV_in ?_
      have v2 : g2 172 = V := by rw [← v1]; exact funext fun j => o2 _ _ (by decide)
      refine m_sureOf v2 hV hW i2 p0 (by omega) fun g' o => bI_in ?_
      rw [sv_eq hV hW p0 p1]
      exact fin _ g' rfl (fun a j hs ha => by rw [o a j hs, o2 a j ha])
    · subst z; exact m_needOf v1 hV p0 p1 (bI_in (fin _ g1 rfl onlyO.rf))
    · subst z; exact m_goingOf v1 hV p0 p1 (bI_in (fin _ g1 rfl onlyO.rf))
    · subst z; exact m_shareOf v1 hV hW p0 p1 fun g' o => bI_in (fin _ g' rfl o)
    · have hw4 : w = 0 ∨ w = 1 ∨ w = 2 ∨ w = 3 ∨ w = 4 := by omega
      have e := ofP_at v1 (p := p) (w := w) (by omega) (by omega)
      refine ⟨e.2, ?_⟩
      rw [e.1]
      rcases hw4 with rfl | rfl | rfl | rfl | rfl
      · exact fin _ g1 rfl onlyO.rf
      · exact fin _ g1 rfl onlyO.rf
      · exact fin _ g1 rfl onlyO.rf
      · exact fin _ g1 rfl onlyO.rf
      · exact fin _ g1 rfl onlyO.rf
  · have z := Decidable.not_not.mp z
    unfold s_person
    rw [if_pos z, if_neg (by omega), if_neg (by omega), if_neg (by omega), if_neg (by omega), if_neg (by omega), if_neg (by omega), if_neg (by omega), if_neg (by omega), if_neg (by omega), if_neg (by omega), if_neg (by omega)]
theorem m_word (hv : g 172 = V) (hV : WF V) (hp : wr p = p) (hk : wr k = k) (hn : wr n = n) (kk : mc g (s_word V p k n) K) : Ct Γ l (d + 3) b yX12_word mX12_word [vR 171, vI p, vI k, vI n] (stt g) K := by
  have h6 := hV.1.1
  apply wpX12_word
  have v1 := th_v (c := 0) hv
  rw [pcond hV v1 hp, hk, hn]
  have m1 : kM g (upd2 g 171 0 0) := kM.th
  have z1 : upd2 g 171 0 0 171 0 = 0 := th_z
  generalize upd2 g 171 0 0 = g1 at v1 m1 z1 ⊢
  refine ⟨fun z => mc_fin kk ?_ (m1.tr kM.th) th_z, fun z => ?_⟩
  · unfold s_word; rw [if_neg z]
  · have z := Decidable.not_not.mp z
    obtain ⟨p0, p1⟩ := z
    have hq := hV.pn p0 (show p < 6 by omega)
    obtain ⟨a0, -⟩ := ofP_all v1 p0 (show p < 6 by omega)
    have fin : ∀ v, s_word V p k n = (0, v) → K (.inl (vI v)) (stt g1) := fun v e => mc_fin kk e m1 z1
    unfold s_word at fin
    rw [if_pos ⟨p0, p1⟩] at fin
    rw [a0.1, wr_id (x := zL V p - 1) (by omega) (by omega)]
    refine ⟨a0.2, fun z => ?_, fun z => fin _ (by rw [if_neg (by omega)])⟩
    obtain ⟨w1, w2⟩ := ofP_word v1 p0 (show p < 6 by omega) (k := k) (by omega) (by omega)
    rw [w1.1, w2.1]
    refine ⟨fun z3 => ⟨w1.2, fin _ ?_⟩, fun z3 => ⟨w2.2, fin _ ?_⟩⟩
    · rw [if_pos ⟨by omega, by omega⟩, if_pos z3]
    · rw [if_pos ⟨by omega, by omega⟩, if_neg z3]
theorem m_told {c : Int} {s : Int × Int} {g1 : GG} (v1 : g1 172 = V) (hV : WF V) (hW : okLaw V) (p0 : 0 ≤ p) (p1 : p < 6) (c0 : 0 ≤ c) (c1 : c ≤ zL V p) (w0 : 0 ≤ w) (w1 : w ≤ 7) (i1 : inO g1) (kk : ∀ g', onlyR g1 g' → K (.inl (vI (tdS V V p c w))) (stt g')) : Ct Γ l (d + 6) 0 yX12_reads mX12_reads [vR 171, vI p, vI c] (stt g1) (bV (fun g2 => Ct Γ l (d + 6) 0 yX12_whatRead mX12_whatRead [vR 171, vI w] (stt g2) (bI (fun v1 g3 => K (.inl (vI v1)) (stt g3)) K)) K) := by
  refine m_readsO v1 hV p0 p1 c0 c1 i1 fun g2 h2 o2 => bV_in ?_
  exact m_whatRead h2 (o2.v.trans v1) hV hW p0 p1 c0 c1 w0 w1 fun g3 o3 => bI_in (kk g3 (o2.tr o3))
theorem m_reading (hv : g 172 = V) (hV : WF V) (hW : okLaw V) (hp : wr p = p) (hk : wr k = k) (hw : wr w = w) (kk : mc g (s_reading V p k w) K) : Ct Γ l (d + 7) b yX12_reading mX12_reading [vR 171, vI p, vI k, vI w] (stt g) K := by
  have h6 := hV.1.1
  apply wpX12_reading
  have v1 := th_v (c := 0) hv
  rw [pcond hV v1 hp, hk, hw]
  have m1 : kM g (upd2 g 171 0 0) := kM.th
  have z1 : upd2 g 171 0 0 171 0 = 0 := th_z
  generalize upd2 g 171 0 0 = g1 at v1 m1 z1 ⊢
  refine ⟨fun z => mc_fin kk ?_ (m1.tr kM.th) th_z, fun z => ?_⟩
  · unfold s_reading; rw [if_neg z]
  · have z := Decidable.not_not.mp z
    obtain ⟨p0, p1⟩ := z
    have hq := hV.pn p0 (show p < 6 by omega)
    obtain ⟨a0, -⟩ := ofP_all v1 p0 (show p < 6 by omega)
    rw [a0.1, wr_id (x := zL V p) (by omega) (by omega)]
    refine ⟨a0.2, fun z => ⟨fun z2 => ?_, fun z2 => mc_fin kk ?_ (m1.tr kM.th) th_z⟩, fun z => mc_fin kk ?_ (m1.tr kM.th) th_z⟩
    · refine m_inOrder fun g2 i2 o2 => bV_in ?_
      have v2 : g2 172 = V := by rw [← v1]; exact funext fun j => o2 _ _ (by decide)
      refine m_told (s := (0, 0)) v2 hV hW p0 (by omega) z.1 z.2 z2.1 z2.2 i2 fun g3 o3 => ?_
      have o : onlyO g1 g3 := fun a j hs ha => by rw [o3 a j hs, o2 a j ha]
      refine mc_fin kk ?_ (m1.tr o.k) (by rw [o.z, z1])
      unfold s_reading; rw [if_pos ⟨p0, p1⟩, if_pos z, if_pos z2]
    · unfold s_reading; rw [if_pos ⟨p0, p1⟩, if_pos z, if_neg z2]
    · unfold s_reading; rw [if_pos ⟨p0, p1⟩, if_neg z]
theorem m_hold (hv : g 172 = V) (hV : WF V) (hW : okLaw V) (hp : wr p = p) (hw : wr w = w) (kk : mc g (s_hold V p w) K) : Ct Γ l (d + 7) b yX12_hold mX12_hold [vR 171, vI p, vI w] (stt g) K := by
  have h6 := hV.1.1
  apply wpX12_hold
  have v1 := th_v (c := 0) hv
  rw [pcond hV v1 hp, hw]
  have m1 : kM g (upd2 g 171 0 0) := kM.th
  have z1 : upd2 g 171 0 0 171 0 = 0 := th_z
  generalize upd2 g 171 0 0 = g1 at v1 m1 z1 ⊢
  refine ⟨fun z => mc_fin kk ?_ (m1.tr kM.th) th_z, fun z => ?_⟩
  · unfold s_hold; rw [if_neg z]
  · have z := Decidable.not_not.mp z
    obtain ⟨p0, p1⟩ := z
    have hc := hcS_rng hV p0 (show p < 6 by omega)
    refine ⟨fun z2 => ?_, fun z2 => mc_fin kk ?_ (m1.tr kM.th) th_z⟩
    · refine m_inOrder fun g2 i2 o2 => bV_in ?_
      have v2 : g2 172 = V := by rw [← v1]; exact funext fun j => o2 _ _ (by decide)
      refine m_countsOf v2 hV p0 (by omega) (bI_in ?_)
      refine m_told (s := (0, 0)) v2 hV hW p0 (by omega) hc.1 hc.2 z2.1 z2.2 i2 fun g3 o3 => ?_
      have o : onlyO g1 g3 := fun a j hs ha => by rw [o3 a j hs, o2 a j ha]
      refine mc_fin kk ?_ (m1.tr o.k) (by rw [o.z, z1])
      unfold s_hold; rw [if_pos ⟨p0, p1⟩, if_pos z2]
    · unfold s_hold; rw [if_pos ⟨p0, p1⟩, if_neg z2]
theorem m_mode (hv : g 172 = V) (hp : wr p = p) (kk : mc g (s_mode V p) K) : Ct Γ l (d + 1) b yX12_mode mX12_mode [vR 171, vI p] (stt g) K := by
  apply wpX12_mode
  have v1 := th_v (c := 0) hv
  rw [hp, v1]
  have m1 : kM g (upd2 g 171 0 0) := kM.th
  have z1 : upd2 g 171 0 0 171 0 = 0 := th_z
  generalize upd2 g 171 0 0 = g1 at v1 m1 z1 ⊢
  refine ⟨fun z => ?_, fun z => mc_fin kk ?_ (m1.tr kM.th) th_z⟩
  · rw [wr_id (x := 8 + p) (by omega) (by omega)]
    refine ⟨by omega, mc_fin kk ?_ m1 z1⟩
    unfold s_mode; rw [if_pos (by omega)]
  · unfold s_mode; rw [if_neg (by omega)]
theorem m_chanceOf {x y : Int} (x0 : 0 ≤ x) (x1 : x ≤ 100) (y0 : 0 ≤ y) (y1 : y ≤ 9) (kk : K (.inl (vI (if 0 < x - 10 * y then x - 10 * y else 0))) (stt g)) : Ct Γ l d b yX12_chanceOf mX12_chanceOf [vI x, vI y] (stt g) K := by
  apply wpX12_chanceOf
  rw [iMax_id (by omega) (by omega) (by omega) (by omega)]
  exact kk
theorem ob_div (hV : WF V) {o gd : Int} (a0 : 0 ≤ o) (a1 : o ≤ 10000) (b0 : 0 ≤ gd) (b1 : gd ≤ 9) : iDiv (o * (100 - (if 0 < V 3 - 10 * gd then V 3 - 10 * gd else 0))) 100 = obS V o gd := by
  have h6 := hV.1.2.2.1
  have e1 : 0 ≤ chS V gd ∧ chS V gd ≤ 100 := by
    unfold chS
    omega
  show iDiv (o * (100 - chS V gd)) 100 = o * (100 - chS V gd) / 100
  rw [iDiv_nn]
  · exact Int.mul_nonneg a0 (by omega)
  · have : o * (100 - chS V gd) ≤ 10000 * 100 := Int.mul_le_mul a1 (by omega) (by omega) (by omega)
    omega
  · decide
  · decide
theorem m_fence (hv : g 172 = V) (hV : WF V) (hp : wr p = p) (hq : wr q = q) (kk : mc g (s_fence V p q) K) : Ct Γ l (d + 3) b yX12_fence mX12_fence [vR 171, vI p, vI q] (stt g) K := by
  have h6 := hV.1.1
  have h3 := hV.1.2.2.1
  apply wpX12_fence
  have v1 := th_v (c := 0) hv
  rw [pcond hV v1 hp, hq]
  have m1 : kM g (upd2 g 171 0 0) := kM.th
  have z1 : upd2 g 171 0 0 171 0 = 0 := th_z
  generalize upd2 g 171 0 0 = g1 at v1 m1 z1 ⊢
  refine ⟨fun z => mc_fin kk ?_ (m1.tr kM.th) th_z, fun z => ⟨fun z2 => ?_, fun z2 => mc_fin kk ?_ (m1.tr kM.th) th_z⟩⟩
  · unfold s_fence; rw [if_neg z]
  · have z := Decidable.not_not.mp z
    obtain ⟨p0, p1⟩ := z
    have hn := need_rng hV p0 p1
    refine up_loop (P := fun n => AW Γ l mX12_fence (d + 3) b 49 [vR 171, vI p, vI q, vI (lsr (okG V p q) (10 - n) n), vI (9 - (n : Int)), vU, vU] [] (stt g1) K) (N := 10) ?_ (fun n hn9 hi => ?_) 0 (Nat.zero_le _)
    · apply wpX12_fence_49
      refine ⟨fun _ => mc_fin kk ?_ m1 z1, fun c => absurd (show wr (9 - ((10 : Nat) : Int)) < 0 by decide +kernel) c⟩
      unfold s_fence; rw [if_pos ⟨p0, p1⟩, if_pos z2]
    · apply wpX12_fence_49
      rw [wr_id (x := 9 - (n : Int)) (by omega) (by omega)]
      refine ⟨fun c => absurd c (by omega), fun _ => ?_⟩
      have e1 : lsr (okG V p q) (10 - (n + 1)) (n + 1) = if okG V p q (9 - (n : Int)) = true then 9 - (n : Int) else lsr (okG V p q) (10 - n) n := by
        have a : ((10 - (n + 1) : Nat) : Int) = 9 - (n : Int) := by omega
        show (if okG V p q ((10 - (n + 1) : Nat) : Int) = true then ((10 - (n + 1) : Nat) : Int) else lsr (okG V p q) (10 - (n + 1) + 1) n) = _
        rw [a, show 10 - (n + 1) + 1 = 10 - n by omega]
      rw [e1, show 9 - ((n + 1 : Nat) : Int) = 9 - (n : Int) + (-1) by omega] at hi
      generalize lsr (okG V p q) (10 - n) n = y at hi ⊢
      refine up_loop (P := fun m => AW Γ l mX12_fence (d + 3) b 62 [vR 171, vI p, vI q, vI y, vI (9 - (n : Int)), vI (fd (fun o _ => obS V o (9 - (n : Int))) 10000 m), vI m] [] (stt g1) K) (N := (needS V p).toNat) ?_ (fun m hm9 him => ?_) 0 (Nat.zero_le _)
      · have ho := obs_fd hV (gd := 9 - (n : Int)) (by omega) (by omega) (needS V p).toNat
        apply wpX12_fence_62
        refine m_needOf v1 hV p0 p1 (bI_in ?_)
        rw [wr_id (x := needS V p) (by omega) (by omega), wr_id (x := ((needS V p).toNat : Int)) (by omega) (by omega), wr_id (x := fd (fun o _ => obS V o (9 - (n : Int))) 10000 (needS V p).toNat) (by omega) (by omega), wr_id (x := 100 * q) (by omega) (by omega)]
        refine ⟨fun _ => ⟨fun c => ?_, fun c => ?_⟩, fun c => absurd (show needS V p ≤ ((needS V p).toNat : Int) by omega) c⟩
        · rw [if_neg (by unfold okG; rw [decide_eq_true_iff]; omega)] at hi
          exact AW.weak hi (by simp [leP])
        · rw [if_pos (by unfold okG; rw [decide_eq_true_iff]; omega)] at hi
          exact AW.weak hi (by simp [leP])
      · have ho := obs_fd hV (gd := 9 - (n : Int)) (by omega) (by omega) m
        apply wpX12_fence_62
        refine m_needOf v1 hV p0 p1 (bI_in ?_)
        rw [wr_id (x := needS V p) (by omega) (by omega), wr_id (x := (m : Int)) (by omega) (by omega), v1]
        refine ⟨fun c => absurd c (by omega), fun _ => m_chanceOf h3.1 h3.2 (by omega) (by omega) (bI_in ?_)⟩
        rw [ob_div hV ho.1 ho.2 (by omega) (by omega)]
        exact him
  · have z := Decidable.not_not.mp z
    unfold s_fence; rw [if_pos z, if_neg z2]
end MQ2
