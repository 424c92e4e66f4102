/-! THE ACTS: the reference's side -/
section MA2
variable {Γ : Cfg} {l : Launch} {d b : Nat} {g : GG} {K : Ou → HP → Prop} {V : VV} {p q n k : Int}
def fM (g1 g2 : GG) : Prop := ∀ a j, ((a < 171 ∨ 190 ≤ a) ∨ (mX a j ∧ a ≠ 172) ∨ (a = 171 ∧ j = 0)) → g2 a j = g1 a j
theorem fM.rf {g : GG} : fM g g := fun _ _ _ => rfl
theorem fM.tr {g g1 g2 : GG} (h : fM g g1) (h2 : fM g1 g2) : fM g g2 := fun a j a1 => by rw [h2 a j a1, h a j a1]
theorem onlyM.f {g g' : GG} (h : onlyM g g') : fM g g' := fun a j a1 => h a j (by omega) (by unfold rW; unfold mX at a1; omega) (by unfold mX at a1; omega)
theorem onlyR.f {g g' : GG} (h : onlyR g g') : fM g g' := h.m.f
theorem f180 {g g' : GG} (o : ∀ a j, a ≠ 180 → g' a j = g a j) : fM g g' := fun a j a1 => o a j (by unfold mX at a1; omega)
theorem f172 {g g' : GG} (o : ∀ a j, a ≠ 172 → g' a j = g a j) : fM g g' := fun a j a1 => o a j (by omega)
theorem fup {g : GG} {i v : Int} : fM g (upd2 g 172 i v) := f172 fun a j ha => upd2_ne ha
/-- not thrown so far, and remembered -/
def RM0 (g g1 : GG) : Prop := RemM g g1 ∧ g1 171 0 = 0 ∧ g1 172 = g 172
theorem m_rem0 {g0 : GG} (e0 : g0 = upd2 g 171 0 0) (n0 : 0 ≤ g 171 7) (n1 : g 171 7 ≤ 12) (kk : ∀ g1, RM0 g g1 → K (.inl vU) (stt g1)) : Ct Γ l d b yX12_remembers mX12_remembers [vR 171] (stt g0) K := by
  have e7 : g0 171 7 = g 171 7 := by rw [e0, upd2_nj (by decide)]
  exact m_remember (by rw [e7]; exact n0) (by rw [e7]; exact n1) fun g1 r z => kk g1 (r.th e0 z)
theorem actM {g1 g2 : GG} {V' : VV} {s : Int × Int} {v : Int} (kk : aM g s V' K) (e : s = (0, v)) (r : RM0 g g1) (hv : g2 172 = V') (f : fM g1 g2) : K (.inl (vI v)) (stt g2) :=
  aM_ok kk e (fun a j ha => by rw [f a j (Or.inl ha), r.1.1 a j (by omega) (by omega)]) (r.1.ac hv (fun a j hx ha => f a j (Or.inr (Or.inl ⟨hx, ha⟩)))) (by rw [f _ _ (Or.inr (Or.inr ⟨rfl, rfl⟩))]; exact r.2.1)
theorem m_isNot {st : Int} (hv : g 172 = V) (hV : WF V) (hp : wr p = p) (s0 : 0 ≤ st) (s1 : st ≤ 2) (k0 : ¬ (0 ≤ p ∧ p < V 0) → K (.inl (vI 1)) (stt (upd2 (upd2 g 171 0 0) 171 0 1))) (k1 : 0 ≤ p → p < V 0 → zS V p = st → K (.inl (vI 0)) (stt (upd2 g 171 0 0))) (k2 : 0 ≤ p → p < V 0 → ¬ zS V p = st → K (.inl (vI 1)) (stt (upd2 (upd2 g 171 0 0) 171 0 2))) : Ct Γ l (d + 2) b yX12_isNot mX12_isNot [vR 171, vI p, vI st] (stt g) K := by
  have h6 := hV.1.1
  have v1 := th_v (c := 0) hv
  apply wpX12_isNot
  rw [pcond hV v1 hp]
  refine ⟨k0, fun z => ?_⟩
  obtain ⟨p0, p1⟩ := Decidable.not_not.mp z
  have hq := hV.pn p0 (show p < 6 by omega)
  obtain ⟨a0, a1, a2, a3, a4⟩ := ofP_all v1 p0 (show p < 6 by omega)
  rw [a3.1, wr_id (x := zS V p) (by omega) (by omega), wr_id (x := st) (by omega) (by omega)]
  exact ⟨a3.2, k1 p0 p1, k2 p0 p1⟩
theorem upd_set {g1 : GG} {s c : Int} (hv : g1 172 = V) : (upd2 (upd2 g1 172 (12 + 29 * p + 3) s) 172 (12 + 29 * p + 4) c) 172 = setS V p s c := by
  rw [upd_v, upd_v, hv]; rfl
theorem m_begin (hv : g 172 = V) (hV : WF V) (n0 : 0 ≤ g 171 7) (n1 : g 171 7 ≤ 12) (hp : wr p = p) (kk : aM g (s_begin V p) (setS V p 1 0) K) : Ct Γ l (d + 3) b yX12_begin mX12_begin [vR 171, vI p] (stt g) K := by
  have h6 := hV.1.1
  have w1 : wr 1 = 1 := by decide +kernel
  apply wpX12_begin
  refine m_isNot hv hV hp (by decide) (by decide) (fun z => bI_in ?_) (fun p0 p1 z => bI_in ?_) (fun p0 p1 z => bI_in ?_)
  · rw [w1]
    exact ⟨fun c => absurd c (by decide), fun _ => aM_th kk (by unfold s_begin; rw [if_neg z]) (by decide)⟩
  · rw [wr_0]
    refine ⟨fun _ => m_rem0 rfl n0 n1 fun g1 r => bV_in ?_, fun c => absurd rfl c⟩
    have v1 : g1 172 = V := r.2.2.trans hv
    rw [wr_id (x := 12 + 29 * p + 3) (by omega) (by omega), wr_id (x := 12 + 29 * p + 4) (by omega) (by omega)]
    refine ⟨by omega, fun g3 e3 => ⟨by omega, fun g4 e4 => ?_⟩⟩
    have v4 : g4 172 = setS V p 1 0 := by rw [e4, e3]; exact upd_set v1
    obtain ⟨a0, -⟩ := ofP_all v4 p0 (show p < 6 by omega)
    have el : zL (setS V p 1 0) p = zL V p := setS_ne (by omega) (by omega)
    rw [a0.1, el]
    exact ⟨a0.2, actM kk (by unfold s_begin; rw [if_pos ⟨p0, p1⟩, if_pos z]) r v4 (by rw [e4, e3]; exact fup.tr fup)⟩
  · rw [w1]
    exact ⟨fun c => absurd c (by decide), fun _ => aM_th kk (by unfold s_begin; rw [if_pos ⟨p0, p1⟩, if_neg z]) (by decide)⟩
theorem m_stop (hv : g 172 = V) (hV : WF V) (hW : okLaw V) (n0 : 0 ≤ g 171 7) (n1 : g 171 7 ≤ 12) (hp : wr p = p) (hk : wr k = k) (kk : aM g (s_stop V p k) (brkV V p k) K) : Ct Γ l (d + 10) b yX12_stop mX12_stop [vR 171, vI p, vI k] (stt g) K := by
  have h6 := hV.1.1
  have v0 := th_v (c := 0) hv
  apply wpX12_stop
  rw [pcond hV v0 hp, hk]
  refine ⟨fun z => aM_th kk (by unfold s_stop; rw [if_neg z]) (by decide), fun z => ?_⟩
  obtain ⟨p0, p1⟩ := Decidable.not_not.mp z
  have hq := hV.pn p0 (show p < 6 by omega)
  obtain ⟨a0, a1, a2, a3, a4⟩ := ofP_all v0 p0 (show p < 6 by omega)
  rw [a3.1, wr_id (x := zS V p) (by omega) (by omega)]
  refine ⟨fun zk => ⟨a3.2, fun zs => m_rem0 rfl n0 n1 fun g1 r => bV_in (m_inOrder fun g2 i2 o2 => bV_in ?_), fun zs => aM_th kk (by unfold s_stop; rw [if_pos ⟨p0, p1⟩, if_pos zk, if_neg zs]) (by decide)⟩, fun zk => aM_th kk (by unfold s_stop; rw [if_pos ⟨p0, p1⟩, if_neg zk]) (by decide)⟩
  have v1 : g1 172 = V := r.2.2.trans hv
  have v2 : g2 172 = V := by rw [← v1]; exact funext fun j => o2 _ _ (by decide)
  refine m_isBroken v2 hV hW i2 p0 (by omega) zk.1 zk.2 fun g3 v3 _ o3 => bI_in ?_
  exact actM kk (by unfold s_stop; rw [if_pos ⟨p0, p1⟩, if_pos zk, if_pos zs]) r v3 ((f180 o2).tr o3.f)
theorem m_finish (hv : g 172 = V) (hV : WF V) (hW : okLaw V) (n0 : 0 ≤ g 171 7) (n1 : g 171 7 ≤ 12) (hp : wr p = p) (kk : aM g (s_finish V p) (heldT V p (zL V p) 5) K) : Ct Γ l (d + 8) b yX12_finish mX12_finish [vR 171, vI p] (stt g) K := by
  have h6 := hV.1.1
  have w1 : wr 1 = 1 := by decide +kernel
  apply wpX12_finish
  refine m_isNot hv hV hp (by decide) (by decide) (fun z => bI_in ?_) (fun p0 p1 z => bI_in ?_) (fun p0 p1 z => bI_in ?_)
  · rw [w1]
    exact ⟨fun c => absurd c (by decide), fun _ => aM_th kk (by unfold s_finish; rw [if_neg z]) (by decide)⟩
  · rw [wr_0]
    refine ⟨fun _ => m_rem0 rfl n0 n1 fun g1 r => bV_in (m_inOrder fun g2 i2 o2 => bV_in ?_), fun c => absurd rfl c⟩
    have v1 : g1 172 = V := r.2.2.trans hv
    have v2 : g2 172 = V := by rw [← v1]; exact funext fun j => o2 _ _ (by decide)
    have hq := hV.pn p0 (show p < 6 by omega)
    obtain ⟨a0, -⟩ := ofP_all v2 p0 (show p < 6 by omega)
    rw [a0.1]
    refine ⟨a0.2, m_isHeld v2 hV hW i2 p0 (by omega) hq.1.1 (Int.le_refl _) fun g3 v3 _ rs o3 => bV_in ?_⟩
    have w3 := hV.hld (how := 5) p0 (show p < 6 by omega) hq.1.1 (Int.le_refl _)
    have W3 : okLaw (heldT V p (zL V p) 5) := hW.cg (heldT_ne (by omega) (by omega) (by decide) (by decide)) (fun j hj => heldT_ne (by omega) (by omega) (by omega) (by omega))
    have ws := hV.set (s := 2) p0 (show p < 6 by omega) (by decide) (by decide) hq.1.1 (Int.le_refl _)
    have Ws : okLaw (setS V p 2 (zL V p)) := hW.cg (setS_ne (by omega) (by omega)) (fun j hj => setS_ne (by omega) (by omega))
    have el : zL (heldT V p (zL V p) 5) p = zL V p := heldT_ne (by omega) (by omega) (by omega) (by omega)
    have els : zL (setS V p 2 (zL V p)) p = zL V p := setS_ne (by omega) (by omega)
    have rc := rd_cg ws Ws (zNote_same (w := 5) (m := zL V p) (x := wV (setS V p 2 (zL V p)) (setS V p 2 (zL V p)) p (zL V p)) (p := p) p p0 (by omega)) p0 (by omega) hq.1.1 (by rw [els]; exact Int.le_refl _)
    have rc1 : rdV (heldT V p (zL V p) 5) p (zL V p) = rdV (setS V p 2 (zL V p)) p (zL V p) := rc.1
    have rc2 : wV (heldT V p (zL V p) 5) (heldT V p (zL V p) 5) p (zL V p) = wV (setS V p 2 (zL V p)) (setS V p 2 (zL V p)) p (zL V p) := rc.2.1
    rw [← rc1] at rs
    refine m_weighs rs v3 w3 W3 (w3.okR p0 (by omega) hq.1.1 (by rw [el]; exact Int.le_refl _)) p0 (by omega) hq.1.1 (by omega) fun g4 o4 _ => bI_in ?_
    have ew : wgS (heldT V p (zL V p) 5) (rdV (heldT V p (zL V p) 5) p (zL V p)) (fcS p (rdV (heldT V p (zL V p) 5) p (zL V p)) (zL V p) (whB (heldT V p (zL V p) 5) p (zL V p))) = wV (setS V p 2 (zL V p)) (setS V p 2 (zL V p)) p (zL V p) := by
      rw [← rc2]; rfl
    rw [ew]
    exact actM kk (by unfold s_finish; rw [if_pos ⟨p0, p1⟩, if_pos z]) r (o4.v.trans v3) (((f180 o2).tr o3.f).tr o4.f)
  · rw [w1]
    exact ⟨fun c => absurd c (by decide), fun _ => aM_th kk (by unfold s_finish; rw [if_pos ⟨p0, p1⟩, if_neg z]) (by decide)⟩
theorem m_retract (hv : g 172 = V) (hV : WF V) (hW : okLaw V) (n0 : 0 ≤ g 171 7) (n1 : g 171 7 ≤ 12) (hp : wr p = p) (kk : aM g (s_retract V p) (v_retract V p) K) : Ct Γ l (d + 7) b yX12_retract mX12_retract [vR 171, vI p] (stt g) K := by
  have h6 := hV.1.1
  have w1 : wr 1 = 1 := by decide +kernel
  apply wpX12_retract
  refine m_isNot hv hV hp (by decide) (by decide) (fun z => bI_in ?_) (fun p0 p1 z => bI_in ?_) (fun p0 p1 z => bI_in ?_)
  · rw [w1]
    exact ⟨fun c => absurd c (by decide), fun _ => aM_th kk (by unfold s_retract; rw [if_neg z]) (by decide)⟩
  · rw [wr_0]
    refine ⟨fun _ => m_rem0 rfl n0 n1 fun g1 r => bV_in (m_inOrder fun g2 i2 o2 => bV_in ?_), fun c => absurd rfl c⟩
    have v1 : g1 172 = V := r.2.2.trans hv
    have v2 : g2 172 = V := by rw [← v1]; exact funext fun j => o2 _ _ (by decide)
    have hq := hV.pn p0 (show p < 6 by omega)
    obtain ⟨a0, a1, a2, a3, a4⟩ := ofP_all v2 p0 (show p < 6 by omega)
    rw [a4.1]
    refine ⟨a4.2, m_weightAt v2 hV hW i2 p0 (by omega) hq.2.2.2.2.1.1 hq.2.2.2.2.1.2 fun g3 _ o3 => bI_in ?_⟩
    refine m_isTold (o3.v.trans v2) hV fun g4 v4 o4 => bV_in ?_
    rw [wr_id (x := 12 + 29 * p + 3) (by omega) (by omega), wr_id (x := 12 + 29 * p + 4) (by omega) (by omega)]
    refine ⟨by omega, fun g6 e6 => ⟨by omega, fun g7 e7 => ?_⟩⟩
    have v7 : g7 172 = v_retract V p := by rw [e7, e6]; exact upd_set v4
    exact actM kk (by unfold s_retract; rw [if_pos ⟨p0, p1⟩, if_pos z]) r v7 ((((f180 o2).tr o3.f).tr (f172 o4)).tr (by rw [e7, e6]; exact fup.tr fup))
  · rw [w1]
    exact ⟨fun c => absurd c (by decide), fun _ => aM_th kk (by unfold s_retract; rw [if_pos ⟨p0, p1⟩, if_neg z]) (by decide)⟩
theorem m_isNow {i v : Int} (n0 : 0 ≤ g 171 7) (n1 : g 171 7 ≤ 12) (i0 : 0 ≤ i) (i1 : i < 2184) (kk : ∀ g1, RM0 g g1 → K (.inl (vI (g 172 i))) (stt (upd2 g1 172 i v))) : Ct Γ l (d + 1) b yX12_isNow mX12_isNow [vR 171, vI i, vI v] (stt (upd2 g 171 0 0)) K := by
  apply wpX12_isNow
  refine m_rem0 rfl n0 n1 fun g1 r => bV_in ?_
  rw [wr_id (x := i) (by omega) (by omega), r.2.2]
  exact ⟨⟨i0, i1⟩, ⟨i0, i1⟩, kk g1 r⟩
theorem m_guard (hv : g 172 = V) (hV : WF V) (n0 : 0 ≤ g 171 7) (n1 : g 171 7 ≤ 12) (hp : wr p = p) (hn : wr n = n) (kk : aM g (s_guard V p n) (upV V (12 + 29 * p + 2) n) K) : Ct Γ l (d + 3) b yX12_guard mX12_guard [vR 171, vI p, vI n] (stt g) K := by
  have h6 := hV.1.1
  have v0 := th_v (c := 0) hv
  apply wpX12_guard
  rw [pcond hV v0 hp, hn]
  refine ⟨fun z => aM_th kk (by unfold s_guard; rw [if_neg z]) (by decide), fun z => ?_⟩
  obtain ⟨p0, p1⟩ := Decidable.not_not.mp z
  refine ⟨fun zn => m_isNow n0 n1 (by omega) (by omega) fun g1 r => bI_in ?_, fun zn => aM_th kk (by unfold s_guard; rw [if_pos ⟨p0, p1⟩, if_neg zn]) (by decide)⟩
  rw [hv]
  exact actM kk (by unfold s_guard; rw [if_pos ⟨p0, p1⟩, if_pos zn]; rfl) r (by rw [upd_v, r.2.2, hv]) fup
theorem m_noise (hv : g 172 = V) (n0 : 0 ≤ g 171 7) (n1 : g 171 7 ≤ 12) (hn : wr n = n) (kk : aM g (s_noise V n) (upV V 3 n) K) : Ct Γ l (d + 2) b yX12_noise mX12_noise [vR 171, vI n] (stt g) K := by
  apply wpX12_noise
  rw [hn]
  refine ⟨fun zn => m_isNow n0 n1 (by decide) (by decide) fun g1 r => bI_in ?_, fun zn => aM_th kk (by unfold s_noise; rw [if_neg zn]) (by decide)⟩
  rw [hv]
  exact actM kk (by unfold s_noise; rw [if_pos zn]) r (by rw [upd_v, r.2.2, hv]) fup
theorem m_turn (hv : g 172 = V) (n0 : 0 ≤ g 171 7) (n1 : g 171 7 ≤ 12) (hp : wr p = p) (hn : wr n = n) (kk : aM g (s_turn V p n) (upV V (8 + p) n) K) : Ct Γ l (d + 2) b yX12_turn mX12_turn [vR 171, vI p, vI n] (stt g) K := by
  apply wpX12_turn
  rw [hp, hn]
  refine ⟨fun zp => ⟨fun zn => m_isNow n0 n1 (by omega) (by omega) fun g1 r => bI_in ?_, fun zn => aM_th kk (by unfold s_turn; rw [if_pos (by omega), if_neg zn]) (by decide)⟩, fun zp => aM_th kk (by unfold s_turn; rw [if_neg (by omega)]) (by decide)⟩
  rw [hv]
  exact actM kk (by unfold s_turn; rw [if_pos (by omega), if_pos zn]) r (by rw [upd_v, r.2.2, hv]) fup
theorem m_repeat (hv : g 172 = V) (hV : WF V) (n0 : 0 ≤ g 171 7) (n1 : g 171 7 ≤ 12) (hp : wr p = p) (hq : wr q = q) (kk : aM g (s_repeat V p q) (cpO V p q) K) : Ct Γ l (d + 3) b yX12_repeat mX12_repeat [vR 171, vI p, vI q] (stt g) K := by
  have h6 := hV.1.1
  have v0 := th_v (c := 0) hv
  apply wpX12_repeat
  rw [pcond hV v0 hp, pcond hV v0 hq, hp, hq]
  refine ⟨fun z => aM_th kk (by unfold s_repeat; rw [if_neg (fun c => z c.1)]) (by decide), fun z => ⟨fun zq => aM_th kk (by unfold s_repeat; rw [if_neg (fun c => zq c.2)]) (by decide), fun zq => ?_⟩⟩
  obtain ⟨p0, p1⟩ := Decidable.not_not.mp z
  obtain ⟨q0, q1⟩ := Decidable.not_not.mp zq
  have hpn := hV.pn p0 (show p < 6 by omega)
  obtain ⟨a0, a1, a2, a3, a4⟩ := ofP_all v0 p0 (show p < 6 by omega)
  rw [a3.1, wr_id (x := zS V p) (by omega) (by omega)]
  refine ⟨fun ne => ⟨a3.2, fun zs => m_rem0 rfl n0 n1 fun g1 r => bV_in ?_, fun zs => aM_th kk (by unfold s_repeat; rw [if_pos ⟨⟨p0, p1⟩, q0, q1⟩, if_neg ne, if_neg zs]) (by decide)⟩, fun ne => aM_th kk (by unfold s_repeat; rw [if_pos ⟨⟨p0, p1⟩, q0, q1⟩, if_pos (Decidable.not_not.mp ne)]) (by decide)⟩
  have v1 : g1 172 = V := r.2.2.trans hv
  obtain ⟨b0, -⟩ := ofP_all v1 q0 (show q < 6 by omega)
  rw [b0.1, wr_id (x := 12 + 29 * p + 0) (by omega) (by omega)]
  refine ⟨b0.2, by omega, fun g2 e2 => ?_⟩
  have apart : p + 1 ≤ q ∨ q + 1 ≤ p := by omega
  refine up_loop (P := fun i => ∀ g3, fM g1 g3 → (∀ j, g3 172 j = if j = 12 + 29 * p + 0 then zL V q else if 12 + 29 * p + 5 ≤ j ∧ j < 12 + 29 * p + 5 + (i : Int) then V (j - 29 * p + 29 * q) else V j) → AW Γ l mX12_repeat (d + 3) b 98 [vR 171, vI p, vI q, vI (5 + (i : Int))] [] (stt g3) K) (N := 24) (fun g3 f3 v3 => ?_) (fun i hi9 hi g3 f3 v3 => ?_) 0 (Nat.zero_le _) g2 (by rw [e2]; exact fup) (fun j => ?_)
  · have v3' : g3 172 = cpO V p q := funext fun j => by
      rw [v3]
      unfold cpO upV cpW
      rfl
    obtain ⟨c0, -⟩ := ofP_all v3' p0 (show p < 6 by omega)
    have el : zL (cpO V p q) p = zL V q := by unfold zL cpO; rw [upV_eq]; rfl
    apply wpX12_repeat_98
    rw [c0.1, el]
    exact ⟨fun _ => ⟨c0.2, actM kk (by unfold s_repeat; rw [if_pos ⟨⟨p0, p1⟩, q0, q1⟩, if_neg ne, if_pos zs]) r v3' f3⟩, fun c => absurd (show 29 ≤ wr (5 + ((24 : Nat) : Int)) by decide +kernel) c⟩
  · have eo : ofP g3 q (5 + (i : Int)) = V (12 + 29 * q + (5 + (i : Int))) := by
      unfold ofP
      rw [wr_id (x := 12 + 29 * q + (5 + (i : Int))) (by omega) (by omega), v3, if_neg (by omega), if_neg (by omega)]
    rw [show (5 : Int) + ((i + 1 : Nat) : Int) = 5 + (i : Int) + 1 by omega] at hi
    apply wpX12_repeat_98
    rw [eo, wr_id (x := 5 + (i : Int)) (by omega) (by omega), wr_id (x := 12 + 29 * p + (5 + (i : Int))) (by omega) (by omega)]
    refine ⟨fun c => absurd c (by omega), fun _ => ⟨by unfold okP; rw [wr_id (x := 12 + 29 * q + (5 + (i : Int))) (by omega) (by omega)]; omega, by omega, fun g4 e4 => hi g4 (by rw [e4]; exact f3.tr fup) (fun j => ?_)⟩⟩
    rw [e4]
    by_cases x : j = 12 + 29 * p + (5 + (i : Int))
    · rw [x, upd2_eq, if_neg (by omega), if_pos (by omega), show 12 + 29 * p + (5 + (i : Int)) - 29 * p + 29 * q = 12 + 29 * q + (5 + (i : Int)) by omega]
    · rw [upd2_nj x, v3]
      by_cases y : j = 12 + 29 * p + 0
      · rw [if_pos y, if_pos y]
      · rw [if_neg y, if_neg y]
        by_cases w : 12 + 29 * p + 5 ≤ j ∧ j < 12 + 29 * p + 5 + (i : Int)
        · rw [if_pos w, if_pos (by omega)]
        · rw [if_neg w, if_neg (by omega)]
  · rw [e2]
    by_cases x : j = 12 + 29 * p + 0
    · rw [x, upd2_eq, if_pos rfl]
    · rw [upd2_nj x, if_neg x, if_neg (by omega), v1]
theorem m_hours (hv : g 172 = V) (hV : WF V) (hW : okLaw V) (n0 : 0 ≤ g 171 7) (n1 : g 171 7 ≤ 12) (hn : wr n = n) (kk : aM g (s_hours V n) (psS V n.toNat).1 K) : Ct Γ l (d + 13) b yX12_hours mX12_hours [vR 171, vI n] (stt g) K := by
  apply wpX12_hours
  rw [hn]
  refine ⟨fun zn => m_rem0 rfl n0 n1 fun g1 r => bV_in (m_inOrder fun g2 i2 o2 => bV_in ?_), fun zn => aM_th kk (by unfold s_hours; rw [if_neg zn]) (by decide)⟩
  have v1 : g1 172 = V := r.2.2.trans hv
  have v2 : g2 172 = V := by rw [← v1]; exact funext fun j => o2 _ _ (by decide)
  obtain ⟨i, rfl⟩ : ∃ i : Nat, n = i := ⟨n.toNat, by omega⟩
  rw [Int.toNat_natCast] at kk
  refine m_goesOn (n := i) (by omega) v2 hV hW i2 fun g3 v3 _ _ o3 => bI_in ?_
  exact actM kk (by unfold s_hours; rw [if_pos zn, Int.toNat_natCast]) r v3 ((f180 o2).tr o3.f)
end MA2
