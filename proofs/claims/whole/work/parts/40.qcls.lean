/-! PUBLIC CALLS: what they answer (code of what is thrown, 0: nothing; value); the class's side of those that only ask -/
def exn (L : List String) (c : Int) : String := L.getD (c - 1).toNat ""
def oc (L : List String) (s : Int × Int) : Ou := if s.1 = 0 then .inl (vI s.2) else .inr (exn L s.1)
theorem oc_ok {L : List String} {s : Int × Int} {v : Int} {K : Ou → HP → Prop} {h : HP} (k : K (oc L s) h) (e : s = (0, v)) : K (.inl (vI v)) h := by
  subst e
  exact k
theorem oc_th {L : List String} {s : Int × Int} {c : Int} {E : String} {K : Ou → HP → Prop} {h : HP} (k : K (oc L s) h) (e : s = (c, 0)) (hc : c ≠ 0) (hE : exn L c = E) : K (.inr E) h := by
  subst e
  unfold oc at k
  rw [if_neg hc, hE] at k
  exact k
/-- what a call that only asks leaves as it was, in the class -/
def cS (a j : Int) : Prop := 171 ≤ a ∨ (8 ≤ a ∧ a ≤ 16) ∨ (26 ≤ a ∧ a ≤ 34) ∨ (a = 35 ∧ j < 5) ∨ a = 36 ∨ (a = 41 ∧ j < 5) ∨ a = 42 ∨ (45 ≤ a ∧ a ≤ 152) ∨ (a = 1 ∧ 14 ≤ j ∧ j ≤ 17) ∨ (a = 2 ∧ j = 1) ∨ a = 3
def kC (g g' : GG) : Prop := ∀ a j, cS a j → g' a j = g a j
theorem kC.rf {g : GG} : kC g g := fun _ _ _ => rfl
theorem kC.tr {g g1 g2 : GG} (h : kC g g1) (h2 : kC g1 g2) : kC g g2 := fun a j hs => by rw [h2 a j hs, h a j hs]
theorem onlyS.c {g g' : GG} (h : onlyS g g') : kC g g' := fun a j hs => h a j (by unfold sW cW; unfold cS at hs; omega)
theorem onlyT.c {g g' : GG} {t : Int} (h : onlyT g g' t) (ht : t = 17) : kC g g' := fun a j hs => h a j (by unfold sW cW; unfold cS at hs; omega) (by unfold cS at hs; omega)
theorem CS.kc {g g' : GG} {V W : VV} (h : CS g V W) (e : kC g g') : CS g' V W :=
  ⟨h.1.fr fun a j a0 a1 => e a j (by unfold cS; omega), h.2.1, h.2.2.1.fr (fun j hj => e _ _ (by unfold cS; omega)) (fun j => e _ _ (by unfold cS; omega)), h.2.2.2⟩
def isP (V : VV) (p : Int) : Prop := 0 ≤ p ∧ p < V 0
def s_person (V : VV) (p w : Int) : Int × Int :=
  if 0 ≤ p ∧ p < V 0 then
    if w = 0 then (0, zL V p) else if w = 1 then (0, zB V p) else if w = 2 then (0, zG V p) else if w = 3 then (0, zS V p) else if w = 4 then (0, zC V p)
    else if w = 5 then (0, wstS V V p) else if w = 6 then (0, bstS V V p) else if w = 7 then (0, wV V V p (wstS V V p)) else if w = 8 then (0, needS V p)
    else if w = 9 then (0, goS V p) else if w = 10 then (0, shS V V p) else (2, 0)
  else (1, 0)
def s_word (V : VV) (p k n : Int) : Int × Int := if 0 ≤ p ∧ p < V 0 then (0, if 0 ≤ k ∧ k < zL V p then (if n = 0 then zK V p k else zN V p k) else -1) else (1, 0)
def s_reading (V : VV) (p k w : Int) : Int × Int := if 0 ≤ p ∧ p < V 0 then (if 0 ≤ k ∧ k ≤ zL V p then (if 0 ≤ w ∧ w ≤ 7 then (0, tdS V V p k w) else (3, 0)) else (2, 0)) else (1, 0)
def s_hold (V : VV) (p w : Int) : Int × Int := if 0 ≤ p ∧ p < V 0 then (if 0 ≤ w ∧ w ≤ 7 then (0, tdS V V p (hcS V p) w) else (2, 0)) else (1, 0)
def s_mode (V : VV) (i : Int) : Int × Int := if 0 ≤ i ∧ i < 4 then (0, V (8 + i)) else (1, 0)
/-- the first of some numbers that is so -/
def lsr (P : Int → Bool) (i : Nat) : Nat → Int
  | 0 => -1
  | n + 1 => if P i = true then i else lsr P (i + 1) n
def okG (V : VV) (p q gd : Int) : Bool := decide (100 * q ≤ fd (fun o _ => obS V o gd) 10000 (needS V p).toNat)
def s_fence (V : VV) (p q : Int) : Int × Int := if 0 ≤ p ∧ p < V 0 then (if 0 ≤ q ∧ q ≤ 100 then (0, lsr (okG V p q) 0 10) else (2, 0)) else (1, 0)
def od1 (V : VV) (o : Int) : Int := fd (fun o p => if zS V p = 1 then obS V o (zG V p) else o) o (V 0).toNat
def s_odds (V : VV) (n : Int) : Int × Int := if 0 ≤ n ∧ n ≤ 4 then (0, fd (fun o _ => od1 V o) 10000 n.toNat) else (1, 0)
def amS (V : VV) (w p : Int) : Int := if w = 0 then zL V p else if w = 1 then hwS V V p else zG V p
def moS (V : VV) (w : Int) (n : Nat) : Int := fd (fun b p => if b = -1 then p else if amS V w b < amS V w p then p else b) (-1) n
def s_most (V : VV) (w : Int) : Int × Int := if 0 ≤ w ∧ w ≤ 2 then (0, moS V w (V 0).toNat) else (1, 0)
def s_which (V : VV) (w : Int) : Int × Int := if 0 ≤ w ∧ w ≤ 2 then (0, btS V w) else (1, 0)
def s_log (V : VV) (i w : Int) : Int × Int := if 0 ≤ w ∧ w ≤ 4 then (0, if 0 ≤ i ∧ i < V 6 then V (186 + 5 * i + w) else -1) else (1, 0)
/-- rows of the log that are one's, and the latest's hour, from the oldest row on -/
def ledS (V : VV) (p : Int) (n : Nat) : Int × Int := fd (fun s i => if wr (V (186 + 5 * (V 6 - 1 - i) + 1)) = p then (s.1 + 1, V (186 + 5 * (V 6 - 1 - i))) else s) (0, -1) n
def s_led (V : VV) (p n : Int) : Int × Int := if 0 ≤ p ∧ p < V 0 then (0, if n = 0 then (ledS V p (V 6).toNat).1 else (ledS V p (V 6).toNat).2) else (1, 0)
def smS (V : VV) (c : Int) : Int := fd (fun s p => s + V (12 + 29 * p + c)) 0 (V 0).toNat
def c_count (V : VV) (n w : Int) : Int := if w = 0 then V 0 else if w = 1 then V 1 else if w = 2 then (if V 2 = 1 then V 486 else -1) else if w = 3 then V 3 else if w = 4 then V 4 else if w = 5 then V 5 else if w = 6 then smS V 0 else if w = 7 then smS V 2 else if w = 8 then V 6 else if w = 9 then n else -1
def rsS (V : VV) (p : Int) : Int := if 2 ≤ wV V V p (wstS V V p) then (if wV V V p (zL V p) ≤ 1 then 9 else 1) else (if wV V V p (zL V p) ≤ 1 then 8 else 0)
def s_rests (V : VV) (p : Int) : Int × Int := if 0 ≤ p ∧ p < V 0 then (0, rsS V p) else (1, 0)
theorem lsr_cut {P : Int → Bool} : ∀ {n i k : Nat}, i + k = n → (∀ j : Nat, j < i → P j = false) → lsr P 0 n = lsr P i k := by
  intro n i
  induction i generalizing n with
  | zero =>
    intro k e _
    rw [← e, Nat.zero_add]
  | succ i ih =>
    intro k e h
    have := ih (n := n) (k := k + 1) (by omega) (fun j hj => h j (by omega))
    rw [this]
    show (if P i = true then (i : Int) else lsr P (i + 1) k) = _
    rw [if_neg (by rw [h i (by omega)]; decide)]
theorem wst_in {V W : VV} (hV : WF V) {p : Int} (p0 : 0 ≤ p) (p1 : p < V 0) : 1 ≤ wstS V W p ∧ wstS V W p ≤ zL V p := by
  have h6 := hV.1.1
  have hp := hV.pn p0 (show p < 6 by omega)
  have hl := (hp.2.2.2.2.2 p1).1
  have := wst_rng V W p (zL V p - 1).toNat
  unfold wstS
  omega
theorem bst_in {V W : VV} (hV : WF V) {p : Int} (p0 : 0 ≤ p) (p1 : p < V 0) : 1 ≤ bstS V W p ∧ bstS V W p ≤ zL V p := by
  have h6 := hV.1.1
  have hp := hV.pn p0 (show p < 6 by omega)
  have hl := (hp.2.2.2.2.2 p1).1
  have := bst_rng V W p (zL V p - 1).toNat
  unfold bstS
  omega
theorem need_rng {V : VV} (hV : WF V) {p : Int} (p0 : 0 ≤ p) (p1 : p < V 0) : 0 ≤ needS V p ∧ needS V p ≤ 30 := by
  have h6 := hV.1.1
  have hp := hV.pn p0 (show p < 6 by omega)
  have hb := hp.2.2.2.2.2 p1
  unfold needS
  have e1 : 0 ≤ (zL V p + zB V p - 1) / zB V p := Int.ediv_nonneg (by omega) (by omega)
  have e2 : (zL V p + zB V p - 1) / zB V p ≤ zL V p + zB V p - 1 := Int.ediv_le_self _ (by omega)
  omega
theorem obs_fd {V : VV} (hV : WF V) {gd : Int} (b0 : 0 ≤ gd) (b1 : gd ≤ 9) : ∀ n : Nat, 0 ≤ fd (fun o _ => obS V o gd) 10000 n ∧ fd (fun o _ => obS V o gd) 10000 n ≤ 10000 :=
  fd_ind (P := fun _ x => 0 ≤ x ∧ x ≤ 10000) (by omega) fun n x h => obS_rng hV h.1 h.2 b0 b1
section QC
variable {Γ : Cfg} {l : Launch} {d b : Nat} {g : GG} {K : Ou → HP → Prop} {V : VV} {p q n w k : Int}
theorem k_person (h : CS g V V) (hb : 2 ≤ b) (hp : wr p = p) (hw : wr w = w) (kk : ∀ g', kC g g' → K (oc [eIO, eNS] (s_person V p w)) (stt g')) : Ct Γ l (d + 6) b yX11_person mX11_person [vR 1, vI p, vI w] (stt g) K := by
  have h6 := h.2.1.1.1
  unfold s_person at kk
  apply wpX11_person hb
  rw [hw]
  refine k_needPerson h (by decide) hp (fun p0 p1 => bV_in ?_) (fun z => bV_th ?_)
  · rw [if_pos ⟨p0, p1⟩] at kk
    refine ⟨fun z => ?_, fun z => ?_, fun z => ?_, fun z => ?_, fun z => ?_, fun z => ?_, fun z => ?_, fun z => ?_, fun z => ?_, fun z => ?_, fun z => ?_, fun z => ?_⟩
    · subst z; rw [h.n10 p0 (by omega)]; exact kk g kC.rf
    · subst z; rw [h.n11 p0 (by omega)]; exact kk g kC.rf
    · subst z; rw [h.n12 p0 (by omega)]; exact kk g kC.rf
    · subst z; rw [h.n13 p0 (by omega)]; exact kk g kC.rf
    · subst z; rw [h.n14 p0 (by omega)]; exact kk g kC.rf
    · subst z; exact k_worst h p0 p1 fun g' o => bI_in (kk g' o.c)
    · subst z; exact k_best h p0 p1 fun g' o => bI_in (kk g' o.c)
    · subst z
      have hr := wst_in (W := V) h.2.1 p0 p1
      exact k_worst h p0 p1 fun g' o => bI_in (k_w8 (h.os o) p0 p1 (by omega) hr.2 fun g2 _ o2 => bI_in (kk g2 (o.c.tr o2.c)))
    · subst z; exact k_hoursNeed h.1 h.2.1 p0 p1 (bI_in (kk g kC.rf))
    · subst z; exact k_goingOf h p0 p1 (bI_in (kk g kC.rf))
    · subst z; exact k_shareOf h p0 p1 fun g' o => bI_in (kk g' o.c)
    · rw [if_neg (by omega), if_neg (by omega), if_neg (by omega), if_neg (by omega), if_neg (by omega), if_neg (by omega), if_neg (by omega), if_neg (by omega), if_neg (by omega), if_neg (by omega), if_neg (by omega)] at kk
      exact kk g kC.rf
  · rw [if_neg z] at kk
    exact kk g kC.rf
theorem k_word (h : CS g V V) (hb : 1 ≤ b) (hp : wr p = p) (hk : wr k = k) (hn : wr n = n) (kk : ∀ g', kC g g' → K (oc [eIO] (s_word V p k n)) (stt g')) : Ct Γ l (d + 2) b yX11_word mX11_word [vR 1, vI p, vI k, vI n] (stt g) K := by
  have h6 := h.2.1.1.1
  have kk := kk g kC.rf
  unfold s_word at kk
  apply wpX11_word hb
  rw [hk, hn]
  refine k_needPerson h (by decide) hp (fun p0 p1 => bV_in ?_) (fun z => bV_th ?_)
  · have hq := h.2.1.pn p0 (show p < 6 by omega)
    rw [if_pos ⟨p0, p1⟩] at kk
    rw [h.n10 p0 (by omega), wr_id (x := zL V p) (by omega) (by omega)]
    refine ⟨fun z => ?_, fun z => ⟨fun z2 => ?_, fun z2 => ?_⟩⟩
    · rw [if_neg (by omega)] at kk; exact kk
    · have hkn := h.2.1.kn p0 (show p < 6 by omega) (k := k) (by omega) (by omega)
      rw [if_pos ⟨by omega, z2⟩] at kk
      rw [h.n9 p0 (by omega) (by omega) (by omega), iDiv_nn (by omega) (by omega) (by decide) (by decide), iRem_nn (by omega) (by omega) (by decide) (by decide)]
      refine ⟨fun z3 => ?_, fun z3 => ?_⟩
      · rw [if_pos z3] at kk
        rw [show (10 * zK V p k + zN V p k) / 10 = zK V p k by omega]; exact kk
      · rw [if_neg z3] at kk
        rw [show (10 * zK V p k + zN V p k) % 10 = zN V p k by omega]; exact kk
    · rw [if_neg (by omega)] at kk; exact kk
  · rw [if_neg z] at kk
    exact kk
theorem k_toldOf {c : Int} (h : CS g V V) (hb : 1 ≤ b) (hw : wr w = w) (p0 : 0 ≤ p) (p1 : p < V 0) (c0 : 0 ≤ c) (c1 : c ≤ zL V p) (k1 : 0 ≤ w ∧ w ≤ 7 → ∀ g', kC g g' → K (.inl (vI (tdS V V p c w))) (stt g')) (k2 : ¬ (0 ≤ w ∧ w ≤ 7) → K (.inr eNS) (stt g)) : Ct Γ l (d + 4) b yX11_toldOf mX11_toldOf [vR 1, vI p, vI c, vI w] (stt g) K := by
  have l156 : ln 156 = 8 := by decide +kernel
  apply wpX11_toldOf hb
  rw [hw]
  refine ⟨fun z => k2 (by omega), fun z => ⟨fun z2 => k_w8 h p0 p1 c0 c1 fun g' t o => bI_in ?_, fun z2 => k2 (by omega)⟩⟩
  have := k1 (by omega) g' o.c
  rw [cel_in (by omega) (by rw [l156]; omega)]
  unfold tdS at this
  obtain ⟨t1, t2, t3⟩ := t
  by_cases e6 : w = 6
  · rw [if_pos e6] at this; rw [e6, t2]; exact this
  · rw [if_neg e6] at this
    by_cases e7 : w = 7
    · rw [if_pos e7] at this; rw [e7, t3]; exact this
    · rw [if_neg e7] at this; rw [t1 w (by omega) (by omega)]; exact this
theorem k_reading (h : CS g V V) (hb : 3 ≤ b) (hp : wr p = p) (hk : wr k = k) (hw : wr w = w) (kk : ∀ g', kC g g' → K (oc [eIO, eIA, eNS] (s_reading V p k w)) (stt g')) : Ct Γ l (d + 5) b yX11_reading mX11_reading [vR 1, vI p, vI k, vI w] (stt g) K := by
  have h6 := h.2.1.1.1
  unfold s_reading at kk
  apply wpX11_reading hb
  rw [hk]
  refine k_needPerson h (by decide) hp (fun p0 p1 => bV_in ?_) (fun z => bV_th ?_)
  · have hq := h.2.1.pn p0 (show p < 6 by omega)
    rw [if_pos ⟨p0, p1⟩] at kk
    rw [h.n10 p0 (by omega), wr_id (x := zL V p) (by omega) (by omega)]
    refine ⟨fun z => ?_, fun z => ⟨fun z2 => ?_, fun z2 => ?_⟩⟩
    · rw [if_neg (by omega)] at kk; exact kk g kC.rf
    · rw [if_pos ⟨by omega, z2⟩] at kk
      refine k_toldOf h (by decide) hw p0 p1 (by omega) z2 (fun z3 g' o => bI_in ?_) (fun z3 => bI_th ?_)
      · rw [if_pos z3] at kk; exact kk g' o
      · rw [if_neg z3] at kk; exact kk g kC.rf
    · rw [if_neg (by omega)] at kk; exact kk g kC.rf
  · rw [if_neg z] at kk
    exact kk g kC.rf
theorem k_hold (h : CS g V V) (hb : 2 ≤ b) (hp : wr p = p) (hw : wr w = w) (kk : ∀ g', kC g g' → K (oc [eIO, eNS] (s_hold V p w)) (stt g')) : Ct Γ l (d + 5) b yX11_hold mX11_hold [vR 1, vI p, vI w] (stt g) K := by
  have h6 := h.2.1.1.1
  unfold s_hold at kk
  apply wpX11_hold hb
  refine k_needPerson h (by decide) hp (fun p0 p1 => bV_in ?_) (fun z => bV_th ?_)
  · have hc := hcS_rng h.2.1 p0 (show p < 6 by omega)
    rw [if_pos ⟨p0, p1⟩] at kk
    refine k_heldCount h.1 h.2.1 p0 (by omega) (bI_in ?_)
    refine k_toldOf h (by decide) hw p0 p1 hc.1 hc.2 (fun z3 g' o => bI_in ?_) (fun z3 => bI_th ?_)
    · rw [if_pos z3] at kk; exact kk g' o
    · rw [if_neg z3] at kk; exact kk g kC.rf
  · rw [if_neg z] at kk
    exact kk g kC.rf
theorem k_mode (h : CS g V V) (hb : 1 ≤ b) (hp : wr p = p) (kk : ∀ g', kC g g' → K (oc [eIO] (s_mode V p)) (stt g')) : Ct Γ l (d + 1) b yX11_mode mX11_mode [vR 1, vI p] (stt g) K := by
  have kk := kk g kC.rf
  unfold s_mode at kk
  apply wpX11_mode hb
  refine k_needDistance (by decide) hp (fun p0 p1 => bV_in ?_) (fun z => bV_th ?_)
  · rw [if_pos ⟨p0, p1⟩] at kk
    rw [h.n15 p0 p1]; exact kk
  · rw [if_neg z] at kk; exact kk
theorem k_fence (h : CS g V V) (hb : 4 ≤ b) (hp : wr p = p) (hq : wr q = q) (kk : ∀ g', kC g g' → K (oc [eIO, eIA] (s_fence V p q)) (stt g')) : Ct Γ l (d + 2) b yX11_fence mX11_fence [vR 1, vI p, vI q] (stt g) K := by
  have h6 := h.2.1.1.1
  have kk := kk g kC.rf
  unfold s_fence at kk
  apply wpX11_fence (by omega)
  refine k_needPerson h (by decide) hp (fun p0 p1 => bV_in ?_) (fun z => bV_th ?_)
  · have hpn := h.2.1.pn p0 (show p < 6 by omega)
    have hbb := hpn.2.2.2.2.2 p1
    rw [if_pos ⟨p0, p1⟩] at kk
    refine k_needNumber (by decide) hq (by decide) (by decide) (by decide) (by decide) (fun z0 z1 => bV_in ?_) (fun z => bV_th ?_)
    · rw [if_pos ⟨z0, z1⟩] at kk
      refine k_hoursNeed h.1 h.2.1 p0 p1 (bI_in ?_)
      have hn := need_rng h.2.1 p0 p1
      refine up_loop (P := fun i => (∀ j : Nat, j < i → okG V p q j = false) → AW Γ l mX11_fence (d + 2) (b - 1 - 1) 24 [vR 1, vI p, vI q, vI (needS V p), vI i, vU, vU] [] (stt g) K) (N := 10) (fun hf => ?_) (fun i hi hk hf => ?_) 0 (Nat.zero_le _) (fun j hj => absurd hj (by omega))
      · apply wpX11_fence_24 (by omega)
        refine ⟨fun _ => ?_, fun z => absurd (show 9 < wr ((10 : Nat) : Int) by decide +kernel) z⟩
        rw [lsr_cut (i := 10) (k := 0) rfl hf] at kk
        exact kk
      · apply wpX11_fence_24 (by omega)
        rw [wr_id (x := (i : Int)) (by omega) (by omega)]
        refine ⟨fun z => absurd z (by omega), fun _ => ?_⟩
        have hk2 : okG V p q i = false → AW Γ l mX11_fence (d + 2) (b - 1 - 1) 24 [vR 1, vI p, vI q, vI (needS V p), vI ((i : Int) + 1), vU, vU] [] (stt g) K := fun z => hk (fun j hj => by
          by_cases e : j = i
          · rw [e]; exact z
          · exact hf j (by omega))
        have k1 : okG V p q i = true → K (.inl (vI i)) (stt g) := fun z => by
          rw [lsr_cut (i := i) (k := 10 - i) (by omega) hf] at kk
          obtain ⟨m, hm⟩ : ∃ m, 10 - i = m + 1 := ⟨9 - i, by omega⟩
          rw [hm] at kk
          refine oc_ok kk ?_
          show ((0 : Int), if okG V p q i = true then (i : Int) else _) = _
          rw [if_pos z]
        unfold okG at hk2 k1
        refine up_loop (P := fun n => AW Γ l mX11_fence (d + 2) (b - 1 - 1) 39 [vR 1, vI p, vI q, vI (needS V p), vI i, vI (fd (fun o _ => obS V o i) 10000 n), vI n] [] (stt g) K) (N := (needS V p).toNat) ?_ (fun n hn9 hin => ?_) 0 (Nat.zero_le _)
        · have ho := obs_fd h.2.1 (gd := i) (by omega) (by omega) (needS V p).toNat
          apply wpX11_fence_39 (by omega)
          rw [wr_id (x := needS V p) (by omega) (by omega), wr_id (x := ((needS V p).toNat : Int)) (by omega) (by omega), wr_id (x := fd (fun o _ => obS V o i) 10000 (needS V p).toNat) (by omega) (by omega), wr_id (x := 100 * q) (by omega) (by omega)]
          refine ⟨fun _ => ⟨fun z => AW.weak (hk2 (decide_eq_false (by omega))) (by simp [leP]), fun z => k1 (decide_eq_true (by omega))⟩, fun z => absurd (show needS V p ≤ ((needS V p).toNat : Int) by omega) z⟩
        · have ho := obs_fd h.2.1 (gd := i) (by omega) (by omega) n
          apply wpX11_fence_39 (by omega)
          rw [wr_id (x := needS V p) (by omega) (by omega), wr_id (x := (n : Int)) (by omega) (by omega)]
          exact ⟨fun z => absurd z (by omega), fun _ => k_oddsBehind h.1 h.2.1 ho.1 ho.2 (by omega) (by omega) (bI_in hin)⟩
    · rw [if_neg z] at kk; exact kk
  · rw [if_neg z] at kk; exact kk
end QC
