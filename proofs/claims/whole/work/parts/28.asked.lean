/-! WHAT IS ASKED of people: the class's side -/
def CS (g : GG) (V W : VV) : Prop := HRel g 8 V ∧ WF V ∧ LRel g 35 W ∧ okLaw W
theorem onlyS.rf {g : GG} : onlyS g g := fun _ _ _ => rfl
theorem onlyS.tr {g g1 g2 : GG} (h : onlyS g g1) (h2 : onlyS g1 g2) : onlyS g g2 := fun a j hs => by rw [h2 a j hs, h a j hs]
theorem nsW {a j : Int} (h : a ≤ 34 ∨ (45 ≤ a ∧ a ≤ 152) ∨ 160 ≤ a ∨ a = 36 ∨ (38 ≤ a ∧ a ≤ 44) ∨ a = 153) : ¬ sW a j := by
  unfold sW cW
  omega
theorem nsW35 {j : Int} (h : j < 5) : ¬ sW 35 j := by
  unfold sW cW
  omega
theorem HRel.os {g g' : GG} {t : Int} {V : VV} (h : HRel g t V) (e : onlyS g g') : HRel g' t V := by
  have hr := h.hi.rng
  exact h.fr fun a j a0 a1 => e a j (nsW (by omega))
theorem LRel.os {g g' : GG} {W : VV} (h : LRel g 35 W) (e : onlyS g g') : LRel g' 35 W :=
  h.fr (fun j hj => e _ _ (nsW35 hj)) (fun j => e _ _ (nsW (by decide)))
theorem CS.os {g g' : GG} {V W : VV} (h : CS g V W) (e : onlyS g g') : CS g' V W := ⟨h.1.os e, h.2.1, h.2.2.1.os e, h.2.2.2⟩
section N8
variable {g : GG} {V W : VV} {p k : Int}
theorem CS.n10 (h : CS g V W) (p0 : 0 ≤ p) (p1 : p < 6) : cel g 10 p = zL V p := h.1.cL p0 p1
theorem CS.n11 (h : CS g V W) (p0 : 0 ≤ p) (p1 : p < 6) : cel g 11 p = zB V p := h.1.cB p0 p1
theorem CS.n12 (h : CS g V W) (p0 : 0 ≤ p) (p1 : p < 6) : cel g 12 p = zG V p := h.1.cG p0 p1
theorem CS.n13 (h : CS g V W) (p0 : 0 ≤ p) (p1 : p < 6) : cel g 13 p = zS V p := h.1.cS p0 p1
theorem CS.n14 (h : CS g V W) (p0 : 0 ≤ p) (p1 : p < 6) : cel g 14 p = zC V p := h.1.cC p0 p1
theorem CS.n15 (h : CS g V W) {i : Int} (p0 : 0 ≤ i) (p1 : i < 4) : cel g 15 i = V (8 + i) := h.1.cM p0 p1
theorem CS.n9 (h : CS g V W) (p0 : 0 ≤ p) (p1 : p < 6) (k0 : 0 ≤ k) (k1 : k < 12) : cel g 9 (p * 12 + k) = 10 * zK V p k + zN V p k := h.1.cW p0 p1 k0 k1
end N8
def wstS (V W : VV) (p : Int) : Int := fd (fun b i => if wV V W p (i + 2) < wV V W p b then i + 2 else b) 1 (zL V p - 1).toNat
def bstS (V W : VV) (p : Int) : Int := fd (fun b i => if wV V W p b < wV V W p (i + 2) then i + 2 else b) 1 (zL V p - 1).toNat
def hwS (V W : VV) (p : Int) : Int := wV V W p (hcS V p)
def alk (V : VV) (p o : Int) (n : Nat) : Bool := fd (fun b k => b && decide (zW V o k = zW V p k)) true n
def goS (V : VV) (p : Int) : Int := if zS V p = 1 then fd (fun b o => if zC V p ≤ zL V o ∧ alk V p o (zC V p).toNat = true then iOr b (iShl 1 o) else b) 0 (V 0).toNat else 0
def alS (V W : VV) : Int := fd (fun s o => s + hwS V W o) 0 (V 0).toNat
def shS (V W : VV) (p : Int) : Int := if alS V W = 0 then 0 else 100 * hwS V W p / alS V W
theorem alk_iff {V : VV} {p o : Int} : ∀ {n : Nat}, alk V p o n = true ↔ ∀ k, 0 ≤ k → k < (n : Int) → zW V o k = zW V p k
  | 0 => ⟨fun _ k k0 k1 => absurd k1 (by omega), fun _ => rfl⟩
  | n + 1 => by
    have ih := alk_iff (V := V) (p := p) (o := o) (n := n)
    have e : alk V p o (n + 1) = (alk V p o n && decide (zW V o n = zW V p n)) := rfl
    rw [e, Bool.and_eq_true, decide_eq_true_iff, ih]
    refine ⟨fun h k k0 k1 => ?_, fun h => ⟨fun k k0 k1 => h k k0 (by omega), h n (by omega) (by omega)⟩⟩
    by_cases q : k = n
    · rw [q]; exact h.2
    · exact h.1 k k0 (by omega)
theorem hcS_rng {V : VV} (hV : WF V) {p : Int} (p0 : 0 ≤ p) (p1 : p < 6) : 0 ≤ hcS V p ∧ hcS V p ≤ zL V p := by
  have := hV.pn p0 p1
  unfold hcS
  omega
theorem hwS_rng {V W : VV} (hV : WF V) (hW : okLaw W) {p : Int} (p0 : 0 ≤ p) (p1 : p < 6) : 0 ≤ hwS V W p ∧ hwS V W p ≤ 599 := by
  have := hcS_rng hV p0 p1
  exact wV_rng hV hW p0 p1 this.1 this.2
theorem wst_rng (V W : VV) (p : Int) : ∀ n : Nat, 1 ≤ fd (fun b i => if wV V W p (i + 2) < wV V W p b then i + 2 else b) 1 n ∧ fd (fun b i => if wV V W p (i + 2) < wV V W p b then i + 2 else b) 1 n ≤ n + 1 :=
  fd_ind (P := fun (n : Nat) x => 1 ≤ x ∧ x ≤ (n : Int) + 1) (by omega) fun n x h => by
    by_cases q : wV V W p (n + 2) < wV V W p x
    · simp only [if_pos q]; omega
    · simp only [if_neg q]; omega
theorem bst_rng (V W : VV) (p : Int) : ∀ n : Nat, 1 ≤ fd (fun b i => if wV V W p b < wV V W p (i + 2) then i + 2 else b) 1 n ∧ fd (fun b i => if wV V W p b < wV V W p (i + 2) then i + 2 else b) 1 n ≤ n + 1 :=
  fd_ind (P := fun (n : Nat) x => 1 ≤ x ∧ x ≤ (n : Int) + 1) (by omega) fun n x h => by
    by_cases q : wV V W p x < wV V W p (n + 2)
    · simp only [if_pos q]; omega
    · simp only [if_neg q]; omega
section AK
variable {Γ : Cfg} {l : Launch} {d b : Nat} {g : GG} {K : Ou → HP → Prop} {V W : VV} {p : Int}
theorem k_needPerson (h : CS g V W) (hb : 1 ≤ b) (hp : wr p = p) (k1 : 0 ≤ p → p < V 0 → K (.inl vU) (stt g)) (k2 : ¬ (0 ≤ p ∧ p < V 0) → K (.inr eIO) (stt g)) : Ct Γ l (d + 1) b yX11_needPerson mX11_needPerson [vR 1, vI p] (stt g) K := by
  have h6 := h.2.1.1.1
  apply wpX11_needPerson hb
  rw [h.1.ppl, hp, wr_id (x := V 0) (by omega) (by omega)]
  exact ⟨fun q => k1 q.1 q.2, k2⟩
theorem k_needNumber {n lo hi : Int} (hb : 1 ≤ b) (hn : wr n = n) (h0 : -100 ≤ lo) (h1 : lo ≤ 100) (h2 : -100 ≤ hi) (h3 : hi ≤ 100) (k1 : lo ≤ n → n ≤ hi → K (.inl vU) (stt g)) (k2 : ¬ (lo ≤ n ∧ n ≤ hi) → K (.inr eIA) (stt g)) : Ct Γ l d b yX11_needNumber mX11_needNumber [vI n, vI lo, vI hi] (stt g) K := by
  apply wpX11_needNumber hb
  rw [hn, wr_id (x := lo) (by omega) (by omega), wr_id (x := hi) (by omega) (by omega)]
  exact ⟨fun q => k2 (by omega), fun q => ⟨fun q2 => k1 (by omega) q2, fun q2 => k2 (by omega)⟩⟩
theorem k_needDistance {n : Int} (hb : 1 ≤ b) (hn : wr n = n) (k1 : 0 ≤ n → n < 4 → K (.inl vU) (stt g)) (k2 : ¬ (0 ≤ n ∧ n < 4) → K (.inr eIO) (stt g)) : Ct Γ l d b yX11_needDistance mX11_needDistance [vI n] (stt g) K := by
  apply wpX11_needDistance hb
  rw [hn]
  exact ⟨fun q => k2 (by omega), fun q => ⟨fun q2 => k1 (by omega) q2, fun q2 => k2 (by omega)⟩⟩
theorem k_needState {s : Int} (h : CS g V W) (hb : 1 ≤ b) (p0 : 0 ≤ p) (p1 : p < V 0) (s0 : 0 ≤ s) (s1 : s ≤ 2) (k1 : zS V p = s → K (.inl vU) (stt g)) (k2 : ¬ zS V p = s → K (.inr eIS) (stt g)) : Ct Γ l (d + 1) b yX11_needState mX11_needState [vR 1, vI p, vI s] (stt g) K := by
  have h6 := h.2.1.1.1
  have hp := h.2.1.pn p0 (by omega)
  apply wpX11_needState hb
  rw [h.n13 p0 (by omega), wr_id (x := zS V p) (by omega) (by omega), wr_id (x := s) (by omega) (by omega)]
  exact ⟨k1, k2⟩
theorem k_needTwo {q : Int} (hb : 1 ≤ b) (hp : wr p = p) (hq : wr q = q) (k1 : ¬ p = q → K (.inl vU) (stt g)) (k2 : p = q → K (.inr eIA) (stt g)) : Ct Γ l d b yX11_needTwo mX11_needTwo [vI p, vI q] (stt g) K := by
  apply wpX11_needTwo hb
  rw [hp, hq]
  exact ⟨k1, fun z => k2 (Decidable.not_not.mp z)⟩
theorem k_w8 {n : Int} (h : CS g V W) (p0 : 0 ≤ p) (p1 : p < V 0) (n0 : 0 ≤ n) (n1 : n ≤ zL V p)
    (kk : ∀ g', TL g' (rdV V p n) (wV V W p n) (hV V W p n) → onlyS g g' → K (.inl (vI (wV V W p n))) (stt g')) : Ct Γ l (d + 3) b yX7_weight mX7_weight [vR 153, vR 8, vI p, vI n] (stt g) K := by
  have h6 := h.2.1.1.1
  exact k_weight h.1 h.2.1 h.2.2.1 h.2.2.2 p0 (by omega) n0 n1 kk
theorem k_heldWeight (h : CS g V W) (p0 : 0 ≤ p) (p1 : p < V 0) (kk : ∀ g', TL g' (rdV V p (hcS V p)) (hwS V W p) (hV V W p (hcS V p)) → onlyS g g' → K (.inl (vI (hwS V W p))) (stt g')) : Ct Γ l (d + 4) b yX11_heldWeight mX11_heldWeight [vR 1, vI p] (stt g) K := by
  have h6 := h.2.1.1.1
  have hc := hcS_rng h.2.1 p0 (by omega)
  apply wpX11_heldWeight
  refine k_heldCount h.1 h.2.1 p0 (by omega) (bI_in ?_)
  exact k_w8 h p0 p1 hc.1 hc.2 fun g' ht ho => bI_in (kk g' ht ho)
theorem k_worst (h : CS g V W) (p0 : 0 ≤ p) (p1 : p < V 0) (kk : ∀ g', onlyS g g' → K (.inl (vI (wstS V W p))) (stt g')) : Ct Γ l (d + 4) b yX11_worstPlace mX11_worstPlace [vR 1, vI p] (stt g) K := by
  have h6 := h.2.1.1.1
  have hp := h.2.1.pn p0 (by omega)
  have hl := (hp.2.2.2.2.2 p1).1
  apply wpX11_worstPlace
  refine k_w8 h p0 p1 (by decide) hl fun g1 _ ho1 => bI_in ?_
  refine up_loop (P := fun n => ∀ g2, onlyS g g2 → AW Γ l mX11_worstPlace (d + 4) b 19 [vR 1, vI p, vI (fd (fun b i => if wV V W p (i + 2) < wV V W p b then i + 2 else b) 1 n), vI (wV V W p (fd (fun b i => if wV V W p (i + 2) < wV V W p b then i + 2 else b) 1 n)), vI (n + 2), vU] [] (stt g2) K) (N := (zL V p - 1).toNat) (fun g2 ho => ?_) (fun n hn hi g2 ho => ?_) 0 (Nat.zero_le _) g1 ho1
  · apply wpX11_worstPlace_19
    rw [(h.os ho).n10 p0 (by omega), wr_id (x := zL V p) (by omega) (by omega), wr_id (x := ((zL V p - 1).toNat : Int) + 2) (by omega) (by omega)]
    exact ⟨fun _ => kk g2 ho, fun q => absurd (show zL V p < ((zL V p - 1).toNat : Int) + 2 by omega) q⟩
  · have hr := wst_rng V W p n
    have hi2 : ∀ g2, onlyS g g2 → AW Γ l mX11_worstPlace (d + 4) b 19 [vR 1, vI p, vI (if wV V W p (n + 2) < wV V W p (fd (fun b i => if wV V W p (i + 2) < wV V W p b then i + 2 else b) 1 n) then n + 2 else fd (fun b i => if wV V W p (i + 2) < wV V W p b then i + 2 else b) 1 n), vI (wV V W p (if wV V W p (n + 2) < wV V W p (fd (fun b i => if wV V W p (i + 2) < wV V W p b then i + 2 else b) 1 n) then n + 2 else fd (fun b i => if wV V W p (i + 2) < wV V W p b then i + 2 else b) 1 n)), vI (((n + 1 : Nat) : Int) + 2), vU] [] (stt g2) K := hi
    rw [show ((n + 1 : Nat) : Int) + 2 = (n : Int) + 2 + 1 by omega] at hi2
    generalize hx : fd (fun b i => if wV V W p (i + 2) < wV V W p b then i + 2 else b) 1 n = x at hr hi2 ⊢
    have w1 := wV_rng h.2.1 h.2.2.2 p0 (show p < 6 by omega) (n := x) (by omega) (by omega)
    have w2 := wV_rng h.2.1 h.2.2.2 p0 (show p < 6 by omega) (n := (n : Int) + 2) (by omega) (by omega)
    apply wpX11_worstPlace_19
    rw [(h.os ho).n10 p0 (by omega), wr_id (x := zL V p) (by omega) (by omega), wr_id (x := (n : Int) + 2) (by omega) (by omega)]
    refine ⟨fun q => absurd q (by omega), fun _ => k_w8 (h.os ho) p0 p1 (by omega) (by omega) fun g3 _ ho3 => bI_in ?_⟩
    rw [wr_id (x := wV V W p x) (by omega) (by omega), wr_id (x := wV V W p (n + 2)) (by omega) (by omega)]
    refine ⟨fun q => ?_, fun q => ?_⟩
    · rw [if_neg (by omega)] at hi2
      exact AW.weak (hi2 g3 (ho.tr ho3)) (by simp [leP])
    · rw [if_pos (by omega)] at hi2
      exact AW.weak (hi2 g3 (ho.tr ho3)) (by simp [leP])
theorem k_best (h : CS g V W) (p0 : 0 ≤ p) (p1 : p < V 0) (kk : ∀ g', onlyS g g' → K (.inl (vI (bstS V W p))) (stt g')) : Ct Γ l (d + 4) b yX11_bestPlace mX11_bestPlace [vR 1, vI p] (stt g) K := by
  have h6 := h.2.1.1.1
  have hp := h.2.1.pn p0 (by omega)
  have hl := (hp.2.2.2.2.2 p1).1
  apply wpX11_bestPlace
  refine k_w8 h p0 p1 (by decide) hl fun g1 _ ho1 => bI_in ?_
  refine up_loop (P := fun n => ∀ g2, onlyS g g2 → AW Γ l mX11_bestPlace (d + 4) b 19 [vR 1, vI p, vI (fd (fun b i => if wV V W p b < wV V W p (i + 2) then i + 2 else b) 1 n), vI (wV V W p (fd (fun b i => if wV V W p b < wV V W p (i + 2) then i + 2 else b) 1 n)), vI (n + 2), vU] [] (stt g2) K) (N := (zL V p - 1).toNat) (fun g2 ho => ?_) (fun n hn hi g2 ho => ?_) 0 (Nat.zero_le _) g1 ho1
  · apply wpX11_bestPlace_19
    rw [(h.os ho).n10 p0 (by omega), wr_id (x := zL V p) (by omega) (by omega), wr_id (x := ((zL V p - 1).toNat : Int) + 2) (by omega) (by omega)]
    exact ⟨fun _ => kk g2 ho, fun q => absurd (show zL V p < ((zL V p - 1).toNat : Int) + 2 by omega) q⟩
  · have hr := bst_rng V W p n
    have hi2 : ∀ g2, onlyS g g2 → AW Γ l mX11_bestPlace (d + 4) b 19 [vR 1, vI p, vI (if wV V W p (fd (fun b i => if wV V W p b < wV V W p (i + 2) then i + 2 else b) 1 n) < wV V W p (n + 2) then n + 2 else fd (fun b i => if wV V W p b < wV V W p (i + 2) then i + 2 else b) 1 n), vI (wV V W p (if wV V W p (fd (fun b i => if wV V W p b < wV V W p (i + 2) then i + 2 else b) 1 n) < wV V W p (n + 2) then n + 2 else fd (fun b i => if wV V W p b < wV V W p (i + 2) then i + 2 else b) 1 n)), vI (((n + 1 : Nat) : Int) + 2), vU] [] (stt g2) K := hi
    rw [show ((n + 1 : Nat) : Int) + 2 = (n : Int) + 2 + 1 by omega] at hi2
    generalize hx : fd (fun b i => if wV V W p b < wV V W p (i + 2) then i + 2 else b) 1 n = x at hr hi2 ⊢
    have w1 := wV_rng h.2.1 h.2.2.2 p0 (show p < 6 by omega) (n := x) (by omega) (by omega)
    have w2 := wV_rng h.2.1 h.2.2.2 p0 (show p < 6 by omega) (n := (n : Int) + 2) (by omega) (by omega)
    apply wpX11_bestPlace_19
    rw [(h.os ho).n10 p0 (by omega), wr_id (x := zL V p) (by omega) (by omega), wr_id (x := (n : Int) + 2) (by omega) (by omega)]
    refine ⟨fun q => absurd q (by omega), fun _ => k_w8 (h.os ho) p0 p1 (by omega) (by omega) fun g3 _ ho3 => bI_in ?_⟩
    rw [wr_id (x := wV V W p x) (by omega) (by omega), wr_id (x := wV V W p (n + 2)) (by omega) (by omega)]
    refine ⟨fun q => ?_, fun q => ?_⟩
    · rw [if_neg (by omega)] at hi2
      exact AW.weak (hi2 g3 (ho.tr ho3)) (by simp [leP])
    · rw [if_pos (by omega)] at hi2
      exact AW.weak (hi2 g3 (ho.tr ho3)) (by simp [leP])
theorem k_goingOf (h : CS g V W) (p0 : 0 ≤ p) (p1 : p < V 0) (kk : K (.inl (vI (goS V p))) (stt g)) : Ct Γ l (d + 3) b yX11_goingOf mX11_goingOf [vR 1, vI p] (stt g) K := by
  have h6 := h.2.1.1.1
  have hp := h.2.1.pn p0 (by omega)
  apply wpX11_goingOf
  rw [h.n13 p0 (by omega), h.n14 p0 (by omega), wr_id (x := zS V p) (by omega) (by omega)]
  unfold goS at kk
  refine ⟨fun q => ?_, fun q => ?_⟩
  · rw [if_pos q] at kk
    refine up_loop (P := fun n => AW Γ l mX11_goingOf (d + 3) b 34 [vR 1, vI p, vI (zC V p), vI (fd (fun b o => if zC V p ≤ zL V o ∧ alk V p o (zC V p).toNat = true then iOr b (iShl 1 o) else b) 0 n), vI n] [] (stt g) K) (N := (V 0).toNat) ?_ (fun n hn hi => ?_) 0 (Nat.zero_le _)
    · apply wpX11_goingOf_34
      rw [h.1.ppl, wr_id (x := V 0) (by omega) (by omega), wr_id (x := ((V 0).toNat : Int)) (by omega) (by omega)]
      exact ⟨fun _ => kk, fun q => absurd (show V 0 ≤ ((V 0).toNat : Int) by omega) q⟩
    · have ho := h.2.1.pn (p := n) (by omega) (by omega)
      have hi2 : AW Γ l mX11_goingOf (d + 3) b 34 [vR 1, vI p, vI (zC V p), vI (if zC V p ≤ zL V n ∧ alk V p n (zC V p).toNat = true then iOr (fd (fun b o => if zC V p ≤ zL V o ∧ alk V p o (zC V p).toNat = true then iOr b (iShl 1 o) else b) 0 n) (iShl 1 n) else fd (fun b o => if zC V p ≤ zL V o ∧ alk V p o (zC V p).toNat = true then iOr b (iShl 1 o) else b) 0 n), vI ((n + 1 : Nat) : Int)] [] (stt g) K := hi
      apply wpX11_goingOf_34
      rw [h.1.ppl, wr_id (x := V 0) (by omega) (by omega), wr_id (x := (n : Int)) (by omega) (by omega)]
      refine ⟨fun q => absurd q (by omega), fun _ => k_alikeFirst h.1 h.2.1 p0 (by omega) (by omega) (by omega) fun r ⟨r0, r1, r2, r3⟩ => bI_in ?_⟩
      have hm : mnL V p n ≤ zL V p ∧ mnL V p n ≤ zL V n ∧ (mnL V p n = zL V p ∨ mnL V p n = zL V n) := by
        unfold mnL
        omega
      rw [wr_id (x := r) (by omega) (by omega), wr_id (x := zC V p) (by omega) (by omega)]
      refine ⟨fun q => ?_, fun q => ?_⟩
      · rw [if_neg] at hi2
        · exact hi2
        · rintro ⟨z1, z2⟩
          have z3 := alk_iff.mp z2
          exact r3 (by omega) (z3 r r0 (by omega)).symm
      · rw [if_pos] at hi2
        · exact hi2
        · exact ⟨by omega, alk_iff.mpr fun k k0 k1 => (r2 k k0 (by omega)).symm⟩
  · rw [if_neg q] at kk
    exact kk
theorem al_rng (hV : WF V) (hW : okLaw W) : ∀ n : Nat, (n : Int) ≤ 6 → 0 ≤ fd (fun s o => s + hwS V W o) 0 n ∧ fd (fun s o => s + hwS V W o) 0 n ≤ 599 * n
  | 0, _ => ⟨Int.le_refl _, by show (0 : Int) ≤ 599 * ((0 : Nat) : Int); decide⟩
  | n + 1, h => by
    have h1 := al_rng hV hW n (by omega)
    have h2 := hwS_rng hV hW (p := n) (by omega) (by omega)
    have e : fd (fun s o => s + hwS V W o) 0 (n + 1) = fd (fun s o => s + hwS V W o) 0 n + hwS V W n := rfl
    rw [e]
    omega
theorem k_shareOf (h : CS g V W) (p0 : 0 ≤ p) (p1 : p < V 0) (kk : ∀ g', onlyS g g' → K (.inl (vI (shS V W p))) (stt g')) : Ct Γ l (d + 5) b yX11_shareOf mX11_shareOf [vR 1, vI p] (stt g) K := by
  have h6 := h.2.1.1.1
  apply wpX11_shareOf
  refine up_loop (P := fun n => ∀ g2, onlyS g g2 → AW Γ l mX11_shareOf (d + 5) b 4 [vR 1, vI p, vI (fd (fun s o => s + hwS V W o) 0 n), vI n] [] (stt g2) K) (N := (V 0).toNat) (fun g2 ho => ?_) (fun n hn hi g2 ho => ?_) 0 (Nat.zero_le _) g onlyS.rf
  · have ha := al_rng h.2.1 h.2.2.2 (V 0).toNat (by omega)
    have hw := hwS_rng h.2.1 h.2.2.2 p0 (show p < 6 by omega)
    apply wpX11_shareOf_4
    unfold shS alS at kk
    rw [(h.os ho).1.ppl, wr_id (x := V 0) (by omega) (by omega), wr_id (x := ((V 0).toNat : Int)) (by omega) (by omega)]
    generalize fd (fun s o => s + hwS V W o) 0 (V 0).toNat = al at ha kk ⊢
    rw [wr_id (x := al) (by omega) (by omega)]
    refine ⟨fun _ => ⟨fun q => k_heldWeight (h.os ho) p0 p1 fun g3 _ ho3 => bI_in ⟨q, ?_⟩, fun q => ?_⟩, fun q => absurd (show V 0 ≤ ((V 0).toNat : Int) by omega) q⟩
    · have := kk g3 (ho.tr ho3)
      rw [if_neg q] at this
      rw [iDiv_nn (by omega) (by omega) (by omega) (by omega)]
      exact this
    · have := kk g2 ho
      rw [if_pos (by omega)] at this
      exact this
  · apply wpX11_shareOf_4
    rw [(h.os ho).1.ppl, wr_id (x := V 0) (by omega) (by omega), wr_id (x := (n : Int)) (by omega) (by omega)]
    exact ⟨fun q => absurd q (by omega), fun _ => k_heldWeight (h.os ho) (by omega) (by omega) fun g3 _ ho3 => bI_in (hi g3 (ho.tr ho3))⟩
end AK
