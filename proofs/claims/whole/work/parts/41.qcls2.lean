/-! PUBLIC CALLS that only ask: the class's side, more -/
/-- as good as the other one -/
def twS (V : VV) (p q : Int) : Int := if zL V p = zL V q ∧ aaS V p q = zL V p then 1 else 0
theorem twS_aa {V : VV} {p q : Int} (hV : WF V) (p0 : 0 ≤ p) (p1 : p < 6) (e : zL V p = zL V q) : aaS V p q = zL V p ↔ ∀ k, 0 ≤ k → k < zL V p → zW V p k = zW V q k := by
  have hp := hV.pn p0 p1
  have hm : mnL V p q = zL V p := by
    unfold mnL
    omega
  have key : ∀ n : Nat, fd (fun (c k : Int) => if zW V p k = zW V q k then c + 1 else c) 0 n ≤ n ∧ (fd (fun (c k : Int) => if zW V p k = zW V q k then c + 1 else c) 0 n = n ↔ ∀ k, 0 ≤ k → k < (n : Int) → zW V p k = zW V q k) := by
    intro n
    induction n with
    | zero => exact ⟨by show (0 : Int) ≤ 0; omega, fun _ k k0 k1 => absurd k1 (by omega), fun _ => rfl⟩
    | succ n ih =>
      have e1 : fd (fun (c k : Int) => if zW V p k = zW V q k then c + 1 else c) 0 (n + 1) = if zW V p n = zW V q n then fd (fun (c k : Int) => if zW V p k = zW V q k then c + 1 else c) 0 n + 1 else fd (fun (c k : Int) => if zW V p k = zW V q k then c + 1 else c) 0 n := rfl
      rw [e1]
      generalize fd (fun (c k : Int) => if zW V p k = zW V q k then c + 1 else c) 0 n = x at ih ⊢
      by_cases z : zW V p n = zW V q n
      · rw [if_pos z]
        refine ⟨by omega, fun h k k0 k1 => ?_, fun h => ?_⟩
        · by_cases kn : k = n
          · rw [kn]; exact z
          · exact ih.2.mp (by omega) k k0 (by omega)
        · have := ih.2.mpr (fun k k0 k1 => h k k0 (by omega))
          omega
      · rw [if_neg z]
        exact ⟨by omega, fun h => by omega, fun h => absurd (h n (by omega) (by omega)) z⟩
  unfold aaS
  rw [hm]
  have := (key (zL V p).toNat).2
  rw [Int.toNat_of_nonneg hp.1.1] at this
  exact this
theorem all_iff {P : Int → Prop} (f : Int → Bool) (hf : ∀ k, f k = true ↔ P k) : ∀ {n : Nat}, fd (fun b k => b && f k) true n = true ↔ ∀ k, 0 ≤ k → k < (n : Int) → P k
  | 0 => ⟨fun _ k k0 k1 => absurd k1 (by omega), fun _ => rfl⟩
  | n + 1 => by
    have ih := all_iff f hf (n := n)
    have e : fd (fun b k => b && f k) true (n + 1) = (fd (fun b k => b && f k) true n && f n) := rfl
    rw [e, Bool.and_eq_true, ih, hf]
    refine ⟨fun h k k0 k1 => ?_, fun h => ⟨fun k k0 k1 => h k k0 (by omega), h n (by omega) (by omega)⟩⟩
    by_cases q : k = n
    · rw [q]; exact h.2
    · exact h.1 k k0 (by omega)
/-- pairs of the first n numbers: each with those behind it, or with those ahead of it -/
def prB (f : Int → Int → Int) (n : Nat) (i : Nat) (s : Int) : Int := fd (fun x j => x + f i (i + 1 + j)) s (n - (i + 1))
def prU (f : Int → Int → Int) (n : Nat) (s : Int) (m : Nat) : Int := fd (fun x i => prB f n i.toNat x) s m
def prA (f : Int → Int → Int) (i : Nat) (s : Int) : Int := fd (fun x j => x + f i j) s i
def prD (f : Int → Int → Int) (m : Nat) : Int := fd (fun x i => prA f i.toNat x) 0 m
theorem fd_add {f : Int → Int} : ∀ {n : Nat} {s : Int}, fd (fun x j => x + f j) s n = s + fd (fun x j => x + f j) 0 n
  | 0, s => by show s = s + 0; omega
  | n + 1, s => by
    show fd (fun x j => x + f j) s n + f n = s + (fd (fun x j => x + f j) 0 n + f n)
    rw [fd_add (n := n) (s := s)]
    omega
theorem prU_sc {f : Int → Int → Int} {n : Nat} : ∀ {m : Nat}, m ≤ n → prU f (n + 1) 0 m = prU f n 0 m + fd (fun x i => x + f i n) 0 m
  | 0, _ => rfl
  | m + 1, h => by
    have ih := prU_sc (f := f) (n := n) (m := m) (by omega)
    show prB f (n + 1) ((m : Int)).toNat (prU f (n + 1) 0 m) = prB f n ((m : Int)).toNat (prU f n 0 m) + (fd (fun x i => x + f i n) 0 m + f m n)
    rw [ih, Int.toNat_natCast]
    unfold prB
    have e : n + 1 - (m + 1) = (n - (m + 1)) + 1 := by omega
    rw [e]
    show fd (fun x j => x + f m (m + 1 + j)) (prU f n 0 m + fd (fun x i => x + f i n) 0 m) (n - (m + 1)) + f m (m + 1 + ((n - (m + 1) : Nat) : Int)) = _
    rw [fd_add (f := fun j => f m (m + 1 + j)) (s := prU f n 0 m + fd (fun x i => x + f i n) 0 m), fd_add (f := fun j => f m (m + 1 + j)) (s := prU f n 0 m)]
    rw [show (m : Int) + 1 + ((n - (m + 1) : Nat) : Int) = n by omega]
    omega
theorem prU_D {f : Int → Int → Int} (hs : ∀ i j, f i j = f j i) : ∀ n : Nat, prU f n 0 n = prD f n
  | 0 => rfl
  | n + 1 => by
    have ih := prU_D hs n
    have e1 : prU f (n + 1) 0 (n + 1) = prB f (n + 1) n (prU f (n + 1) 0 n) := by
      show prB f (n + 1) ((n : Int)).toNat (prU f (n + 1) 0 n) = _
      rw [Int.toNat_natCast]
    have e2 : prB f (n + 1) n (prU f (n + 1) 0 n) = prU f (n + 1) 0 n := by
      unfold prB
      rw [show n + 1 - (n + 1) = 0 by omega]
      rfl
    have e3 : prD f (n + 1) = prA f n (prD f n) := by
      show prA f ((n : Int)).toNat (prD f n) = _
      rw [Int.toNat_natCast]
    rw [e1, e2, prU_sc (Nat.le_refl _), ih, e3]
    unfold prA
    rw [fd_add (f := fun j => f n j) (s := prD f n)]
    congr 1
    exact fd_ext fun x k _ => by rw [hs]
theorem aaS_sym (V : VV) (p q : Int) : aaS V p q = aaS V q p := by
  have hm : mnL V p q = mnL V q p := by
    unfold mnL
    omega
  unfold aaS
  rw [hm]
  exact fd_ext fun x k _ => by
    by_cases c : zW V p k = zW V q k
    · rw [if_pos c, if_pos c.symm]
    · rw [if_neg c, if_neg (fun z => c z.symm)]
theorem twS_sym (V : VV) (p q : Int) : twS V p q = twS V q p := by
  unfold twS
  rw [aaS_sym V p q]
  by_cases c : zL V p = zL V q ∧ aaS V q p = zL V p
  · rw [if_pos c, if_pos ⟨c.1.symm, by rw [← c.1]; exact c.2⟩]
  · rw [if_neg c, if_neg (fun z => c ⟨z.1.symm, by rw [← z.1]; exact z.2⟩)]
section QC2
variable {Γ : Cfg} {l : Launch} {d b : Nat} {g : GG} {K : Ou → HP → Prop} {V : VV} {p q n w k : Int}
theorem od1_rng (hV : WF V) {o : Int} (h0 : 0 ≤ o) (h1 : o ≤ 10000) : ∀ n : Nat, (n : Int) ≤ 6 → 0 ≤ fd (fun o p => if zS V p = 1 then obS V o (zG V p) else o) o n ∧ fd (fun o p => if zS V p = 1 then obS V o (zG V p) else o) o n ≤ 10000 := fun n => by
  induction n with
  | zero => exact fun _ => ⟨h0, h1⟩
  | succ n ih =>
    intro hn
    have ih := ih (by omega)
    have hp := hV.pn (p := n) (by omega) (by omega)
    show 0 ≤ (if zS V n = 1 then obS V (fd (fun o p => if zS V p = 1 then obS V o (zG V p) else o) o n) (zG V n) else fd (fun o p => if zS V p = 1 then obS V o (zG V p) else o) o n) ∧ (if zS V n = 1 then obS V (fd (fun o p => if zS V p = 1 then obS V o (zG V p) else o) o n) (zG V n) else fd (fun o p => if zS V p = 1 then obS V o (zG V p) else o) o n) ≤ 10000
    by_cases z : zS V n = 1
    · rw [if_pos z]; exact obS_rng hV ih.1 ih.2 (by omega) (by omega)
    · rw [if_neg z]; exact ih
theorem ods_rng (hV : WF V) : ∀ n : Nat, 0 ≤ fd (fun o _ => od1 V o) 10000 n ∧ fd (fun o _ => od1 V o) 10000 n ≤ 10000 :=
  fd_ind (P := fun _ x => 0 ≤ x ∧ x ≤ 10000) (by omega) fun n x h => od1_rng hV h.1 h.2 _ (by have := hV.1.1; omega)
theorem k_odds (h : CS g V V) (hb : 2 ≤ b) (hn : wr n = n) (kk : ∀ g', kC g g' → K (oc [eIA] (s_odds V n)) (stt g')) : Ct Γ l (d + 1) b yX11_odds mX11_odds [vR 1, vI n] (stt g) K := by
  have h6 := h.2.1.1.1
  have kk := kk g kC.rf
  unfold s_odds at kk
  apply wpX11_odds (by omega)
  refine k_needNumber (by decide) hn (by decide) (by decide) (by decide) (by decide) (fun z0 z1 => bV_in ?_) (fun z => bV_th ?_)
  · rw [if_pos ⟨z0, z1⟩] at kk
    refine up_loop (P := fun i => AW Γ l mX11_odds (d + 1) (b - 1) 12 [vR 1, vI n, vI (fd (fun o _ => od1 V o) 10000 i), vI i, vU] [] (stt g) K) (N := n.toNat) ?_ (fun i hi9 hi => ?_) 0 (Nat.zero_le _)
    · apply wpX11_odds_12 (by omega)
      rw [hn, wr_id (x := (n.toNat : Int)) (by omega) (by omega)]
      exact ⟨fun _ => kk, fun z => absurd (show n ≤ (n.toNat : Int) by omega) z⟩
    · have ho := ods_rng h.2.1 i
      apply wpX11_odds_12 (by omega)
      rw [hn, wr_id (x := (i : Int)) (by omega) (by omega)]
      refine ⟨fun z => absurd z (by omega), fun _ => ?_⟩
      have hi2 : AW Γ l mX11_odds (d + 1) (b - 1) 12 [vR 1, vI n, vI (od1 V (fd (fun o _ => od1 V o) 10000 i)), vI ((i : Int) + 1), vU] [] (stt g) K := hi
      generalize fd (fun o _ => od1 V o) 10000 i = o at ho hi2 ⊢
      unfold od1 at hi2
      refine up_loop (P := fun q => AW Γ l mX11_odds (d + 1) (b - 1) 20 [vR 1, vI n, vI (fd (fun o p => if zS V p = 1 then obS V o (zG V p) else o) o q), vI i, vI q] [] (stt g) K) (N := (V 0).toNat) ?_ (fun q hq9 hq => ?_) 0 (Nat.zero_le _)
      · apply wpX11_odds_20 (by omega)
        rw [h.1.ppl, wr_id (x := V 0) (by omega) (by omega), wr_id (x := ((V 0).toNat : Int)) (by omega) (by omega)]
        exact ⟨fun _ => AW.weak hi2 (by simp [leP]), fun z => absurd (show V 0 ≤ ((V 0).toNat : Int) by omega) z⟩
      · have hp := h.2.1.pn (p := q) (by omega) (by omega)
        have hr := od1_rng h.2.1 ho.1 ho.2 q (by omega)
        have hq2 : AW Γ l mX11_odds (d + 1) (b - 1) 20 [vR 1, vI n, vI (if zS V q = 1 then obS V (fd (fun o p => if zS V p = 1 then obS V o (zG V p) else o) o q) (zG V q) else fd (fun o p => if zS V p = 1 then obS V o (zG V p) else o) o q), vI i, vI ((q : Int) + 1)] [] (stt g) K := hq
        apply wpX11_odds_20 (by omega)
        rw [h.1.ppl, wr_id (x := V 0) (by omega) (by omega), wr_id (x := (q : Int)) (by omega) (by omega), h.n13 (by omega) (by omega), h.n12 (by omega) (by omega), wr_id (x := zS V q) (by omega) (by omega)]
        refine ⟨fun z => absurd z (by omega), fun _ => ⟨fun z => ?_, fun z => k_oddsBehind h.1 h.2.1 hr.1 hr.2 (by omega) (by omega) (bI_in ?_)⟩⟩
        · rw [if_neg z] at hq2; exact hq2
        · rw [if_pos (by omega)] at hq2; exact hq2
  · rw [if_neg z] at kk; exact kk
theorem amS_rng (hV : WF V) (hW : okLaw V) (p0 : 0 ≤ p) (p1 : p < 6) : 0 ≤ amS V w p ∧ amS V w p ≤ 599 := by
  have hp := hV.pn p0 p1
  have hw := hwS_rng hV hW p0 p1
  unfold amS
  omega
theorem moS_rng (V : VV) (w : Int) : ∀ n : Nat, -1 ≤ moS V w n ∧ moS V w n < n ∧ (moS V w n = -1 ↔ n = 0) := fun n => by
  induction n with
  | zero => exact ⟨show (-1 : Int) ≤ -1 by decide, show (-1 : Int) < 0 by decide, fun _ => rfl, fun _ => rfl⟩
  | succ n ih =>
    have e : moS V w (n + 1) = if moS V w n = -1 then (n : Int) else if amS V w (moS V w n) < amS V w n then (n : Int) else moS V w n := rfl
    rw [e]
    by_cases z : moS V w n = -1
    · rw [if_pos z]; omega
    · rw [if_neg z]
      by_cases z2 : amS V w (moS V w n) < amS V w n
      · rw [if_pos z2]; omega
      · rw [if_neg z2]; omega
theorem k_most (h : CS g V V) (hb : 1 ≤ b) (hw : wr w = w) (kk : ∀ g', kC g g' → K (oc [eNS] (s_most V w)) (stt g')) : Ct Γ l (d + 5) b yX11_most mX11_most [vR 1, vI w] (stt g) K := by
  have h6 := h.2.1.1.1
  unfold s_most at kk
  apply wpX11_most hb
  rw [hw]
  have bad : ¬ (0 ≤ w ∧ w ≤ 2) → K (.inr eNS) (stt g) := fun z => by rw [if_neg z] at kk; exact kk g kC.rf
  refine ⟨fun z => bad (by omega), fun z => ⟨fun z2 => ?_, fun z2 => bad (by omega)⟩⟩
  rw [if_pos (by omega)] at kk
  refine up_loop (P := fun i => ∀ g2, onlyS g g2 → AW Γ l mX11_most (d + 5) b 27 [vR 1, vI w, vI (moS V w i), vI (if moS V w i = -1 then -1 else amS V w (moS V w i)), vI i, vU] [] (stt g2) K) (N := (V 0).toNat) (fun g2 ho => ?_) (fun i hi9 hi g2 ho => ?_) 0 (Nat.zero_le _) g onlyS.rf
  · apply wpX11_most_27 hb
    rw [(h.os ho).1.ppl, wr_id (x := V 0) (by omega) (by omega), wr_id (x := ((V 0).toNat : Int)) (by omega) (by omega)]
    exact ⟨fun _ => kk g2 ho.c, fun z => absurd (show V 0 ≤ ((V 0).toNat : Int) by omega) z⟩
  · have h2 := h.os ho
    have hm := moS_rng V w i
    have hp := h.2.1.pn (p := i) (by omega) (by omega)
    have ha := amS_rng (w := w) h.2.1 h.2.2.2 (p := i) (by omega) (by omega)
    have hmr : -1 ≤ (if moS V w i = -1 then -1 else amS V w (moS V w i)) ∧ (if moS V w i = -1 then -1 else amS V w (moS V w i)) ≤ 599 := by
      by_cases z : moS V w i = -1
      · rw [if_pos z]; omega
      · rw [if_neg z]
        have := amS_rng (w := w) h.2.1 h.2.2.2 (p := moS V w i) (by omega) (by omega)
        omega
    have e : moS V w (i + 1) = if moS V w i = -1 then (i : Int) else if amS V w (moS V w i) < amS V w i then (i : Int) else moS V w i := rfl
    -- what is best behind one more
    have fin : ∀ (v : Int) (g3 : GG), v = amS V w i → onlyS g g3 → (v ≤ (if moS V w i = -1 then -1 else amS V w (moS V w i)) → AW Γ l mX11_most (d + 5) b 27 [vR 1, vI w, vI (moS V w i), vI (if moS V w i = -1 then -1 else amS V w (moS V w i)), vI ((i : Int) + 1), vU] [] (stt g3) K) ∧ (¬ v ≤ (if moS V w i = -1 then -1 else amS V w (moS V w i)) → AW Γ l mX11_most (d + 5) b 27 [vR 1, vI w, vI i, vI v, vI ((i : Int) + 1), vU] [] (stt g3) K) := by
      intro v g3 ev o3
      subst ev
      have hi3 := hi g3 o3
      rw [e] at hi3
      refine ⟨fun z => ?_, fun z => ?_⟩
      · by_cases zm : moS V w i = -1
        · rw [if_pos zm] at z; omega
        · rw [if_neg zm] at z
          rw [if_neg zm, if_neg (by omega)] at hi3
          exact hi3
      · by_cases zm : moS V w i = -1
        · rw [if_pos zm, if_neg (by omega)] at hi3
          exact hi3
        · rw [if_neg zm] at z
          rw [if_neg zm, if_pos (by omega), if_neg (by omega)] at hi3
          exact hi3
    apply wpX11_most_27 hb
    rw [h2.1.ppl, wr_id (x := V 0) (by omega) (by omega), wr_id (x := (i : Int)) (by omega) (by omega), h2.n10 (by omega) (by omega), h2.n12 (by omega) (by omega), hw]
    generalize (if moS V w i = -1 then -1 else amS V w (moS V w i)) = y at hmr fin ⊢
    rw [wr_id (x := y) (by omega) (by omega), wr_id (x := zL V i) (by omega) (by omega), wr_id (x := zG V i) (by omega) (by omega)]
    refine ⟨fun z => absurd z (by omega), fun _ => ⟨fun z0 => ⟨fun z1 => ?_, fun z1 => k_heldWeight h2 (by omega) (by omega) fun g3 _ o3 => bI_in ?_⟩, fun z0 => ?_⟩⟩
    · have f := fin (zG V i) g2 (by unfold amS; rw [if_neg z0, if_neg z1]) ho
      exact ⟨fun z => AW.weak (f.1 z) (by simp [leP]), fun z => AW.weak (f.2 z) (by simp [leP])⟩
    · have hw3 := hwS_rng h.2.1 h.2.2.2 (p := i) (by omega) (by omega)
      rw [wr_id (x := hwS V V i) (by omega) (by omega)]
      have f := fin (hwS V V i) g3 (by unfold amS; rw [if_neg z0, if_pos (by omega)]) (ho.tr o3)
      exact ⟨fun z => AW.weak (f.1 z) (by simp [leP]), fun z => AW.weak (f.2 z) (by simp [leP])⟩
    · have f := fin (zL V i) g2 (by unfold amS; rw [if_pos (by omega)]) ho
      exact ⟨fun z => AW.weak (f.1 z) (by simp [leP]), fun z => AW.weak (f.2 z) (by simp [leP])⟩
theorem k_which (h : CS g V V) (hb : 1 ≤ b) (hw : wr w = w) (kk : ∀ g', kC g g' → K (oc [eNS] (s_which V w)) (stt g')) : Ct Γ l (d + 2) b yX11_which mX11_which [vR 1, vI w] (stt g) K := by
  have kk := kk g kC.rf
  unfold s_which at kk
  apply wpX11_which hb
  rw [hw]
  have bad : ¬ (0 ≤ w ∧ w ≤ 2) → K (.inr eNS) (stt g) := fun z => by rw [if_neg z] at kk; exact kk
  refine ⟨fun z => bad (by omega), fun z => ⟨fun z2 => ?_, fun z2 => bad (by omega)⟩⟩
  rw [if_pos (by omega)] at kk
  exact k_bitsOf h.1 h.2.1 (by omega) z2 (bI_in kk)
theorem k_log {i : Int} (h : CS g V V) (hb : 1 ≤ b) (hi : wr i = i) (hw : wr w = w) (kk : ∀ g', kC g g' → K (oc [eNS] (s_log V i w)) (stt g')) : Ct Γ l (d + 1) b yX11_log mX11_log [vR 1, vI i, vI w] (stt g) K := by
  have h6 := h.2.1.1.2.2.2.2.2
  have kk := kk g kC.rf
  unfold s_log at kk
  apply wpX11_log hb
  rw [hw, hi, h.1.lgd, wr_id (x := V 6) (by omega) (by omega)]
  have bad : ¬ (0 ≤ w ∧ w ≤ 4) → K (.inr eNS) (stt g) := fun z => by rw [if_neg z] at kk; exact kk
  refine ⟨fun z => bad (by omega), fun z => ⟨fun z2 => ⟨fun z3 => ?_, fun z3 => ⟨fun z4 => ?_, fun z4 => ?_⟩⟩, fun z2 => bad (by omega)⟩⟩
  · rw [if_pos (by omega), if_neg (by omega)] at kk; exact kk
  · rw [if_pos (by omega), if_pos (by omega)] at kk
    have e := h.1.2.2.2.2.2 i w (by omega) z4 (by omega) (by omega)
    have l16 : ln 16 = 300 := by decide +kernel
    rw [cel_in (by omega) (by rw [l16]; omega)]
    rw [show (8 : Int) + 1 + 7 = 16 by rfl] at e
    rw [e]
    exact kk
  · rw [if_pos (by omega), if_neg (by omega)] at kk; exact kk
theorem k_led (h : CS g V V) (hb : 2 ≤ b) (hp : wr p = p) (hn : wr n = n) (kk : ∀ g', kC g g' → K (oc [eIO] (s_led V p n)) (stt g')) : Ct Γ l (d + 2) b yX11_led mX11_led [vR 1, vI p, vI n] (stt g) K := by
  have h6 := h.2.1.1.2.2.2.2.2
  have kk := kk g kC.rf
  have l16 : ln 16 = 300 := by decide +kernel
  unfold s_led at kk
  apply wpX11_led (by omega)
  refine k_needPerson h (by decide) hp (fun p0 p1 => bV_in ?_) (fun z => bV_th ?_)
  · rw [if_pos ⟨p0, p1⟩] at kk
    refine up_loop (P := fun i => AW Γ l mX11_led (d + 2) (b - 1) 13 [vR 1, vI p, vI n, vI (ledS V p i).1, vI (ledS V p i).2, vI i] [] (stt g) K) (N := (V 6).toNat) ?_ (fun i hi9 hi => ?_) 0 (Nat.zero_le _)
    · apply wpX11_led_13 (by omega)
      rw [h.1.lgd, wr_id (x := V 6) (by omega) (by omega), wr_id (x := ((V 6).toNat : Int)) (by omega) (by omega), hn]
      refine ⟨fun _ => ⟨fun z => ?_, fun z => ?_⟩, fun z => absurd (show V 6 ≤ ((V 6).toNat : Int) by omega) z⟩
      · rw [if_pos z] at kk; exact kk
      · rw [if_neg z] at kk; exact kk
    · have e : ledS V p (i + 1) = if wr (V (186 + 5 * (V 6 - 1 - i) + 1)) = p then ((ledS V p i).1 + 1, V (186 + 5 * (V 6 - 1 - i))) else ledS V p i := rfl
      have e0 := h.1.2.2.2.2.2 (V 6 - 1 - i) 0 (by omega) (by omega) (by omega) (by omega)
      have e1 := h.1.2.2.2.2.2 (V 6 - 1 - i) 1 (by omega) (by omega) (by omega) (by omega)
      rw [show (8 : Int) + 1 + 7 = 16 by rfl, show V 6 - 1 - (V 6 - 1 - (i : Int)) = i by omega] at e0 e1
      rw [Int.add_zero, Int.add_zero] at e0
      rw [e] at hi
      apply wpX11_led_13 (by omega)
      rw [h.1.lgd, wr_id (x := V 6) (by omega) (by omega), wr_id (x := (i : Int)) (by omega) (by omega), cel_in (by omega) (by rw [l16]; omega), cel_in (by omega) (by rw [l16]; omega), hp, e0, e1]
      refine ⟨fun z => absurd z (by omega), fun _ => ⟨fun z => ?_, fun z => ?_⟩⟩
      · rw [if_neg z] at hi; exact hi
      · rw [if_pos (Decidable.not_not.mp z)] at hi; exact hi
  · rw [if_neg z] at kk; exact kk
theorem k_sumOf {r c : Int} (h : CS g V V) (hr : IA r) (hc : ∀ p, 0 ≤ p → p < 6 → cel g r p = V (12 + 29 * p + c)) (kk : K (.inl (vI (smS V c))) (stt g)) : Ct Γ l (d + 1) b yX11_sumOf mX11_sumOf [vR 1, vR r] (stt g) K := by
  have h6 := h.2.1.1.1
  apply wpX11_sumOf hr
  refine up_loop (P := fun i => AW Γ l mX11_sumOf (d + 1) b 4 [vR 1, vR r, vI (fd (fun s p => s + V (12 + 29 * p + c)) 0 i), vI i] [] (stt g) K) (N := (V 0).toNat) ?_ (fun i hi9 hi => ?_) 0 (Nat.zero_le _)
  · apply wpX11_sumOf_4 hr
    rw [h.1.ppl, wr_id (x := V 0) (by omega) (by omega), wr_id (x := ((V 0).toNat : Int)) (by omega) (by omega)]
    exact ⟨fun _ => kk, fun z => absurd (show V 0 ≤ ((V 0).toNat : Int) by omega) z⟩
  · apply wpX11_sumOf_4 hr
    rw [h.1.ppl, wr_id (x := V 0) (by omega) (by omega), wr_id (x := (i : Int)) (by omega) (by omega), hc i (by omega) (by omega)]
    exact ⟨fun z => absurd z (by omega), fun _ => hi⟩
theorem k_count {m : Int} (h : CS g V V) (hw : wr w = w) (hm : g 1 15 = m) (kk : ∀ g', kC g g' → K (.inl (vI (c_count V m w))) (stt g')) : Ct Γ l (d + 2) b yX11_count mX11_count [vR 1, vI w] (stt g) K := by
  have h6 := h.2.1.1.1
  have kk := kk g kC.rf
  unfold c_count at kk
  apply wpX11_count
  obtain ⟨-, ⟨a1, a2, -, -⟩, -⟩ := h.2.2.1
  have h2 := h.2.2.2.2.1
  rw [hw, h.1.ppl, h.1.txt, h.1.noi, h.1.hou, h.1.ear, h.1.lgd, hm, a1, a2]
  refine ⟨fun z => ?_, fun z => ?_, fun z => ?_, fun z => ?_, fun z => ?_, fun z => ?_, fun z => ?_, fun z => ?_, fun z => ?_, fun z => ?_, fun z => ?_⟩
  · subst z; exact kk
  · subst z; exact kk
  · subst z
    have kk : K (.inl (vI (if V 2 = 1 then V 486 else -1))) (stt g) := kk
    refine ⟨fun z => ?_, fun z => ?_⟩
    · rcases h2 with e | e
      · rw [if_neg (by omega)] at kk; exact kk
      · rw [e] at z; exact absurd z (by decide +kernel)
    · rcases h2 with e | e
      · rw [e] at z; exact absurd wr_0 z
      · rw [if_pos e] at kk; exact kk
  · subst z; exact kk
  · subst z; exact kk
  · subst z; exact kk
  · subst z; exact k_sumOf h (show (shp 10).1 = 0 by decide +kernel) (fun p p0 p1 => h.n10 p0 p1) (bI_in kk)
  · subst z; exact k_sumOf h (show (shp 12).1 = 0 by decide +kernel) (fun p p0 p1 => h.n12 p0 p1) (bI_in kk)
  · subst z; exact kk
  · subst z; exact kk
  · rw [if_neg (by omega), if_neg (by omega), if_neg (by omega), if_neg (by omega), if_neg (by omega), if_neg (by omega), if_neg (by omega), if_neg (by omega), if_neg (by omega), if_neg (by omega)] at kk
    exact kk
theorem k_twins (h : CS g V V) (kk : ∀ g', kC g g' → K (.inl (vI (prD (twS V) (V 0).toNat))) (stt g')) : Ct Γ l (d + 3) b yX11_twins mX11_twins [vR 1] (stt g) K := by
  have h6 := h.2.1.1.1
  have kk := kk g kC.rf
  rw [← prU_D (twS_sym V)] at kk
  apply wpX11_twins
  refine up_loop (P := fun i => AW Γ l mX11_twins (d + 3) b 4 [vR 1, vI (prU (twS V) (V 0).toNat 0 i), vI i, vU, vU] [] (stt g) K) (N := (V 0).toNat) ?_ (fun i hi9 hi => ?_) 0 (Nat.zero_le _)
  · apply wpX11_twins_4
    rw [h.1.ppl, wr_id (x := V 0) (by omega) (by omega), wr_id (x := ((V 0).toNat : Int)) (by omega) (by omega)]
    exact ⟨fun _ => kk, fun z => absurd (show V 0 ≤ ((V 0).toNat : Int) by omega) z⟩
  · have hi2 : AW Γ l mX11_twins (d + 3) b 4 [vR 1, vI (prB (twS V) (V 0).toNat ((i : Int)).toNat (prU (twS V) (V 0).toNat 0 i)), vI ((i : Int) + 1), vU, vU] [] (stt g) K := hi
    rw [Int.toNat_natCast] at hi2
    apply wpX11_twins_4
    rw [h.1.ppl, wr_id (x := V 0) (by omega) (by omega), wr_id (x := (i : Int)) (by omega) (by omega)]
    refine ⟨fun z => absurd z (by omega), fun _ => ?_⟩
    generalize prU (twS V) (V 0).toNat 0 i = s at hi2 ⊢
    unfold prB at hi2
    have hpi := h.2.1.pn (p := i) (by omega) (by omega)
    have z9 := up_loop (P := fun j => AW Γ l mX11_twins (d + 3) b 19 [vR 1, vI (fd (fun x j => x + twS V i (i + 1 + j)) s j), vI i, vI ((i : Int) + 1 + j), vU] [] (stt g) K) (N := (V 0).toNat - (i + 1)) ?_ (fun j hj9 hj => ?_) 0 (Nat.zero_le _)
    · rw [show (i : Int) + 1 + ((0 : Nat) : Int) = (i : Int) + 1 by omega] at z9
      exact z9
    · apply wpX11_twins_19
      rw [h.1.ppl, wr_id (x := V 0) (by omega) (by omega), wr_id (x := (i : Int) + 1 + (((V 0).toNat - (i + 1) : Nat) : Int)) (by omega) (by omega)]
      exact ⟨fun _ => AW.weak hi2 (by simp [leP]), fun z => absurd (show V 0 ≤ (i : Int) + 1 + (((V 0).toNat - (i + 1) : Nat) : Int) by omega) z⟩
    · have hpj := h.2.1.pn (p := (i : Int) + 1 + j) (by omega) (by omega)
      have hj2 : AW Γ l mX11_twins (d + 3) b 19 [vR 1, vI (fd (fun x j => x + twS V i (i + 1 + j)) s j + twS V i ((i : Int) + 1 + j)), vI i, vI ((i : Int) + 1 + ((j + 1 : Nat) : Int)), vU] [] (stt g) K := hj
      rw [show (i : Int) + 1 + ((j + 1 : Nat) : Int) = (i : Int) + 1 + j + 1 by omega] at hj2
      generalize fd (fun x j => x + twS V i (i + 1 + j)) s j = y at hj2 ⊢
      apply wpX11_twins_19
      rw [h.1.ppl, wr_id (x := V 0) (by omega) (by omega), wr_id (x := (i : Int) + 1 + j) (by omega) (by omega), h.n10 (by omega) (by omega), h.n10 (by omega) (by omega), wr_id (x := zL V i) (by omega) (by omega), wr_id (x := zL V ((i : Int) + 1 + j)) (by omega) (by omega)]
      unfold twS at hj2
      refine ⟨fun z => absurd z (by omega), fun _ => ⟨fun z => ?_, fun z => k_alikeFirst h.1 h.2.1 (by omega) (by omega) (by omega) (by omega) fun r ⟨r0, r1, r2, r3⟩ => bI_in ?_⟩⟩
      · rw [if_neg (fun c => z c.1), Int.add_zero] at hj2
        exact AW.weak hj2 (by simp [leP])
      · have hm : mnL V i ((i : Int) + 1 + j) = zL V i := by
          unfold mnL
          omega
        have ht := twS_aa h.2.1 (p := i) (q := (i : Int) + 1 + j) (by omega) (by omega) (by omega)
        rw [wr_id (x := r) (by omega) (by omega)]
        refine ⟨fun z2 => ?_, fun z2 => ?_⟩
        · rw [if_neg (fun c => r3 (by omega) (ht.mp c.2 r r0 (by omega))), Int.add_zero] at hj2
          exact AW.weak hj2 (by simp [leP])
        · rw [if_pos ⟨by omega, ht.mpr fun k k0 k1 => r2 k k0 (by omega)⟩] at hj2
          exact AW.weak hj2 (by simp [leP])
theorem k_oneOf {c x1 x2 x3 x4 : Int} (hc : wr c = c) (kk : K (.inl (vI (if c = 0 then x1 else if c = 1 then x2 else if c = 2 then x3 else x4))) (stt g)) : Ct Γ l d b yX11_oneOf mX11_oneOf [vI c, vI x1, vI x2, vI x3, vI x4] (stt g) K := by
  apply wpX11_oneOf
  rw [hc]
  refine ⟨fun z => ?_, fun z => ?_, fun z => ?_, fun z => ?_⟩
  · rw [if_pos z] at kk; exact kk
  · rw [if_neg (by omega), if_pos z] at kk; exact kk
  · rw [if_neg (by omega), if_neg (by omega), if_pos z] at kk; exact kk
  · rw [if_neg (by omega), if_neg (by omega), if_neg (by omega)] at kk; exact kk
theorem k_rests1 {s w v y : Int} (c : Int) (hb : 1 ≤ b) (hc : c = 0 ∨ c = 1 ∨ c = 2 ∨ c = 3) (s0 : 0 ≤ s) (s1 : s ≤ 599) (w0 : 0 ≤ w) (w1 : w ≤ 599) (v0 : -9 ≤ v) (v1 : v ≤ 0)
    (kk : AW Γ l mX11_rests (d + 1) b 67 [vR 1, vI p, vI s, vI w, vI v, vI (if c = 0 then (if 2 ≤ s then iOr y (iShl 1 0) else y) else if c = 3 then (if w ≤ 1 then iOr y (iShl 1 3) else y) else y), vI (c + 1), vU, vU] [] (stt g) K) : AW Γ l mX11_rests (d + 1) b 67 [vR 1, vI p, vI s, vI w, vI v, vI y, vI c, vU, vU] [] (stt g) K := by
  have hwr : ∀ x : Int, -9 ≤ x → x ≤ 599 → wr x = x := fun x h0 h1 => wr_id (by omega) (by omega)
  apply wpX11_rests_67 hb
  rw [hwr c (by omega) (by omega)]
  refine ⟨fun z => absurd z (by omega), fun _ => k_oneOf (hwr c (by omega) (by omega)) (bI_in ?_)⟩
  rcases hc with rfl | rfl | rfl | rfl
  · refine k_oneOf (c := iXor 0 2) (by decide +kernel) (bI_in ?_)
    rw [show iXor 0 2 = 2 by decide +kernel, show iXor 0 1 = 1 by decide +kernel]
    simp only [if_true, show ¬ ((2 : Int) = 0) by decide, show ¬ ((2 : Int) = 1) by decide, show ¬ ((1 : Int) = 0) by decide, if_false] at kk ⊢
    rw [hwr s (by omega) (by omega), hwr 2 (by decide) (by decide)]
    refine ⟨fun z => ?_, fun z => ?_⟩
    · rw [if_neg (by omega)] at kk
      refine k_oneOf (c := 0) (by decide +kernel) (bI_in (k_oneOf (c := 1) (by decide +kernel) (bI_in ⟨fun _ => AW.weak kk (by simp [leP]), fun _ => AW.weak kk (by simp [leP])⟩)))
    · rw [if_pos (by omega)] at kk
      refine k_oneOf (c := 0) (by decide +kernel) (bI_in (k_oneOf (c := 1) (by decide +kernel) (bI_in ⟨fun z2 => ?_, fun _ => AW.weak kk (by simp [leP])⟩)))
      exact absurd (show wr 3 < wr 0 from z2) (by decide +kernel)
  · refine k_oneOf (c := iXor 1 2) (by decide +kernel) (bI_in ?_)
    rw [show iXor 1 2 = 3 by decide +kernel, show iXor 1 1 = 0 by decide +kernel]
    simp only [if_true, show ¬ ((3 : Int) = 0) by decide, show ¬ ((3 : Int) = 1) by decide, show ¬ ((3 : Int) = 2) by decide, show ¬ ((1 : Int) = 0) by decide, show ¬ ((1 : Int) = 3) by decide, if_false] at kk ⊢
    refine ⟨fun z => ?_, fun z => ?_⟩
    · refine k_oneOf (c := 1) (by decide +kernel) (bI_in (k_oneOf (c := 0) (by decide +kernel) (bI_in ⟨fun _ => AW.weak kk (by simp [leP]), fun _ => AW.weak kk (by simp [leP])⟩)))
    · refine k_oneOf (c := 1) (by decide +kernel) (bI_in (k_oneOf (c := 0) (by decide +kernel) (bI_in ⟨fun _ => AW.weak kk (by simp [leP]), fun z2 => ?_⟩)))
      exact absurd (show wr 0 < wr 3 by decide +kernel) z2
  · refine k_oneOf (c := iXor 2 2) (by decide +kernel) (bI_in ?_)
    rw [show iXor 2 2 = 0 by decide +kernel, show iXor 2 1 = 3 by decide +kernel]
    simp only [if_true, show ¬ ((2 : Int) = 0) by decide, show ¬ ((2 : Int) = 1) by decide, show ¬ ((2 : Int) = 3) by decide, if_false] at kk ⊢
    have hz : wr v < wr 1 := by rw [hwr v (by omega) (by omega), hwr 1 (by decide) (by decide)]; omega
    refine ⟨fun z => ?_, fun z => ?_⟩
    · refine k_oneOf (c := 2) (by decide +kernel) (bI_in (k_oneOf (c := 3) (by decide +kernel) (bI_in ⟨fun _ => AW.weak kk (by simp [leP]), fun z2 => absurd hz z2⟩)))
    · refine k_oneOf (c := 2) (by decide +kernel) (bI_in (k_oneOf (c := 3) (by decide +kernel) (bI_in ⟨fun _ => AW.weak kk (by simp [leP]), fun z2 => absurd hz z2⟩)))
  · refine k_oneOf (c := iXor 3 2) (by decide +kernel) (bI_in ?_)
    rw [show iXor 3 2 = 1 by decide +kernel, show iXor 3 1 = 2 by decide +kernel]
    simp only [if_true, show ¬ ((3 : Int) = 0) by decide, show ¬ ((3 : Int) = 1) by decide, show ¬ ((3 : Int) = 2) by decide, show ¬ ((1 : Int) = 0) by decide, if_false] at kk ⊢
    have hz : ¬ wr 1 < wr v := by rw [hwr v (by omega) (by omega), hwr 1 (by decide) (by decide)]; omega
    rw [hwr w (by omega) (by omega), hwr 1 (by decide) (by decide)]
    rw [hwr 1 (by decide) (by decide)] at hz
    refine ⟨fun z => ?_, fun z => ?_⟩
    · rw [if_neg (by omega)] at kk
      refine k_oneOf (c := 3) (by decide +kernel) (bI_in (k_oneOf (c := 2) (by decide +kernel) (bI_in ⟨fun _ => AW.weak kk (by simp [leP]), fun _ => AW.weak kk (by simp [leP])⟩)))
    · rw [if_pos (by omega)] at kk
      refine k_oneOf (c := 3) (by decide +kernel) (bI_in (k_oneOf (c := 2) (by decide +kernel) (bI_in ⟨fun z2 => absurd z2 hz, fun _ => AW.weak kk (by simp [leP])⟩)))
theorem k_rests (h : CS g V V) (hb : 2 ≤ b) (hp : wr p = p) (kk : ∀ g', kC g g' → K (oc [eIO] (s_rests V p)) (stt g')) : Ct Γ l (d + 5) b yX11_rests mX11_rests [vR 1, vI p] (stt g) K := by
  have h6 := h.2.1.1.1
  unfold s_rests at kk
  apply wpX11_rests (by omega)
  refine k_needPerson h (by decide) hp (fun p0 p1 => bV_in ?_) (fun z => bV_th ?_)
  · have hpn := h.2.1.pn p0 (show p < 6 by omega)
    have hr := wst_in (W := V) h.2.1 p0 p1
    have s1 := wV_rng h.2.1 h.2.2.2 p0 (show p < 6 by omega) (n := wstS V V p) (by omega) (by omega)
    have s2 := wV_rng h.2.1 h.2.2.2 p0 (show p < 6 by omega) (n := zL V p) (by omega) (by omega)
    rw [if_pos ⟨p0, p1⟩] at kk
    refine k_worst h p0 p1 fun g1 o1 => bI_in ?_
    have c1 := h.os o1
    refine k_w8 c1 p0 p1 (by omega) hr.2 fun g2 _ o2 => bI_in ?_
    have c2 := c1.os o2
    rw [c2.n10 p0 (by omega)]
    refine k_w8 c2 p0 p1 (by omega) (Int.le_refl _) fun g3 _ o3 => bI_in ?_
    have c3 := c2.os o3
    rw [c3.n12 p0 (by omega)]
    have kk := kk g3 ((o1.c.tr o2.c).tr o3.c)
    unfold rsS at kk
    generalize wV V V p (wstS V V p) = s at s1 kk ⊢
    generalize wV V V p (zL V p) = w at s2 kk ⊢
    refine k_rests1 0 (by omega) (Or.inl rfl) s1.1 s1.2 s2.1 s2.2 (by omega) (by omega) ?_
    refine k_rests1 1 (by omega) (Or.inr (Or.inl rfl)) s1.1 s1.2 s2.1 s2.2 (by omega) (by omega) ?_
    refine k_rests1 2 (by omega) (Or.inr (Or.inr (Or.inl rfl))) s1.1 s1.2 s2.1 s2.2 (by omega) (by omega) ?_
    refine k_rests1 3 (by omega) (Or.inr (Or.inr (Or.inr rfl))) s1.1 s1.2 s2.1 s2.2 (by omega) (by omega) ?_
    apply wpX11_rests_67 (by omega)
    refine ⟨fun _ => ?_, fun z => absurd (show 4 ≤ wr (3 + 1) by decide +kernel) z⟩
    simp only [if_true, show ¬ ((3 : Int) = 0) by decide, show ¬ ((2 : Int) = 0) by decide, show ¬ ((1 : Int) = 0) by decide, show ¬ ((2 : Int) = 3) by decide, show ¬ ((1 : Int) = 3) by decide, if_false]
    rw [show iOr 0 (iShl 1 0) = 1 by decide +kernel]
    by_cases z1 : 2 ≤ s
    · rw [if_pos z1] at kk ⊢
      by_cases z2 : w ≤ 1
      · rw [if_pos z2] at kk ⊢
        rw [show iOr 1 (iShl 1 3) = 9 by decide +kernel]; exact kk
      · rw [if_neg z2] at kk ⊢; exact kk
    · rw [if_neg z1] at kk ⊢
      by_cases z2 : w ≤ 1
      · rw [if_pos z2] at kk ⊢
        rw [show iOr 0 (iShl 1 3) = 8 by decide +kernel]; exact kk
      · rw [if_neg z2] at kk ⊢; exact kk
  · rw [if_neg z] at kk; exact kk g kC.rf
end QC2
