/-! AN ORDER OF WHAT IS SAID: the reference's side -/
def sumL (N : Int → Int) : List Int → Int
  | [] => 0
  | x :: r => N x + sumL N r
theorem sumL_ord {N : Int → Int} : ∀ (k : Nat) (S num : Int), 0 ≤ S → S < 64 → szS S = k → 0 ≤ num → num < fac k → sumL N (ordS k S num) = snS N S 6
  | 0, S, num, s0, s1, sz, _, _ => by
    have : ∀ n : Nat, n ≤ 6 → snS N S n = 0 := fun n => by
      induction n with
      | zero => exact fun _ => rfl
      | succ n ih =>
        intro hn
        have e : snS N S (n + 1) = if S.toNat.testBit ((n : Int)).toNat = true then snS N S n + N n else snS N S n := rfl
        rw [e, if_neg, ih (by omega)]
        intro c
        have e := cn_s S (x := (n : Int)) (by omega)
        rw [if_pos c] at e
        have a := cn_rng S n
        have m := cn_mono S (x := (n : Int) + 1) (by omega) (6 - (n + 1))
        rw [show (n : Int) + 1 + ((6 - (n + 1) : Nat) : Int) = 6 by omega] at m
        unfold szS at sz
        omega
    exact (this 6 (Nat.le_refl _)).symm
  | k + 1, S, num, s0, s1, sz, n0, n1 => by
    have fp := fac_pos k
    have n1 : num < ((k : Int) + 1) * fac k := n1
    have j0 : 0 ≤ num / fac k := Int.ediv_nonneg n0 (by omega)
    have j1 : num / fac k < (k : Int) + 1 := Int.ediv_lt_of_lt_mul (by omega) n1
    have nt := nth_ok (S := S) j0 (by rw [sz]; omega)
    have r1 := rm_ok s0 s1 nt.1.1 nt.1.2
    have ih := sumL_ord (N := N) k (rmS S (nthS S (num / fac k))) (num % fac k) r1.1.1 r1.1.2 (by rw [sz_rm s0 s1 nt.1.1 nt.1.2 nt.2.1, sz]; omega) (Int.emod_nonneg _ (by omega)) (Int.emod_lt_of_pos _ (by omega))
    show N _ + sumL N (ordS k _ _) = _
    rw [ih, sn_rm s0 s1 nt.1.1 nt.1.2 nt.2.1 6 (Nat.le_refl _), if_pos (show nthS S (num / fac k) < (6 : Nat) by omega)]
    omega
/-- how many words stand when an order is laid -/
def flF (N : Int → Int) : Nat → List Int → Nat
  | fl, [] => fl
  | fl, x :: r => flF N (fl + (N x).toNat) r
theorem flF_eq {N : Int → Int} : ∀ {r : List Int} {fl : Nat}, (∀ x, x ∈ r → 0 ≤ N x) → (flF N fl r : Int) = fl + sumL N r
  | [], fl, _ => by show (fl : Int) = fl + 0; omega
  | x :: r, fl, h => by
    have hx := h x List.mem_cons_self
    have ih := flF_eq (N := N) (r := r) (fl := fl + (N x).toNat) (fun y hy => h y (List.mem_cons_of_mem _ hy))
    show (flF N (fl + (N x).toNat) r : Int) = fl + (N x + sumL N r)
    rw [ih]; omega
theorem plF_lo {A N : Int → Int} : ∀ {r : List Int} {pl : Int → Int} {fl : Nat} {k : Int}, k < fl → plF A N pl fl r k = pl k
  | [], _, _, _, _ => rfl
  | x :: r, pl, fl, k, h => by
    show plF A N (apS A pl fl x) (fl + (N x).toNat) r k = pl k
    rw [plF_lo (by omega)]
    unfold apS
    rw [if_pos h]
theorem GS.pl {V : VV} {p u : Int} {A N : Int → Int} (hV : WF V) (p0 : 0 ≤ p) (p1 : p < 6) (hu : UT V p u A N) : ∀ {r : List Int} {pl : Int → Int} {fl : Nat}, GS V p pl fl → (∀ x, x ∈ r → 0 ≤ x ∧ x < u) → GS V p (plF A N pl fl r) (flF N fl r)
  | [], _, _, h, _ => h
  | x :: r, pl, fl, h, hr => GS.pl hV p0 p1 hu (r := r) (h.ap hV p0 p1 hu (hr x List.mem_cons_self).1 (hr x List.mem_cons_self).2) (fun y hy => hr y (List.mem_cons_of_mem _ hy))
theorem fd_app {α : Type} {f : α → Int → α} {a : α} {n : Nat} : ∀ {m : Nat}, fd f a (n + m) = fd (fun x i => f x (n + i)) (fd f a n) m
  | 0 => rfl
  | m + 1 => by
    have ih := fd_app (f := f) (a := a) (n := n) (m := m)
    show f (fd f a (n + m)) ((n + m : Nat) : Int) = f (fd (fun x i => f x (n + i)) (fd f a n) m) (n + m)
    rw [ih]
    congr 1
/-- what is least may be taken of all at the end -/
theorem fd_mn {h : Int → Int} {n : Nat} (hh : ∀ i : Nat, i < n → 0 ≤ h i ∧ h i ≤ 9999) {c : Int} (c0 : 0 ≤ c) (c1 : c ≤ 9999) : ∀ m : Nat, m ≤ n → (0 ≤ fd (fun x i => iMin x (h i)) 9999 m ∧ fd (fun x i => iMin x (h i)) 9999 m ≤ 9999) ∧ fd (fun x i => iMin x (h i)) c m = iMin c (fd (fun x i => iMin x (h i)) 9999 m) := fun m => by
  induction m with
  | zero =>
    intro _
    refine ⟨⟨show (0 : Int) ≤ 9999 by decide, show (9999 : Int) ≤ 9999 by decide⟩, ?_⟩
    show c = iMin c 9999
    rw [iMin_id (by omega) (by omega) (by omega) (by omega)]
    omega
  | succ m ih =>
    intro hm
    have ih := ih (by omega)
    have hx := hh m (by omega)
    have e : ∀ a, fd (fun x i => iMin x (h i)) a (m + 1) = iMin (fd (fun x i => iMin x (h i)) a m) (h m) := fun a => rfl
    rw [e, e, ih.2]
    generalize fd (fun x i => iMin x (h i)) 9999 m = y at ih ⊢
    have e1 : iMin y (h m) = if h m < y then h m else y := iMin_id (by omega) (by omega) (by omega) (by omega)
    have e2 : iMin c y = if y < c then y else c := iMin_id (by omega) (by omega) (by omega) (by omega)
    rw [e1, e2, iMin_id (x := if y < c then y else c) (by omega) (by omega) (by omega) (by omega), iMin_id (x := c) (by omega) (by omega) (by omega) (by omega)]
    omega
theorem sr_fd {V : VV} {p u : Int} {A N : Int → Int} (hV : WF V) (hW : okLaw V) (p0 : 0 ≤ p) (p1 : p < 6) (hu : UT V p u A N) : ∀ {r : List Int} {least : Int} {pl : Int → Int} {fl : Nat}, 0 ≤ least → least ≤ 9999 → GS V p pl fl → (∀ x, x ∈ r → 0 ≤ x ∧ x < u) → srF V p A N least pl fl r = fd (fun x i => iMin x (wP V p (fun k => zW V p (plF A N pl fl r k)) (fl + i + 1))) least (flF N fl r - fl)
  | [], least, pl, fl, _, _, _, _ => by
    show least = fd _ least (fl - fl)
    rw [Nat.sub_self]; rfl
  | x :: r, least, pl, fl, l0, l1, hg, hr => by
    have hx := hr x List.mem_cons_self
    have ga := hg.ap hV p0 p1 hu hx.1 hx.2
    have lo := lo_rng hV hW p0 p1 hu hg hx.1 hx.2 (N x).toNat (Nat.le_refl _)
    have lo : 0 ≤ loS V p A N pl fl x ∧ loS V p A N pl fl x ≤ 9999 := lo
    have em : iMin least (loS V p A N pl fl x) = if loS V p A N pl fl x < least then loS V p A N pl fl x else least := iMin_id (by omega) (by omega) (by omega) (by omega)
    have ih := sr_fd hV hW p0 p1 hu (r := r) (least := iMin least (loS V p A N pl fl x)) (pl := apS A pl fl x) (fl := fl + (N x).toNat) (by rw [em]; omega) (by rw [em]; omega) ga (fun y hy => hr y (List.mem_cons_of_mem _ hy))
    have le : fl + (N x).toNat ≤ flF N (fl + (N x).toNat) r := by
      have : ∀ (r : List Int) (f : Nat), f ≤ flF N f r := fun r => by
        induction r with
        | nil => exact fun f => Nat.le_refl _
        | cons y r ih2 => exact fun f => Nat.le_trans (Nat.le_add_right _ _) (ih2 _)
      exact this r _
    have e1 : flF N fl (x :: r) - fl = (N x).toNat + (flF N (fl + (N x).toNat) r - (fl + (N x).toNat)) := by
      show flF N (fl + (N x).toNat) r - fl = _
      omega
    have e2 : plF A N pl fl (x :: r) = plF A N (apS A pl fl x) (fl + (N x).toNat) r := rfl
    show srF V p A N (iMin least (loS V p A N pl fl x)) (apS A pl fl x) (fl + (N x).toNat) r = _
    rw [ih, e1, e2, fd_app]
    have e3 : fd (fun y i => iMin y (wP V p (fun k => zW V p (plF A N (apS A pl fl x) (fl + (N x).toNat) r k)) (fl + i + 1))) least (N x).toNat = iMin least (loS V p A N pl fl x) := by
      have c1 : fd (fun y i => iMin y (wP V p (fun k => zW V p (plF A N (apS A pl fl x) (fl + (N x).toNat) r k)) (fl + i + 1))) least (N x).toNat = fd (fun y i => iMin y (wP V p (fun k => zW V p (apS A pl fl x k)) (fl + i + 1))) least (N x).toNat := fd_ext fun y i hi => by
        have := wP_cg (V := V) (p := p) (n := fl + i + 1) (f := fun k => zW V p (apS A pl fl x k)) (f' := fun k => zW V p (plF A N (apS A pl fl x) (fl + (N x).toNat) r k)) (fun k hk => by
          show zW V p (plF A N (apS A pl fl x) (fl + (N x).toNat) r k) = zW V p (apS A pl fl x k)
          rw [plF_lo (by omega)])
        rw [show ((fl + i + 1 : Nat) : Int) = (fl : Int) + i + 1 by omega] at this
        rw [this]
      rw [c1]
      exact (fd_mn (h := fun i => wP V p (fun k => zW V p (apS A pl fl x k)) (fl + i + 1)) (n := (N x).toNat) (fun i hi => by
        have := wP_rng hV hW p0 p1 (pl := apS A pl fl x) (n := fl + i + 1) (fun k hk => ga.1 k (by omega)) (fun k hk => ga.2.1 k (by omega))
        rw [show ((fl + i + 1 : Nat) : Int) = (fl : Int) + i + 1 by omega] at this
        omega) l0 l1 (N x).toNat (Nat.le_refl _)).2
    rw [e3]
    refine fd_ext fun y i _ => ?_
    have : ((fl + (N x).toNat : Nat) : Int) + (i : Int) + 1 = (fl : Int) + (((N x).toNat : Int) + i) + 1 := by omega
    rw [this]
/-- where the least begins is nothing, if it is large -/
theorem fd_far {h : Int → Int} {n : Nat} (hh : ∀ i : Nat, i < n → 0 ≤ h i ∧ h i ≤ 599) {a b : Int} (a0 : 600 ≤ a) (a1 : a ≤ 1000000) (b0 : 600 ≤ b) (b1 : b ≤ 1000000) : ∀ m : Nat, 0 < m → m ≤ n → fd (fun x i => iMin x (h i)) a m = fd (fun x i => iMin x (h i)) b m ∧ 0 ≤ fd (fun x i => iMin x (h i)) a m ∧ fd (fun x i => iMin x (h i)) a m ≤ 599 := fun m => by
  induction m with
  | zero => exact fun h => absurd h (by decide)
  | succ m ih =>
    intro _ hm
    have hx := hh m (by omega)
    have e : ∀ a, fd (fun x i => iMin x (h i)) a (m + 1) = iMin (fd (fun x i => iMin x (h i)) a m) (h m) := fun a => rfl
    by_cases c : m = 0
    · subst c
      rw [e, e]
      have e1 : iMin (fd (fun x i => iMin x (h i)) a 0) (h ((0 : Nat) : Int)) = h ((0 : Nat) : Int) := by
        show iMin a _ = _
        rw [iMin_id (by omega) (by omega) (by omega) (by omega), if_pos (by omega)]
      have e2 : iMin (fd (fun x i => iMin x (h i)) b 0) (h ((0 : Nat) : Int)) = h ((0 : Nat) : Int) := by
        show iMin b _ = _
        rw [iMin_id (by omega) (by omega) (by omega) (by omega), if_pos (by omega)]
      rw [e1, e2]
      exact ⟨rfl, hx.1, hx.2⟩
    · have ih := ih (by omega) (by omega)
      rw [e, e, ← ih.1, iMin_id (by omega) (by omega) (by omega) (by omega)]
      exact ⟨rfl, by omega, by omega⟩
def onlyX (g g' : GG) : Prop := ∀ a j, ¬ rW a j → ¬ (180 ≤ a ∧ a ≤ 184) → ¬ (a = 171 ∧ j = 27) → g' a j = g a j
theorem onlyX.rf {g : GG} : onlyX g g := fun _ _ _ _ _ => rfl
theorem onlyX.tr {g g1 g2 : GG} (h : onlyX g g1) (h2 : onlyX g1 g2) : onlyX g g2 := fun a j a1 a2 a3 => by rw [h2 a j a1 a2 a3, h a j a1 a2 a3]
theorem onlyX.v {g g' : GG} (h : onlyX g g') : g' 172 = g 172 := funext fun j => h _ _ (by unfold rW; omega) (by decide) (by omega)
theorem onlyX.z {g g' : GG} (h : onlyX g g') : g' 171 0 = g 171 0 := h _ _ (by unfold rW; omega) (by decide) (by decide)
theorem onlyX.k {g g' : GG} (h : onlyX g g') : kM g g' := fun a j hs => h a j (by unfold rW; unfold mS at hs; omega) (by unfold mS at hs; omega) (by unfold mS at hs; omega)
/-- units in the reference's rows -/
def UM (g : GG) (s : Int × (Int → Int) × (Int → Int)) : Prop := g 171 27 = s.1 ∧ ∀ j, 0 ≤ j → j < s.1 → g 182 j = s.2.1 j ∧ g 183 j = s.2.2 j
section OM
variable {Γ : Cfg} {l : Launch} {V : VV} {p : Int}
theorem m_units {d b : Nat} {g : GG} {K : Ou → HP → Prop} (hv : g 172 = V) (hV : WF V) (p0 : 0 ≤ p) (p1 : p < V 0) (kk : ∀ g', onlyX g g' → UM g' (unF (zW V p) (zL V p).toNat) → K (.inl vU) (stt g')) : Ct Γ l (d + 3) b yX12_laysUnits mX12_laysUnits [vR 171, vI p] (stt g) K := by
  have h6 := hV.1.1
  have hq := hV.pn p0 (show p < 6 by omega)
  have po := hV.po p0 (show p < 6 by omega)
  apply wpX12_laysUnits
  refine up_loop (P := fun i => ∀ g1, onlyX g g1 → UM g1 (unF (zW V p) i) → AW Γ l mX12_laysUnits (d + 3) b 9 [vR 171, vI p, vI (dpf (zW V p) i), vI i] [] (stt g1) K) (N := (zL V p).toNat) (fun g1 o1 u1 => ?_) (fun i hi9 hi g1 o1 u1 => ?_) 0 (Nat.zero_le _) _ (fun a j _ _ a3 => if_neg (fun e => a3 ⟨e.2, e.1⟩)) ⟨upd2_eq, fun j j0 j1 => absurd (show j < 0 from j1) (by omega)⟩
  · obtain ⟨a0, -⟩ := ofP_all (o1.v.trans hv) p0 (show p < 6 by omega)
    apply wpX12_laysUnits_9
    rw [a0.1, wr_id (x := zL V p) (by omega) (by omega), wr_id (x := ((zL V p).toNat : Int)) (by omega) (by omega)]
    exact ⟨a0.2, fun _ => kk g1 o1 u1, fun c => absurd (show zL V p ≤ ((zL V p).toNat : Int) by omega) c⟩
  · obtain ⟨a0, -⟩ := ofP_all (o1.v.trans hv) p0 (show p < 6 by omega)
    have ui := UI_all (zW V p) i
    have dp := po.2.2.1 i (by omega)
    have hi2 : ∀ g1 : GG, onlyX g g1 → UM g1 (unF (zW V p) (i + 1)) → AW Γ l mX12_laysUnits (d + 3) b 9 [vR 171, vI p, vI (dpf (zW V p) i + (if (zW V p i).1 = 8 then 1 else if (zW V p i).1 = 9 then -1 else 0)), vI ((i : Int) + 1)] [] (stt g1) K := fun g1 a1 a2 => by
      have := hi g1 a1 a2
      rw [dpf_s] at this
      exact this
    have fin : ∀ g3 : GG, onlyX g g3 → UM g3 (unF (zW V p) (i + 1)) → (okP p (5 + 2 * i)) ∧ ((¬ wr (ofP g3 p (5 + 2 * i)) = 8 → (okP p (5 + 2 * i)) ∧ ((¬ wr (ofP g3 p (5 + 2 * i)) = 9 → AW Γ l mX12_laysUnits (d + 3) b 9 [vR 171, vI p, vI (dpf (zW V p) i + 0), vI ((i : Int) + 1)] [] (stt g3) K) ∧ (¬ (¬ wr (ofP g3 p (5 + 2 * i)) = 9) → AW Γ l mX12_laysUnits (d + 3) b 9 [vR 171, vI p, vI (dpf (zW V p) i + (-1)), vI ((i : Int) + 1)] [] (stt g3) K))) ∧ (¬ (¬ wr (ofP g3 p (5 + 2 * i)) = 8) → AW Γ l mX12_laysUnits (d + 3) b 9 [vR 171, vI p, vI (dpf (zW V p) i + 1), vI ((i : Int) + 1)] [] (stt g3) K)) := fun g3 o3 u3 => by
      obtain ⟨w1, -⟩ := ofP_word (o3.v.trans hv) p0 (show p < 6 by omega) (k := (i : Int)) (by omega) (by omega)
      have kn := (hV.kn p0 (show p < 6 by omega) (k := (i : Int)) (by omega) (by omega)).1
      have nx := hi2 g3 o3 u3
      have ez : (zW V p i).1 = zK V p i := rfl
      rw [ez] at nx
      rw [w1.1, wr_id (x := zK V p i) (by omega) (by omega)]
      refine ⟨w1.2, fun c8 => ⟨w1.2, fun c9 => ?_, fun c9 => ?_⟩, fun c8 => ?_⟩
      · rw [if_neg c8, if_neg c9] at nx; exact nx
      · rw [if_neg c8, if_pos (Decidable.not_not.mp c9)] at nx; exact nx
      · rw [if_pos (Decidable.not_not.mp c8)] at nx; exact nx
    have e : unF (zW V p) (i + 1) = if dpf (zW V p) i = 0 then ((unF (zW V p) i).1 + 1, upV (unF (zW V p) i).2.1 (unF (zW V p) i).1 i, upV (unF (zW V p) i).2.2 (unF (zW V p) i).1 1) else ((unF (zW V p) i).1, (unF (zW V p) i).2.1, upV (unF (zW V p) i).2.2 ((unF (zW V p) i).1 - 1) ((unF (zW V p) i).2.2 ((unF (zW V p) i).1 - 1) + 1)) := rfl
    rw [e] at fin
    unfold UM at u1
    generalize (unF (zW V p) i).1 = u at ui u1 fin
    generalize (unF (zW V p) i).2.1 = A at ui u1 fin
    generalize (unF (zW V p) i).2.2 = N at ui u1 fin
    obtain ⟨e7, ur⟩ := u1
    obtain ⟨⟨u0, ui1, ui2⟩, -, -, ui3⟩ := ui
    apply wpX12_laysUnits_9
    rw [a0.1, wr_id (x := zL V p) (by omega) (by omega), wr_id (x := (i : Int)) (by omega) (by omega), wr_id (x := dpf (zW V p) i) (by omega) (by omega), e7]
    refine ⟨a0.2, fun c => absurd c (by omega), fun _ => ⟨fun c => ?_, fun c => ?_⟩⟩
    · have i0 : 0 < i := by
        by_cases q : i = 0
        · rw [q] at c; exact absurd rfl c
        · omega
      have u1' := ui2 i0
      rw [wr_id (x := u - 1) (by omega) (by omega)]
      refine ⟨by omega, by omega, fun g3 e3 => fin g3 (o1.tr fun a j a1 a2 a3 => by rw [e3, upd2_ne (by omega)]) ?_⟩
      rw [if_neg c]
      refine ⟨by rw [e3, upd2_ne (by decide), e7], fun j j0 j1 => ?_⟩
      have j1 : j < u := j1
      refine ⟨by rw [e3, upd2_ne (by decide)]; exact (ur j j0 j1).1, ?_⟩
      show g3 183 j = upV N (u - 1) (N (u - 1) + 1) j
      by_cases x : j = u - 1
      · rw [e3, x, upd2_eq, upV_eq, (ur (u - 1) (by omega) (by omega)).2]
      · rw [e3, upd2_nj x, upV_ne x, (ur j j0 j1).2]
    · have c := Decidable.not_not.mp c
      rw [upd2_ne (by decide), e7, wr_id (x := u) (by omega) (by omega)]
      refine ⟨by omega, by omega, fun g2 e2 => ?_⟩
      have f7 : g2 171 27 = u := by rw [e2, upd2_ne (by decide), upd2_ne (by decide), e7]
      rw [f7, upd2_eq, show u + 1 - 1 = u by omega, wr_id (x := u) (by omega) (by omega)]
      refine ⟨by omega, by omega, fun g3 e3 => fin g3 (o1.tr fun a j a1 a2 a3 => ?_) ?_⟩
      · rw [e3, upd2_ne (by omega), show upd2 g2 171 27 (u + 1) a j = g2 a j from if_neg (fun e => a3 ⟨e.2, e.1⟩), e2, upd2_ne (by omega), upd2_ne (by omega)]
      · rw [if_pos c]
        refine ⟨by rw [e3, upd2_ne (by decide), upd2_eq], fun j j0 j1 => ?_⟩
        have j1 : j < u + 1 := j1
        refine ⟨?_, ?_⟩
        · show g3 182 j = upV A u i j
          rw [e3, upd2_ne (by decide), upd2_ne (by decide), e2, upd2_ne (by decide)]
          by_cases x : j = u
          · rw [x, upd2_eq, upV_eq]
          · rw [upd2_nj x, upV_ne x, (ur j j0 (by omega)).1]
        · show g3 183 j = upV N u 1 j
          by_cases x : j = u
          · rw [e3, x, upd2_eq, upV_eq, upd2_ne (by decide), e2, upd2_eq]; rfl
          · rw [e3, upd2_nj x, upd2_ne (by decide), e2, upd2_nj x, upd2_ne (by decide), upV_ne x, (ur j j0 (by omega)).2]
end OM
