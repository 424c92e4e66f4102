/-! WHOSE OATH IT WAS: the class's side -/
/-- the rows of the tape are such -/
def tdR (T : Int → Int) (n : Int) : Prop := (n ≤ 40 ∧ n % 2 = 0) ∧ ∀ i : Nat, 2 * (i : Int) < n → T (2 * i) < 12 ∧ T (2 * i + 1) ≤ 10
def wrS (V : VV) (T : Int → Int) (p : Int) (m : Nat) : Int := fd (fun c i => if kdAt V p (T (2 * i)) = T (2 * i + 1) then c else c + 1) 0 m
def fitS (V : VV) (T : Int → Int) (m : Nat) (w : Int) : Int := fd (fun b p => if wrS V T p m ≤ w then iOr b (iShl 1 p) else b) 0 (V 0).toNat
def likP (V : VV) (T : Int → Int) (m : Nat) (n : Nat) : Int × Int := fd (fun s p => if wrS V T p m < s.2 then (p, wrS V T p m) else s) (-1, 2) n
/-- how many of a set have a word of a kind at a place -/
def pcS (V : VV) (F k kind : Int) (n : Nat) : Int := fd (fun c p => if (F.toNat.testBit p.toNat && decide (kdAt V p k = kind)) = true then c + 1 else c) 0 n
def gpS (V : VV) (F k : Int) (n : Nat) : Int := fd (fun x kind => iMax x (pcS V F k kind (V 0).toNat)) 0 n
def askP (V : VV) (F : Int) (s : Int × Int) (n : Nat) : Int × Int := fd (fun s k => if gpS V F k 11 < s.2 then (k, gpS V F k 11) else s) s n
def askS (V : VV) (F : Int) : Int := if 2 ≤ iBC F then (askP V F (0, 7) 12).1 else -1
noncomputable def s_whose (V : VV) (T : Int → Int) (n : Int) : Int × Int := @ite _ (tdR T n) (Classical.propDecidable _) (0, fitS V T (n / 2).toNat 1) (1, 0)
noncomputable def s_likely (V : VV) (T : Int → Int) (n : Int) : Int × Int := @ite _ (tdR T n) (Classical.propDecidable _) (0, (likP V T (n / 2).toNat (V 0).toNat).1) (1, 0)
noncomputable def s_ask (V : VV) (T : Int → Int) (n : Int) : Int × Int := @ite _ (tdR T n) (Classical.propDecidable _) (0, askS V (fitS V T (n / 2).toNat 1)) (1, 0)
/-- the bytes of the tape -/
def TB (g : GG) (T : Int → Int) (n : Int) : Prop := (g 2 1 = n ∧ 0 ≤ n ∧ n ≤ 400) ∧ ∀ i, 0 ≤ i → i < 400 → g 3 i = T i ∧ 0 ≤ T i ∧ T i ≤ 255
/-- as a call leaves it that takes the tape up -/
def cU (a j : Int) : Prop := cS a j ∧ ¬ (a = 2 ∧ j = 1)
def kU (g g' : GG) : Prop := (∀ a j, cU a j → g' a j = g a j) ∧ g' 2 1 = 0
theorem kdAt_rng {V : VV} (hV : WF V) {p k : Int} (p0 : 0 ≤ p) (p1 : p < 6) (k0 : 0 ≤ k) (k1 : k < 12) : 0 ≤ kdAt V p k ∧ kdAt V p k ≤ 10 := by
  have h := hV.kn p0 p1 k0 k1
  unfold kdAt
  omega
theorem wrS_rng (V : VV) (T : Int → Int) (p : Int) : ∀ m : Nat, 0 ≤ wrS V T p m ∧ wrS V T p m ≤ m :=
  fd_ind (P := fun (m : Nat) (x : Int) => 0 ≤ x ∧ x ≤ (m : Int)) ⟨by decide, by decide⟩ fun n x h => by
    by_cases c : kdAt V p (T (2 * n)) = T (2 * n + 1)
    · simp only [if_pos c]; omega
    · simp only [if_neg c]; omega
section WC
variable {Γ : Cfg} {l : Launch} {d b : Nat} {g : GG} {K : Ou → HP → Prop} {V : VV} {T : Int → Int} {p n : Int}
theorem TB.c (h : TB g T n) {i : Int} (i0 : 0 ≤ i) (i1 : i < 400) : cel g 3 i = T i ∧ wr (T i) = T i ∧ 0 ≤ T i ∧ T i ≤ 255 := by
  have l3 : ln 3 = 400 := by decide +kernel
  have := h.2 i i0 i1
  rw [cel_in i0 (by rw [l3]; exact i1)]
  exact ⟨this.1, wr_id (by omega) (by omega), this.2⟩
/-- the tape's bytes stay when its length is taken -/
def TC (g : GG) (T : Int → Int) : Prop := ∀ i, 0 ≤ i → i < 400 → g 3 i = T i ∧ 0 ≤ T i ∧ T i ≤ 255
theorem TC.c (h : TC g T) {i : Int} (i0 : 0 ≤ i) (i1 : i < 400) : cel g 3 i = T i ∧ wr (T i) = T i ∧ 0 ≤ T i ∧ T i ≤ 255 := by
  have l3 : ln 3 = 400 := by decide +kernel
  have := h i i0 i1
  rw [cel_in i0 (by rw [l3]; exact i1)]
  exact ⟨this.1, wr_id (by omega) (by omega), this.2⟩
theorem CS.u2 (h : CS g V V) {x : Int} : CS (upd2 g 2 1 x) V V := by
  refine ⟨h.1.fr fun a j a0 a1 => upd2_ne (by omega), h.2.1, h.2.2.1.fr (fun j hj => upd2_ne (by decide)) (fun j => upd2_ne (by decide)), h.2.2.2⟩
theorem k_takeHeard (hT : TB g T n) (hb : 1 ≤ b) (k1 : tdR T n → K (.inl (vI n)) (stt (upd2 g 2 1 0))) (k2 : ¬ tdR T n → K (.inr eIA) (stt (upd2 g 2 1 0))) : Ct Γ l (d + 1) b yX11_takeHeardRows mX11_takeHeardRows [vR 1] (stt g) K := by
  obtain ⟨⟨hn, n0, n1⟩, hc⟩ := hT
  have w1 : wr 1 = 1 := by decide +kernel
  apply wpX11_takeHeardRows hb
  refine wpX9_takeUp (bI_in ?_)
  have tc : TC (upd2 g 2 1 0) T := fun i i0 i1 => by rw [upd2_ne (by decide)]; exact hc i i0 i1
  rw [hn, wr_id (x := n) (by omega) (by omega), iRem_nn n0 (by omega) (by decide) (by decide), wr_id (x := n % 2) (by omega) (by omega)]
  generalize upd2 g 2 1 0 = g1 at tc k1 k2 ⊢
  have key : ∀ r : Int, (r = 0 ∨ r = 1) → (r = 1 → n ≤ 40 ∧ n % 2 = 0) → (r = 0 → ¬ tdR T n) → AW Γ l mX11_takeHeardRows (d + 1) b 28 [vR 1, vI n, vI r, vI 0] [] (stt g1) K := by
    intro r r01 f1 f0
    refine up_loop (P := fun i => ∀ r : Int, (r = 0 ∨ r = 1) → (r = 1 → (n ≤ 40 ∧ n % 2 = 0) ∧ ∀ j : Nat, j < i → T (2 * j) < 12 ∧ T (2 * j + 1) ≤ 10) → (r = 0 → ¬ tdR T n) → AW Γ l mX11_takeHeardRows (d + 1) b 28 [vR 1, vI n, vI r, vI (2 * (i : Int))] [] (stt g1) K) (N := ((n + 1) / 2).toNat) (fun r r01 f1 f0 => ?_) (fun i hi9 hi r r01 f1 f0 => ?_) 0 (Nat.zero_le _) r r01 (fun e => ⟨f1 e, fun j hj => absurd hj (by omega)⟩) f0
    · apply wpX11_takeHeardRows_28 hb
      rw [wr_id (x := n) (by omega) (by omega), wr_id (x := 2 * (((n + 1) / 2).toNat : Int)) (by omega) (by omega), wr_id (x := r) (by omega) (by omega)]
      refine ⟨fun _ => ⟨fun z => k1 ?_, fun z => k2 (f0 (by omega))⟩, fun z => absurd (show n ≤ 2 * (((n + 1) / 2).toNat : Int) by omega) z⟩
      have f := f1 (by omega)
      exact ⟨f.1, fun j hj => f.2 j (by omega)⟩
    · have hi2 : ∀ r : Int, (r = 0 ∨ r = 1) → (r = 1 → (n ≤ 40 ∧ n % 2 = 0) ∧ ∀ j : Nat, j < i + 1 → T (2 * j) < 12 ∧ T (2 * j + 1) ≤ 10) → (r = 0 → ¬ tdR T n) → AW Γ l mX11_takeHeardRows (d + 1) b 28 [vR 1, vI n, vI r, vI (2 * (i : Int) + 2)] [] (stt g1) K := by
        rw [show 2 * (i : Int) + 2 = 2 * ((i + 1 : Nat) : Int) by omega]
        exact hi
      apply wpX11_takeHeardRows_28 hb
      rw [wr_id (x := n) (by omega) (by omega), wr_id (x := 2 * (i : Int)) (by omega) (by omega), wr_id (x := r) (by omega) (by omega)]
      refine ⟨fun z => absurd z (by omega), fun _ => ⟨fun z => hi2 0 (Or.inl rfl) (fun c => absurd c (by decide)) (fun _ => f0 z), fun z => ?_⟩⟩
      have f := f1 (by omega)
      have c0 := tc.c (i := 2 * (i : Int)) (by omega) (by omega)
      have c1 := tc.c (i := 2 * (i : Int) + 1) (by omega) (by omega)
      rw [c0.1, c1.1, c0.2.1, c1.2.1]
      refine ⟨fun y => hi2 0 (Or.inl rfl) (fun c => absurd c (by decide)) (fun _ t => ?_), fun y => ⟨fun y2 => hi2 0 (Or.inl rfl) (fun c => absurd c (by decide)) (fun _ t => ?_), fun y2 => hi2 1 (Or.inr rfl) (fun _ => ⟨f.1, fun j hj => ?_⟩) (fun c => absurd c (by decide))⟩⟩
      · have := t.2 i (by omega); omega
      · have := t.2 i (by omega); omega
      · by_cases e : j = i
        · rw [e]; exact ⟨by omega, by omega⟩
        · exact f.2 j (by omega)
  refine ⟨fun z => key 0 (Or.inl rfl) (fun c => absurd c (by decide)) (fun _ t => by have := t.1; omega), fun z => ⟨fun z2 => key 0 (Or.inl rfl) (fun c => absurd c (by decide)) (fun _ t => by have := t.1; omega), fun z2 => key 1 (Or.inr rfl) (fun _ => ⟨by omega, by omega⟩) (fun c => absurd c (by decide))⟩⟩
theorem k_wrongRows (h : CS g V V) (tc : TC g T) (ht : tdR T n) (n0 : 0 ≤ n) (p0 : 0 ≤ p) (p1 : p < 6) (kk : K (.inl (vI (wrS V T p (n / 2).toNat))) (stt g)) : Ct Γ l (d + 3) b yX11_wrongRows mX11_wrongRows [vR 1, vI p, vI n] (stt g) K := by
  have h1 := ht.1
  apply wpX11_wrongRows
  refine up_loop (P := fun i => AW Γ l mX11_wrongRows (d + 3) b 5 [vR 1, vI p, vI n, vI (wrS V T p i), vI (2 * (i : Int))] [] (stt g) K) (N := (n / 2).toNat) ?_ (fun i hi9 hi => ?_) 0 (Nat.zero_le _)
  · apply wpX11_wrongRows_5
    rw [wr_id (x := n) (by omega) (by omega), wr_id (x := 2 * ((n / 2).toNat : Int)) (by omega) (by omega)]
    exact ⟨fun _ => kk, fun z => absurd (show n ≤ 2 * ((n / 2).toNat : Int) by omega) z⟩
  · have hr := ht.2 i (by omega)
    have c0 := tc.c (i := 2 * (i : Int)) (by omega) (by omega)
    have c1 := tc.c (i := 2 * (i : Int) + 1) (by omega) (by omega)
    have hk := kdAt_rng h.2.1 p0 p1 c0.2.2.1 hr.1
    have hi2 : AW Γ l mX11_wrongRows (d + 3) b 5 [vR 1, vI p, vI n, vI (if kdAt V p (T (2 * i)) = T (2 * i + 1) then wrS V T p i else wrS V T p i + 1), vI (2 * (i : Int) + 2)] [] (stt g) K := by
      rw [show 2 * (i : Int) + 2 = 2 * ((i + 1 : Nat) : Int) by omega]
      exact hi
    apply wpX11_wrongRows_5
    rw [wr_id (x := n) (by omega) (by omega), wr_id (x := 2 * (i : Int)) (by omega) (by omega), c0.1]
    refine ⟨fun z => absurd z (by omega), fun _ => k_kindAt h.1 h.2.1 p0 p1 c0.2.2.1 hr.1 (bI_in ?_)⟩
    rw [c1.1, c1.2.1, wr_id (x := kdAt V p (T (2 * i))) (by omega) (by omega)]
    refine ⟨fun z => ?_, fun z => ?_⟩
    · rw [if_pos z] at hi2; exact hi2
    · rw [if_neg z] at hi2; exact hi2
theorem k_fitting (h : CS g V V) (tc : TC g T) (ht : tdR T n) (n0 : 0 ≤ n) (kk : K (.inl (vI (fitS V T (n / 2).toNat 1))) (stt g)) : Ct Γ l (d + 4) b yX11_fittingBits mX11_fittingBits [vR 1, vI n] (stt g) K := by
  have h6 := h.2.1.1.1
  have h1 := ht.1
  apply wpX11_fittingBits
  refine up_loop (P := fun i => AW Γ l mX11_fittingBits (d + 4) b 4 [vR 1, vI n, vI (fd (fun b p => if wrS V T p (n / 2).toNat ≤ 1 then iOr b (iShl 1 p) else b) 0 i), vI i] [] (stt g) K) (N := (V 0).toNat) ?_ (fun i hi9 hi => ?_) 0 (Nat.zero_le _)
  · apply wpX11_fittingBits_4
    rw [h.1.ppl, wr_id (x := V 0) (by omega) (by omega), wr_id (x := ((V 0).toNat : Int)) (by omega) (by omega)]
    exact ⟨fun _ => kk, fun z => absurd (show V 0 ≤ ((V 0).toNat : Int) by omega) z⟩
  · have hr := wrS_rng V T i (n / 2).toNat
    have hi2 : AW Γ l mX11_fittingBits (d + 4) b 4 [vR 1, vI n, vI (if wrS V T i (n / 2).toNat ≤ 1 then iOr (fd (fun b p => if wrS V T p (n / 2).toNat ≤ 1 then iOr b (iShl 1 p) else b) 0 i) (iShl 1 i) else fd (fun b p => if wrS V T p (n / 2).toNat ≤ 1 then iOr b (iShl 1 p) else b) 0 i), vI ((i : Int) + 1)] [] (stt g) K := hi
    apply wpX11_fittingBits_4
    rw [h.1.ppl, wr_id (x := V 0) (by omega) (by omega), wr_id (x := (i : Int)) (by omega) (by omega)]
    refine ⟨fun z => absurd z (by omega), fun _ => k_wrongRows h tc ht n0 (by omega) (by omega) (bI_in ?_)⟩
    rw [wr_id (x := wrS V T i (n / 2).toNat) (by omega) (by omega)]
    refine ⟨fun z => ?_, fun z => ?_⟩
    · rw [if_neg (by omega)] at hi2; exact hi2
    · rw [if_pos (by omega)] at hi2; exact hi2
theorem kU_in (h : kC (upd2 g 2 1 0) g) : True := trivial
theorem kU.one : kU g (upd2 g 2 1 0) := ⟨fun a j hs => by
    by_cases e : j = 1 ∧ a = 2
    · exact absurd ⟨e.2, e.1⟩ hs.2
    · exact if_neg e, upd2_eq⟩
theorem k_whose (h : CS g V V) (hT : TB g T n) (hb : 1 ≤ b) (kk : ∀ g', kU g g' → K (oc [eIA] (s_whose V T n)) (stt g')) : Ct Γ l (d + 5) b yX11_whose mX11_whose [vR 1] (stt g) K := by
  have kk := kk _ kU.one
  have n0 := hT.1.2.1
  have tc : TC (upd2 g 2 1 0) T := fun i i0 i1 => by rw [upd2_ne (by decide)]; exact hT.2 i i0 i1
  unfold s_whose at kk
  apply wpX11_whose hb
  refine k_takeHeard hT (by decide) (fun ht => bI_in ?_) (fun ht => bI_th ?_)
  · rw [if_pos ht] at kk
    exact k_fitting h.u2 tc ht n0 (bI_in kk)
  · rw [if_neg ht] at kk
    exact kk
theorem likP_s (V : VV) (T : Int → Int) (m n : Nat) : likP V T m (n + 1) = if wrS V T n m < (likP V T m n).2 then ((n : Int), wrS V T n m) else likP V T m n := rfl
theorem likP_rng (V : VV) (T : Int → Int) (m : Nat) : ∀ n : Nat, 0 ≤ (likP V T m n).2 ∧ (likP V T m n).2 ≤ 2 := fun n => by
  induction n with
  | zero => exact ⟨show (0 : Int) ≤ 2 by decide, show (2 : Int) ≤ 2 by decide⟩
  | succ n ih =>
    have hr := wrS_rng V T n m
    rw [likP_s]
    by_cases c : wrS V T n m < (likP V T m n).2
    · rw [if_pos c]; exact ⟨hr.1, by show wrS V T n m ≤ 2; omega⟩
    · rw [if_neg c]; exact ih
theorem k_likely (h : CS g V V) (hT : TB g T n) (hb : 2 ≤ b) (kk : ∀ g', kU g g' → K (oc [eIA] (s_likely V T n)) (stt g')) : Ct Γ l (d + 5) b yX11_likely mX11_likely [vR 1] (stt g) K := by
  have h6 := h.2.1.1.1
  have kk := kk _ kU.one
  have n0 := hT.1.2.1
  have tc : TC (upd2 g 2 1 0) T := fun i i0 i1 => by rw [upd2_ne (by decide)]; exact hT.2 i i0 i1
  unfold s_likely at kk
  apply wpX11_likely (by omega)
  refine k_takeHeard hT (by decide) (fun ht => bI_in ?_) (fun ht => bI_th ?_)
  · rw [if_pos ht] at kk
    have c1 := ht.1
    have h := h.u2 (x := 0)
    generalize upd2 g 2 1 0 = g1 at h tc kk ⊢
    refine up_loop (P := fun i => AW Γ l mX11_likely (d + 5) (b - 1) 12 [vR 1, vI n, vI (likP V T (n / 2).toNat i).1, vI (likP V T (n / 2).toNat i).2, vI i, vU] [] (stt g1) K) (N := (V 0).toNat) ?_ (fun i hi9 hi => ?_) 0 (Nat.zero_le _)
    · apply wpX11_likely_12 (by omega)
      rw [h.1.ppl, wr_id (x := V 0) (by omega) (by omega), wr_id (x := ((V 0).toNat : Int)) (by omega) (by omega)]
      exact ⟨fun _ => kk, fun z => absurd (show V 0 ≤ ((V 0).toNat : Int) by omega) z⟩
    · have hr := wrS_rng V T i (n / 2).toNat
      have hl := likP_rng V T (n / 2).toNat i
      rw [likP_s] at hi
      apply wpX11_likely_12 (by omega)
      rw [h.1.ppl, wr_id (x := V 0) (by omega) (by omega), wr_id (x := (i : Int)) (by omega) (by omega)]
      refine ⟨fun z => absurd z (by omega), fun _ => k_wrongRows h tc ht n0 (by omega) (by omega) (bI_in ?_)⟩
      rw [wr_id (x := wrS V T i (n / 2).toNat) (by omega) (by omega), wr_id (x := (likP V T (n / 2).toNat i).2) (by omega) (by omega)]
      refine ⟨fun z => ?_, fun z => ?_⟩
      · rw [if_neg (by omega)] at hi; exact AW.weak hi (by simp [leP])
      · rw [if_pos (by omega)] at hi; exact AW.weak hi (by simp [leP])
  · rw [if_neg ht] at kk
    exact kk
theorem pcS_rng (V : VV) (F k kind : Int) : ∀ n : Nat, 0 ≤ pcS V F k kind n ∧ pcS V F k kind n ≤ n :=
  fd_ind (P := fun (m : Nat) (x : Int) => 0 ≤ x ∧ x ≤ (m : Int)) ⟨by decide, by decide⟩ fun n x h => by
    by_cases c : (F.toNat.testBit ((n : Int)).toNat && decide (kdAt V n k = kind)) = true
    · simp only [if_pos c]; omega
    · simp only [if_neg c]; omega
theorem gpS_rng {V : VV} (hV : WF V) (F k : Int) : ∀ n : Nat, 0 ≤ gpS V F k n ∧ gpS V F k n ≤ 6 :=
  fd_ind (P := fun (_ : Nat) (x : Int) => 0 ≤ x ∧ x ≤ 6) ⟨by decide, by decide⟩ fun n x h => by
    have h6 := hV.1.1
    have := pcS_rng V F k n (V 0).toNat
    rw [iMax_id (by omega) (by omega) (by omega) (by omega)]
    omega
theorem fit_bt {V : VV} (hV : WF V) (T : Int → Int) (m : Nat) (w : Int) : (0 ≤ fitS V T m w ∧ fitS V T m w < 64) ∧ ∀ q, 0 ≤ q → q < 6 → (bt (fitS V T m w) q ↔ q < V 0 ∧ wrS V T q m ≤ w) := by
  have h6 := hV.1.1
  have := bit_fd (P := fun p => wrS V T p m ≤ w) (n := (V 0).toNat) (by omega)
  rw [Int.toNat_of_nonneg h6.1] at this
  exact this
theorem k_greatest {F k : Int} (h : CS g V V) (F0 : 0 ≤ F) (F1 : F < 64) (k0 : 0 ≤ k) (k1 : k < 12) (kk : K (.inl (vI (gpS V F k 11))) (stt g)) : Ct Γ l (d + 3) b yX11_greatestPart mX11_greatestPart [vR 1, vI F, vI k] (stt g) K := by
  have h6 := h.2.1.1.1
  apply wpX11_greatestPart
  refine up_loop (P := fun i => AW Γ l mX11_greatestPart (d + 3) b 5 [vR 1, vI F, vI k, vI (gpS V F k i), vI i, vU, vU] [] (stt g) K) (N := 11) ?_ (fun i hi9 hi => ?_) 0 (Nat.zero_le _)
  · apply wpX11_greatestPart_5
    exact ⟨fun _ => kk, fun z => absurd (show 10 < wr ((11 : Nat) : Int) by decide +kernel) z⟩
  · have hi2 : AW Γ l mX11_greatestPart (d + 3) b 5 [vR 1, vI F, vI k, vI (iMax (gpS V F k i) (pcS V F k i (V 0).toNat)), vI ((i : Int) + 1), vU, vU] [] (stt g) K := hi
    apply wpX11_greatestPart_5
    rw [wr_id (x := (i : Int)) (by omega) (by omega)]
    refine ⟨fun z => absurd z (by omega), fun _ => ?_⟩
    refine up_loop (P := fun q => AW Γ l mX11_greatestPart (d + 3) b 18 [vR 1, vI F, vI k, vI (gpS V F k i), vI i, vI (pcS V F k i q), vI q] [] (stt g) K) (N := (V 0).toNat) ?_ (fun q hq9 hq => ?_) 0 (Nat.zero_le _)
    · apply wpX11_greatestPart_18
      rw [h.1.ppl, wr_id (x := V 0) (by omega) (by omega), wr_id (x := ((V 0).toNat : Int)) (by omega) (by omega)]
      exact ⟨fun _ => AW.weak hi2 (by simp [leP]), fun z => absurd (show V 0 ≤ ((V 0).toNat : Int) by omega) z⟩
    · have hq2 : AW Γ l mX11_greatestPart (d + 3) b 18 [vR 1, vI F, vI k, vI (gpS V F k i), vI i, vI (if (F.toNat.testBit ((q : Int)).toNat && decide (kdAt V q k = (i : Int))) = true then pcS V F k i q + 1 else pcS V F k i q), vI ((q : Int) + 1)] [] (stt g) K := hq
      have hb := bit_ask F0 F1 (p := q) (by omega) (by omega)
      have hk := kdAt_rng h.2.1 (p := q) (by omega) (by omega) k0 k1
      apply wpX11_greatestPart_18
      rw [h.1.ppl, wr_id (x := V 0) (by omega) (by omega), wr_id (x := (q : Int)) (by omega) (by omega), wr_iAnd, hb.2]
      unfold bt
      refine ⟨fun z => absurd z (by omega), fun _ => ⟨fun z => ?_, fun z => k_kindAt h.1 h.2.1 (by omega) (by omega) k0 k1 (bI_in ?_)⟩⟩
      · rw [if_neg (fun c => z (by rw [Bool.and_eq_true] at c; exact c.1))] at hq2; exact hq2
      · rw [wr_id (x := (i : Int)) (by omega) (by omega), wr_id (x := kdAt V q k) (by omega) (by omega)]
        refine ⟨fun y => ?_, fun y => ?_⟩
        · rw [if_neg (fun c => y (by rw [Bool.and_eq_true, decide_eq_true_iff] at c; exact c.2))] at hq2; exact hq2
        · rw [if_pos (by rw [Bool.and_eq_true, decide_eq_true_iff]; exact ⟨Decidable.not_not.mp z, Decidable.not_not.mp y⟩)] at hq2; exact hq2
theorem askP_s (V : VV) (F : Int) (s : Int × Int) (n : Nat) : askP V F s (n + 1) = if gpS V F n 11 < (askP V F s n).2 then ((n : Int), gpS V F n 11) else askP V F s n := rfl
theorem askP_rng {V : VV} (hV : WF V) (F : Int) {s : Int × Int} (s0 : 0 ≤ s.2) (s1 : s.2 ≤ 1000000) : ∀ n : Nat, 0 ≤ (askP V F s n).2 ∧ (askP V F s n).2 ≤ 1000000 := fun n => by
  induction n with
  | zero => exact ⟨s0, s1⟩
  | succ n ih =>
    have hr := gpS_rng hV F n 11
    rw [askP_s]
    by_cases c : gpS V F n 11 < (askP V F s n).2
    · rw [if_pos c]; exact ⟨hr.1, by show gpS V F n 11 ≤ 1000000; omega⟩
    · rw [if_neg c]; exact ih
theorem k_ask (h : CS g V V) (hT : TB g T n) (hb : 2 ≤ b) (kk : ∀ g', kU g g' → K (oc [eIA] (s_ask V T n)) (stt g')) : Ct Γ l (d + 5) b yX11_ask mX11_ask [vR 1] (stt g) K := by
  have h6 := h.2.1.1.1
  have kk := kk _ kU.one
  have n0 := hT.1.2.1
  have tc : TC (upd2 g 2 1 0) T := fun i i0 i1 => by rw [upd2_ne (by decide)]; exact hT.2 i i0 i1
  unfold s_ask askS at kk
  apply wpX11_ask (by omega)
  refine k_takeHeard hT (by decide) (fun ht => bI_in ?_) (fun ht => bI_th ?_)
  · rw [if_pos ht] at kk
    have h := h.u2 (x := 0)
    generalize upd2 g 2 1 0 = g1 at h tc kk ⊢
    refine k_fitting h tc ht n0 (bI_in ?_)
    have hF := (fit_bt h.2.1 T (n / 2).toNat 1).1
    generalize fitS V T (n / 2).toNat 1 = F at hF kk ⊢
    rw [(iBC_64 hF.1 hF.2).2]
    refine ⟨fun z => ?_, fun z => ?_⟩
    · rw [if_pos z] at kk
      refine up_loop (P := fun i => AW Γ l mX11_ask (d + 5) (b - 1) 27 [vR 1, vI F, vI (askP V F (0, 7) i).1, vI (askP V F (0, 7) i).2, vI i, vU] [] (stt g1) K) (N := 12) ?_ (fun i hi9 hi => ?_) 0 (Nat.zero_le _)
      · apply wpX11_ask_27 (by omega)
        exact ⟨fun _ => kk, fun z => absurd (show 12 ≤ wr ((12 : Nat) : Int) by decide +kernel) z⟩
      · have hr := gpS_rng h.2.1 F i 11
        have hl := askP_rng h.2.1 F (s := (0, 7)) (by decide) (by decide) i
        rw [askP_s] at hi
        apply wpX11_ask_27 (by omega)
        rw [wr_id (x := (i : Int)) (by omega) (by omega)]
        refine ⟨fun z => absurd z (by omega), fun _ => k_greatest h hF.1 hF.2 (by omega) (by omega) (bI_in ?_)⟩
        rw [wr_id (x := gpS V F i 11) (by omega) (by omega), wr_id (x := (askP V F (0, 7) i).2) (by omega) (by omega)]
        refine ⟨fun z => ?_, fun z => ?_⟩
        · rw [if_neg (by omega)] at hi; exact AW.weak hi (by simp [leP])
        · rw [if_pos (by omega)] at hi; exact AW.weak hi (by simp [leP])
    · rw [if_neg z] at kk; exact kk
  · rw [if_neg ht] at kk
    exact kk
end WC
