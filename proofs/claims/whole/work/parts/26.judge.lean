/-! THE LAW weighs; a reading's weight (the class) -/
section PS
variable {W : VV}
theorem psL_step (hW : okLaw W) {n : Nat} (hn : (n : Int) < W 486) : psL W (n + 1) = psL W n + (if lwF W n = lwT W n then 2 else lwT W n - lwF W n + 1) ∧ psL W n + 2 ≤ psL W (n + 1) := by
  have h := (hW.2.2.2 n (by omega) hn).2.2.1
  have e : psL W (n + 1) = psL W n + (if lwF W n = lwT W n then 2 else lwT W n - lwF W n + 1) := rfl
  refine ⟨e, ?_⟩
  rw [e]
  omega
theorem psL_le (hW : okLaw W) : ∀ (k n : Nat), ((n + k : Nat) : Int) ≤ W 486 → psL W n ≤ psL W (n + k)
  | 0, _, _ => Int.le_refl _
  | k + 1, n, h => by
    have h1 := psL_le hW k n (by omega)
    have h2 := (psL_step hW (n := n + k) (by omega)).2
    show psL W n ≤ psL W ((n + k) + 1)
    omega
theorem psL_0 (hW : okLaw W) {n : Nat} (h : (n : Int) ≤ W 486) : 0 ≤ psL W n := by
  have := psL_le hW n 0 (by omega)
  rw [show 0 + n = n by omega] at this
  exact this
theorem sL_rng (hW : okLaw W) (fc : Int → Int) (w : Int) : ∀ n : Nat, (n : Int) ≤ W 486 → 0 ≤ sL W fc w n ∧ sL W fc w n ≤ 40 * n
  | 0, _ => ⟨Int.le_refl _, by show (0 : Int) ≤ 40 * ((0 : Nat) : Int); decide⟩
  | n + 1, h => by
    have h1 := sL_rng hW fc w n (by omega)
    have h2 := (hW.2.2.2 n (by omega) (by omega)).2.1
    have e : sL W fc w (n + 1) = (if lwW W n = w ∧ hlS W fc n = true then sL W fc w n + lwN W n else sL W fc w n) := rfl
    rw [e]
    by_cases q : lwW W n = w ∧ hlS W fc n = true
    · rw [if_pos q]; omega
    · rw [if_neg q]; omega
end PS
section JL
variable {Γ : Cfg} {l : Launch} {d b : Nat} {g : GG} {K : Ou → HP → Prop} {W : VV}
/-- a line's end -/
theorem j_end {r1 i x w N : Int} {g2 : GG} (hr1 : IA r1) (i0 : 0 ≤ i) (i1 : i < 400) (i2 : i < g2 35 2) (i3 : g2 35 2 ≤ 400) (w0 : 0 ≤ w) (w1 : w ≤ 2) (n0 : 0 ≤ N) (n1 : N ≤ 40) (hs : g2 36 i = (8 + w) * 1000 + N) (hx : g2 37 0 = x)
    (hi : ∀ g3, g3 = upd2 g2 35 (5 + w) (g2 35 (5 + w) + x * N) → AW Γ l mX4_judge (d + 1) b 19 [vR 35, vR r1, vI 0, vI (i + 1), vU, vU] [] (stt g3) K) :
    AW Γ l mX4_judge (d + 1) b 19 [vR 35, vR r1, vI 1, vI i, vU, vU] [] (stt g2) K := by
  have l36 : ln 36 = 400 := by decide +kernel
  have l37 : ln 37 = 32 := by decide +kernel
  have hcel : cel g2 (35 + 1 + 0) i = (8 + w) * 1000 + N := by
    rw [cel_in i0 (by show i < ln 36; rw [l36]; exact i1)]
    exact hs
  have e1 : iDiv ((8 + w) * 1000 + N) 1000 = 8 + w := by
    rw [iDiv_nn (by omega) (by omega) (by decide) (by decide)]
    omega
  have e2 : iRem ((8 + w) * 1000 + N) 1000 = N := by
    rw [iRem_nn (by omega) (by omega) (by decide) (by decide)]
    omega
  have e3 : cel g2 (35 + 1 + 1) 0 = x := by
    rw [cel_in (by decide) (by show (0 : Int) < ln 37; rw [l37]; decide)]
    exact hx
  apply wpX4_judge_19 LA35 hr1
  rw [hcel, e1, e2, wr_id (x := i) (by omega) (by omega), wr_id (x := g2 35 2) (by omega) (by omega), wr_id (x := 8 + w) (by omega) (by omega), show (1 : Int) + (-1) = 0 by decide, e3]
  refine ⟨fun h => absurd h (by omega), fun _ => ⟨fun _ => ⟨fun _ => ⟨fun _ => ?_, fun h => absurd (by omega) h⟩, fun h => absurd (by omega) h⟩, fun h => absurd (by omega) h⟩⟩
  apply wpX4_addLine LA35
  rw [wr_id (x := 8 + w) (by omega) (by omega)]
  refine ⟨fun h8 => ⟨fun h9 => bV_in ?_, fun h9 => bV_in ?_⟩, fun h8 => bV_in ?_⟩
  · have : w = 2 := by omega
    subst this
    exact AW.weak (hi _ rfl) (by simp [leP])
  · have : w = 1 := by omega
    subst this
    exact AW.weak (hi _ rfl) (by simp [leP])
  · have : w = 0 := by omega
    subst this
    exact AW.weak (hi _ rfl) (by simp [leP])
theorem LRel.fr {g' : GG} (h : LRel g 35 W) (e : ∀ j, j < 5 → g' 35 j = g 35 j) (e2 : ∀ j, g' 36 j = g 36 j) : LRel g' 35 W := by
  obtain ⟨h0, ⟨h1, h2, h3, h4⟩, h5⟩ := h
  refine ⟨h0, ⟨by rw [e _ (by decide), h1], by rw [e _ (by decide), h2], by rw [e _ (by decide), h3], h4⟩, fun n hn => ?_⟩
  obtain ⟨a1, a2, a3⟩ := h5 n hn
  exact ⟨(e2 _).trans a1, fun z => (e2 _).trans (a2 z), fun k hk => (e2 _).trans (a3 k hk)⟩
theorem tkS_rng {q : Int → Int} {k : Nat} {ty : List Bool} (h : tkS q k = some ty) : ∀ j : Nat, j < k → 0 ≤ q j ∧ q j ≤ 16 := by
  induction k generalizing ty with
  | zero =>
    intro j hj
    omega
  | succ k ih =>
    intro j hj
    unfold tkS at h
    cases hz : tkS q k with
    | none => rw [hz] at h; cases h
    | some t0 =>
      by_cases e : j = k
      · rw [hz] at h
        subst e
        have h : tyS t0 (q j) = some ty := h
        unfold tyS at h
        by_cases z : 0 ≤ q j ∧ q j ≤ 16
        · exact z
        · by_cases z1 : q j < 0
          · rw [if_pos z1] at h; cases h
          · rw [if_neg z1, if_neg (by omega), if_neg (by omega), if_neg (by omega), if_neg (by omega), if_neg (by omega), if_neg (by omega), if_neg (by omega)] at h
            cases h
      · exact ih hz j (by omega)
theorem k_ljudge {fc : Int → Int} (h : LRel g 35 W) (hW : okLaw W) (hf : okF fc) (hfc : ∀ c, 0 ≤ c → c ≤ 9 → cel g 155 c = fc c)
    (kk : ∀ g', g' 35 5 = sL W fc 0 (W 486).toNat → g' 35 6 = sL W fc 1 (W 486).toNat → g' 35 7 = sL W fc 2 (W 486).toNat → onlyJ g g' → K (.inl vU) (stt g')) : Ct Γ l (d + 1) b yX4_judge mX4_judge [vR 35, vR 155] (stt g) K := by
  have hr1 : IA 155 := show (shp 155).1 = 0 by decide +kernel
  have hps0 := psL_0 hW (n := (W 486).toNat) (by have := hW.1; omega)
  apply wpX4_judge LA35 hr1
  intro g1 e1
  refine up_loop (P := fun n => ∀ g2, g2 35 5 = sL W fc 0 n → g2 35 6 = sL W fc 1 n → g2 35 7 = sL W fc 2 n → onlyJ g g2 → AW Γ l mX4_judge (d + 1) b 19 [vR 35, vR 155, vI 0, vI (psL W n), vU, vU] [] (stt g2) K) (N := (W 486).toNat) (fun g2 a5 a6 a7 hon => ?_) (fun n hn hi g2 a5 a6 a7 hon => ?_) 0 (Nat.zero_le _) g1 ?_ ?_ ?_ ?_
  · apply wpX4_judge_19 LA35 hr1
    have e : g2 35 2 = psL W (W 486).toNat := by rw [hon _ _ (by decide) (by omega), h.2.1.2.2.1]
    rw [e]
    exact ⟨fun _ => kk g2 a5 a6 a7 hon, fun hc => absurd (Int.le_refl _) hc⟩
  · have hn' : (n : Int) < W 486 := by omega
    have h2 : LRel g2 35 W := h.fr (fun j hj => hon _ _ (by decide) (by omega)) (fun j => hon _ _ (by decide) (by omega))
    have hfc2 : ∀ c, 0 ≤ c → c ≤ 9 → cel g2 155 c = fc c := fun c c0 c1 => by
      rw [← hfc c c0 c1]
      unfold cel
      rw [hon _ _ (by decide) (by omega)]
    obtain ⟨o1, o2, o3, o4, o5⟩ := hW.2.2.2 n (by omega) hn'
    obtain ⟨ps1, ps2⟩ := psL_step hW hn'
    have ps3 := psL_le hW ((W 486).toNat - (n + 1)) (n + 1) (by omega)
    rw [show n + 1 + ((W 486).toNat - (n + 1)) = (W 486).toNat by omega] at ps3
    have ps4 := psL_0 hW (n := n) (by omega)
    have ps5 := h.2.1.2.2.2
    have e2 : g2 35 2 = psL W (W 486).toNat := h2.2.1.2.2.1
    obtain ⟨s1, s2, s3⟩ := h2.2.2 n hn'
    have s1 : g2 36 (psL W (n + 1) - 1) = (8 + lwW W n) * 1000 + lwN W n := s1
    -- the line's end, by what stands on the stack
    have fin : ∀ (x : Int) (g3 : GG), g3 37 0 = x → (x = 0 ∨ x = 1) → (hlS W fc n = true ↔ x = 1) → (∀ a j, a ≠ 37 → g3 a j = g2 a j) → AW Γ l mX4_judge (d + 1) b 19 [vR 35, vR 155, vI 1, vI (psL W (n + 1) - 1), vU, vU] [] (stt g3) K := by
      intro x g3 hx hx01 hh he
      have e3 : g3 35 2 = g2 35 2 := he _ _ (by decide)
      have s1' : g3 36 (psL W (n + 1) - 1) = (8 + lwW W n) * 1000 + lwN W n := by rw [he _ _ (by decide)]; exact s1
      refine j_end hr1 (by omega) (by omega) (by rw [e3]; omega) (by rw [e3]; omega) o1.1 o1.2 o2.1 o2.2 s1' hx fun g4 e4 => ?_
      rw [show psL W (n + 1) - 1 + 1 = psL W (n + 1) by omega]
      have key : ∀ w, 0 ≤ w → w ≤ 2 → g2 35 (5 + w) = sL W fc w n → g4 35 (5 + w) = sL W fc w (n + 1) := by
        intro w w0 w1 hw
        have es : sL W fc w (n + 1) = (if lwW W n = w ∧ hlS W fc n = true then sL W fc w n + lwN W n else sL W fc w n) := rfl
        rw [es, e4]
        by_cases q : lwW W n = w
        · rw [q, upd2_eq, he _ _ (by decide), hw]
          rcases hx01 with rfl | rfl
          · rw [if_neg (fun z => absurd (hh.mp z.2) (by decide))]; omega
          · rw [if_pos ⟨rfl, hh.mpr rfl⟩]; omega
        · rw [upd2_nj (by omega), he _ _ (by decide), hw, if_neg (fun z => q z.1)]
      refine hi g4 (key 0 (by decide) (by decide) a5) (key 1 (by decide) (by decide) a6) (key 2 (by decide) (by decide) a7) (fun a j h37 h35 => ?_)
      rw [e4]
      by_cases ea : a = 35
      · rw [upd2_nj (by omega), he _ _ h37, hon _ _ h37 h35]
      · rw [upd2_ne ea, he _ _ h37, hon _ _ h37 h35]
    by_cases q : lwF W n = lwT W n
    · rw [if_pos q] at ps1
      have s2' : g2 36 (psL W n) = csW 10 1 := s2 q
      refine j_code (c := 10) (a := 1) (st := []) (ty := []) (ty' := [false]) rfl hr1 (by decide) ps4 (by omega) (by omega) (by omega) hf trivial rfl (by decide) (fun _ => by decide) s2' hfc2 trivial fun g3 hsr he => ?_
      have := fin 1 g3 hsr.1 (Or.inr rfl) ⟨fun _ => rfl, fun _ => by unfold hlS; rw [decide_eq_true q]; rfl⟩ he
      rw [show psL W (n + 1) - 1 = psL W n + 1 by omega] at this
      exact this
    · rw [if_neg q] at ps1
      obtain ⟨t1, t2⟩ := o4 (by omega)
      have hrg := tkS_rng t1
      rw [show psL W n = psL W n + ((0 : Nat) : Int) by omega]
      refine up_loop (P := fun k => ∀ g3, SR g3 37 (lst W fc n k) → (∀ a j, a ≠ 37 → g3 a j = g2 a j) → AW Γ l mX4_judge (d + 1) b 19 [vR 35, vR 155, vI (lst W fc n k).length, vI (psL W n + k), vU, vU] [] (stt g3) K) (N := (lwT W n - lwF W n).toNat) (fun g3 hsr he => ?_) (fun k hk hi2 g3 hsr he => ?_) 0 (Nat.zero_le _) g2 trivial (fun _ _ _ => rfl)
      · have htd : tyd (lst W fc n (lwT W n - lwF W n).toNat) [true] := stS_ty hf t1
        have hls : hlS W fc n = true ↔ lst W fc n (lwT W n - lwF W n).toNat = [1] := by
          unfold hlS
          rw [decide_eq_false q, Bool.false_or]
          exact decide_eq_true_iff
        revert htd hls hsr
        generalize lst W fc n (lwT W n - lwF W n).toNat = st
        intro hsr htd hls
        match st, htd, hsr, hls with
        | [x], htd, hsr, hls =>
          have := fin x g3 hsr.1 (htd.1 rfl) (hls.trans ⟨fun e => by injection e, fun e => by rw [e]⟩) he
          rw [show psL W (n + 1) - 1 = psL W n + ((lwT W n - lwF W n).toNat : Int) by omega] at this
          exact this
      · obtain ⟨ty, hty⟩ := tkS_le t1 k (by omega)
        obtain ⟨ty', hty'⟩ := tkS_le t1 (k + 1) (by omega)
        have hl1 := t2 k ty (by omega) hty
        have hl2 := t2 (k + 1) ty' (by omega) hty'
        have htd : tyd (lst W fc n k) ty := stS_ty hf hty
        have hst : tyS ty (lwC W (lwF W n + k)) = some ty' := by
          unfold tkS at hty'
          rw [hty] at hty'
          exact hty'
        have h3 := tyd_len htd
        have htd2 : tyd (lst W fc n (k + 1)) ty' := stS_ty hf hty'
        have h4 := tyd_len htd2
        have e3 : g3 35 2 = g2 35 2 := he _ _ (by decide)
        have hs3 : g3 36 (psL W n + k) = csW (lwC W (lwF W n + k)) (lwA W (lwF W n + k)) := by
          rw [he _ _ (by decide)]
          exact s3 k (by omega)
        have hfc3 : ∀ c, 0 ≤ c → c ≤ 9 → cel g3 155 c = fc c := fun c c0 c1 => by
          rw [← hfc2 c c0 c1]
          unfold cel
          rw [he _ _ (by decide)]
        have hle : (lst W fc n k).length ≤ 31 := by omega
        have hle2 : (lst W fc n (k + 1)).length ≤ 31 := by omega
        refine j_code (c := lwC W (lwF W n + k)) (a := lwA W (lwF W n + k)) (st := lst W fc n k) (ty := ty) (ty' := ty') rfl hr1 hle (by omega) (by omega) (by rw [e3]; omega) (by rw [e3]; omega) hf htd hst (hrg k hk).2 (fun e => o5 _ (by omega) (by omega) e) hs3 hfc3 hsr fun g4 hsr4 he4 => ?_
        have := hi2 g4 hsr4 (fun a j h37 => by rw [he4 a j h37, he a j h37])
        rw [show psL W n + ((k + 1 : Nat) : Int) = psL W n + k + 1 by omega] at this
        exact this
  · rw [e1, upd2_nj (by decide), upd2_nj (by decide), upd2_eq]; rfl
  · rw [e1, upd2_nj (by decide), upd2_eq]; rfl
  · rw [e1, upd2_eq]; rfl
  · intro a j h37 h35
    rw [e1]
    by_cases ea : a = 35
    · rw [upd2_nj (by omega), upd2_nj (by omega), upd2_nj (by omega)]
    · rw [upd2_ne ea, upd2_ne ea, upd2_ne ea]
end JL
