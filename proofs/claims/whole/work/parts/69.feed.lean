/-! THE TAPE IS FED -/
theorem ush_bv (x : Int) : (Int32.ofInt (iUsh x 24)).toBitVec = (Int32.ofInt x).toBitVec >>> 24 ∧ (Int32.ofInt (iUsh x 16)).toBitVec = (Int32.ofInt x).toBitVec >>> 16 ∧ (Int32.ofInt (iUsh x 8)).toBitVec = (Int32.ofInt x).toBitVec >>> 8 ∧ (Int32.ofInt (iUsh x 0)).toBitVec = (Int32.ofInt x).toBitVec >>> 0 := by
  unfold iUsh
  refine ⟨?_, ?_, ?_, ?_⟩
  · rw [bv_back]; rfl
  · rw [bv_back]; rfl
  · rw [bv_back]; rfl
  · rw [bv_back]; rfl
theorem shr_bv (x : Int) : (Int32.ofInt (iShr x 24)).toBitVec = (Int32.ofInt x).toBitVec.sshiftRight 24 ∧ (Int32.ofInt (iShr x 16)).toBitVec = (Int32.ofInt x).toBitVec.sshiftRight 16 ∧ (Int32.ofInt (iShr x 8)).toBitVec = (Int32.ofInt x).toBitVec.sshiftRight 8 ∧ (Int32.ofInt (iShr x 0)).toBitVec = (Int32.ofInt x).toBitVec.sshiftRight 0 := by
  unfold iShr
  refine ⟨?_, ?_, ?_, ?_⟩
  · rw [bv_back]; rfl
  · rw [bv_back]; rfl
  · rw [bv_back]; rfl
  · rw [bv_back]; rfl
theorem lo8 {x y : Int} {X : BitVec 32} {s : Nat} (hs : s + 8 ≤ 32) (hx : (Int32.ofInt x).toBitVec = X >>> s) (hy : (Int32.ofInt y).toBitVec = X.sshiftRight s) : (0 ≤ iAnd x 255 ∧ iAnd x 255 ≤ 255) ∧ iB y = sb (iAnd x 255) ∧ iB (iB y) = iB y := by
  have e1 : (Int32.ofInt x &&& Int32.ofInt 255).toBitVec.toNat = (X >>> s).toNat % 256 := by
    rw [Int32.toBitVec_and, BitVec.toNat_and, hx, bn (x := 255) (by decide) (by decide)]
    exact Nat.and_two_pow_sub_one_eq_mod _ 8
  have e2 : iAnd x 255 = (((X >>> s).toNat % 256 : Nat) : Int) := by
    have h : iAnd x 255 = ((Int32.ofInt x &&& Int32.ofInt 255).toBitVec.toNat : Int) := bt_toInt (by omega)
    rw [h, e1]
  have e3 : (X.sshiftRight s).setWidth 8 = (X >>> s).setWidth 8 := by
    apply BitVec.eq_of_getLsbD_eq
    intro i hi
    rw [BitVec.getLsbD_setWidth, BitVec.getLsbD_setWidth, BitVec.getLsbD_sshiftRight, BitVec.getLsbD_ushiftRight]
    have h1 : ¬ 32 ≤ i := by omega
    have h2 : s + i < 32 := by omega
    simp [h1, h2]
  have e4 : iB y = ((X >>> s).setWidth 8).toInt := by
    unfold iB
    rw [Int8.toInt_toInt32, ← e3, ← hy]
    show ((Int32.ofInt y).toBitVec.signExtend 8).toInt = _
    congr 1
    apply BitVec.eq_of_getLsbD_eq
    intro i hi
    rw [BitVec.getLsbD_signExtend, BitVec.getLsbD_setWidth]
    have h32 : i < 32 := by omega
    simp [h32]
  have e5 : ((X >>> s).setWidth 8).toNat = (X >>> s).toNat % 256 := BitVec.toNat_setWidth _ _
  refine ⟨by rw [e2]; omega, ?_, ?_⟩
  · rw [e4, BitVec.toInt_eq_toNat_cond, e5, e2]
    unfold sb
    by_cases c : (X >>> s).toNat % 256 < 128
    · rw [if_pos (by omega), if_pos (by omega)]
    · rw [if_neg (by omega), if_neg (by omega)]; rfl
  · have : ∀ a : Int8, (Int32.ofInt a.toInt32.toInt).toInt8.toInt32.toInt = a.toInt32.toInt := fun a => by
      rw [Int32.ofInt_toInt, Int8.toInt8_toInt32]
    exact this _
theorem byte_ok (x : Int) : (∀ s : Int, (s = 24 ∨ s = 16 ∨ s = 8 ∨ s = 0) → (0 ≤ iAnd (iUsh x s) 255 ∧ iAnd (iUsh x s) 255 ≤ 255) ∧ iB (iB (iShr x s)) = sb (iAnd (iUsh x s) 255)) := by
  have u := ush_bv x
  have r := shr_bv x
  intro s hs
  rcases hs with rfl | rfl | rfl | rfl
  · have h := lo8 (by decide) u.1 r.1; exact ⟨h.1, h.2.2.trans h.2.1⟩
  · have h := lo8 (by decide) u.2.1 r.2.1; exact ⟨h.1, h.2.2.trans h.2.1⟩
  · have h := lo8 (by decide) u.2.2.1 r.2.2.1; exact ⟨h.1, h.2.2.trans h.2.1⟩
  · have h := lo8 (by decide) u.2.2.2 r.2.2.2; exact ⟨h.1, h.2.2.trans h.2.1⟩
/-- the byte k of five numbers -/
def byS (q : Int → Int) (k : Int) : Int := iAnd (iUsh (q (k / 4)) (24 - 8 * (k % 4))) 255
section FE
variable {Γ : Cfg} {l : Launch} {d b : Nat} {g m : GG} {K : Ou → HP → Prop}
theorem k_push {x n : Int} (hn : g 2 1 = n) (n0 : 0 ≤ n) (n1 : n + 4 ≤ 400) (kk : ∀ g', (∀ a j, ¬ (a = 2 ∧ j = 1) → ¬ (a = 3 ∧ n ≤ j ∧ j < n + 4) → g' a j = g a j) → g' 2 1 = n + 4 → (∀ i, 0 ≤ i → i < 4 → g' 3 (n + i) = iAnd (iUsh x (24 - 8 * i)) 255) → K (.inl vU) (stt g')) : Ct Γ l (d + 1) b yX9_push mX9_push [vR 2, vI x] (stt g) K := by
  have l3 : ln 3 = 400 := by decide +kernel
  apply wpX9_push
  refine up_loop (P := fun i => ∀ g', (∀ a j, ¬ (a = 2 ∧ j = 1) → ¬ (a = 3 ∧ n ≤ j ∧ j < n + i) → g' a j = g a j) → g' 2 1 = n + i → (∀ t, 0 ≤ t → t < (i : Int) → g' 3 (n + t) = iAnd (iUsh x (24 - 8 * t)) 255) → AW Γ l mX9_push (d + 1) b 3 [vR 2, vI x, vI (24 - 8 * (i : Int))] [] (stt g') K) (N := 4) (fun g' o e f => ?_) (fun i hi9 hi g' o e f => ?_) 0 (Nat.zero_le _) g (fun _ _ _ _ => rfl) (by rw [hn]; omega) (fun t t0 t1 => absurd t1 (by omega))
  · apply wpX9_push_3
    exact ⟨fun _ => kk g' o e f, fun c => absurd (show wr (24 - 8 * ((4 : Nat) : Int)) < 0 by decide +kernel) c⟩
  · apply wpX9_push_3
    rw [wr_id (x := 24 - 8 * (i : Int)) (by omega) (by omega), e, puc_in (by omega) (by rw [l3]; omega)]
    refine ⟨fun c => absurd c (by omega), fun _ g1 e1 => ?_⟩
    have f1 : g1 2 1 = n + i := by rw [e1, upd2_ne (by decide), e]
    rw [show 24 - 8 * ((i + 1 : Nat) : Int) = 24 - 8 * (i : Int) + (-8) by omega] at hi
    refine hi _ (fun a j h1 h2 => ?_) (by rw [upd2_eq, f1]; omega) (fun t t0 t1 => ?_)
    · rw [show upd2 g1 2 1 (g1 2 1 + 1) a j = g1 a j from if_neg (fun z => h1 ⟨z.2, z.1⟩), e1]
      rw [show upd2 g' 3 (n + (i : Int)) (iAnd (iUsh x (24 - 8 * (i : Int))) 255) a j = g' a j from if_neg (fun z => h2 ⟨z.2, by omega, by omega⟩), o a j h1 (fun z => h2 ⟨z.1, z.2.1, by omega⟩)]
    · rw [upd2_ne (by decide), e1]
      by_cases c : t = i
      · rw [c, upd2_eq]
      · rw [upd2_nj (by omega), f t t0 (by omega)]
def q5 (x1 x2 x3 x4 x5 : Int) (i : Int) : Int := if i = 0 then x1 else if i = 1 then x2 else if i = 2 then x3 else if i = 3 then x4 else x5
theorem k_feed {x1 x2 x3 x4 x5 : Int} (h : CRel g m) (k0 : 400 < m 171 9 + 20 → K (.inl (vI (-1))) (stt g)) (k1 : m 171 9 + 20 ≤ 400 → ∀ g', (∀ a j, ¬ (a = 2 ∧ j = 1) → ¬ (a = 3 ∧ m 171 9 ≤ j ∧ j < m 171 9 + 20) → g' a j = g a j) → g' 2 1 = m 171 9 + 20 → (∀ i, 0 ≤ i → i < 20 → g' 3 (m 171 9 + i) = byS (q5 x1 x2 x3 x4 x5) i) → K (.inl (vI (m 171 9 + 20))) (stt g')) : Ct Γ l (d + 2) b yX11_feed mX11_feed [vR 1, vI x1, vI x2, vI x3, vI x4, vI x5] (stt g) K := by
  obtain ⟨e9, n0, n1⟩ := h.2.2.2.1.1
  generalize m 171 9 = n at *
  apply wpX11_feed
  rw [e9, wr_id (x := n + 20) (by omega) (by omega)]
  refine ⟨fun c => ?_, fun c => k0 (by omega)⟩
  refine k_push e9 n0 (by omega) fun g1 o1 f1 q1 => bV_in ?_
  refine k_push f1 (by omega) (by omega) fun g2 o2 f2 q2 => bV_in ?_
  refine k_push f2 (by omega) (by omega) fun g3 o3 f3 q3 => bV_in ?_
  refine k_push f3 (by omega) (by omega) fun g4 o4 f4 q4 => bV_in ?_
  refine k_push f4 (by omega) (by omega) fun g5 o5 f5 q9 => bV_in ?_
  rw [f5, show n + 4 + 4 + 4 + 4 + 4 = n + 20 by omega]
  refine k1 c g5 (fun a j h1 h2 => by rw [o5 a j h1 (by omega), o4 a j h1 (by omega), o3 a j h1 (by omega), o2 a j h1 (by omega), o1 a j h1 (by omega)]) (by rw [f5]; omega) (fun i i0 i1 => ?_)
  have hi : i / 4 = 0 ∨ i / 4 = 1 ∨ i / 4 = 2 ∨ i / 4 = 3 ∨ i / 4 = 4 := by omega
  have hm := Int.emod_nonneg i (show (4 : Int) ≠ 0 by decide)
  have hm2 := Int.emod_lt_of_pos i (show (0 : Int) < 4 by decide)
  unfold byS q5
  rcases hi with e | e | e | e | e
  · rw [e, if_pos rfl, ← q1 (i % 4) hm hm2, o5 _ _ (by omega) (by omega), o4 _ _ (by omega) (by omega), o3 _ _ (by omega) (by omega), o2 _ _ (by omega) (by omega), show n + i = n + i % 4 by omega]
  · rw [e, if_neg (by decide), if_pos rfl, ← q2 (i % 4) hm hm2, o5 _ _ (by omega) (by omega), o4 _ _ (by omega) (by omega), o3 _ _ (by omega) (by omega), show n + i = n + 4 + i % 4 by omega]
  · rw [e, if_neg (by decide), if_neg (by decide), if_pos rfl, ← q3 (i % 4) hm hm2, o5 _ _ (by omega) (by omega), o4 _ _ (by omega) (by omega), show n + i = n + 4 + 4 + i % 4 by omega]
  · rw [e, if_neg (by decide), if_neg (by decide), if_neg (by decide), if_pos rfl, ← q4 (i % 4) hm hm2, o5 _ _ (by omega) (by omega), show n + i = n + 4 + 4 + 4 + i % 4 by omega]
  · rw [e, if_neg (by decide), if_neg (by decide), if_neg (by decide), if_neg (by decide), ← q9 (i % 4) hm hm2, show n + i = n + 4 + 4 + 4 + 4 + i % 4 by omega]
theorem m_feed {x1 x2 x3 x4 x5 : Int} (n0 : 0 ≤ g 171 9) (n1 : g 171 9 ≤ 400) (k0 : 400 < g 171 9 + 20 → ∀ g', (∀ a j, ¬ (a = 171 ∧ j = 0) → g' a j = g a j) → K (.inl (vI (-1))) (stt g')) (k1 : g 171 9 + 20 ≤ 400 → ∀ g', (∀ a j, ¬ (a = 171 ∧ (j = 0 ∨ j = 9)) → a ≠ 178 → ¬ (a = 177 ∧ g 171 9 ≤ j ∧ j < g 171 9 + 20) → g' a j = g a j) → g' 171 9 = g 171 9 + 20 → (∀ i, 0 ≤ i → i < 20 → g' 177 (g 171 9 + i) = sb (byS (q5 x1 x2 x3 x4 x5) i)) → K (.inl (vI (g 171 9 + 20))) (stt g')) : Ct Γ l d b yX12_feed mX12_feed [vR 171, vI x1, vI x2, vI x3, vI x4, vI x5] (stt g) K := by
  have e9 : upd2 g 171 0 0 171 9 = g 171 9 := upd2_nj (by decide)
  apply wpX12_feed
  rw [e9, wr_id (x := g 171 9 + 20) (by omega) (by omega)]
  have pn : ∀ a j, ¬ (a = 171 ∧ j = 0) → upd2 g 171 0 0 a j = g a j := fun a j hn => if_neg (fun z => hn ⟨z.2, z.1⟩)
  generalize upd2 g 171 0 0 = g0 at pn ⊢
  refine ⟨fun c g1 e1 g2 e2 => ?_, fun c => k0 (by omega) g0 pn⟩
  have w2 : ∀ a j, a ≠ 178 → g2 a j = g0 a j := fun a j ha => by rw [e2, upd2_ne ha, upd2_ne ha, upd2_ne ha, e1, upd2_ne ha, upd2_ne ha]
  have v2 : ∀ i, 0 ≤ i → i < 5 → g2 178 i = q5 x1 x2 x3 x4 x5 i := fun i i0 i1 => by
    have hi : i = 0 ∨ i = 1 ∨ i = 2 ∨ i = 3 ∨ i = 4 := by omega
    rw [e2, e1]
    rcases hi with rfl | rfl | rfl | rfl | rfl
    · rw [upd2_nj (by decide), upd2_nj (by decide), upd2_nj (by decide), upd2_nj (by decide), upd2_eq]; rfl
    · rw [upd2_nj (by decide), upd2_nj (by decide), upd2_nj (by decide), upd2_eq]; rfl
    · rw [upd2_nj (by decide), upd2_nj (by decide), upd2_eq]; rfl
    · rw [upd2_nj (by decide), upd2_eq]; rfl
    · rw [upd2_eq]; rfl
  have p9 : g2 171 9 = g 171 9 := by rw [w2 _ _ (by decide), pn _ _ (by omega)]
  generalize hn : g 171 9 = n at *
  refine up_loop (P := fun i => ∀ g', (∀ a j, a ≠ 177 → g' a j = g2 a j) → (∀ j, ¬ (n ≤ j ∧ j < n + i) → g' 177 j = g2 177 j) → (∀ t, 0 ≤ t → t < (i : Int) → g' 177 (n + t) = sb (byS (q5 x1 x2 x3 x4 x5) t)) → AW Γ l mX12_feed d b 60 [vR 171, vI x1, vI x2, vI x3, vI x4, vI x5, vI i] [] (stt g') K) (N := 20) (fun g' o q f => ?_) (fun i hi9 hi g' o q f => ?_) 0 (Nat.zero_le _) g2 (fun _ _ _ => rfl) (fun _ _ => rfl) (fun t t0 t1 => absurd t1 (by omega))
  · apply wpX12_feed_60
    rw [o _ _ (by decide), p9, upd2_eq]
    refine ⟨fun _ => k1 c _ (fun a j h1 h2 h3 => ?_) upd2_eq (fun i i0 i1 => by rw [upd2_ne (by decide)]; exact f i i0 i1), fun c => absurd (show 20 ≤ wr ((20 : Nat) : Int) by decide +kernel) c⟩
    rw [show upd2 g' 171 9 (n + 20) a j = g' a j from if_neg (fun z => h1 ⟨z.2, Or.inr z.1⟩)]
    by_cases x : a = 177
    · rw [x, q j (fun z => h3 ⟨x, z⟩), w2 _ _ (by decide), pn _ _ (by omega)]
    · rw [o a j x, w2 a j h2, pn a j (fun z => h1 ⟨z.1, Or.inl z.2⟩)]
  · have hd : iDiv (i : Int) 4 = (i : Int) / 4 := iDiv_nn (by omega) (by omega) (by decide) (by decide)
    have hr : iRem (i : Int) 4 = (i : Int) % 4 := iRem_nn (by omega) (by omega) (by decide) (by decide)
    have hm := Int.emod_nonneg (i : Int) (show (4 : Int) ≠ 0 by decide)
    have hm2 := Int.emod_lt_of_pos (i : Int) (show (0 : Int) < 4 by decide)
    have hb := (byte_ok (q5 x1 x2 x3 x4 x5 ((i : Int) / 4)) (24 - 8 * ((i : Int) % 4)) (by omega)).2
    apply wpX12_feed_60
    rw [wr_id (x := (i : Int)) (by omega) (by omega), hd, hr, wr_id (x := (i : Int) / 4) (by omega) (by omega), o 178 _ (by decide), v2 _ (by omega) (by omega), hb, o 171 9 (by decide), p9, wr_id (x := n + (i : Int)) (by omega) (by omega)]
    refine ⟨fun c => absurd c (by omega), fun _ => ⟨by omega, by omega, fun g1 e1 => hi g1 (fun a j ha => by rw [e1, upd2_ne ha, o a j ha]) (fun j hj => by rw [e1, upd2_nj (by omega), q j (by omega)]) (fun t t0 t1 => ?_)⟩⟩
    by_cases x : t = i
    · rw [e1, x, upd2_eq]; rfl
    · rw [e1, upd2_nj (by omega), f t t0 (by omega)]
theorem byS_rng (q : Int → Int) (k : Int) : 0 ≤ byS q k ∧ byS q k ≤ 255 := by
  have hm := Int.emod_nonneg k (show (4 : Int) ≠ 0 by decide)
  have hm2 := Int.emod_lt_of_pos k (show (0 : Int) < 4 by decide)
  exact (byte_ok (q (k / 4)) (24 - 8 * (k % 4)) (by omega)).1
end FE
