/-! PEOPLE TWO BY TWO: the calls -/
def s_pairs (V : VV) (p : Int) : Int × Int := if p = -1 then (0, pdS (aaS V) (V 0) (pwS (V 0) - 1)) else if 0 ≤ p ∧ p < V 0 then (0, wtS (aaS V) (V 0) (pwS (V 0) - 1) p) else (1, 0)
section PK2
variable {Γ : Cfg} {l : Launch} {V : VV}
theorem k_find {d b : Nat} {g : GG} {K : Ou → HP → Prop} (h : HRel g 8 V) (hV : WF V) (kk : ∀ g', (∀ a j, ¬ (a = 167 ∧ j = 2) → a ≠ 168 → a ≠ 169 → g' a j = g a j) → g' 167 2 = pdS (aaS V) (V 0) (pwS (V 0) - 1) → (∀ q, 0 ≤ q → q < V 0 → g' 169 q = wtS (aaS V) (V 0) (pwS (V 0) - 1) q) → K (.inl vU) (stt g')) : Ct Γ l (d + 10) b yX6_find mX6_find [vR 167, vR 8] (stt g) K := by
  have h6 := hV.1.1
  have hf := aa_f hV
  have pw := pw_ok h6.1 h6.2
  have l168 : ln 168 = 6 := by decide +kernel
  apply wpX6_find h.hi
  refine up_loop (P := fun i => ∀ g1, (∀ a j, a ≠ 168 → g1 a j = g a j) → (∀ q, 0 ≤ q → q < (i : Int) → g1 168 q = -1) → AW Γ l mX6_find (d + 10) b 2 [vR 167, vR 8, vI i] [] (stt g1) K) (N := 6) (fun g1 o1 f1 => ?_) (fun i hi9 hi g1 o1 f1 => ?_) 0 (Nat.zero_le _) g (fun _ _ _ => rfl) (fun q q0 q1 => absurd q1 (by omega))
  · apply wpX6_find_2 h.hi
    refine ⟨fun _ => ?_, fun c => absurd (show 6 ≤ wr ((6 : Nat) : Int) by decide +kernel) c⟩
    have h2 : HRel (upd2 g1 167 2 (-1)) 8 V := h.fr fun a j a0 a1 => by rw [upd2_ne (by omega), o1 _ _ (by omega)]
    have m2 : upd2 g1 167 2 (-1) 167 2 = -1 := upd2_eq
    have f2 : ∀ q, 0 ≤ q → q < 6 → upd2 g1 167 2 (-1) 168 q = -1 := fun q q0 q1 => by rw [upd2_ne (by decide), f1 q q0 (by omega)]
    have o2 : ∀ a j, ¬ (a = 167 ∧ j = 2) → a ≠ 168 → upd2 g1 167 2 (-1) a j = g a j := fun a j h1 h8 => by
      rw [show upd2 g1 167 2 (-1) a j = g1 a j from if_neg (fun e => h1 ⟨e.2, e.1⟩), o1 a j h8]
    generalize upd2 g1 167 2 (-1) = g2 at h2 m2 f2 o2 ⊢
    have pr := pd_r (n := V 0) (s := pwS (V 0) - 1) hf h6.1 h6.2 (by omega) (by omega)
    refine k_pairFrom hV (V 0).toNat (D := d + 9) (d := d + (6 - (V 0).toNat)) (F := pwS (V 0) - 1) (by omega) h2 (by decide) (by omega) (by omega) (by omega) (fun q q0 q1 => ⟨by rw [f2 q q0 q1]; decide, ?_⟩) (by decide) (by decide) (by omega) (by omega) fun g3 ⟨o3, _, e3⟩ => bV_in ?_
    · rw [pw.2.1 q q0 q1, f2 q q0 q1]
      exact ⟨fun t => ⟨q0, t, rfl⟩, fun t => t.2.1⟩
    · have e3 := e3 (by omega)
      refine kk g3 (fun a j h1 h8 h9 => by rw [o3 a j h1 h9, o2 a j h1 h8]) (by rw [e3.1]; omega) (fun q q0 q1 => ?_)
      rw [e3.2 q q0 (by omega)]
      unfold rowB
      rw [if_pos (show (pwS (V 0) - 1).toNat.testBit q.toNat = true from (pw.2.1 q q0 (by omega)).mpr q1)]
  · apply wpX6_find_2 h.hi
    rw [wr_id (x := (i : Int)) (by omega) (by omega), puc_in (by omega) (by rw [l168]; omega)]
    refine ⟨fun c => absurd c (by omega), fun _ => hi _ (fun a j ha => by rw [upd2_ne ha, o1 a j ha]) (fun q q0 q1 => ?_)⟩
    by_cases c : q = i
    · rw [c, upd2_eq]
    · rw [upd2_nj c, f1 q q0 (by omega)]
theorem k_pairs {d b : Nat} {g : GG} {K : Ou → HP → Prop} {p : Int} (h : CS g V V) (hb : 1 ≤ b) (hp : wr p = p) (kk : ∀ g', kC g g' → K (oc [eIO] (s_pairs V p)) (stt g')) : Ct Γ l (d + 11) b yX11_pairs mX11_pairs [vR 1, vI p] (stt g) K := by
  have h6 := h.2.1.1.1
  have l169 : ln 169 = 6 := by decide +kernel
  have fr : ∀ g' : GG, (∀ a j, ¬ (a = 167 ∧ j = 2) → a ≠ 168 → a ≠ 169 → g' a j = g a j) → kC g g' := fun g' o a j hs => o a j (by unfold cS at hs; omega) (by unfold cS at hs; omega) (by unfold cS at hs; omega)
  unfold s_pairs at kk
  apply wpX11_pairs hb
  rw [hp]
  refine ⟨fun z => k_find h.1 h.2.1 fun g' o e1 e2 => bV_in ⟨fun c => absurd z c, fun _ => ?_⟩, fun z => k_needPerson h (by decide) hp (fun p0 p1 => bV_in (k_find h.1 h.2.1 fun g' o e1 e2 => bV_in ⟨fun _ => ?_, fun c => absurd z c⟩)) (fun np => bV_th ?_)⟩
  · rw [if_pos z] at kk
    rw [e1]
    exact kk g' (fr g' o)
  · rw [if_neg z, if_pos ⟨p0, p1⟩] at kk
    rw [cel_in p0 (by rw [l169]; omega), e2 p p0 p1]
    exact kk g' (fr g' o)
  · rw [if_neg z, if_neg np] at kk
    exact kk g kC.rf
/-- what the reference's row has, below one set -/
def PT (g : GG) (V : VV) (n : Int) : Prop := ∀ t, 0 ≤ t → t < n → g 189 t = pdS (aaS V) (V 0) t
theorem m_pairedBy {d b : Nat} {g : GG} {K : Ou → HP → Prop} {s o : Int} (hv : g 172 = V) (hV : WF V) (s0 : 0 < s) (s1 : s < 64) (ht : PT g V s) (o0 : -1 ≤ o) (o1 : o < 6) (kk : K (.inl (vI (chP (aaS V) (pdS (aaS V) (V 0)) s o))) (stt g)) : Ct Γ l (d + 4) b yX12_pairedBy mX12_pairedBy [vR 171, vI s, vI o] (stt g) K := by
  have z := ntz_s s0 s1
  have r1 := rm_ok (s := s) (p := iNTZ s) (by omega) s1 z.1.1 z.1.2
  have r2 := r1.2.2.1 z.2.1
  apply wpX12_pairedBy
  refine wpX12_firstOf (bI_in ?_)
  have e1 : iAnd s (iXor (iShl 1 (iNTZ s)) (-1)) = rmS s (iNTZ s) := rfl
  unfold chP at kk
  rw [e1, wr_id (x := o) (by omega) (by omega), wr_iAnd]
  refine ⟨fun c => ?_, fun c => ?_⟩
  · rw [if_neg c] at kk
    have hb := bit_ask (s := rmS s (iNTZ s)) (p := o) r1.1.1 r1.1.2 (by omega) o1
    have r3 := rm_ok (s := rmS s (iNTZ s)) (p := o) r1.1.1 r1.1.2 (by omega) o1
    have e2 : iAnd (rmS s (iNTZ s)) (iXor (iShl 1 o) (-1)) = rmS (rmS s (iNTZ s)) o := rfl
    rw [hb.1, e2, wr_id (x := rmS (rmS s (iNTZ s)) o) (by omega) (by omega)]
    refine ⟨fun t => m_alikeOf hv hV z.1.1 z.1.2 (by omega) o1 (bI_in ⟨by omega, ?_⟩), fun t => ?_⟩
    · rw [if_pos (show (rmS s (iNTZ s)).toNat.testBit o.toNat = true from t)] at kk
      rw [ht _ r3.1.1 (by omega)]
      exact kk
    · rw [if_neg (show ¬ (rmS s (iNTZ s)).toNat.testBit o.toNat = true from t)] at kk
      exact kk
  · rw [if_pos (Decidable.not_not.mp c)] at kk
    rw [wr_id (x := rmS s (iNTZ s)) (by omega) (by omega), ht _ r1.1.1 (by omega)]
    exact ⟨by omega, kk⟩
def onlyD (g g' : GG) : Prop := ∀ a j, a ≠ 189 → g' a j = g a j
theorem m_laysPairs {d b : Nat} {g : GG} {K : Ou → HP → Prop} (hv : g 172 = V) (hV : WF V) (kk : ∀ g', onlyD g g' → PT g' V (pwS (V 0)) → K (.inl vU) (stt g')) : Ct Γ l (d + 5) b yX12_laysPairs mX12_laysPairs [vR 171] (stt g) K := by
  have h6 := hV.1.1
  have hf := aa_f hV
  have pw := pw_ok h6.1 h6.2
  apply wpX12_laysPairs
  refine up_loop (P := fun i => ∀ g1, onlyD g g1 → PT g1 V ((i : Int) + 1) → AW Γ l mX12_laysPairs (d + 5) b 9 [vR 171, vI ((i : Int) + 1), vU, vU] [] (stt g1) K) (N := (pwS (V 0) - 1).toNat) (fun g1 o1 f1 => ?_) (fun i hi9 hi g1 o1 f1 => ?_) 0 (Nat.zero_le _) _ (fun a j ha => upd2_ne ha) (fun t t0 t1 => ?_)
  · have v1 : g1 172 = V := by rw [← hv]; exact funext fun j => o1 _ _ (by decide)
    apply wpX12_laysPairs_9
    have e : iShl 1 (V 0) = pwS (V 0) := rfl
    rw [v1, e, wr_id (x := pwS (V 0)) (by omega) (by omega), wr_id (x := ((pwS (V 0) - 1).toNat : Int) + 1) (by omega) (by omega)]
    exact ⟨fun _ => kk g1 o1 (fun t t0 t1 => f1 t t0 (by omega)), fun c => absurd (show pwS (V 0) ≤ ((pwS (V 0) - 1).toNat : Int) + 1 by omega) c⟩
  · have v1 : g1 172 = V := by rw [← hv]; exact funext fun j => o1 _ _ (by decide)
    have e : iShl 1 (V 0) = pwS (V 0) := rfl
    have s0 : 0 < (i : Int) + 1 := by omega
    have s1 : (i : Int) + 1 < 64 := by omega
    have pe := pdS_eq (aaS V) (n := V 0) h6.2 s0 s1
    have pr := pd_r (n := V 0) (s := (i : Int) + 1) hf h6.1 h6.2 (by omega) s1
    apply wpX12_laysPairs_9
    rw [v1, e, wr_id (x := pwS (V 0)) (by omega) (by omega), wr_id (x := (i : Int) + 1) (by omega) (by omega)]
    refine ⟨fun c => absurd c (by omega), fun _ => ?_⟩
    have m := fd_max (h := fun j => chP (aaS V) (pdS (aaS V) (V 0)) ((i : Int) + 1) (j - 1)) (N := (V 0 + 1).toNat) (fun j hj => by
      have := ch_r hf h6.1 h6.2 s0 s1 (j := (j : Int) - 1) (by omega) (by omega)
      omega)
    have z9 := up_loop (P := fun j => AW Γ l mX12_laysPairs (d + 5) b 23 [vR 171, vI ((i : Int) + 1), vI (mxP (aaS V) (pdS (aaS V) (V 0)) (V 0) ((i : Int) + 1) j), vI ((j : Int) - 1)] [] (stt g1) K) (N := (V 0 + 1).toNat) ?_ (fun j hj9 hj => ?_) 0 (Nat.zero_le _)
    · rw [show ((0 : Nat) : Int) - 1 = -1 by rfl] at z9
      exact z9
    · apply wpX12_laysPairs_23
      rw [v1, wr_id (x := V 0) (by omega) (by omega), wr_id (x := ((V 0 + 1).toNat : Int) - 1) (by omega) (by omega), wr_id (x := (i : Int) + 1) (by omega) (by omega), ← pe]
      refine ⟨fun _ => ⟨by omega, AW.weak (hi _ (fun a j ha => by rw [upd2_ne ha, o1 a j ha]) (fun t t0 t1 => ?_)) (by simp [leP])⟩, fun c => absurd (show V 0 ≤ ((V 0 + 1).toNat : Int) - 1 by omega) c⟩
      by_cases x : t = (i : Int) + 1
      · rw [x, upd2_eq]
      · rw [upd2_nj x, f1 t t0 (by omega)]
    · apply wpX12_laysPairs_23
      rw [v1, wr_id (x := V 0) (by omega) (by omega), wr_id (x := (j : Int) - 1) (by omega) (by omega)]
      refine ⟨fun c => absurd c (by omega), fun _ => m_pairedBy v1 hV s0 s1 f1 (by omega) (by omega) (bI_in ?_)⟩
      have hj2 : AW Γ l mX12_laysPairs (d + 5) b 23 [vR 171, vI ((i : Int) + 1), vI (iMax (mxP (aaS V) (pdS (aaS V) (V 0)) (V 0) ((i : Int) + 1) j) (chP (aaS V) (pdS (aaS V) (V 0)) ((i : Int) + 1) ((j : Int) - 1))), vI (((j + 1 : Nat) : Int) - 1)] [] (stt g1) K := hj
      rw [show ((j + 1 : Nat) : Int) - 1 = (j : Int) - 1 + 1 by omega] at hj2
      exact hj2
  · rw [show t = 0 by omega, upd2_eq, pdS_0]
theorem m_walk {d b : Nat} {g : GG} {K : Ou → HP → Prop} {p : Int} (hv : g 172 = V) (hV : WF V) (ht : PT g V (pwS (V 0))) (p0 : 0 ≤ p) (p1 : p < V 0) : ∀ (k : Nat) (s y : Int), s ≤ k → 0 ≤ s → s < pwS (V 0) → bt s p → (∀ q, 0 ≤ q → q < 6 → bt s q → q < V 0) → K (.inl (vI (wtS (aaS V) (V 0) s p))) (stt g) → AW Γ l mX12_pairs (d + 6) b 63 [vR 171, vI p, vI s, vI y, vI 0, vU, vU] [] (stt g) K
  | 0, s, y, hk, s0, _, hb, _, _ => absurd hb (by rw [show s = 0 by omega]; exact fun c => bt_0 c)
  | k + 1, s, y, hk, s0', s1', hb, hn, kk => by
    have h6 := hV.1.1
    have hf := aa_f hV
    have pw := pw_ok h6.1 h6.2
    have s0 : 0 < s := by
      by_cases c : s = 0
      · rw [c] at hb; exact absurd hb (fun c => bt_0 c)
      · omega
    have s1 : s < 64 := by omega
    have z := ntz_s s0 s1
    have os := os_ok hf h6.1 h6.2 s0 s1
    have nx := nx_ok s0 s1 (o := osP (aaS V) (V 0) s) os.1.1 (by omega)
    have pr := pd_r (n := V 0) (s := s) hf h6.1 h6.2 (by omega) s1
    have zn := hn _ z.1.1 z.1.2 z.2.1
    have we := wtS_eq hf h6.1 h6.2 s0 s1 (q := p)
    have w0 : wr 0 = 0 := wr_0
    apply wpX12_pairs_63
    rw [w0]
    refine ⟨fun c => absurd rfl c, fun _ => wpX12_firstOf (bI_in ?_)⟩
    -- the first by whom it is so
    have z9 := up_loop (P := fun i => AW Γ l mX12_pairs (d + 6) b 77 [vR 171, vI p, vI s, vI y, vI 0, vI (iNTZ s), vI ((i : Int) - 1)] [] (stt g) K) (N := (osP (aaS V) (V 0) s + 1).toNat) ?_ (fun i hi9 hi => ?_) 0 (Nat.zero_le _)
    · rw [show ((0 : Nat) : Int) - 1 = -1 by rfl] at z9
      exact z9
    · rw [show ((osP (aaS V) (V 0) s + 1).toNat : Int) - 1 = osP (aaS V) (V 0) s by omega]
      have done : ∀ (s' x u v : Int), x = wtS (aaS V) (V 0) s p → AW Γ l mX12_pairs (d + 6) b 63 [vR 171, vI p, vI s', vI x, vI 1, vI u, vI v] [] (stt g) K := fun s' x u v e => by
        refine AW.weak (L' := [vR 171, vI p, vI s', vI x, vI 1, vU, vU]) ?_ (by simp [leP])
        apply wpX12_pairs_63
        rw [e]
        exact ⟨fun _ => kk, fun c => absurd (show ¬ wr 1 = 0 by decide +kernel) c⟩
      have more : ∀ (s' x u v : Int), s' = nxS s (osP (aaS V) (V 0) s) → ¬ iNTZ s = p → ¬ osP (aaS V) (V 0) s = p → AW Γ l mX12_pairs (d + 6) b 63 [vR 171, vI p, vI s', vI x, vI 0, vI u, vI v] [] (stt g) K := fun s' x u v e n1 n2 => by
        refine AW.weak (L' := [vR 171, vI p, vI s', vI x, vI 0, vU, vU]) ?_ (by simp [leP])
        rw [e]
        rw [we, if_neg n1, if_neg n2] at kk
        exact m_walk hv hV ht p0 p1 k _ x (by omega) nx.1.1 (by omega) ((nx.2 p p0 (by omega)).mpr ⟨hb, fun e => n1 e.symm, fun e => n2 e.symm⟩) (fun q q0 q1 hq => hn q q0 q1 ((nx.2 q q0 q1).mp hq).1) kk
      generalize ho : osP (aaS V) (V 0) s = o at os nx we more ⊢
      generalize hpz : iNTZ s = pz at *
      have en : nxS s o = if o = -1 then rmS s pz else rmS (rmS s pz) o := by unfold nxS; rw [hpz]
      have e1 : iAnd s (iXor (iShl 1 pz) (-1)) = rmS s pz := rfl
      have e2 : iAnd (rmS s pz) (iXor (iShl 1 o) (-1)) = rmS (rmS s pz) o := rfl
      apply wpX12_pairs_77
      refine m_pairedBy hv hV s0 s1 (fun t t0 t1 => ht t t0 (by omega)) os.1.1 (by omega) (bI_in ?_)
      rw [e1, e2, os.2.1, wr_id (x := s) (by omega) (by omega), ht s (by omega) s1', wr_id (x := p) (by omega) (by omega), wr_id (x := pz) (by omega) (by omega), wr_id (x := o) (by omega) (by omega)]
      refine ⟨by omega, fun _ => ⟨fun c => ⟨fun c2 => absurd c c2, fun _ => ⟨fun _ => done _ _ _ _ ?_, fun _ => done _ _ _ _ ?_⟩⟩, fun c => ⟨fun c1 => ⟨fun _ => ⟨fun c3 => more _ _ _ _ ?_ c c1, fun c3 => more _ _ _ _ ?_ c c1⟩, fun c2 => absurd c c2⟩, fun c1 => ⟨fun _ => ⟨fun _ => done _ _ _ _ ?_, fun _ => done _ _ _ _ ?_⟩, fun c2 => absurd c c2⟩⟩⟩, fun c => absurd rfl c⟩
      · rw [we, if_pos c]
      · rw [we, if_pos c]
      · rw [en, if_neg c3]
      · rw [en, if_pos (Decidable.not_not.mp c3)]
      · rw [we, if_neg c, if_pos (Decidable.not_not.mp c1)]
      · rw [we, if_neg c, if_pos (Decidable.not_not.mp c1)]
    · have lt := os.2.2.1 ((i : Int) - 1) (by omega) (by omega)
      have chr := ch_r hf h6.1 h6.2 s0 s1 (j := (i : Int) - 1) (by omega) (by omega)
      rw [show ((i + 1 : Nat) : Int) - 1 = (i : Int) - 1 + 1 by omega] at hi
      apply wpX12_pairs_77
      refine m_pairedBy hv hV s0 s1 (fun t t0 t1 => ht t t0 (by omega)) (by omega) (by omega) (bI_in ?_)
      rw [wr_id (x := s) (by omega) (by omega), ht s (by omega) s1', wr_id (x := pdS (aaS V) (V 0) s) (by omega) (by omega), wr_id (x := chP (aaS V) (pdS (aaS V) (V 0)) s ((i : Int) - 1)) (by omega) (by omega)]
      exact ⟨by omega, fun c => absurd c (by omega), fun _ => hi⟩
theorem m_pairs {d b : Nat} {g : GG} {K : Ou → HP → Prop} {p : Int} (hv : g 172 = V) (hV : WF V) (hp : wr p = p) (kk : mc g (s_pairs V p) K) : Ct Γ l (d + 6) b yX12_pairs mX12_pairs [vR 171, vI p] (stt g) K := by
  have h6 := hV.1.1
  have hf := aa_f hV
  have pw := pw_ok h6.1 h6.2
  have v1 := th_v (c := 0) hv
  apply wpX12_pairs
  rw [pcond hV v1 hp, hp]
  have m1 : kM g (upd2 g 171 0 0) := kM.th
  have z1 : upd2 g 171 0 0 171 0 = 0 := th_z
  generalize upd2 g 171 0 0 = g1 at v1 m1 z1 ⊢
  have fr : ∀ g' : GG, onlyD g1 g' → kM g g' ∧ g' 171 0 = 0 ∧ g' 172 = V := fun g' o => ⟨m1.tr fun a j hs => o a j (by unfold mS at hs; omega), by rw [o _ _ (by decide), z1], by rw [← v1]; exact funext fun j => o _ _ (by decide)⟩
  have e : iShl 1 (V 0) = pwS (V 0) := rfl
  unfold s_pairs at kk
  refine ⟨fun z => m_laysPairs v1 hV fun g2 o2 t2 => bV_in ⟨fun c => absurd z c, fun _ => ?_⟩, fun z => ⟨fun np => mc_fin kk ?_ (m1.tr kM.th) th_z, fun ip => m_laysPairs v1 hV fun g2 o2 t2 => bV_in ⟨fun _ => ?_, fun c => absurd z c⟩⟩⟩
  · obtain ⟨f1, f2, f3⟩ := fr g2 o2
    rw [if_pos z] at kk
    rw [f3, e, wr_id (x := pwS (V 0) - 1) (by omega) (by omega), t2 _ (by omega) (by omega)]
    exact ⟨by omega, mc_fin kk rfl f1 f2⟩
  · rw [if_neg z, if_neg np]
  · obtain ⟨f1, f2, f3⟩ := fr g2 o2
    have ip := Decidable.not_not.mp ip
    rw [if_neg z, if_pos ip] at kk
    rw [f3, e]
    exact m_walk f3 hV t2 ip.1 ip.2 (pwS (V 0) - 1).toNat _ (-1) (by omega) (by omega) (by omega) ((pw.2.1 p ip.1 (by omega)).mpr ip.2) (fun q q0 q1 hq => (pw.2.1 q q0 q1).mp hq) (mc_fin kk rfl f1 f2)
end PK2
