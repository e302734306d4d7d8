/-- the two states belong together (nothing of it grows with the script) -/
def i_Rel (_ : Nat) (u : SX) (v : SY) : Prop := wu_R u v
theorem i_up {k : Nat} {u : SX} {v : SY} (h : i_Rel k u v) : i_Rel (k + 5) u v := by
  exact h
theorem i_vc0 : wpX_init (fun u => wpY_init (fun v => i_Rel 0 u v)) := by
  refine ⟨fun _ => 0, 0, 0, 0, 0, fun _ => 0, fun _ => 0, fun _ => 0, fun _ => 0, fun _ => 0, fun _ => 0, fun _ => 0, fun _ => 0, fun _ => 0, fun _ => 0, fun _ => 0, fun _ => 0, fun _ => 0, fun _ => 0, fun _ => 0, fun _ => 0, fun _ => 0, fun _ => 0, fun _ => 0, rfl, rfl, by omega, by omega, fun _ i _ => b_0 i, fun w _ z => absurd rfl z, fun _ _ => rfl, fun _ _ => rfl, fun _ _ => rfl, fun _ _ => rfl, fun _ _ => rfl⟩
theorem i_vc_set {k : Nat} {u : SX} {v : SY} (I : i_Rel k u v) (hk : k + 5 ≤ 2560) (v1 : Int32) (v2 : Int32) (v3 : Int32) (v4 : Int32) : wpX_set (fun r u' => wpY_set (fun r' v' => r' = r ∧ i_Rel (k + 5) u' v') v v1 v2 v3 v4) u v1 v2 v3 v4 := by
  have hR : i_Rel (k + 5) u v := I
  obtain ⟨me, c, l, sc, ac, on, pa, fi, la, ki, sk, hi, km, ka, kn, kb, kf, ol, ln, ms, ma, mn, mb, mf, rfl, rfl, hc, hl, B, hW, g1, g2, g3, g4, g5⟩ := I
  by_cases hb : v1 < 0 ∨ nI 8 ≤ v1
  · unfold wpX_set
    refine wu_xiw0 hb (br_t rfl ?_)
    unfold wpY_set
    exact wu_yb1 hb (br_f (by decide) ⟨rfl, hR⟩)
  obtain ⟨w, hw, rfl⟩ : ∃ w : Nat, w < 8 ∧ v1 = nI w := by
    rcases pk_ix v1 (n := 8) (by omega) with z | z | z
    · exact absurd (Or.inl z) hb
    · exact absurd (Or.inr z) hb
    · exact z
  have hcl := nI_clamp (n := w) (by omega)
  have hv := vp_in_nI (N := 8) hw (by omega)
  unfold wpX_set
  dsimp only
  rw [hcl]
  by_cases h1 : v3 < 1
  · refine wu_xiw1 hw (br_f (by decide) (br_t h1 ?_))
    unfold wpY_set
    exact wu_yb0 hw (br_t rfl (br_t h1 ⟨rfl, hR⟩))
  by_cases h2 : v3 ≤ 16
  rotate_left
  · refine wu_xiw1 hw (br_f (by decide) (br_f h1 (br_f h2 ?_)))
    unfold wpY_set
    exact wu_yb0 hw (br_t rfl (br_f h1 (br_f h2 ⟨rfl, hR⟩)))
  by_cases h3 : v2 < 0
  · refine wu_xiw1 hw (br_f (by decide) (br_f h1 (br_t h2 (wu_xl0 (Or.inl h3) (br_t rfl ?_)))))
    unfold wpY_set
    exact wu_yb0 hw (br_t rfl (br_f h1 (br_t h2 (br_t h3 ⟨rfl, hR⟩))))
  by_cases h4 : (40 - v3) < v2
  · refine wu_xiw1 hw (br_f (by decide) (br_f h1 (br_t h2 (wu_xl0 (Or.inr h4) (br_t rfl ?_)))))
    unfold wpY_set
    exact wu_yb0 hw (br_t rfl (br_f h1 (br_t h2 (br_f h3 (br_f (Int32.not_le.mpr h4) ⟨rfl, hR⟩)))))
  have h4' : v2 ≤ (40 - v3) := Int32.not_lt.mp h4
  by_cases h5 : v4 < 1
  · refine wu_xiw1 hw (br_f (by decide) (br_f h1 (br_t h2 (wu_xl1 h3 h4 (br_f (by decide) (br_t h5 ?_))))))
    unfold wpY_set
    exact wu_yb0 hw (br_t rfl (br_f h1 (br_t h2 (br_f h3 (br_t h4' (br_t h5 ⟨rfl, hR⟩))))))
  by_cases h6 : v4 ≤ 4
  rotate_left
  · refine wu_xiw1 hw (br_f (by decide) (br_f h1 (br_t h2 (wu_xl1 h3 h4 (br_f (by decide) (br_f h5 (br_f h6 ?_)))))))
    unfold wpY_set
    exact wu_yb0 hw (br_t rfl (br_f h1 (br_t h2 (br_f h3 (br_t h4' (br_f h5 (br_f h6 ⟨rfl, hR⟩)))))))
  have hN : i_Rel (k + 5) (nI c, nI l, sc, ac, me, upd on w (vp_nar .boolean 1), upd pa w (vp_nar .boolean 0), upd fi w v2, upd la w ((v2 + v3) - 1), upd ki w v4, upd sk w 0, upd hi w 0, km, ka, kn, kb, kf) (ac, sc, nI c, me, ol, upd on w (vp_nar .boolean 1), upd fi w v2, upd ln w v3, upd ki w v4, upd pa w (vp_nar .boolean 0), upd sk w 0, upd hi w 0, ms, ma, mn, mb, mf) := ⟨_, _, _, _, _, _, _, _, _, _, _, _, _, _, _, _, _, _, _, _, _, _, _, _, rfl, rfl, hc, hl, B, wu_Wset hW h1 h2 h3 h4 h5 h6, g1, g2, g3, g4, g5⟩
  refine wu_xiw1 hw (br_f (by decide) (br_f h1 (br_t h2 (wu_xl1 h3 h4 (br_f (by decide) (br_f h5 (br_t h6 ⟨hv, br_c (fun z => wu_xs65 hw ?_) (fun z => wu_xs65 hw ?_)⟩)))))))
  · unfold wpY_set
    dsimp only
    rw [hcl]
    exact wu_yb0 hw (br_t rfl (br_f h1 (br_t h2 (br_f h3 (br_t h4' (br_f h5 (br_t h6 ⟨hv, br_t z (wu_ys68 hw ⟨rfl, hN⟩)⟩)))))))
  · unfold wpY_set
    dsimp only
    rw [hcl]
    exact wu_yb0 hw (br_t rfl (br_f h1 (br_t h2 (br_f h3 (br_t h4' (br_f h5 (br_t h6 ⟨hv, br_f z (wu_ys68 hw ⟨rfl, hN⟩)⟩)))))))
theorem i_vc_clear {k : Nat} {u : SX} {v : SY} (I : i_Rel k u v) (hk : k + 5 ≤ 2560) (v1 : Int32) : wpX_clear (fun r u' => wpY_clear (fun r' v' => r' = r ∧ i_Rel (k + 5) u' v') v v1) u v1 := by
  have hR : i_Rel (k + 5) u v := I
  obtain ⟨me, c, l, sc, ac, on, pa, fi, la, ki, sk, hi, km, ka, kn, kb, kf, ol, ln, ms, ma, mn, mb, mf, rfl, rfl, hc, hl, B, hW, g1, g2, g3, g4, g5⟩ := I
  by_cases hb : v1 < 0 ∨ nI 8 ≤ v1
  · unfold wpX_clear
    refine wu_xrb hb (br_f (by decide) ?_)
    unfold wpY_clear
    exact wu_yb1 hb (br_f (by decide) ⟨rfl, hR⟩)
  obtain ⟨w, hw, rfl⟩ : ∃ w : Nat, w < 8 ∧ v1 = nI w := by
    rcases pk_ix v1 (n := 8) (by omega) with z | z | z
    · exact absurd (Or.inl z) hb
    · exact absurd (Or.inr z) hb
    · exact z
  have hcl := nI_clamp (n := w) (by omega)
  have hv := vp_in_nI (N := 8) hw (by omega)
  by_cases h0 : on w = 0
  · unfold wpX_clear
    refine wu_xru hw h0 (br_f (by decide) ?_)
    unfold wpY_clear
    dsimp only
    rw [hcl]
    exact wu_yb0 hw (br_t rfl ⟨hv, br_t h0 ⟨rfl, hR⟩⟩)
  unfold wpX_clear
  dsimp only
  rw [hcl]
  refine wu_xrs hw h0 (br_t rfl ⟨hv, nm_e ⟨hv, ?_⟩⟩)
  unfold wpY_clear
  dsimp only
  rw [hcl]
  exact wu_yb0 hw (br_t rfl ⟨hv, br_f h0 ⟨hv, nm_e ⟨hv, rfl, ⟨_, _, _, _, _, _, _, _, _, _, _, _, _, _, _, _, _, _, _, _, _, _, _, _, rfl, rfl, hc, hl, B, wu_Wclr hW h0, g1, g2, g3, g4, g5⟩⟩⟩⟩)
theorem i_vc_pause {k : Nat} {u : SX} {v : SY} (I : i_Rel k u v) (hk : k + 5 ≤ 2560) (v1 : Int32) (v2 : Int32) : wpX_pause (fun r u' => wpY_pause (fun r' v' => r' = r ∧ i_Rel (k + 5) u' v') v v1 v2) u v1 v2 := by
  have hR : i_Rel (k + 5) u v := I
  obtain ⟨me, c, l, sc, ac, on, pa, fi, la, ki, sk, hi, km, ka, kn, kb, kf, ol, ln, ms, ma, mn, mb, mf, rfl, rfl, hc, hl, B, hW, g1, g2, g3, g4, g5⟩ := I
  by_cases hb : v1 < 0 ∨ nI 8 ≤ v1
  · unfold wpX_pause
    refine wu_xrb hb (br_f (by decide) ?_)
    unfold wpY_pause
    exact wu_yb1 hb (br_f (by decide) ⟨rfl, hR⟩)
  obtain ⟨w, hw, rfl⟩ : ∃ w : Nat, w < 8 ∧ v1 = nI w := by
    rcases pk_ix v1 (n := 8) (by omega) with z | z | z
    · exact absurd (Or.inl z) hb
    · exact absurd (Or.inr z) hb
    · exact z
  have hcl := nI_clamp (n := w) (by omega)
  have hv := vp_in_nI (N := 8) hw (by omega)
  by_cases h0 : on w = 0
  · unfold wpX_pause
    refine wu_xru hw h0 (br_f (by decide) ?_)
    unfold wpY_pause
    dsimp only
    rw [hcl]
    exact wu_yb0 hw (br_t rfl ⟨hv, br_t h0 ⟨rfl, hR⟩⟩)
  unfold wpX_pause
  dsimp only
  rw [hcl]
  refine wu_xrs hw h0 (br_t rfl ⟨hv, br_c (fun z => wu_xp26 hw (fun y => ?_) (fun y => ?_)) (fun z => wu_xp26 hw (fun y => ?_) (fun y => ?_))⟩)
  · unfold wpY_pause
    dsimp only
    rw [hcl]
    exact wu_yb0 hw (br_t rfl ⟨hv, br_f h0 ⟨hv, br_t z (wu_yp36 hw (fun _ => ⟨rfl, ⟨_, _, _, _, _, _, _, _, _, _, _, _, _, _, _, _, _, _, _, _, _, _, _, _, rfl, rfl, hc, hl, B, hW, g1, g2, g3, g4, g5⟩⟩) (fun q => absurd y q))⟩⟩)
  · unfold wpY_pause
    dsimp only
    rw [hcl]
    exact wu_yb0 hw (br_t rfl ⟨hv, br_f h0 ⟨hv, br_t z (wu_yp36 hw (fun q => absurd q y) (fun _ => ⟨rfl, ⟨_, _, _, _, _, _, _, _, _, _, _, _, _, _, _, _, _, _, _, _, _, _, _, _, rfl, rfl, hc, hl, B, hW, g1, g2, g3, g4, g5⟩⟩))⟩⟩)
  · unfold wpY_pause
    dsimp only
    rw [hcl]
    exact wu_yb0 hw (br_t rfl ⟨hv, br_f h0 ⟨hv, br_f z (wu_yp36 hw (fun _ => ⟨rfl, ⟨_, _, _, _, _, _, _, _, _, _, _, _, _, _, _, _, _, _, _, _, _, _, _, _, rfl, rfl, hc, hl, B, hW, g1, g2, g3, g4, g5⟩⟩) (fun q => absurd y q))⟩⟩)
  · unfold wpY_pause
    dsimp only
    rw [hcl]
    exact wu_yb0 hw (br_t rfl ⟨hv, br_f h0 ⟨hv, br_f z (wu_yp36 hw (fun q => absurd q y) (fun _ => ⟨rfl, ⟨_, _, _, _, _, _, _, _, _, _, _, _, _, _, _, _, _, _, _, _, _, _, _, _, rfl, rfl, hc, hl, B, hW, g1, g2, g3, g4, g5⟩⟩))⟩⟩)
theorem i_vc_skip {k : Nat} {u : SX} {v : SY} (I : i_Rel k u v) (hk : k + 5 ≤ 2560) (v1 : Int32) (v2 : Int32) : wpX_skip (fun r u' => wpY_skip (fun r' v' => r' = r ∧ i_Rel (k + 5) u' v') v v1 v2) u v1 v2 := by
  have hR : i_Rel (k + 5) u v := I
  obtain ⟨me, c, l, sc, ac, on, pa, fi, la, ki, sk, hi, km, ka, kn, kb, kf, ol, ln, ms, ma, mn, mb, mf, rfl, rfl, hc, hl, B, hW, g1, g2, g3, g4, g5⟩ := I
  by_cases hb : v1 < 0 ∨ nI 8 ≤ v1
  · unfold wpX_skip
    refine wu_xrb hb (br_f (by decide) ?_)
    unfold wpY_skip
    exact wu_yb1 hb (br_f (by decide) ⟨rfl, hR⟩)
  obtain ⟨w, hw, rfl⟩ : ∃ w : Nat, w < 8 ∧ v1 = nI w := by
    rcases pk_ix v1 (n := 8) (by omega) with z | z | z
    · exact absurd (Or.inl z) hb
    · exact absurd (Or.inr z) hb
    · exact z
  have hcl := nI_clamp (n := w) (by omega)
  have hv := vp_in_nI (N := 8) hw (by omega)
  by_cases h0 : on w = 0
  · unfold wpX_skip
    refine wu_xru hw h0 (br_f (by decide) ?_)
    unfold wpY_skip
    dsimp only
    rw [hcl]
    exact wu_yb0 hw (br_t rfl ⟨hv, br_t h0 ⟨rfl, hR⟩⟩)
  unfold wpX_skip
  dsimp only
  rw [hcl]
  by_cases h1 : v2 < 0
  · refine wu_xrs hw h0 (br_t rfl (br_t h1 ?_))
    unfold wpY_skip
    dsimp only
    rw [hcl]
    exact wu_yb0 hw (br_t rfl ⟨hv, br_f h0 (br_t h1 ⟨rfl, hR⟩)⟩)
  by_cases h2 : v2 ≤ 100
  · refine wu_xrs hw h0 (br_t rfl (br_f h1 (br_t h2 ⟨hv, nm_e ⟨hv, nm_e ?_⟩⟩)))
    unfold wpY_skip
    dsimp only
    rw [hcl]
    exact wu_yb0 hw (br_t rfl ⟨hv, br_f h0 (br_f h1 (br_t h2 ⟨hv, nm_e ⟨hv, nm_e ⟨rfl, ⟨_, _, _, _, _, _, _, _, _, _, _, _, _, _, _, _, _, _, _, _, _, _, _, _, rfl, rfl, hc, hl, B, hW, g1, g2, g3, g4, g5⟩⟩⟩⟩))⟩)
  · refine wu_xrs hw h0 (br_t rfl (br_f h1 (br_f h2 ?_)))
    unfold wpY_skip
    dsimp only
    rw [hcl]
    exact wu_yb0 hw (br_t rfl ⟨hv, br_f h0 (br_f h1 (br_f h2 ⟨rfl, hR⟩))⟩)
theorem i_vc_hits {k : Nat} {u : SX} {v : SY} (I : i_Rel k u v) (hk : k + 5 ≤ 2560) (v1 : Int32) : wpX_hits (fun r => wpY_hits (fun r' => r' = r ∧ i_Rel (k + 5) u v) v v1) u v1 := by
  have hR : i_Rel (k + 5) u v := I
  obtain ⟨me, c, l, sc, ac, on, pa, fi, la, ki, sk, hi, km, ka, kn, kb, kf, ol, ln, ms, ma, mn, mb, mf, rfl, rfl, hc, hl, B, hW, g1, g2, g3, g4, g5⟩ := I
  by_cases hb : v1 < 0 ∨ nI 8 ≤ v1
  · unfold wpX_hits
    refine wu_xrb hb (br_f (by decide) ?_)
    unfold wpY_hits
    exact wu_yb1 hb (br_f (by decide) ⟨rfl, hR⟩)
  obtain ⟨w, hw, rfl⟩ : ∃ w : Nat, w < 8 ∧ v1 = nI w := by
    rcases pk_ix v1 (n := 8) (by omega) with z | z | z
    · exact absurd (Or.inl z) hb
    · exact absurd (Or.inr z) hb
    · exact z
  have hcl := nI_clamp (n := w) (by omega)
  have hv := vp_in_nI (N := 8) hw (by omega)
  by_cases h0 : on w = 0
  · unfold wpX_hits
    refine wu_xru hw h0 (br_f (by decide) ?_)
    unfold wpY_hits
    dsimp only
    rw [hcl]
    exact wu_yb0 hw (br_t rfl ⟨hv, br_t h0 ⟨rfl, hR⟩⟩)
  unfold wpX_hits
  dsimp only
  rw [hcl]
  refine wu_xrs hw h0 (br_t rfl ⟨hv, ?_⟩)
  unfold wpY_hits
  dsimp only
  rw [hcl]
  exact wu_yb0 hw (br_t rfl ⟨hv, br_f h0 ⟨hv, rfl, hR⟩⟩)
theorem i_vc_skips {k : Nat} {u : SX} {v : SY} (I : i_Rel k u v) (hk : k + 5 ≤ 2560) (v1 : Int32) : wpX_skips (fun r => wpY_skips (fun r' => r' = r ∧ i_Rel (k + 5) u v) v v1) u v1 := by
  have hR : i_Rel (k + 5) u v := I
  obtain ⟨me, c, l, sc, ac, on, pa, fi, la, ki, sk, hi, km, ka, kn, kb, kf, ol, ln, ms, ma, mn, mb, mf, rfl, rfl, hc, hl, B, hW, g1, g2, g3, g4, g5⟩ := I
  by_cases hb : v1 < 0 ∨ nI 8 ≤ v1
  · unfold wpX_skips
    refine wu_xrb hb (br_f (by decide) ?_)
    unfold wpY_skips
    exact wu_yb1 hb (br_f (by decide) ⟨rfl, hR⟩)
  obtain ⟨w, hw, rfl⟩ : ∃ w : Nat, w < 8 ∧ v1 = nI w := by
    rcases pk_ix v1 (n := 8) (by omega) with z | z | z
    · exact absurd (Or.inl z) hb
    · exact absurd (Or.inr z) hb
    · exact z
  have hcl := nI_clamp (n := w) (by omega)
  have hv := vp_in_nI (N := 8) hw (by omega)
  by_cases h0 : on w = 0
  · unfold wpX_skips
    refine wu_xru hw h0 (br_f (by decide) ?_)
    unfold wpY_skips
    dsimp only
    rw [hcl]
    exact wu_yb0 hw (br_t rfl ⟨hv, br_t h0 ⟨rfl, hR⟩⟩)
  unfold wpX_skips
  dsimp only
  rw [hcl]
  refine wu_xrs hw h0 (br_t rfl ⟨hv, ?_⟩)
  unfold wpY_skips
  dsimp only
  rw [hcl]
  exact wu_yb0 hw (br_t rfl ⟨hv, br_f h0 ⟨hv, rfl, hR⟩⟩)
theorem i_vc_stops {k : Nat} {u : SX} {v : SY} (I : i_Rel k u v) (hk : k + 5 ≤ 2560) : wpX_stops (fun r => wpY_stops (fun r' => r' = r ∧ i_Rel (k + 5) u v) v) u := by
  have hR : i_Rel (k + 5) u v := I
  obtain ⟨me, c, l, sc, ac, on, pa, fi, la, ki, sk, hi, km, ka, kn, kb, kf, ol, ln, ms, ma, mn, mb, mf, rfl, rfl, hc, hl, B, hW, g1, g2, g3, g4, g5⟩ := I
  exact ⟨rfl, hR⟩
theorem i_vc_accesses {k : Nat} {u : SX} {v : SY} (I : i_Rel k u v) (hk : k + 5 ≤ 2560) : wpX_accesses (fun r => wpY_accesses (fun r' => r' = r ∧ i_Rel (k + 5) u v) v) u := by
  have hR : i_Rel (k + 5) u v := I
  obtain ⟨me, c, l, sc, ac, on, pa, fi, la, ki, sk, hi, km, ka, kn, kb, kf, ol, ln, ms, ma, mn, mb, mf, rfl, rfl, hc, hl, B, hW, g1, g2, g3, g4, g5⟩ := I
  exact ⟨rfl, hR⟩
theorem i_vc_kept {k : Nat} {u : SX} {v : SY} (I : i_Rel k u v) (hk : k + 5 ≤ 2560) : wpX_kept (fun r => wpY_kept (fun r' => r' = r ∧ i_Rel (k + 5) u v) v) u := by
  have hR : i_Rel (k + 5) u v := I
  obtain ⟨me, c, l, sc, ac, on, pa, fi, la, ki, sk, hi, km, ka, kn, kb, kf, ol, ln, ms, ma, mn, mb, mf, rfl, rfl, hc, hl, B, hW, g1, g2, g3, g4, g5⟩ := I
  exact ⟨rfl, hR⟩
theorem i_vc_stopMask {k : Nat} {u : SX} {v : SY} (I : i_Rel k u v) (hk : k + 5 ≤ 2560) (v1 : Int32) : wpX_stopMask (fun r => wpY_stopMask (fun r' => r' = r ∧ i_Rel (k + 5) u v) v v1) u v1 := by
  have hR : i_Rel (k + 5) u v := I
  obtain ⟨me, c, l, sc, ac, on, pa, fi, la, ki, sk, hi, km, ka, kn, kb, kf, ol, ln, ms, ma, mn, mb, mf, rfl, rfl, hc, hl, B, hW, g1, g2, g3, g4, g5⟩ := I
  by_cases hb : v1 < 0 ∨ nI c ≤ v1
  · unfold wpX_stopMask
    refine wu_xsn hb (br_f (by decide) ?_)
    unfold wpY_stopMask
    exact wu_yn1 hb (br_f (by decide) ⟨rfl, hR⟩)
  obtain ⟨w, hw, rfl⟩ : ∃ w : Nat, w < c ∧ v1 = nI w := by
    rcases pk_ix v1 (n := c) (by omega) with z | z | z
    · exact absurd (Or.inl z) hb
    · exact absurd (Or.inr z) hb
    · exact z
  have hq := wu_sl8 (i := w) hl (by omega)
  unfold wpX_stopMask
  refine wu_xss hc hl hw (br_t (nI_pos' (by omega)) ⟨vp_in_nI hq (by omega), ?_⟩)
  unfold wpY_stopMask
  dsimp only
  rw [nI_clamp (n := w) (by omega), nI_clamp (n := wu_sl l w) (by omega)]
  exact wu_yn0 hc hw (br_t rfl ⟨vp_in_nI (by omega) (by omega), g1 w (by omega), hR⟩)
theorem i_vc_stopAddress {k : Nat} {u : SX} {v : SY} (I : i_Rel k u v) (hk : k + 5 ≤ 2560) (v1 : Int32) : wpX_stopAddress (fun r => wpY_stopAddress (fun r' => r' = r ∧ i_Rel (k + 5) u v) v v1) u v1 := by
  have hR : i_Rel (k + 5) u v := I
  obtain ⟨me, c, l, sc, ac, on, pa, fi, la, ki, sk, hi, km, ka, kn, kb, kf, ol, ln, ms, ma, mn, mb, mf, rfl, rfl, hc, hl, B, hW, g1, g2, g3, g4, g5⟩ := I
  by_cases hb : v1 < 0 ∨ nI c ≤ v1
  · unfold wpX_stopAddress
    refine wu_xsn hb (br_f (by decide) ?_)
    unfold wpY_stopAddress
    exact wu_yn1 hb (br_f (by decide) ⟨rfl, hR⟩)
  obtain ⟨w, hw, rfl⟩ : ∃ w : Nat, w < c ∧ v1 = nI w := by
    rcases pk_ix v1 (n := c) (by omega) with z | z | z
    · exact absurd (Or.inl z) hb
    · exact absurd (Or.inr z) hb
    · exact z
  have hq := wu_sl8 (i := w) hl (by omega)
  unfold wpX_stopAddress
  refine wu_xss hc hl hw (br_t (nI_pos' (by omega)) ⟨vp_in_nI hq (by omega), ?_⟩)
  unfold wpY_stopAddress
  dsimp only
  rw [nI_clamp (n := w) (by omega), nI_clamp (n := wu_sl l w) (by omega)]
  exact wu_yn0 hc hw (br_t rfl ⟨vp_in_nI (by omega) (by omega), g2 w (by omega), hR⟩)
theorem i_vc_stopNumber {k : Nat} {u : SX} {v : SY} (I : i_Rel k u v) (hk : k + 5 ≤ 2560) (v1 : Int32) : wpX_stopNumber (fun r => wpY_stopNumber (fun r' => r' = r ∧ i_Rel (k + 5) u v) v v1) u v1 := by
  have hR : i_Rel (k + 5) u v := I
  obtain ⟨me, c, l, sc, ac, on, pa, fi, la, ki, sk, hi, km, ka, kn, kb, kf, ol, ln, ms, ma, mn, mb, mf, rfl, rfl, hc, hl, B, hW, g1, g2, g3, g4, g5⟩ := I
  by_cases hb : v1 < 0 ∨ nI c ≤ v1
  · unfold wpX_stopNumber
    refine wu_xsn hb (br_f (by decide) ?_)
    unfold wpY_stopNumber
    exact wu_yn1 hb (br_f (by decide) ⟨rfl, hR⟩)
  obtain ⟨w, hw, rfl⟩ : ∃ w : Nat, w < c ∧ v1 = nI w := by
    rcases pk_ix v1 (n := c) (by omega) with z | z | z
    · exact absurd (Or.inl z) hb
    · exact absurd (Or.inr z) hb
    · exact z
  have hq := wu_sl8 (i := w) hl (by omega)
  unfold wpX_stopNumber
  refine wu_xss hc hl hw (br_t (nI_pos' (by omega)) ⟨vp_in_nI hq (by omega), ?_⟩)
  unfold wpY_stopNumber
  dsimp only
  rw [nI_clamp (n := w) (by omega), nI_clamp (n := wu_sl l w) (by omega)]
  exact wu_yn0 hc hw (br_t rfl ⟨vp_in_nI (by omega) (by omega), g3 w (by omega), hR⟩)
theorem i_vc_before {k : Nat} {u : SX} {v : SY} (I : i_Rel k u v) (hk : k + 5 ≤ 2560) (v1 : Int32) : wpX_before (fun r => wpY_before (fun r' => r' = r ∧ i_Rel (k + 5) u v) v v1) u v1 := by
  have hR : i_Rel (k + 5) u v := I
  obtain ⟨me, c, l, sc, ac, on, pa, fi, la, ki, sk, hi, km, ka, kn, kb, kf, ol, ln, ms, ma, mn, mb, mf, rfl, rfl, hc, hl, B, hW, g1, g2, g3, g4, g5⟩ := I
  by_cases hb : v1 < 0 ∨ nI c ≤ v1
  · unfold wpX_before
    refine wu_xsn hb (br_f (by decide) ?_)
    unfold wpY_before
    exact wu_yn1 hb (br_f (by decide) ⟨rfl, hR⟩)
  obtain ⟨w, hw, rfl⟩ : ∃ w : Nat, w < c ∧ v1 = nI w := by
    rcases pk_ix v1 (n := c) (by omega) with z | z | z
    · exact absurd (Or.inl z) hb
    · exact absurd (Or.inr z) hb
    · exact z
  have hq := wu_sl8 (i := w) hl (by omega)
  unfold wpX_before
  refine wu_xss hc hl hw (br_t (nI_pos' (by omega)) ⟨vp_in_nI hq (by omega), ?_⟩)
  unfold wpY_before
  dsimp only
  rw [nI_clamp (n := w) (by omega), nI_clamp (n := wu_sl l w) (by omega)]
  exact wu_yn0 hc hw (br_t rfl ⟨vp_in_nI (by omega) (by omega), g4 w (by omega), hR⟩)
theorem i_vc_after {k : Nat} {u : SX} {v : SY} (I : i_Rel k u v) (hk : k + 5 ≤ 2560) (v1 : Int32) : wpX_after (fun r => wpY_after (fun r' => r' = r ∧ i_Rel (k + 5) u v) v v1) u v1 := by
  have hR : i_Rel (k + 5) u v := I
  obtain ⟨me, c, l, sc, ac, on, pa, fi, la, ki, sk, hi, km, ka, kn, kb, kf, ol, ln, ms, ma, mn, mb, mf, rfl, rfl, hc, hl, B, hW, g1, g2, g3, g4, g5⟩ := I
  by_cases hb : v1 < 0 ∨ nI c ≤ v1
  · unfold wpX_after
    refine wu_xsn hb (br_f (by decide) ?_)
    unfold wpY_after
    exact wu_yn1 hb (br_f (by decide) ⟨rfl, hR⟩)
  obtain ⟨w, hw, rfl⟩ : ∃ w : Nat, w < c ∧ v1 = nI w := by
    rcases pk_ix v1 (n := c) (by omega) with z | z | z
    · exact absurd (Or.inl z) hb
    · exact absurd (Or.inr z) hb
    · exact z
  have hq := wu_sl8 (i := w) hl (by omega)
  unfold wpX_after
  refine wu_xss hc hl hw (br_t (nI_pos' (by omega)) ⟨vp_in_nI hq (by omega), ?_⟩)
  unfold wpY_after
  dsimp only
  rw [nI_clamp (n := w) (by omega), nI_clamp (n := wu_sl l w) (by omega)]
  exact wu_yn0 hc hw (br_t rfl ⟨vp_in_nI (by omega) (by omega), g5 w (by omega), hR⟩)
theorem i_vc_peek {k : Nat} {u : SX} {v : SY} (I : i_Rel k u v) (hk : k + 5 ≤ 2560) (v1 : Int32) : wpX_peek (fun r => wpY_peek (fun r' => r' = r ∧ i_Rel (k + 5) u v) v v1) u v1 := by
  have hR : i_Rel (k + 5) u v := I
  obtain ⟨me, c, l, sc, ac, on, pa, fi, la, ki, sk, hi, km, ka, kn, kb, kf, ol, ln, ms, ma, mn, mb, mf, rfl, rfl, hc, hl, B, hW, g1, g2, g3, g4, g5⟩ := I
  have e : (40 : Int32) - 1 = 39 := by decide
  unfold wpX_peek
  by_cases h0 : v1 < 0
  · refine wu_xl0 (Or.inl h0) (br_t rfl ?_)
    unfold wpY_peek
    exact br_t h0 ⟨rfl, hR⟩
  by_cases h1 : ((40 : Int32) - 1) < v1
  · refine wu_xl0 (Or.inr h1) (br_t rfl ?_)
    unfold wpY_peek
    rw [e] at h1
    exact br_f h0 (br_f (Int32.not_le.mpr h1) ⟨rfl, hR⟩)
  · obtain ⟨a, ha, rfl⟩ := wu_adr (s := 1) (by omega) h0 h1
    have hv := vp_in_nI (n := a) (N := 40) (by omega) (by omega)
    refine wu_xl1 h0 h1 (br_f (by decide) ⟨hv, ?_⟩)
    unfold wpY_peek
    rw [e] at h1
    exact br_f h0 (br_t (Int32.not_lt.mp h1) ⟨hv, rfl, hR⟩)
theorem i_vc_watched {k : Nat} {u : SX} {v : SY} (I : i_Rel k u v) (hk : k + 5 ≤ 2560) : wpX_watched (fun r => wpY_watched (fun r' => r' = r ∧ i_Rel (k + 5) u v) v) u := by
  have hR : i_Rel (k + 5) u v := I
  obtain ⟨me, c, l, sc, ac, on, pa, fi, la, ki, sk, hi, km, ka, kn, kb, kf, ol, ln, ms, ma, mn, mb, mf, rfl, rfl, hc, hl, B, hW, g1, g2, g3, g4, g5⟩ := I
  obtain ⟨r, hX, hY⟩ := wu_w4 (kc := nI c) (ls := nI l) (sc := sc) (ac := ac) (me := me) (pa := pa) (sk := sk) (hi := hi) (km := km) (ka := ka) (kn := kn) (kb := kb) (kf := kf) (ol := ol) (ms := ms) (ma := ma) (mn := mn) (mb := mb) (mf := mf) hW 40 0 (by omega) 0
  unfold wpX_watched
  refine ⟨41, hX _ ?_⟩
  unfold wpY_watched
  exact ⟨41, hY _ ⟨rfl, hR⟩⟩
