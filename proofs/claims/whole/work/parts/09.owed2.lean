theorem wu_size (x : Int32) : (∃ s : Nat, (s = 1 ∨ s = 2 ∨ s = 4) ∧ x = nI s) ∨ (¬ x = 1 ∧ ¬ x = 2 ∧ ¬ x = 4) := by
  by_cases h1 : x = 1
  · exact Or.inl ⟨1, by omega, h1⟩
  by_cases h2 : x = 2
  · exact Or.inl ⟨2, by omega, h2⟩
  by_cases h4 : x = 4
  · exact Or.inl ⟨4, by omega, h4⟩
  exact Or.inr ⟨h1, h2, h4⟩
section
variable {kc ls sc ac : Int32} {me on pa fi la ki sk hi km ka kn kb kf ol ln ms ma mn mb mf : Nat → Int32}
theorem wu_xas1 {s : Nat} (hs : s = 1 ∨ s = 2 ∨ s = 4) {post : Int32 → Prop} (hp : post 1) : wpX_isAccessSize post (kc, ls, sc, ac, me, on, pa, fi, la, ki, sk, hi, km, ka, kn, kb, kf) (nI s) := br_c (fun _ => hp) (fun z1 => br_c (fun _ => hp) (fun z2 => br_c (fun _ => hp) (fun z4 => by
  rcases hs with h | h | h
  · exact absurd (congrArg nI h) z1
  · exact absurd (congrArg nI h) z2
  · exact absurd (congrArg nI h) z4)))
theorem wu_xas0 {x : Int32} (h : ¬ x = 1 ∧ ¬ x = 2 ∧ ¬ x = 4) {post : Int32 → Prop} (hp : post 0) : wpX_isAccessSize post (kc, ls, sc, ac, me, on, pa, fi, la, ki, sk, hi, km, ka, kn, kb, kf) x := br_f h.1 (br_f h.2.1 (br_f h.2.2 hp))
theorem wu_ybs0 {s : Nat} (hs : s = 1 ∨ s = 2 ∨ s = 4) {post : Int32 → Prop} (hp : post 0) : wpY_badSize post (ac, sc, kc, me, ol, on, fi, ln, ki, pa, sk, hi, ms, ma, mn, mb, mf) (nI s) := br_c (fun _ => hp) (fun z1 => br_c (fun _ => hp) (fun z2 => br_c (fun _ => hp) (fun z4 => by
  rcases hs with h | h | h
  · exact absurd (congrArg nI h) z1
  · exact absurd (congrArg nI h) z2
  · exact absurd (congrArg nI h) z4)))
theorem wu_ybs1 {x : Int32} (h : ¬ x = 1 ∧ ¬ x = 2 ∧ ¬ x = 4) {post : Int32 → Prop} (hp : post 1) : wpY_badSize post (ac, sc, kc, me, ol, on, fi, ln, ki, pa, sk, hi, ms, ma, mn, mb, mf) x := br_f h.1 (br_f h.2.1 (br_f h.2.2 hp))
end
theorem i_vc_load {k : Nat} {u : SX} {v : SY} (I : i_Rel k u v) (hk : k + 5 ≤ 2560) (v1 : Int32) (v2 : Int32) : wpX_load (fun r u' => wpY_load (fun r' v' => r' = r ∧ i_Rel (k + 5) u' v') v v1 v2) u v1 v2 := by
  have hR : i_Rel (k + 5) u v := I
  obtain ⟨me, c, l, sc, ac, on, pa, fi, la, ki, sk, hi, km, ka, kn, kb, kf, ol, ln, ms, ma, mn, mb, mf, rfl, rfl, hc, hl, B, hW, g1, g2, g3, g4, g5⟩ := I
  unfold wpX_load
  rcases wu_size v2 with ⟨s, hs, rfl⟩ | hs
  rotate_left
  · refine wu_xas0 hs (br_t rfl ?_)
    unfold wpY_load
    exact wu_ybs1 hs (br_f (by decide) ⟨rfl, hR⟩)
  by_cases h0 : v1 < 0
  · refine wu_xas1 hs (br_f (by decide) (wu_xl0 (Or.inl h0) (br_t rfl ?_)))
    unfold wpY_load
    exact wu_ybs0 hs (br_t rfl (br_t h0 ⟨rfl, hR⟩))
  by_cases h1 : (40 - nI s) < v1
  · refine wu_xas1 hs (br_f (by decide) (wu_xl0 (Or.inr h1) (br_t rfl ?_)))
    unfold wpY_load
    exact wu_ybs0 hs (br_t rfl (br_f h0 (br_f (Int32.not_le.mpr h1) ⟨rfl, hR⟩)))
  obtain ⟨a, ha, rfl⟩ := wu_adr (by omega) h0 h1
  obtain ⟨mk, u1, v1, hR1, hX, hY⟩ := wu_acc (a := a) (s := s) (p3 := 0) (v := 0) (m' := me) (sc := sc) (ac := ac) (pa := pa) (sk := sk) (hi := hi) (ol := ol) hc hl (by omega) (by omega) ha hW B (Or.inl ⟨rfl, rfl⟩) g1 g2 g3 g4 g5
  have hN : i_Rel (k + 5) u1 v1 := ⟨me, hR1⟩
  obtain ⟨c1, l1, sc1, ac1, on1, pa1, fi1, la1, ki1, sk1, hi1, km1, ka1, kn1, kb1, kf1, ol1, ln1, ms1, ma1, mn1, mb1, mf1, rfl, rfl, _⟩ := hR1
  refine wu_xas1 hs (br_f (by decide) (wu_xl1 h0 h1 (br_f (by decide) (wu_xnum ha (hX _ ?_)))))
  unfold wpY_load
  exact wu_ybs0 hs (br_t rfl (br_f h0 (br_t (Int32.not_lt.mp h1) (hY _ (wu_ynum1 ha ⟨rfl, hN⟩)))))
theorem i_vc_store {k : Nat} {u : SX} {v : SY} (I : i_Rel k u v) (hk : k + 5 ≤ 2560) (v1 : Int32) (v2 : Int32) (v3 : Int32) : wpX_store (fun r u' => wpY_store (fun r' v' => r' = r ∧ i_Rel (k + 5) u' v') v v1 v2 v3) u v1 v2 v3 := by
  have hR : i_Rel (k + 5) u v := I
  obtain ⟨me, c, l, sc, ac, on, pa, fi, la, ki, sk, hi, km, ka, kn, kb, kf, ol, ln, ms, ma, mn, mb, mf, rfl, rfl, hc, hl, B, hW, g1, g2, g3, g4, g5⟩ := I
  unfold wpX_store
  rcases wu_size v2 with ⟨s, hs, rfl⟩ | hs
  rotate_left
  · refine wu_xas0 hs (br_t rfl ?_)
    unfold wpY_store
    exact wu_ybs1 hs (br_f (by decide) ⟨rfl, hR⟩)
  by_cases h0 : v1 < 0
  · refine wu_xas1 hs (br_f (by decide) (wu_xl0 (Or.inl h0) (br_t rfl ?_)))
    unfold wpY_store
    exact wu_ybs0 hs (br_t rfl (br_t h0 ⟨rfl, hR⟩))
  by_cases h1 : (40 - nI s) < v1
  · refine wu_xas1 hs (br_f (by decide) (wu_xl0 (Or.inr h1) (br_t rfl ?_)))
    unfold wpY_store
    exact wu_ybs0 hs (br_t rfl (br_f h0 (br_f (Int32.not_le.mpr h1) ⟨rfl, hR⟩)))
  obtain ⟨a, ha, rfl⟩ := wu_adr (by omega) h0 h1
  obtain ⟨mk, u1, v1, hR1, hX, hY⟩ := wu_acc (a := a) (s := s) (p3 := 1) (v := v3) (m' := wu_put me a v3 s) (sc := sc) (ac := ac) (pa := pa) (sk := sk) (hi := hi) (ol := ol) hc hl (by omega) (by omega) ha hW B (Or.inr ⟨rfl, rfl⟩) g1 g2 g3 g4 g5
  have hN : i_Rel (k + 5) u1 v1 := ⟨_, hR1⟩
  obtain ⟨c1, l1, sc1, ac1, on1, pa1, fi1, la1, ki1, sk1, hi1, km1, ka1, kn1, kb1, kf1, ol1, ln1, ms1, ma1, mn1, mb1, mf1, rfl, rfl, _⟩ := hR1
  obtain ⟨r, cX, cY⟩ := wu_cnt (kc := nI c1) (ls := nI l1) (sc := sc1) (ac := ac1) (me := wu_put me a v3 s) (on := on1) (pa := pa1) (fi := fi1) (la := la1) (ki := ki1) (sk := sk1) (hi := hi1) (km := km1) (ka := ka1) (kn := kn1) (kb := kb1) (kf := kf1) (ol := ol1) (ln := ln1) (ms := ms1) (ma := ma1) (mn := mn1) (mb := mb1) (mf := mf1) (m := mk) 8 0 (by omega) 0
  refine wu_xas1 hs (br_f (by decide) (wu_xl1 h0 h1 (br_f (by decide) (wu_xnum ha (wu_xput ha (by omega) (wu_xnum ha (hX _ ⟨9, cX _ ?_⟩)))))))
  unfold wpY_store
  exact wu_ybs0 hs (br_t rfl (br_f h0 (br_t (Int32.not_lt.mp h1) (hY _ ⟨9, cY _ ⟨rfl, hN⟩⟩))))
theorem i_vc_sweep {k : Nat} {u : SX} {v : SY} (I : i_Rel k u v) (hk : k + 5 ≤ 2560) (v1 : Int32) (v2 : Int32) : wpX_sweep (fun r u' => wpY_sweep (fun r' v' => r' = r ∧ i_Rel (k + 5) u' v') v v1 v2) u v1 v2 := by
  have hR : i_Rel (k + 5) u v := I
  have I0 : wu_R u v := I
  obtain ⟨me, c, l, sc, ac, on, pa, fi, la, ki, sk, hi, km, ka, kn, kb, kf, ol, ln, ms, ma, mn, mb, mf, rfl, rfl, hc, hl, B, hW, g1, g2, g3, g4, g5⟩ := I
  unfold wpX_sweep
  by_cases h0 : v1 < 0
  · refine br_t h0 ?_
    unfold wpY_sweep
    exact br_t h0 ⟨rfl, hR⟩
  by_cases h1 : (40 : Int32) ≤ v2
  · refine br_f h0 (br_t h1 ?_)
    unfold wpY_sweep
    exact br_f h0 (br_t (Int32.lt_of_lt_of_le (by decide) h1) ⟨rfl, hR⟩)
  have h1' : v2 < 40 := Int32.not_le.mp h1
  by_cases h2 : v1 ≤ v2
  rotate_left
  · refine br_f h0 (br_f h1 (br_f h2 ?_))
    unfold wpY_sweep
    refine br_f h0 (br_f (fun z => ?_) (br_f h2 ⟨rfl, hR⟩))
    rw [Int32.lt_iff_toInt_lt] at z h1'
    rw [show (39 : Int32).toInt = 39 by decide] at z
    rw [show (40 : Int32).toInt = 40 by decide] at h1'
    omega
  obtain ⟨a, ha, rfl⟩ := nI_of h0
  obtain ⟨e, he, rfl⟩ := nI_of (x := v2) (fun z => h0 (Int32.lt_of_le_of_lt h2 z))
  have e40 : e < 40 := (nI_ltI he (by omega)).mp h1'
  have hae : a ≤ e := (nI_leI ha he).mp h2
  obtain ⟨r, u1, v1, hN, hX, hY⟩ := wu_sw e40 40 a (by omega) (by omega) 0 _ _ I0
  refine br_f h0 (br_f h1 (br_t h2 ⟨41, hX (fun r u' => wpY_sweep (fun r' v' => r' = r ∧ i_Rel (k + 5) u' v') (ac, sc, nI c, me, ol, on, fi, ln, ki, pa, sk, hi, ms, ma, mn, mb, mf) (nI a) (nI e)) ?_⟩))
  unfold wpY_sweep
  exact br_f h0 (br_f (nI_nlt (a := 39) (b := e) (by omega) (by omega)) (br_t h2 ⟨41, hY (fun r' v' => r' = r ∧ i_Rel (k + 5) u1 v') ⟨rfl, hN⟩⟩))
