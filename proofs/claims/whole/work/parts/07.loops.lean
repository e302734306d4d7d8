/-- watch w covers the address x -/
def wu_P (on pa fi ln : Nat → Int32) (x w : Nat) : Prop := ¬ on w = 0 ∧ pa w = 0 ∧ (fi w).toNatClampNeg ≤ x ∧ x < (fi w).toNatClampNeg + (ln w).toNatClampNeg
theorem wu_Pin {on pa fi ln la ki : Nat → Int32} {x w : Nat} (hW : wu_W on fi ln la ki) (hw : w < 8) (h1 : ¬ on w = 0) (h2 : pa w = 0) : ∃ f l : Nat, 1 ≤ l ∧ f + l ≤ 40 ∧ fi w = nI f ∧ ln w = nI l ∧ la w = nI (f + l - 1) ∧ (wu_P on pa fi ln x w ↔ f ≤ x ∧ x < f + l) := by
  obtain ⟨f, l, k1, k2, k3, k4, k5, k6, k7⟩ := hW w hw h1
  refine ⟨f, l, k1, k3, k4, k5, k6, ?_⟩
  unfold wu_P
  rw [k4, k5, nI_clamp (by omega), nI_clamp (by omega)]
  exact ⟨fun z => z.2.2, fun z => ⟨h1, h2, z⟩⟩
section
variable {kc ls sc ac : Int32} {me on pa fi la ki sk hi km ka kn kb kf ol ln ms ma mn mb mf : Nat → Int32}
theorem wu_xw2 {x : Nat} (hx : x < 40) (hW : wu_W on fi ln la ki) (post : Int32 → Prop) : ∀ d w, w + d = 8 → ((∀ j, w ≤ j → j < 8 → ¬ wu_P on pa fi ln x j) → post 0) → ((∃ j, w ≤ j ∧ j < 8 ∧ wu_P on pa fi ln x j) → post 1) → wX_isWatched_2 post (nI x) kc ls sc ac me on pa fi la ki sk hi km ka kn kb kf (d + 1) (nI w) := by
  intro d
  induction d with
  | zero =>
    intro w hw h0 h1
    exact br_t (nI_le (a := 8) (by omega) (by omega)) (h0 (fun j _ _ => by omega))
  | succ d ih =>
    intro w hw h0 h1
    have hcl := nI_clamp (n := w) (by omega)
    have hv := vp_in_nI (n := w) (N := 8) (by omega) (by omega)
    have st : ¬ wu_P on pa fi ln x w → ∀ y, y = nI w + 1 → wX_isWatched_2 post (nI x) kc ls sc ac me on pa fi la ki sk hi km ka kn kb kf (d + 1) y := by
      intro g
      refine nm_r (nI_1 w) (ih (w + 1) (by omega) (fun z => h0 (fun j q1 q2 => ?_)) (fun z => h1 ?_))
      · by_cases e : j = w
        · rw [e]; exact g
        · exact z j (by omega) q2
      · obtain ⟨j, q1, q2, q3⟩ := z
        exact ⟨j, by omega, q2, q3⟩
    refine br_f (nI_ge (b := 8) (by omega) (by decide)) ?_
    rw [hcl]
    refine wu_xawake (by omega) (fun z => br_t rfl (st (fun p => p.1 z))) (fun _ z => br_t rfl (st (fun p => z p.2.1))) (fun z1 z2 => br_f (by decide) ⟨hv, ?_⟩)
    obtain ⟨f, l, k1, k2, k3, k4, k5, k6⟩ := wu_Pin (x := x) hW (by omega) z1 z2
    rw [k3, k5]
    refine pk_lt x f (fun g => st (fun p => ?_)) (fun g => ⟨hv, pk_lt (f + l - 1) x (fun g2 => st (fun p => ?_)) (fun g2 => h1 ⟨w, by omega, by omega, k6.mpr ⟨g, by omega⟩⟩)⟩)
    · have := k6.mp p; omega
    · have := k6.mp p; omega
theorem wu_yw15 {x : Nat} {n : Int32} (hx : x < 40) (hW : wu_W on fi ln la ki) (post : Int32 → Prop) (J4 : Int32 → Int32 → Prop) (K0 : (∀ j, j < 8 → ¬ wu_P on pa fi ln x j) → J4 n (nI (x + 1))) (K1 : (¬ ∀ j, j < 8 → ¬ wu_P on pa fi ln x j) → J4 (n + 1) (nI (x + 1))) : ∀ d w, w + d = 8 → ∀ x3 : Int32, (x3 = 0 ↔ ∀ j, j < w → ¬ wu_P on pa fi ln x j) → wY_watched_15 post J4 n (nI x) ac sc kc me ol on fi ln ki pa sk hi ms ma mn mb mf (d + 1) x3 (nI w) := by
  intro d
  induction d with
  | zero =>
    intro w hw x3 h3
    have e : w = 8 := by omega
    subst e
    exact br_t (nI_le (a := 8) (by omega) (by omega)) (br_c (fun z => nm_r (nI_1 x) (K0 (h3.mp z))) (fun z => nm_e (nm_r (nI_1 x) (K1 (fun y => z (h3.mpr y))))))
  | succ d ih =>
    intro w hw x3 h3
    have hcl := nI_clamp (n := w) (by omega)
    have hv := vp_in_nI (n := w) (N := 8) (by omega) (by omega)
    have st : ¬ wu_P on pa fi ln x w → ∀ y, y = nI w + 1 → wY_watched_15 post J4 n (nI x) ac sc kc me ol on fi ln ki pa sk hi ms ma mn mb mf (d + 1) x3 y := by
      intro g
      refine nm_r (nI_1 w) (ih (w + 1) (by omega) x3 ⟨fun z j hj => ?_, fun z => h3.mpr (fun j hj => z j (by omega))⟩)
      by_cases e : j = w
      · rw [e]; exact g
      · exact h3.mp z j (by omega)
    refine br_f (nI_ge (b := 8) (by omega) (by decide)) ?_
    rw [hcl]
    refine ⟨hv, br_c (fun z => st (fun p => p.1 z)) (fun z1 => ⟨hv, br_c (fun z2 => ?_) (fun z => st (fun p => z p.2.1))⟩)⟩
    obtain ⟨f, l, k1, k2, k3, k4, k5, k6⟩ := wu_Pin (x := x) hW (by omega) z1 z2
    refine wu_yin (by omega) (by omega) k2 k3 k4 (fun g => br_t rfl (st (fun p => g (k6.mp p)))) (fun q1 q2 => br_f (by decide) (nm_r (nI_1 w) (ih (w + 1) (by omega) 1 ⟨fun z => absurd z (by decide), fun z => absurd (k6.mpr ⟨q1, q2⟩) (z w (by omega))⟩)))
theorem wu_w4 (hW : wu_W on fi ln la ki) : ∀ d x, x + d = 40 → ∀ n : Int32, ∃ r : Int32, (∀ post : Int32 → Prop, post r → wX_watched_4 post kc ls sc ac me on pa fi la ki sk hi km ka kn kb kf (d + 1) n (nI x)) ∧ (∀ post : Int32 → Prop, post r → wY_watched_4 post ac sc kc me ol on fi ln ki pa sk hi ms ma mn mb mf (d + 1) n (nI x)) := by
  intro d
  induction d with
  | zero =>
    intro x hx n
    have h : (40 : Int32) ≤ nI x := nI_le (a := 40) (by omega) (by omega)
    exact ⟨n, fun _ q => br_t h q, fun _ q => br_t h q⟩
  | succ d ih =>
    intro x hx n
    have h : ¬ (40 : Int32) ≤ nI x := nI_ge (b := 40) (by omega) (by decide)
    by_cases hA : ∀ j, j < 8 → ¬ wu_P on pa fi ln x j
    · obtain ⟨r, hX, hY⟩ := ih (x + 1) (by omega) n
      refine ⟨r, fun post q => br_f h ⟨9, wu_xw2 (by omega) hW _ 8 0 (by omega) (fun _ => br_t rfl (nm_r (nI_1 x) (hX post q))) (fun z => ?_)⟩, fun post q => br_f h ⟨9, wu_yw15 (by omega) hW post _ (fun _ => hY post q) (fun z => absurd hA z) 8 0 (by omega) 0 ⟨fun _ j hj => by omega, fun _ => rfl⟩⟩⟩
      obtain ⟨j, q1, q2, q3⟩ := z
      exact absurd q3 (hA j q2)
    · obtain ⟨r, hX, hY⟩ := ih (x + 1) (by omega) (n + 1)
      refine ⟨r, fun post q => br_f h ⟨9, wu_xw2 (by omega) hW _ 8 0 (by omega) (fun z => absurd (fun j hj => z j (by omega) hj) hA) (fun z => br_f (by decide) (nm_e (nm_r (nI_1 x) (hX post q))))⟩, fun post q => br_f h ⟨9, wu_yw15 (by omega) hW post _ (fun z => absurd z hA) (fun _ => hY post q) 8 0 (by omega) 0 ⟨fun _ j hj => by omega, fun _ => rfl⟩⟩⟩
theorem wu_cnt {m : Int32} : ∀ d w, w + d = 8 → ∀ n : Int32, ∃ r : Int32, (∀ post : Int32 → Prop, post r → wX_watchesIn_4 post m kc ls sc ac me on pa fi la ki sk hi km ka kn kb kf (d + 1) n (nI w)) ∧ (∀ post : Int32 → SY → Prop, post r (ac, sc, kc, me, ol, on, fi, ln, ki, pa, sk, hi, ms, ma, mn, mb, mf) → wY_store_41 post m ac sc kc me ol on fi ln ki pa sk hi ms ma mn mb mf (d + 1) n (nI w)) := by
  intro d
  induction d with
  | zero =>
    intro w hw n
    have h : (8 : Int32) ≤ nI w := nI_le (a := 8) (by omega) (by omega)
    exact ⟨n, fun _ q => br_t h q, fun _ q => br_t h q⟩
  | succ d ih =>
    intro w hw n
    have h : ¬ (8 : Int32) ≤ nI w := nI_ge (b := 8) (by omega) (by decide)
    obtain ⟨r, hX, hY⟩ := ih (w + 1) (by omega) (n + ((m >>> (nI w &&& 31)) &&& 1))
    exact ⟨r, fun post q => br_f h (nm_r (congrArg (fun z => n + z) (wu_su1 (by omega))) (nm_r (nI_1 w) (hX post q))), fun post q => br_f h (nm_e (nm_r (nI_1 w) (hY post q)))⟩
end
theorem wu_num1 {m : Nat → Int32} {a : Nat} (h : wu_Byt m) : wu_num m a 1 = m a := by
  apply b_ext
  intro j hj
  rw [wu_numbt h 1 (by omega) j hj]
  by_cases h8 : j < 8
  · rw [decide_eq_true (by omega : j < 8 * 1), Bool.true_and, show j / 8 = 0 by omega, show j % 8 = j by omega, Nat.add_zero]
  · rw [decide_eq_false (by omega : ¬ j < 8 * 1), Bool.false_and]
    exact (h _ _ (by omega)).symm
def wu_R (u : SX) (v : SY) : Prop := ∃ me : Nat → Int32, wu_Rm me u v
def wu_xsw (post : Int32 → SX → Prop) (x2 : Int32) (n : Nat) (x3 x4 : Int32) (u : SX) : Prop := match u with
  | (kc, ls, sc, ac, me, on, pa, fi, la, ki, sk, hi, km, ka, kn, kb, kf) => wX_sweep_22 post x2 n x3 x4 kc ls sc ac me on pa fi la ki sk hi km ka kn kb kf
def wu_ysw (post : Int32 → SY → Prop) (x2 : Int32) (n : Nat) (x3 x4 : Int32) (v : SY) : Prop := match v with
  | (ac, sc, kc, me, ol, on, fi, ln, ki, pa, sk, hi, ms, ma, mn, mb, mf) => wY_sweep_22 post x2 n x3 x4 ac sc kc me ol on fi ln ki pa sk hi ms ma mn mb mf
theorem wu_sw {e : Nat} (he : e < 40) : ∀ d a, e < a + 2 * d → a < 42 → ∀ (n : Int32) (u : SX) (v : SY), wu_R u v → ∃ (r : Int32) (u' : SX) (v' : SY), wu_R u' v' ∧ (∀ post : Int32 → SX → Prop, post r u' → wu_xsw post (nI e) (d + 1) n (nI a) u) ∧ (∀ post : Int32 → SY → Prop, post r v' → wu_ysw post (nI e) (d + 1) n (nI a) v) := by
  intro d
  induction d with
  | zero =>
    intro a h1 h2 n u v hR
    have hR0 := hR
    obtain ⟨me, c, l, sc, ac, on, pa, fi, la, ki, sk, hi, km, ka, kn, kb, kf, ol, ln, ms, ma, mn, mb, mf, rfl, rfl, hc, hl, B, hW, g1, g2, g3, g4, g5⟩ := hR
    have h : nI e < nI a := nI_lt (by omega) (by omega)
    exact ⟨n, _, _, hR0, fun _ q => br_t h q, fun _ q => br_t h q⟩
  | succ d ih =>
    intro a h1 h2 n u v hR
    have hR0 := hR
    obtain ⟨me, c, l, sc, ac, on, pa, fi, la, ki, sk, hi, km, ka, kn, kb, kf, ol, ln, ms, ma, mn, mb, mf, rfl, rfl, hc, hl, B, hW, g1, g2, g3, g4, g5⟩ := hR
    by_cases hq : e < a
    · have h : nI e < nI a := nI_lt (by omega) (by omega)
      exact ⟨n, _, _, hR0, fun _ q => br_t h q, fun _ q => br_t h q⟩
    · have h : ¬ nI e < nI a := nI_nlt (by omega) (by omega)
      have hcl := nI_clamp (n := a) (by omega)
      have hv := vp_in_nI (n := a) (N := 40) (by omega) (by omega)
      obtain ⟨mk, u1, v1, hR1, hX, hY⟩ := wu_acc (a := a) (s := 1) (p3 := 0) (v := 0) (m' := me) (sc := sc) (ac := ac) (pa := pa) (sk := sk) (hi := hi) (ol := ol) hc hl (by omega) (by omega) (by omega) hW B (Or.inl ⟨rfl, rfl⟩) g1 g2 g3 g4 g5
      rw [wu_num1 B] at hX
      by_cases hm : mk = 0
      · obtain ⟨r, u2, v2, hR2, iX, iY⟩ := ih (a + 2) (by omega) (by omega) n u1 v1 ⟨me, hR1⟩
        obtain ⟨c1, l1, sc1, ac1, on1, pa1, fi1, la1, ki1, sk1, hi1, km1, ka1, kn1, kb1, kf1, ol1, ln1, ms1, ma1, mn1, mb1, mf1, rfl, rfl, _⟩ := hR1
        refine ⟨r, u2, v2, hR2, fun post q => br_f h ⟨hv, ?_⟩, fun post q => br_f h (hY _ (br_t hm (nm_r (nI_add a 2) (iY post q))))⟩
        rw [hcl]
        exact nm_e (hX _ (br_t hm (nm_r (nI_add a 2) (iX post q))))
      · obtain ⟨r, u2, v2, hR2, iX, iY⟩ := ih (a + 2) (by omega) (by omega) (n + 1) u1 v1 ⟨me, hR1⟩
        obtain ⟨c1, l1, sc1, ac1, on1, pa1, fi1, la1, ki1, sk1, hi1, km1, ka1, kn1, kb1, kf1, ol1, ln1, ms1, ma1, mn1, mb1, mf1, rfl, rfl, _⟩ := hR1
        refine ⟨r, u2, v2, hR2, fun post q => br_f h ⟨hv, ?_⟩, fun post q => br_f h (hY _ (br_f hm (nm_e (nm_r (nI_add a 2) (iY post q)))))⟩
        rw [hcl]
        exact nm_e (hX _ (br_f hm (nm_e (nm_r (nI_add a 2) (iX post q)))))
