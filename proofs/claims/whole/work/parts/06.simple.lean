theorem wu_sub_toInt {a b : Nat} (ha : a < 2 ^ 30) (hb : b < 2 ^ 30) : (nI a - nI b).toInt = (a : Int) - b := by
  rw [Int32.toInt_sub, nI_toInt (by omega), nI_toInt (by omega)]
  exact Int.bmod_eq_of_le (by omega) (by omega)
theorem wu_sneg {a b : Nat} (hb : b < 2 ^ 30) (h : a < b) : nI a - nI b < 0 := by
  rw [Int32.lt_iff_toInt_lt, wu_sub_toInt (by omega) hb, show (0 : Int32).toInt = 0 from by decide]
  omega
theorem wu_s8 {a b : Nat} (h : b ≤ a + 8) : nI a - nI b + 8 = nI (a + 8 - b) := by
  rw [← pk_sub h, ← nI_add, show nI 8 = 8 from rfl]
  grind
theorem wu_adr {x : Int32} {s : Nat} (hs : s ≤ 16) (h0 : ¬ x < 0) (h : ¬ (40 - nI s) < x) : ∃ a : Nat, a + s ≤ 40 ∧ x = nI a := by
  have e : (40 : Int32) - nI s = nI (40 - s) := pk_sub (a := 40) (by omega)
  rw [e] at h
  obtain ⟨a, ha, rfl⟩ := nI_of2 (M := nI (40 - s)) (n := 40 - s) (nI_toInt (by omega)) h0 (Int32.not_lt.mp h)
  exact ⟨a, by omega, rfl⟩
theorem wu_Wset {on fi ln la ki : Nat → Int32} {w : Nat} {e x2 x3 x4 : Int32} (hW : wu_W on fi ln la ki) (h1 : ¬ x3 < 1) (h2 : x3 ≤ 16) (h3 : ¬ x2 < 0) (h4 : ¬ (40 - x3) < x2) (h5 : ¬ x4 < 1) (h6 : x4 ≤ 4) : wu_W (upd on w e) (upd fi w x2) (upd ln w x3) (upd la w ((x2 + x3) - 1)) (upd ki w x4) := by
  intro j hj ho
  by_cases q : j = w
  · subst q
    rw [pk_us, pk_us, pk_us, pk_us]
    obtain ⟨l, hl, rfl⟩ := nI_of2 (M := 16) (n := 16) (by decide) (fun z => h1 (Int32.lt_trans z (by decide))) h2
    have l1 : ¬ l < 1 := fun z => h1 (nI_lt (b := 1) z (by decide))
    obtain ⟨f, hf, rfl⟩ := wu_adr hl h3 h4
    obtain ⟨k, hk, rfl⟩ := nI_of2 (M := 4) (n := 4) (by decide) (fun z => h5 (Int32.lt_trans z (by decide))) h6
    have k1 : ¬ k < 1 := fun z => h5 (nI_lt (b := 1) z (by decide))
    refine ⟨f, l, by omega, hl, hf, rfl, rfl, ?_, ?_⟩
    · rw [nI_add]; exact pk_sub (b := 1) (by omega)
    · rcases (by omega : k = 1 ∨ k = 2 ∨ k = 3 ∨ k = 4) with z | z | z | z
      · subst z; exact Or.inl rfl
      · subst z; exact Or.inr (Or.inl rfl)
      · subst z; exact Or.inr (Or.inr (Or.inl rfl))
      · subst z; exact Or.inr (Or.inr (Or.inr rfl))
  · rw [pk_un q] at ho
    rw [pk_un q, pk_un q, pk_un q, pk_un q]
    exact hW j hj ho
theorem wu_Wclr {on fi ln la ki : Nat → Int32} {w : Nat} {e : Int32} (hW : wu_W on fi ln la ki) (h : ¬ on w = 0) : wu_W (upd on w e) fi ln la ki := by
  intro j hj ho
  by_cases q : j = w
  · rw [q] at hj ⊢; exact hW w hj h
  · rw [pk_un q] at ho; exact hW j hj ho
section
variable {kc ls sc ac : Int32} {me on pa fi la ki sk hi km ka kn kb kf ol ln ms ma mn mb mf : Nat → Int32}
theorem wu_xiw0 {x : Int32} (h : x < 0 ∨ nI 8 ≤ x) {post : Int32 → Prop} (hp : post 0) : wpX_isWatch post (kc, ls, sc, ac, me, on, pa, fi, la, ki, sk, hi, km, ka, kn, kb, kf) x := by
  by_cases z : x < 0
  · exact br_t z hp
  · exact br_f z (br_t (h.resolve_left z) hp)
theorem wu_xiw1 {w : Nat} (hw : w < 8) {post : Int32 → Prop} (hp : post 1) : wpX_isWatch post (kc, ls, sc, ac, me, on, pa, fi, la, ki, sk, hi, km, ka, kn, kb, kf) (nI w) := br_f (nI_pos (by omega)) (br_f (nI_ge (b := 8) hw (by decide)) hp)
theorem wu_yb1 {x : Int32} (h : x < 0 ∨ nI 8 ≤ x) {post : Int32 → Prop} (hp : post 1) : wpY_bad post (ac, sc, kc, me, ol, on, fi, ln, ki, pa, sk, hi, ms, ma, mn, mb, mf) x := by
  by_cases z : x < 0
  · exact br_t z hp
  · exact br_f z (br_f (fun y => absurd (Int32.le_trans (h.resolve_left z) y) (show ¬ (8 : Int32) ≤ 7 by decide)) hp)
theorem wu_yb0 {w : Nat} (hw : w < 8) {post : Int32 → Prop} (hp : post 0) : wpY_bad post (ac, sc, kc, me, ol, on, fi, ln, ki, pa, sk, hi, ms, ma, mn, mb, mf) (nI w) := br_f (nI_pos (by omega)) (br_t (nI_le (b := 7) (by omega) (by decide)) hp)
theorem wu_xrb {x : Int32} (h : x < 0 ∨ nI 8 ≤ x) {post : Int32 → Prop} (hp : post (-1)) : wpX_refusalOf post (kc, ls, sc, ac, me, on, pa, fi, la, ki, sk, hi, km, ka, kn, kb, kf) x := by
  unfold wpX_refusalOf
  exact wu_xiw0 h (br_t rfl hp)
theorem wu_xru {w : Nat} (hw : w < 8) (h : on w = 0) {post : Int32 → Prop} (hp : post (-2)) : wpX_refusalOf post (kc, ls, sc, ac, me, on, pa, fi, la, ki, sk, hi, km, ka, kn, kb, kf) (nI w) := by
  have hcl := nI_clamp (n := w) (by omega)
  unfold wpX_refusalOf
  dsimp only
  rw [hcl]
  exact wu_xiw1 hw (br_f (by decide) ⟨vp_in_nI hw (by omega), br_t h hp⟩)
theorem wu_xrs {w : Nat} (hw : w < 8) (h : ¬ on w = 0) {post : Int32 → Prop} (hp : post 0) : wpX_refusalOf post (kc, ls, sc, ac, me, on, pa, fi, la, ki, sk, hi, km, ka, kn, kb, kf) (nI w) := by
  have hcl := nI_clamp (n := w) (by omega)
  unfold wpX_refusalOf
  dsimp only
  rw [hcl]
  exact wu_xiw1 hw (br_f (by decide) ⟨vp_in_nI hw (by omega), br_f h hp⟩)
theorem wu_xl0 {x y : Int32} (h : x < 0 ∨ (40 - y) < x) {post : Int32 → Prop} (hp : post 0) : wpX_liesInMemory post (kc, ls, sc, ac, me, on, pa, fi, la, ki, sk, hi, km, ka, kn, kb, kf) x y := by
  by_cases z : x < 0
  · exact br_t z hp
  · exact br_f z (br_t (h.resolve_left z) hp)
theorem wu_xl1 {x y : Int32} (h : ¬ x < 0) (h2 : ¬ (40 - y) < x) {post : Int32 → Prop} (hp : post 1) : wpX_liesInMemory post (kc, ls, sc, ac, me, on, pa, fi, la, ki, sk, hi, km, ka, kn, kb, kf) x y := br_f h (br_f h2 hp)
theorem wu_xs65 {w : Nat} {x2 x3 x4 z : Int32} (hw : w < 8) {post : Int32 → SX → Prop} (hp : post z (kc, ls, sc, ac, me, upd on w (vp_nar .boolean 1), upd pa w (vp_nar .boolean 0), upd fi w x2, upd la w ((x2 + x3) - 1), upd ki w x4, upd sk w 0, upd hi w 0, km, ka, kn, kb, kf)) : wX_set_65 post (nI w) x2 x3 x4 z kc ls sc ac me on pa fi la ki sk hi km ka kn kb kf := by
  have hcl := nI_clamp (n := w) (by omega)
  have hv := vp_in_nI (N := 8) hw (by omega)
  unfold wX_set_65
  rw [hcl]
  exact ⟨hv, nm_e ⟨hv, nm_e ⟨hv, nm_e ⟨hv, nm_e ⟨hv, nm_e ⟨hv, nm_e ⟨hv, nm_e hp⟩⟩⟩⟩⟩⟩⟩
theorem wu_ys68 {w : Nat} {x2 x3 x4 z : Int32} (hw : w < 8) {post : Int32 → SY → Prop} (hp : post z (ac, sc, kc, me, ol, upd on w (vp_nar .boolean 1), upd fi w x2, upd ln w x3, upd ki w x4, upd pa w (vp_nar .boolean 0), upd sk w 0, upd hi w 0, ms, ma, mn, mb, mf)) : wY_set_68 post (nI w) x2 x3 x4 z ac sc kc me ol on fi ln ki pa sk hi ms ma mn mb mf := by
  have hcl := nI_clamp (n := w) (by omega)
  have hv := vp_in_nI (N := 8) hw (by omega)
  unfold wY_set_68
  rw [hcl]
  exact ⟨hv, nm_e ⟨hv, nm_e ⟨hv, nm_e ⟨hv, nm_e ⟨hv, nm_e ⟨hv, nm_e ⟨hv, nm_e hp⟩⟩⟩⟩⟩⟩⟩
theorem wu_xp26 {w : Nat} {x z : Int32} (hw : w < 8) {post : Int32 → SX → Prop} (h0 : x = 0 → post z (kc, ls, sc, ac, me, on, upd pa w (vp_nar .boolean 0), fi, la, ki, sk, hi, km, ka, kn, kb, kf)) (h1 : ¬ x = 0 → post z (kc, ls, sc, ac, me, on, upd pa w (vp_nar .boolean 1), fi, la, ki, sk, hi, km, ka, kn, kb, kf)) : wX_pause_26 post (nI w) x z kc ls sc ac me on pa fi la ki sk hi km ka kn kb kf := by
  have hcl := nI_clamp (n := w) (by omega)
  have hv := vp_in_nI (N := 8) hw (by omega)
  unfold wX_pause_26
  rw [hcl]
  exact br_c (fun q => ⟨hv, nm_e (h0 q)⟩) (fun q => ⟨hv, nm_e (h1 q)⟩)
theorem wu_yp36 {w : Nat} {x z : Int32} (hw : w < 8) {post : Int32 → SY → Prop} (h0 : x = 0 → post z (ac, sc, kc, me, ol, on, fi, ln, ki, upd pa w (vp_nar .boolean 0), sk, hi, ms, ma, mn, mb, mf)) (h1 : ¬ x = 0 → post z (ac, sc, kc, me, ol, on, fi, ln, ki, upd pa w (vp_nar .boolean 1), sk, hi, ms, ma, mn, mb, mf)) : wY_pause_36 post (nI w) x z ac sc kc me ol on fi ln ki pa sk hi ms ma mn mb mf := by
  have hcl := nI_clamp (n := w) (by omega)
  have hv := vp_in_nI (N := 8) hw (by omega)
  unfold wY_pause_36
  rw [hcl]
  exact br_c (fun q => ⟨hv, nm_e (h0 q)⟩) (fun q => ⟨hv, nm_e (h1 q)⟩)
theorem wu_xsn {c l : Nat} {x : Int32} (h : x < 0 ∨ nI c ≤ x) {post : Int32 → Prop} (hp : post (-1)) : wpX_slotOf post (nI c, nI l, sc, ac, me, on, pa, fi, la, ki, sk, hi, km, ka, kn, kb, kf) x := by
  by_cases z : x < 0
  · exact br_t z hp
  · exact br_f z (br_f (Int32.not_lt.mpr (h.resolve_left z)) hp)
theorem wu_xss {c l i : Nat} (hc : c ≤ 8) (hl : l < 8) (hic : i < c) {post : Int32 → Prop} (hp : post (nI (wu_sl l i))) : wpX_slotOf post (nI c, nI l, sc, ac, me, on, pa, fi, la, ki, sk, hi, km, ka, kn, kb, kf) (nI i) := by
  refine br_f (nI_pos (by omega)) (br_t (nI_lt hic (by omega)) ?_)
  by_cases q : i ≤ l
  · rw [show wu_sl l i = l - i from if_pos q] at hp
    exact nm_r (pk_sub q) (br_t (nI_pos' (by omega)) hp)
  · rw [show wu_sl l i = l + 8 - i from if_neg q, ← wu_s8 (by omega)] at hp
    exact nm_e (br_f (fun y => absurd (wu_sneg (by omega) (by omega)) (Int32.not_lt.mpr y)) hp)
theorem wu_yn1 {c : Nat} {x : Int32} (h : x < 0 ∨ nI c ≤ x) {post : Int32 → Prop} (hp : post 1) : wpY_noStop post (ac, sc, nI c, me, ol, on, fi, ln, ki, pa, sk, hi, ms, ma, mn, mb, mf) x := by
  by_cases z : x < 0
  · exact br_t z hp
  · exact br_f z (br_t (h.resolve_left z) hp)
theorem wu_yn0 {c i : Nat} (hc : c ≤ 8) (hic : i < c) {post : Int32 → Prop} (hp : post 0) : wpY_noStop post (ac, sc, nI c, me, ol, on, fi, ln, ki, pa, sk, hi, ms, ma, mn, mb, mf) (nI i) := br_f (nI_pos (by omega)) (br_f (nI_ge hic (by omega)) (br_t (nI_lt (b := 8) (by omega) (by decide)) hp))
end
