/-- the set watches: a range within the memory, one of the four kinds -/
def wu_W (on fi ln la ki : Nat → Int32) : Prop := ∀ w, w < 8 → ¬ on w = 0 → ∃ f l : Nat, 1 ≤ l ∧ l ≤ 16 ∧ f + l ≤ 40 ∧ fi w = nI f ∧ ln w = nI l ∧ la w = nI (f + l - 1) ∧ (ki w = 1 ∨ ki w = 2 ∨ ki w = 3 ∨ ki w = 4)
/-- the two states belong together, their memory is me -/
def wu_Rm (me : Nat → Int32) (u : SX) (v : SY) : Prop := ∃ (c l : Nat) (sc ac : Int32) (on pa fi la ki sk hi km ka kn kb kf ol ln ms ma mn mb mf : Nat → Int32), u = (nI c, nI l, sc, ac, me, on, pa, fi, la, ki, sk, hi, km, ka, kn, kb, kf) ∧ v = (ac, sc, nI c, me, ol, on, fi, ln, ki, pa, sk, hi, ms, ma, mn, mb, mf) ∧ c ≤ 8 ∧ l < 8 ∧ wu_Byt me ∧ wu_W on fi ln la ki ∧ wu_Rg l km ms ∧ wu_Rg l ka ma ∧ wu_Rg l kn mn ∧ wu_Rg l kb mb ∧ wu_Rg l kf mf
theorem wu_hv (k p3 : Int32) (C : Prop) (hk : k = 1 ∨ k = 2 ∨ k = 3 ∨ k = 4) : ∃ r : Int32, (k = 1 → p3 = 0 → r = 1) ∧ (k = 1 → ¬ p3 = 0 → r = 0) ∧ (k = 2 → r = p3) ∧ (k = 3 → r = 1) ∧ (k = 4 → C → r = 1) ∧ (k = 4 → ¬ C → r = 0) := by
  rcases hk with e | e | e | e
  · subst e
    by_cases h : p3 = 0
    · exact ⟨1, fun _ _ => rfl, fun _ z => absurd h z, fun z => absurd z (by decide), fun z => absurd z (by decide), fun z => absurd z (by decide), fun z => absurd z (by decide)⟩
    · exact ⟨0, fun _ z => absurd z h, fun _ _ => rfl, fun z => absurd z (by decide), fun z => absurd z (by decide), fun z => absurd z (by decide), fun z => absurd z (by decide)⟩
  · subst e
    exact ⟨p3, fun z => absurd z (by decide), fun z => absurd z (by decide), fun _ => rfl, fun z => absurd z (by decide), fun z => absurd z (by decide), fun z => absurd z (by decide)⟩
  · subst e
    exact ⟨1, fun z => absurd z (by decide), fun z => absurd z (by decide), fun z => absurd z (by decide), fun _ => rfl, fun z => absurd z (by decide), fun z => absurd z (by decide)⟩
  · subst e
    by_cases h : C
    · exact ⟨1, fun z => absurd z (by decide), fun z => absurd z (by decide), fun z => absurd z (by decide), fun z => absurd z (by decide), fun _ _ => rfl, fun _ z => absurd h z⟩
    · exact ⟨0, fun z => absurd z (by decide), fun z => absurd z (by decide), fun z => absurd z (by decide), fun z => absurd z (by decide), fun _ z => absurd z h, fun _ _ => rfl⟩
section
variable {kc ls sc ac : Int32} {me on pa fi la ki sk hi km ka kn kb kf ol ln ms ma mn mb mf : Nat → Int32}
theorem wu_hit {w a s : Nat} {p3 : Int32} {m0 : Nat → Int32} (hw : w < 8) (hs1 : 1 ≤ s) (hs4 : s ≤ 4) (hs : a + s ≤ 40) (hW : wu_W on fi ln la ki) (B0 : wu_Byt m0) (B : wu_Byt me) (ho : ∀ i, i < s → ol (a + i) = m0 (a + i)) (hp : (p3 = 0 ∧ me = m0) ∨ p3 = 1) :
    ∃ r : Int32, (∀ post : Int32 → Prop, post r → wpX_isHit post (kc, ls, sc, ac, me, on, pa, fi, la, ki, sk, hi, km, ka, kn, kb, kf) (nI w) (nI a) (nI s) p3 (wu_num m0 a s) (wu_num me a s)) ∧ (∀ post : Int32 → Prop, post r → wpY_hit post (ac, sc, kc, me, ol, on, fi, ln, ki, pa, sk, hi, ms, ma, mn, mb, mf) (nI w) (nI a) (nI s) p3) := by
  by_cases h1 : on w = 0
  · exact ⟨0, fun _ q => wu_xhit0 hw (Or.inl h1) q, fun _ q => wu_yhit0 hw (Or.inl h1) q⟩
  by_cases h2 : pa w = 0
  rotate_left
  · exact ⟨0, fun _ q => wu_xhit0 hw (Or.inr h2) q, fun _ q => wu_yhit0 hw (Or.inr h2) q⟩
  obtain ⟨f, l, hl1, hl16, hl, hf, hln, hla, hk⟩ := hW w hw h1
  have hb : ∀ j, j < s → (wu_byU (wu_num m0 a s) j = wu_byU (wu_num me a s) j ↔ me (a + j) = ol (a + j)) := by
    intro j hj
    rw [wu_byn B0 hs4 hj, wu_byn B hs4 hj, ho j hj]
    exact eq_comm
  have hp1 : p3 = 0 ∨ p3 = 1 := hp.elim (fun z => Or.inl z.1) Or.inr
  by_cases hT : f < a + s ∧ a < f + l
  · have hT' : ¬ ∀ j, j < s → ¬ (f ≤ a + j ∧ a + j < f + l) := by
      intro z
      by_cases g : a ≤ f
      · exact z (f - a) (by omega) ⟨by omega, by omega⟩
      · exact z 0 (by omega) ⟨by omega, by omega⟩
    obtain ⟨r, v1, v2, v3, v4, v5, v6⟩ := wu_hv (ki w) p3 (∃ j, j < s ∧ f ≤ a + j ∧ a + j < f + l ∧ ¬ me (a + j) = ol (a + j)) hk
    refine ⟨r, fun post q => ?_, fun post q => ?_⟩
    · refine wu_xhit hw hs1 hs hl1 hl h1 h2 hf hla (fun z => absurd hT z) (fun _ _ => ?_)
      rcases hk with k | k | k | k
      · exact Or.inl ⟨k, fun z => v1 k z ▸ q, fun z => v2 k z ▸ q⟩
      · exact Or.inr (Or.inl ⟨k, hp1, v3 k ▸ q⟩)
      · exact Or.inr (Or.inr (Or.inl ⟨k, v4 k ▸ q⟩))
      · refine Or.inr (Or.inr (Or.inr ⟨k, fun z => ?_, fun z => ?_⟩))
        · have e : r = 0 := v6 k (fun ⟨j, g1, g2, g3, g4⟩ => g4 ((hb j g1).mp (z j g1 g2 g3)))
          exact e ▸ q
        · obtain ⟨j, g1, g2, g3, g4⟩ := z
          have e : r = 1 := v5 k ⟨j, g1, g2, g3, fun c => g4 ((hb j g1).mpr c)⟩
          exact e ▸ q
    · refine wu_yhit hw hs hl h1 h2 hf hln hk (fun z => absurd z hT') (fun _ => ⟨fun k z => v1 k z ▸ q, fun k z => v2 k z ▸ q, fun k z => (v3 k).trans z ▸ q, fun k z => (v3 k).trans (hp1.resolve_left z) ▸ q, fun k => v4 k ▸ q, fun k z => ?_, fun k z => ?_, fun k _ z => ?_⟩)
      · have e : r = 0 := v6 k (fun ⟨j, g1, g2, g3, g4⟩ => g4 (z j g1 g2 g3))
        exact e ▸ q
      · have e : r = 0 := v6 k (fun ⟨j, g1, g2, g3, g4⟩ => by
          rcases hp with y | y
          · exact g4 (by rw [y.2, ho j g1])
          · rw [y] at z; exact absurd z (by decide))
        exact e ▸ q
      · have e : r = 1 := by
          refine v5 k (Classical.byContradiction (fun y => z (fun j g1 g2 g3 => ?_)))
          exact Classical.byContradiction (fun g4 => y ⟨j, g1, g2, g3, g4⟩)
        exact e ▸ q
  · refine ⟨0, fun post q => wu_xhit hw hs1 hs hl1 hl h1 h2 hf hla (fun _ => q) (fun g1 g2 => absurd ⟨g1, g2⟩ hT), fun post q => wu_yhit hw hs hl h1 h2 hf hln hk (fun _ => q) (fun z => absurd (fun j hj => ?_) z)⟩
    omega
theorem wu_xstop1 {w : Nat} (hw : w < 8) (h : sk w ≤ 0) {post : Int32 → SX → Prop} (hp : post 1 (kc, ls, sc, ac, me, on, pa, fi, la, ki, sk, upd hi w (hi w + 1), km, ka, kn, kb, kf)) : wpX_stopsAt post (kc, ls, sc, ac, me, on, pa, fi, la, ki, sk, hi, km, ka, kn, kb, kf) (nI w) := by
  have hc := nI_clamp (n := w) (by omega)
  have hv := vp_in_nI (N := 8) hw (by omega)
  unfold wpX_stopsAt
  dsimp only
  rw [hc]
  exact ⟨hv, br_t h ⟨hv, hv, nm_e hp⟩⟩
theorem wu_xstop0 {w : Nat} (hw : w < 8) (h : ¬ sk w ≤ 0) {post : Int32 → SX → Prop} (hp : post 0 (kc, ls, sc, ac, me, on, pa, fi, la, ki, upd sk w (sk w - 1), hi, km, ka, kn, kb, kf)) : wpX_stopsAt post (kc, ls, sc, ac, me, on, pa, fi, la, ki, sk, hi, km, ka, kn, kb, kf) (nI w) := by
  have hc := nI_clamp (n := w) (by omega)
  have hv := vp_in_nI (N := 8) hw (by omega)
  unfold wpX_stopsAt
  dsimp only
  rw [hc]
  exact ⟨hv, br_f h ⟨hv, hv, nm_e hp⟩⟩
theorem wu_acc8 {c l a s : Nat} {p3 : Int32} {m0 : Nat → Int32} (hc : c ≤ 8) (hl : l < 8) (hs1 : 1 ≤ s) (hs4 : s ≤ 4) (hs : a + s ≤ 40) (hW : wu_W on fi ln la ki) (B0 : wu_Byt m0) (B : wu_Byt me) (ho : ∀ i, i < s → ol (a + i) = m0 (a + i)) (hp : (p3 = 0 ∧ me = m0) ∨ p3 = 1)
    (g1 : wu_Rg l km ms) (g2 : wu_Rg l ka ma) (g3 : wu_Rg l kn mn) (g4 : wu_Rg l kb mb) (g5 : wu_Rg l kf mf) :
    ∀ d w, w + d = 8 → ∀ (m : Int32) (sk hi : Nat → Int32), ∃ (mk : Int32) (u' : SX) (v' : SY), wu_Rm me u' v' ∧ (∀ post : Int32 → SX → Prop, post mk u' → wX_finishAccess_16 post (nI a) (nI s) p3 (wu_num m0 a s) (wu_num me a s) (d + 1) m (nI w) (nI c) (nI l) sc ac me on pa fi la ki sk hi km ka kn kb kf) ∧ (∀ post : Int32 → SY → Prop, post mk v' → wY_access_86 post (nI a) (nI s) p3 ac sc (nI c) (d + 1) m (nI w) me ol on fi ln ki pa sk hi ms ma mn mb mf) := by
  intro d
  induction d with
  | zero =>
    intro w hw m sk hi
    have h8 : (8 : Int32) ≤ nI w := nI_le (a := 8) (by omega) (by omega)
    by_cases hm : m = 0
    · exact ⟨m, (nI c, nI l, sc, ac, me, on, pa, fi, la, ki, sk, hi, km, ka, kn, kb, kf), (ac, sc, nI c, me, ol, on, fi, ln, ki, pa, sk, hi, ms, ma, mn, mb, mf), ⟨c, l, sc, ac, on, pa, fi, la, ki, sk, hi, km, ka, kn, kb, kf, ol, ln, ms, ma, mn, mb, mf, rfl, rfl, hc, hl, B, hW, g1, g2, g3, g4, g5⟩, fun post q => br_t h8 (br_t hm q), fun post q => br_t h8 (br_t hm q)⟩
    · obtain ⟨B1, B2, B3, B4, B5, k1, k2, k3, k4, k5, hB⟩ := wu_ykeep (me := me) (ol := ol) (on := on) (fi := fi) (ln := ln) (ki := ki) (pa := pa) (sk := sk) (hi := hi) (ac := ac) (sc := sc) (m := m) (ms := ms) (ma := ma) (mn := mn) (mb := mb) (mf := mf) hc hs
      rw [wu_numc s ho] at k4
      exact ⟨m, _, _, ⟨wu_cn c, wu_nx l, sc + 1, ac, on, pa, fi, la, ki, sk, hi, upd km (wu_nx l) m, upd ka (wu_nx l) (nI a), upd kn (wu_nx l) ac, upd kb (wu_nx l) (wu_num m0 a s), upd kf (wu_nx l) (wu_num me a s), ol, ln, B1, B2, B3, B4, B5, rfl, rfl, wu_cn8 hc, wu_nx8 l, B, hW, wu_rg hl g1 k1, wu_rg hl g2 k2, wu_rg hl g3 k3, wu_rg hl g4 k4, wu_rg hl g5 k5⟩, fun post q => br_t h8 (br_f hm (wu_xkeep hc hl q)), fun post q => br_t h8 (br_f hm (hB _ q))⟩
  | succ d ih =>
    intro w hw m sk hi
    have h8 : ¬ (8 : Int32) ≤ nI w := nI_ge (b := 8) (by omega) (by decide)
    have hcl := nI_clamp (n := w) (by omega)
    have hv := vp_in_nI (n := w) (N := 8) (by omega) (by omega)
    obtain ⟨r, hX, hY⟩ := wu_hit (kc := nI c) (ls := nI l) (sc := sc) (ac := ac) (sk := sk) (hi := hi) (pa := pa) (km := km) (ka := ka) (kn := kn) (kb := kb) (kf := kf) (ms := ms) (ma := ma) (mn := mn) (mb := mb) (mf := mf) (w := w) (by omega) hs1 hs4 hs hW B0 B ho hp
    by_cases hr : r = 0
    · obtain ⟨mk, u', v', hR, iX, iY⟩ := ih (w + 1) (by omega) m sk hi
      exact ⟨mk, u', v', hR, fun post q => br_f h8 (hX _ (br_t hr (nm_r (nI_1 w) (iX post q)))), fun post q => br_f h8 (hY _ (br_t hr (nm_r (nI_1 w) (iY post q))))⟩
    · by_cases hk : sk w ≤ 0
      · obtain ⟨mk, u', v', hR, iX, iY⟩ := ih (w + 1) (by omega) (m ||| ((1 : Int32) <<< (nI w &&& 31))) sk (upd hi w (hi w + 1))
        refine ⟨mk, u', v', hR, fun post q => br_f h8 (hX _ (br_f hr (wu_xstop1 (by omega) hk (br_f (by decide) (nm_e (nm_r (nI_1 w) (iX post q))))))), fun post q => br_f h8 (hY _ (br_f hr ?_))⟩
        rw [hcl]
        exact ⟨hv, br_t hk ⟨hv, hv, nm_e (nm_e (nm_r (nI_1 w) (iY post q)))⟩⟩
      · obtain ⟨mk, u', v', hR, iX, iY⟩ := ih (w + 1) (by omega) m (upd sk w (sk w - 1)) hi
        refine ⟨mk, u', v', hR, fun post q => br_f h8 (hX _ (br_f hr (wu_xstop0 (by omega) hk (br_t rfl (nm_r (nI_1 w) (iX post q)))))), fun post q => br_f h8 (hY _ (br_f hr ?_))⟩
        rw [hcl]
        exact ⟨hv, br_f hk ⟨hv, hv, nm_e (nm_r (nI_1 w) (iY post q))⟩⟩
end
section
variable {kc sc ac : Int32} {me ol on fi ln ki pa sk hi ms ma mn mb mf : Nat → Int32}
theorem wu_yold {x1 x2 x3 x4 : Int32} : ∀ d i, i + d = 40 → ∀ ol : Nat → Int32, (∀ j, j < i → ol j = me j) → ∃ o' : Nat → Int32, (∀ j, j < 40 → o' j = me j) ∧ ∀ post : Int32 → SY → Prop, (∃ n33 : Nat, wY_access_33 post x1 x2 x3 x4 ac sc kc n33 0 me o' on fi ln ki pa sk hi ms ma mn mb mf) → wY_access_3 post x1 x2 x3 x4 ac sc kc (d + 1) (nI i) me ol on fi ln ki pa sk hi ms ma mn mb mf := by
  intro d
  induction d with
  | zero =>
    intro i hi ol ho
    exact ⟨ol, fun j hj => ho j (by omega), fun post q => br_t (nI_le (a := 40) (by omega) (by omega)) q⟩
  | succ d ih =>
    intro i hi ol ho
    have hc := nI_clamp (n := i) (by omega)
    have hv := vp_in_nI (n := i) (N := 40) (by omega) (by omega)
    obtain ⟨o', h1, h2⟩ := ih (i + 1) (by omega) (upd ol i (me i)) (by
      intro j hj
      by_cases e : j = i
      · rw [e, pk_us]
      · rw [pk_un e]; exact ho j (by omega))
    refine ⟨o', h1, fun post q => br_f (nI_ge (b := 40) (by omega) (by decide)) ?_⟩
    rw [hc]
    exact ⟨hv, hv, nm_e (nm_r (nI_1 i) (h2 post q))⟩
theorem wu_yrd {x1 x4 : Int32} {s : Nat} (hs : s ≤ 40) (post : Int32 → SY → Prop) (q : ∃ n86 : Nat, wY_access_86 post x1 (nI s) 0 (ac + 1) sc kc n86 0 0 me ol on fi ln ki pa sk hi ms ma mn mb mf) : ∀ d i, i + d = s → wY_access_33 post x1 (nI s) 0 x4 ac sc kc (d + 1) (nI i) me ol on fi ln ki pa sk hi ms ma mn mb mf := by
  intro d
  induction d with
  | zero =>
    intro i hi
    exact br_t (nI_le (by omega) (by omega)) (nm_e q)
  | succ d ih =>
    intro i hi
    exact br_f (nI_ge (by omega) (by omega)) (br_t rfl (nm_r (nI_1 i) (ih (i + 1) (by omega))))
theorem wu_ywr {v : Int32} {a s : Nat} (hs : a + s ≤ 40) (post : Int32 → SY → Prop) (q : ∃ n86 : Nat, wY_access_86 post (nI a) (nI s) 1 (ac + 1) sc kc n86 0 0 (wu_put me a v s) ol on fi ln ki pa sk hi ms ma mn mb mf) : ∀ d i, i + d = s → wY_access_33 post (nI a) (nI s) 1 v ac sc kc (d + 1) (nI i) (wu_put me a v i) ol on fi ln ki pa sk hi ms ma mn mb mf := by
  intro d
  induction d with
  | zero =>
    intro i hi
    have e : i = s := by omega
    subst e
    exact br_t (nI_le (by omega) (by omega)) (nm_e q)
  | succ d ih =>
    intro i hi
    refine br_f (nI_ge (by omega) (by omega)) (br_f (by decide) ⟨pk_in (a + i) 40 (by omega) (nI_add a i), ?_⟩)
    refine nm_r (e' := wu_put me a v (i + 1)) ?_ (nm_r (nI_1 i) (ih (i + 1) (by omega)))
    rw [nI_add, nI_clamp (by omega)]; rfl
end
section
variable {kc ls sc ac : Int32} {me on pa fi la ki sk hi km ka kn kb kf ol ln ms ma mn mb mf : Nat → Int32}
/-- one access, on both sides -/
theorem wu_acc {c l a s : Nat} {p3 v : Int32} {m' : Nat → Int32} (hc : c ≤ 8) (hl : l < 8) (hs1 : 1 ≤ s) (hs4 : s ≤ 4) (hs : a + s ≤ 40) (hW : wu_W on fi ln la ki) (B : wu_Byt me) (hp : (p3 = 0 ∧ m' = me) ∨ (p3 = 1 ∧ m' = wu_put me a v s))
    (g1 : wu_Rg l km ms) (g2 : wu_Rg l ka ma) (g3 : wu_Rg l kn mn) (g4 : wu_Rg l kb mb) (g5 : wu_Rg l kf mf) :
    ∃ (mk : Int32) (u' : SX) (v' : SY), wu_Rm m' u' v' ∧ (∀ post : Int32 → SX → Prop, post mk u' → wpX_finishAccess post (nI c, nI l, sc, ac, m', on, pa, fi, la, ki, sk, hi, km, ka, kn, kb, kf) (nI a) (nI s) p3 (wu_num me a s) (wu_num m' a s)) ∧ (∀ post : Int32 → SY → Prop, post mk v' → wpY_access post (ac, sc, nI c, me, ol, on, fi, ln, ki, pa, sk, hi, ms, ma, mn, mb, mf) (nI a) (nI s) p3 v) := by
  obtain ⟨o', ho, hO⟩ := wu_yold (me := me) (on := on) (fi := fi) (ln := ln) (ki := ki) (pa := pa) (sk := sk) (hi := hi) (ms := ms) (ma := ma) (mn := mn) (mb := mb) (mf := mf) (kc := nI c) (sc := sc) (ac := ac) (x1 := nI a) (x2 := nI s) (x3 := p3) (x4 := v) 40 0 (by omega) ol (fun j hj => by omega)
  have B' : wu_Byt m' := by
    rcases hp with z | z
    · rw [z.2]; exact B
    · rw [z.2]; exact wu_putB B s
  obtain ⟨mk, u', v', hR, hX, hY⟩ := wu_acc8 (me := m') (ol := o') (on := on) (fi := fi) (ln := ln) (la := la) (ki := ki) (pa := pa) (km := km) (ka := ka) (kn := kn) (kb := kb) (kf := kf) (ms := ms) (ma := ma) (mn := mn) (mb := mb) (mf := mf) (sc := sc) (ac := ac + 1) (m0 := me) (p3 := p3) hc hl hs1 hs4 hs hW B B' (fun i hi => ho (a + i) (by omega)) (hp.elim Or.inl (fun z => Or.inr z.1)) g1 g2 g3 g4 g5 8 0 (by omega) 0 sk hi
  refine ⟨mk, u', v', hR, fun post q => ?_, fun post q => ⟨41, hO post ⟨s + 1, ?_⟩⟩⟩
  · unfold wpX_finishAccess
    dsimp only
    exact nm_e ⟨9, hX post q⟩
  · rcases hp with ⟨z, y⟩ | ⟨z, y⟩
    · subst z y
      exact wu_yrd (by omega) post ⟨9, hY post q⟩ s 0 (by omega)
    · subst z y
      exact wu_ywr hs post ⟨9, hY post q⟩ s 0 (by omega)
end
