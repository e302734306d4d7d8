def wu_nx (l : Nat) : Nat := if l < 7 then l + 1 else 0
def wu_cn (c : Nat) : Nat := if c < 8 then c + 1 else c
def wu_sl (l i : Nat) : Nat := if i ≤ l then l - i else l + 8 - i
/-- the ring K, its latest at l, shows the list M -/
def wu_Rg (l : Nat) (K M : Nat → Int32) : Prop := ∀ i, i < 8 → M i = K (wu_sl l i)
def wu_Sm (i : Nat) (M A : Nat → Int32) : Prop := (∀ j, j ≤ i → A j = M j) ∧ (∀ j, i < j → j < 8 → A j = M (j - 1))
def wu_Sh (M : Nat → Int32) (x : Int32) (A : Nat → Int32) : Prop := A 0 = x ∧ ∀ j, 0 < j → j < 8 → A j = M (j - 1)
theorem wu_nx8 (l : Nat) : wu_nx l < 8 := by
  unfold wu_nx; split <;> omega
theorem wu_cn8 {c : Nat} (h : c ≤ 8) : wu_cn c ≤ 8 := by
  unfold wu_cn; split <;> omega
theorem wu_sl8 {l i : Nat} (hl : l < 8) (hi : i < 8) : wu_sl l i < 8 := by
  unfold wu_sl; split <;> omega
theorem wu_sm7 {M : Nat → Int32} : wu_Sm 7 M M := ⟨fun _ _ => rfl, fun j h1 h2 => by omega⟩
theorem wu_sms {i : Nat} {M A : Nat → Int32} (h : wu_Sm (i + 1) M A) : wu_Sm i M (upd A (i + 1) (A i)) := by
  constructor
  · intro j hj
    rw [pk_un (by omega)]
    exact h.1 j (by omega)
  · intro j h1 h2
    by_cases e : j = i + 1
    · rw [e, pk_us, h.1 i (by omega)]; rfl
    · rw [pk_un e]
      exact h.2 j (by omega) h2
theorem wu_sm0 {M A : Nat → Int32} {x : Int32} (h : wu_Sm 0 M A) : wu_Sh M x (upd A 0 x) := by
  refine ⟨pk_us, fun j h1 h2 => ?_⟩
  rw [pk_un (by omega)]
  exact h.2 j h1 h2
theorem wu_rg {l : Nat} {K M B : Nat → Int32} {x : Int32} (hl : l < 8) (h : wu_Rg l K M) (hb : wu_Sh M x B) : wu_Rg (wu_nx l) (upd K (wu_nx l) x) B := by
  intro i hi
  by_cases e : i = 0
  · subst e
    have e0 : wu_sl (wu_nx l) 0 = wu_nx l := by
      unfold wu_sl; rw [if_pos (by omega)]; omega
    rw [e0, pk_us]; exact hb.1
  · have e1 : wu_sl (wu_nx l) i = wu_sl l (i - 1) := by
      unfold wu_sl wu_nx; split <;> split <;> split <;> omega
    have e2 : wu_sl l (i - 1) ≠ wu_nx l := by
      unfold wu_sl wu_nx; split <;> split <;> omega
    rw [e1, pk_un e2, hb.2 i (by omega) hi]
    exact h (i - 1) (by omega)
section
variable {kc ls sc ac : Int32} {me on pa fi la ki sk hi km ka kn kb kf : Nat → Int32}
theorem wu_xk54 {q : Nat} {m a o n : Int32} (hq : q < 8) {post : SX → Prop} (hp : post (kc, nI q, sc, ac, me, on, pa, fi, la, ki, sk, hi, upd km q m, upd ka q a, upd kn q ac, upd kb q o, upd kf q n)) : wX_keepStop_54 post m a o n kc (nI q) sc ac me on pa fi la ki sk hi km ka kn kb kf := by
  have hc := nI_clamp (n := q) (by omega)
  have hv := vp_in_nI (N := 8) hq (by omega)
  unfold wX_keepStop_54
  rw [hc]
  exact ⟨hv, nm_e ⟨hv, nm_e ⟨hv, nm_e ⟨hv, nm_e ⟨hv, nm_e hp⟩⟩⟩⟩⟩
theorem wu_xk32 {c q : Nat} {m a o n : Int32} (hc : c ≤ 8) (hq : q < 8) {post : SX → Prop} (hp : post (nI (wu_cn c), nI q, sc, ac, me, on, pa, fi, la, ki, sk, hi, upd km q m, upd ka q a, upd kn q ac, upd kb q o, upd kf q n)) : wX_keepStop_32 post m a o n (nI q) (nI c) ls sc ac me on pa fi la ki sk hi km ka kn kb kf := by
  unfold wX_keepStop_32
  refine pk_le 8 c (fun g => ?_) (fun g => nm_r (nI_1 c) ?_)
  · rw [show wu_cn c = c from if_neg (by omega)] at hp
    exact wu_xk54 hq hp
  · rw [show wu_cn c = c + 1 from if_pos (by omega)] at hp
    exact wu_xk54 hq hp
theorem wu_xkeep {c l : Nat} {m a o n : Int32} (hc : c ≤ 8) (hl : l < 8) {post : SX → Prop} (hp : post (nI (wu_cn c), nI (wu_nx l), sc + 1, ac, me, on, pa, fi, la, ki, sk, hi, upd km (wu_nx l) m, upd ka (wu_nx l) a, upd kn (wu_nx l) ac, upd kb (wu_nx l) o, upd kf (wu_nx l) n)) : wpX_keepStop post (nI c, nI l, sc, ac, me, on, pa, fi, la, ki, sk, hi, km, ka, kn, kb, kf) m a o n := by
  unfold wpX_keepStop
  dsimp only
  refine nm_e ?_
  rw [nI_1]
  refine pk_le 8 (l + 1) (fun g => ?_) (fun g => ?_)
  · rw [show wu_nx l = 0 from if_neg (by omega)] at hp
    exact wu_xk32 (q := 0) hc (by omega) hp
  · rw [show wu_nx l = l + 1 from if_pos (by omega)] at hp
    exact wu_xk32 hc (by omega) hp
end
section
variable {kc sc ac : Int32} {me ol on fi ln ki pa sk hi ms ma mn mb mf : Nat → Int32}
theorem wu_ykeep4 {c a s : Nat} {m : Int32} {M1 M2 M3 M4 M5 : Nat → Int32} (hc : c ≤ 8) (hs : a + s ≤ 40) : ∀ i, i < 8 → ∀ ms ma mn mb mf : Nat → Int32, wu_Sm i M1 ms → wu_Sm i M2 ma → wu_Sm i M3 mn → wu_Sm i M4 mb → wu_Sm i M5 mf → ∃ B1 B2 B3 B4 B5 : Nat → Int32, wu_Sh M1 m B1 ∧ wu_Sh M2 (nI a) B2 ∧ wu_Sh M3 ac B3 ∧ wu_Sh M4 (wu_num ol a s) B4 ∧ wu_Sh M5 (wu_num me a s) B5 ∧ ∀ post : SY → Prop, post (ac, sc + 1, nI (wu_cn c), me, ol, on, fi, ln, ki, pa, sk, hi, B1, B2, B3, B4, B5) → wY_keep_4 post m (nI a) (nI s) ac sc (nI c) (i + 1) (nI i) me ol on fi ln ki pa sk hi ms ma mn mb mf := by
  intro i
  induction i with
  | zero =>
    intro _ ms ma mn mb mf h1 h2 h3 h4 h5
    refine ⟨_, _, _, _, _, wu_sm0 h1, wu_sm0 h2, wu_sm0 h3, wu_sm0 h4, wu_sm0 h5, fun post hp => ?_⟩
    refine br_t (nI_le (a := 0) (b := 0) (by omega) (by decide)) ?_
    refine nm_e (nm_e (nm_e (wu_ynum0 hs (nm_e (wu_ynum1 hs (nm_e (nm_e ?_)))))))
    refine pk_le 8 c (fun g => ?_) (fun g => nm_r (nI_1 c) ?_)
    · rw [show wu_cn c = c from if_neg (by omega)] at hp
      exact hp
    · rw [show wu_cn c = c + 1 from if_pos (by omega)] at hp
      exact hp
  | succ i ih =>
    intro hi ms ma mn mb mf h1 h2 h3 h4 h5
    obtain ⟨B1, B2, B3, B4, B5, k1, k2, k3, k4, k5, hB⟩ := ih (by omega) _ _ _ _ _ (wu_sms h1) (wu_sms h2) (wu_sms h3) (wu_sms h4) (wu_sms h5)
    refine ⟨B1, B2, B3, B4, B5, k1, k2, k3, k4, k5, fun post hp => ?_⟩
    have hc1 := nI_clamp (n := i + 1) (by omega)
    have hc0 := nI_clamp (n := i) (by omega)
    have v1 := vp_in_nI (n := i + 1) (N := 8) (by omega) (by omega)
    have v0 := vp_in_nI (n := i) (N := 8) (by omega) (by omega)
    refine br_f (nI_nle (by omega) (by omega)) ?_
    rw [nI_pred, hc1, hc0]
    exact ⟨v0, v1, nm_e ⟨v0, v1, nm_e ⟨v0, v1, nm_e ⟨v0, v1, nm_e ⟨v0, v1, nm_e (nm_r (pk_m1 i) (hB post hp))⟩⟩⟩⟩⟩
theorem wu_ykeep {c a s : Nat} {m : Int32} (hc : c ≤ 8) (hs : a + s ≤ 40) : ∃ B1 B2 B3 B4 B5 : Nat → Int32, wu_Sh ms m B1 ∧ wu_Sh ma (nI a) B2 ∧ wu_Sh mn ac B3 ∧ wu_Sh mb (wu_num ol a s) B4 ∧ wu_Sh mf (wu_num me a s) B5 ∧ ∀ post : SY → Prop, post (ac, sc + 1, nI (wu_cn c), me, ol, on, fi, ln, ki, pa, sk, hi, B1, B2, B3, B4, B5) → wpY_keep post (ac, sc, nI c, me, ol, on, fi, ln, ki, pa, sk, hi, ms, ma, mn, mb, mf) m (nI a) (nI s) := by
  obtain ⟨B1, B2, B3, B4, B5, k1, k2, k3, k4, k5, hB⟩ := wu_ykeep4 (me := me) (ol := ol) (on := on) (fi := fi) (ln := ln) (ki := ki) (pa := pa) (sk := sk) (hi := hi) (ac := ac) (sc := sc) (m := m) hc hs 7 (by omega) ms ma mn mb mf wu_sm7 wu_sm7 wu_sm7 wu_sm7 wu_sm7
  exact ⟨B1, B2, B3, B4, B5, k1, k2, k3, k4, k5, fun post hp => ⟨8, hB post hp⟩⟩
end
