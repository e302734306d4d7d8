section
variable {kc ls sc ac : Int32} {me on pa fi la ki sk hi km ka kn kb kf : Nat → Int32}
theorem wu_nb0 : narrow .boolean (.int 0) = .int 0 := lw_bz_n 0
theorem wu_nb1 : narrow .boolean (.int 1) = .int 1 := lw_bz_n 1
theorem wu_xnum5 {a s : Nat} (hs : a + s ≤ 40) (post : Int32 → Prop) (hp : post (wu_num me a s)) : ∀ d i, i + d = s → wX_numberAt_5 post (nI a) (nI s) kc ls sc ac me on pa fi la ki sk hi km ka kn kb kf (d + 1) (wu_num me a i) (nI i) := by
  intro d
  induction d with
  | zero =>
    intro i hi
    have e : i = s := by omega
    subst e
    exact br_t (nI_le (Nat.le_refl _) (by omega)) hp
  | succ d ih =>
    intro i hi
    refine br_f (nI_ge (by omega) (by omega)) ⟨pk_in (a + i) 40 (by omega) (nI_add a i), ?_⟩
    refine nm_r (e' := wu_num me a (i + 1)) ?_ (nm_r (nI_1 i) (ih (i + 1) (by omega)))
    rw [nI_add, nI_clamp (by omega)]; rfl
theorem wu_xnum {a s : Nat} (hs : a + s ≤ 40) {post : Int32 → Prop} (hp : post (wu_num me a s)) : wpX_numberAt post (kc, ls, sc, ac, me, on, pa, fi, la, ki, sk, hi, km, ka, kn, kb, kf) (nI a) (nI s) := ⟨s + 1, wu_xnum5 hs post hp s 0 (by omega)⟩
theorem wu_byte {v : Int32} {i : Nat} {post : Int32 → Prop} (h : post (wu_byU v i)) : wpX_byteOf post (kc, ls, sc, ac, me, on, pa, fi, la, ki, sk, hi, km, ka, kn, kb, kf) v (nI i) := h
theorem wu_xput3 {a s : Nat} {v : Int32} (hs : a + s ≤ 40) (h4 : s ≤ 4) (post : SX → Prop) (hp : post (kc, ls, sc, ac, wu_put me a v s, on, pa, fi, la, ki, sk, hi, km, ka, kn, kb, kf)) : ∀ d i, i + d = s → wX_putNumber_3 post (nI a) (nI s) v kc ls sc ac (d + 1) (nI i) (wu_put me a v i) on pa fi la ki sk hi km ka kn kb kf := by
  intro d
  induction d with
  | zero =>
    intro i hi
    have e : i = s := by omega
    subst e
    exact br_t (nI_le (Nat.le_refl _) (by omega)) hp
  | succ d ih =>
    intro i hi
    refine br_f (nI_ge (by omega) (by omega)) (wu_byte ?_)
    refine ⟨pk_in (a + i) 40 (by omega) (nI_add a i), ?_⟩
    refine nm_r (e' := wu_put me a v (i + 1)) ?_ (nm_r (nI_1 i) (ih (i + 1) (by omega)))
    rw [nI_add, nI_clamp (by omega), wu_su (by omega)]; rfl
theorem wu_xput {a s : Nat} {v : Int32} (hs : a + s ≤ 40) (h4 : s ≤ 4) {post : SX → Prop} (hp : post (kc, ls, sc, ac, wu_put me a v s, on, pa, fi, la, ki, sk, hi, km, ka, kn, kb, kf)) : wpX_putNumber post (kc, ls, sc, ac, me, on, pa, fi, la, ki, sk, hi, km, ka, kn, kb, kf) (nI a) (nI s) v := ⟨s + 1, wu_xput3 hs h4 post hp s 0 (by omega)⟩
theorem wu_xawake {w : Nat} (hw : w < 8) {post : Int32 → Prop} (h0 : on w = 0 → post 0) (h1 : ¬ on w = 0 → ¬ pa w = 0 → post 0) (h2 : ¬ on w = 0 → pa w = 0 → post 1) : wpX_isAwake post (kc, ls, sc, ac, me, on, pa, fi, la, ki, sk, hi, km, ka, kn, kb, kf) (nI w) := by
  have hc := nI_clamp (n := w) (by omega)
  have hv := vp_in_nI (N := 8) hw (by omega)
  unfold wpX_isAwake
  dsimp only
  rw [hc]
  exact ⟨hv, br_c h0 (fun n => ⟨hv, br_c (h2 n) (h1 n)⟩)⟩
theorem wu_xdif3 {o n : Int32} {e : Nat} (he : e < 100) (post : Int32 → Prop) : ∀ d i, i + d = e + 1 → ((∀ j, i ≤ j → j ≤ e → wu_byU o j = wu_byU n j) → post 0) → ((∃ j, i ≤ j ∧ j ≤ e ∧ wu_byU o j ≠ wu_byU n j) → post 1) → wX_differs_3 post o n (nI e) kc ls sc ac me on pa fi la ki sk hi km ka kn kb kf (d + 1) (nI i) := by
  intro d
  induction d with
  | zero =>
    intro i hi h0 h1
    exact br_t (nI_lt (by omega) (by omega)) (h0 (fun j _ _ => by omega))
  | succ d ih =>
    intro i hi h0 h1
    refine br_f (nI_nlt (by omega) (by omega)) (wu_byte (wu_byte ?_))
    refine br_c (fun hq => nm_r (nI_1 i) (ih (i + 1) (by omega) (fun h => h0 (fun j g1 g2 => ?_)) (fun h => h1 ?_))) (fun hq => h1 ⟨i, by omega, by omega, hq⟩)
    · by_cases ej : j = i
      · rw [ej]; exact hq
      · exact h j (by omega) g2
    · obtain ⟨j, g1, g2, g3⟩ := h
      exact ⟨j, by omega, g2, g3⟩
theorem wu_xdif {o n : Int32} {i e : Nat} (he : e < 100) (hie : i ≤ e + 1) {post : Int32 → Prop} (h0 : (∀ j, i ≤ j → j ≤ e → wu_byU o j = wu_byU n j) → post 0) (h1 : (∃ j, i ≤ j ∧ j ≤ e ∧ wu_byU o j ≠ wu_byU n j) → post 1) : wpX_differs post (kc, ls, sc, ac, me, on, pa, fi, la, ki, sk, hi, km, ka, kn, kb, kf) o n (nI i) (nI e) := ⟨e + 1 - i + 1, wu_xdif3 he post (e + 1 - i) i (by omega) h0 h1⟩
theorem wu_xgt {a b : Nat} (ha : a < 1000) (hb : b < 1000) {post : Int32 → Prop} (h : ∀ c, (c = a ∨ c = b) → a ≤ c → b ≤ c → post (nI c)) : wpX_greaterOf post (kc, ls, sc, ac, me, on, pa, fi, la, ki, sk, hi, km, ka, kn, kb, kf) (nI a) (nI b) := pk_le a b (fun g => h b (Or.inr rfl) g (Nat.le_refl _)) (fun g => h a (Or.inl rfl) (Nat.le_refl _) (by omega))
theorem wu_xls {a b : Nat} (ha : a < 1000) (hb : b < 1000) {post : Int32 → Prop} (h : ∀ c, (c = a ∨ c = b) → c ≤ a → c ≤ b → post (nI c)) : wpX_lesserOf post (kc, ls, sc, ac, me, on, pa, fi, la, ki, sk, hi, km, ka, kn, kb, kf) (nI a) (nI b) := pk_le b a (fun g => h b (Or.inr rfl) g (Nat.le_refl _)) (fun g => h a (Or.inl rfl) (Nat.le_refl _) (by omega))
theorem wu_xhit0 {w : Nat} {p1 p2 p3 o n : Int32} (hw : w < 8) (hz : on w = 0 ∨ ¬ pa w = 0) {post : Int32 → Prop} (hp : post 0) : wpX_isHit post (kc, ls, sc, ac, me, on, pa, fi, la, ki, sk, hi, km, ka, kn, kb, kf) (nI w) p1 p2 p3 o n := by
  unfold wpX_isHit
  refine wu_xawake hw (fun _ => br_t rfl hp) (fun _ _ => br_t rfl hp) (fun h1 h2 => ?_)
  rcases hz with z | z
  · exact absurd z h1
  · exact absurd h2 z
theorem wu_xhit {w a s f l : Nat} {p3 o n : Int32} (hw : w < 8) (hs1 : 1 ≤ s) (hs : a + s ≤ 40) (hl1 : 1 ≤ l) (hl : f + l ≤ 40) (h1 : ¬ on w = 0) (h2 : pa w = 0) (hf : fi w = nI f) (hla : la w = nI (f + l - 1)) {post : Int32 → Prop} (hN : ¬ (f < a + s ∧ a < f + l) → post 0)
    (hT : f < a + s → a < f + l → (ki w = 1 ∧ (p3 = 0 → post 1) ∧ (¬ p3 = 0 → post 0)) ∨ (ki w = 2 ∧ (p3 = 0 ∨ p3 = 1) ∧ post p3) ∨ (ki w = 3 ∧ post 1) ∨ (ki w = 4 ∧ ((∀ j, j < s → f ≤ a + j → a + j < f + l → wu_byU o j = wu_byU n j) → post 0) ∧ ((∃ j, j < s ∧ f ≤ a + j ∧ a + j < f + l ∧ wu_byU o j ≠ wu_byU n j) → post 1))) :
    wpX_isHit post (kc, ls, sc, ac, me, on, pa, fi, la, ki, sk, hi, km, ka, kn, kb, kf) (nI w) (nI a) (nI s) p3 o n := by
  have hc := nI_clamp (n := w) (by omega)
  have hv := vp_in_nI (N := 8) hw (by omega)
  unfold wpX_isHit
  dsimp only
  rw [hc, hf, hla, nI_add, show nI (a + s) - 1 = nI (a + s - 1) from pk_sub (b := 1) (by omega)]
  refine wu_xawake hw (fun z => absurd z h1) (fun _ z => absurd h2 z) (fun _ _ => br_f (by decide) ⟨hv, ?_⟩)
  refine wu_xgt (by omega) (by omega) (fun c c1 c2 c3 => ⟨hv, ?_⟩)
  refine wu_xls (by omega) (by omega) (fun e e1 e2 e3 => ?_)
  refine pk_le c e (fun g => ⟨hv, ?_⟩) (fun g => hN (by omega))
  rw [pk_sub c2, pk_sub (show a ≤ e by omega)]
  intro k hk
  rcases hT (by omega) (by omega) with ⟨q, t1, t2⟩ | ⟨q, t1, t2⟩ | ⟨q, t1⟩ | ⟨q, t1, t2⟩
  · rw [q] at hk; subst hk
    exact br_f (by decide) (br_f (by decide) (br_t rfl (br_c t1 t2)))
  · rw [q] at hk; subst hk
    refine br_f (by decide) (br_f (by decide) (br_f (by decide) (br_t rfl ⟨?_, t2⟩)))
    rcases t1 with t | t
    · rw [t]; exact wu_nb0
    · rw [t]; exact wu_nb1
  · rw [q] at hk; subst hk
    exact br_f (by decide) (br_f (by decide) (br_f (by decide) (br_f (by decide) (br_t rfl t1))))
  · rw [q] at hk; subst hk
    refine br_f (by decide) (br_t (by decide) (wu_xdif (by omega) (by omega) (fun h => ⟨wu_nb0, t1 (fun j g1 g2 g3 => h j (by omega) (by omega))⟩) (fun h => ⟨wu_nb1, t2 ?_⟩)))
    obtain ⟨j, g1, g2, g3⟩ := h
    exact ⟨j, by omega, by omega, by omega, g3⟩
end
