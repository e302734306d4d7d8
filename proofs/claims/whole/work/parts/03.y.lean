section
variable {kc sc ac : Int32} {me ol on fi ln ki pa sk hi ms ma mn mb mf : Nat → Int32}
theorem wu_yin {w x f l : Nat} (hw : w < 8) (hx : x < 1000) (hl : f + l ≤ 40) (hf : fi w = nI f) (hln : ln w = nI l) {post : Int32 → Prop} (h0 : ¬ (f ≤ x ∧ x < f + l) → post 0) (h1 : f ≤ x → x < f + l → post 1) : wpY_inRange post (ac, sc, kc, me, ol, on, fi, ln, ki, pa, sk, hi, ms, ma, mn, mb, mf) (nI w) (nI x) := by
  have hc := nI_clamp (n := w) (by omega)
  have hv := vp_in_nI (N := 8) hw (by omega)
  unfold wpY_inRange
  dsimp only
  rw [hc, hf, hln]
  exact ⟨hv, pk_lt x f (fun h => h0 (by omega)) (fun h => ⟨hv, hv, pk_le (f + l) x (fun g => h0 (by omega)) (fun g => h1 h g) (nI_add f l)⟩)⟩
theorem wu_yhit29 {w a s f l : Nat} {x4 : Int32} (hw : w < 8) (hs : a + s ≤ 40) (hl : f + l ≤ 40) (hf : fi w = nI f) (hln : ln w = nI l) (post : Int32 → Prop)
    (K : ∀ x5 x6 : Int32, (x5 = 0 ∨ x5 = 1) → (x5 = 0 ↔ ∀ j, j < s → ¬ (f ≤ a + j ∧ a + j < f + l)) → (x6 = 0 ↔ ∀ j, j < s → f ≤ a + j → a + j < f + l → me (a + j) = ol (a + j)) → wY_hit_83 post (nI w) x4 x5 x6 ac sc kc me ol on fi ln ki pa sk hi ms ma mn mb mf) :
    ∀ d i, i + d = s → ∀ x5 x6 : Int32, (x5 = 0 ∨ x5 = 1) → (x5 = 0 ↔ ∀ j, j < i → ¬ (f ≤ a + j ∧ a + j < f + l)) → (x6 = 0 ↔ ∀ j, j < i → f ≤ a + j → a + j < f + l → me (a + j) = ol (a + j)) → wY_hit_29 post (nI w) (nI a) (nI s) x4 ac sc kc me ol on fi ln ki pa sk hi ms ma mn mb mf (d + 1) x5 x6 (nI (a + i)) := by
  intro d
  induction d with
  | zero =>
    intro i hi x5 x6 k0 k1 k2
    have e : i = s := by omega
    subst e
    exact br_t (by rw [nI_add]; exact nI_le (Nat.le_refl _) (by omega)) (K x5 x6 k0 k1 k2)
  | succ d ih =>
    intro i hi x5 x6 k0 k1 k2
    have hc := nI_clamp (n := a + i) (by omega)
    have hv := vp_in_nI (n := a + i) (N := 40) (by omega) (by omega)
    refine br_f (by rw [nI_add]; exact nI_ge (by omega) (by omega)) (br_f (nI_ge (b := 40) (by omega) (by decide)) ?_)
    refine wu_yin hw (by omega) hl hf hln (fun g => br_t rfl (nm_r (nI_1 (a + i)) (ih (i + 1) (by omega) x5 x6 k0 ?_ ?_))) (fun g1 g2 => br_f (by decide) ⟨hv, hv, ?_⟩)
    · constructor
      · intro z j hj
        by_cases ej : j = i
        · rw [ej]; exact g
        · exact k1.mp z j (by omega)
      · intro z
        exact k1.mpr (fun j hj => z j (by omega))
    · constructor
      · intro z j hj q1 q2
        by_cases ej : j = i
        · rw [ej] at q1 q2; exact absurd ⟨q1, q2⟩ g
        · exact k2.mp z j (by omega) q1 q2
      · intro z
        exact k2.mpr (fun j hj => z j (by omega))
    · rw [hc]
      have t1 : (1 : Int32) = 0 ↔ ∀ j, j < i + 1 → ¬ (f ≤ a + j ∧ a + j < f + l) := by
        constructor
        · intro z; exact absurd z (by decide)
        · intro z; exact absurd ⟨g1, g2⟩ (z i (by omega))
      refine br_c (fun q => nm_r (nI_1 (a + i)) (ih (i + 1) (by omega) 1 x6 (Or.inr rfl) t1 ?_)) (fun q => nm_r (nI_1 (a + i)) (ih (i + 1) (by omega) 1 1 (Or.inr rfl) t1 ?_))
      · constructor
        · intro z j hj q1 q2
          by_cases ej : j = i
          · rw [ej]; exact q
          · exact k2.mp z j (by omega) q1 q2
        · intro z
          exact k2.mpr (fun j hj => z j (by omega))
      · constructor
        · intro z; exact absurd z (by decide)
        · intro z; exact absurd (z i (by omega) g1 g2) q
theorem wu_yhit0 {w : Nat} {p1 p2 p3 : Int32} (hw : w < 8) (hz : on w = 0 ∨ ¬ pa w = 0) {post : Int32 → Prop} (hp : post 0) : wpY_hit post (ac, sc, kc, me, ol, on, fi, ln, ki, pa, sk, hi, ms, ma, mn, mb, mf) (nI w) p1 p2 p3 := by
  have hc := nI_clamp (n := w) (by omega)
  have hv := vp_in_nI (N := 8) hw (by omega)
  unfold wpY_hit
  dsimp only
  rw [hc]
  by_cases h : on w = 0
  · exact ⟨hv, br_t h hp⟩
  · exact ⟨hv, br_f h ⟨hv, br_f (hz.resolve_left h) hp⟩⟩
theorem wu_yhit {w a s f l : Nat} {p3 : Int32} (hw : w < 8) (hs : a + s ≤ 40) (hl : f + l ≤ 40) (h1 : ¬ on w = 0) (h2 : pa w = 0) (hf : fi w = nI f) (hln : ln w = nI l) {post : Int32 → Prop}
    (hk : ki w = 1 ∨ ki w = 2 ∨ ki w = 3 ∨ ki w = 4)
    (hN : (∀ j, j < s → ¬ (f ≤ a + j ∧ a + j < f + l)) → post 0)
    (hT : (¬ ∀ j, j < s → ¬ (f ≤ a + j ∧ a + j < f + l)) → (ki w = 1 → p3 = 0 → post 1) ∧ (ki w = 1 → ¬ p3 = 0 → post 0) ∧ (ki w = 2 → p3 = 0 → post 0) ∧ (ki w = 2 → ¬ p3 = 0 → post 1) ∧ (ki w = 3 → post 1) ∧ (ki w = 4 → (∀ j, j < s → f ≤ a + j → a + j < f + l → me (a + j) = ol (a + j)) → post 0) ∧ (ki w = 4 → p3 = 0 → post 0) ∧ (ki w = 4 → ¬ p3 = 0 → (¬ ∀ j, j < s → f ≤ a + j → a + j < f + l → me (a + j) = ol (a + j)) → post 1)) :
    wpY_hit post (ac, sc, kc, me, ol, on, fi, ln, ki, pa, sk, hi, ms, ma, mn, mb, mf) (nI w) (nI a) (nI s) p3 := by
  have hc := nI_clamp (n := w) (by omega)
  have hv := vp_in_nI (N := 8) hw (by omega)
  have hq : wpY_hit post (ac, sc, kc, me, ol, on, fi, ln, ki, pa, sk, hi, ms, ma, mn, mb, mf) (nI w) (nI a) (nI s) p3 = (vp_in (nI w) 8 ∧ ((on (nI w).toNatClampNeg = 0 → post 0) ∧ (¬ on (nI w).toNatClampNeg = 0 → (vp_in (nI w) 8 ∧ ((pa (nI w).toNatClampNeg = 0 → ∃ n29 : Nat, wY_hit_29 post (nI w) (nI a) (nI s) p3 ac sc kc me ol on fi ln ki pa sk hi ms ma mn mb mf n29 0 0 (nI a)) ∧ (¬ pa (nI w).toNatClampNeg = 0 → post 0)))))) := rfl
  rw [hq, hc]
  refine ⟨hv, br_f h1 ⟨hv, br_t h2 ⟨s + 1, ?_⟩⟩⟩
  refine wu_yhit29 hw hs hl hf hln post (fun x5 x6 k0 k1 k2 => ?_) s 0 (by omega) 0 0 (Or.inl rfl) ⟨fun _ j hj => by omega, fun _ => rfl⟩ ⟨fun _ j hj => by omega, fun _ => rfl⟩
  unfold wY_hit_83
  rw [hc]
  by_cases hx : x5 = 0
  · have hn := hN (k1.mp hx)
    have hx6 : x6 = 0 := k2.mpr (fun j hj q1 q2 => absurd ⟨q1, q2⟩ (k1.mp hx j hj))
    refine ⟨hv, br_c (fun _ => br_t hx hn) (fun _ => ⟨hv, br_c (fun _ => br_t hx hn) (fun _ => ⟨hv, br_c (fun _ => br_t hx6 hn) (fun _ => ⟨?_, ?_⟩)⟩)⟩)⟩
    · rw [hx]; exact wu_nb0
    · rw [hx]; exact hn
  · obtain ⟨t1, t2, t3, t4, t5, t6, t7, t8⟩ := hT (fun z => hx (k1.mpr z))
    refine ⟨hv, br_c (fun q => br_f hx (br_c (t1 q) (t2 q))) (fun q1 => ⟨hv, br_c (fun q => br_f hx (br_c (t3 q) (t4 q))) (fun q2 => ⟨hv, br_c (fun q => br_c (fun z => t6 q (k2.mp z)) (fun z => br_c (t7 q) (fun y => t8 q y (fun c => z (k2.mpr c))))) (fun q4 => ?_)⟩)⟩)⟩
    have e1 : x5 = 1 := k0.resolve_left hx
    have e3 : ki w = 3 := (hk.resolve_left q1).resolve_left q2 |>.resolve_right q4
    rw [e1]
    exact ⟨wu_nb1, t5 e3⟩
theorem wu_ynum6 {a s : Nat} {x3 : Int32} {m : Nat → Int32} (hs : a + s ≤ 40) (h0 : x3 = 0 → m = ol) (h1 : ¬ x3 = 0 → m = me) (post : Int32 → Prop) (hp : post (wu_num m a s)) : ∀ d i, i + d = s → wY_number_6 post (nI a) (nI s) x3 ac sc kc me ol on fi ln ki pa sk hi ms ma mn mb mf (d + 1) (wu_num m a i) (nI i) := by
  intro d
  induction d with
  | zero =>
    intro i hi
    have e : i = s := by omega
    subst e
    exact br_t (nI_le (Nat.le_refl _) (by omega)) hp
  | succ d ih =>
    intro i hi
    have hv := pk_in (a + i) 40 (by omega) (nI_add a i)
    refine br_f (nI_ge (by omega) (by omega)) (br_c (fun z => ⟨hv, ?_⟩) (fun z => ⟨hv, ?_⟩))
    · refine nm_r (e' := wu_num m a (i + 1)) ?_ (nm_r (nI_1 i) (ih (i + 1) (by omega)))
      rw [nI_add, nI_clamp (by omega), ← h0 z]; rfl
    · refine nm_r (e' := wu_num m a (i + 1)) ?_ (nm_r (nI_1 i) (ih (i + 1) (by omega)))
      rw [nI_add, nI_clamp (by omega), ← h1 z]; rfl
theorem wu_ynum1 {a s : Nat} (hs : a + s ≤ 40) {post : Int32 → Prop} (hp : post (wu_num me a s)) : wpY_number post (ac, sc, kc, me, ol, on, fi, ln, ki, pa, sk, hi, ms, ma, mn, mb, mf) (nI a) (nI s) 1 := ⟨s + 1, wu_ynum6 hs (fun z => absurd z (by decide)) (fun _ => rfl) post hp s 0 (by omega)⟩
theorem wu_ynum0 {a s : Nat} (hs : a + s ≤ 40) {post : Int32 → Prop} (hp : post (wu_num ol a s)) : wpY_number post (ac, sc, kc, me, ol, on, fi, ln, ki, pa, sk, hi, ms, ma, mn, mb, mf) (nI a) (nI s) 0 := ⟨s + 1, wu_ynum6 hs (fun _ => rfl) (fun z => absurd rfl z) post hp s 0 (by omega)⟩
end
