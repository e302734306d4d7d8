section
theorem pk_us {f : Nat → Int32} {k : Nat} {x : Int32} : upd f k x k = x := if_pos rfl
theorem pk_un {f : Nat → Int32} {k j : Nat} {x : Int32} (h : j ≠ k) : upd f k x j = f j := if_neg h
theorem pk_sub {a b : Nat} (h : b ≤ a) : nI a - nI b = nI (a - b) := by
  obtain ⟨c, rfl⟩ : ∃ c, a = c + b := ⟨a - b, by omega⟩
  rw [← nI_add, Int32.add_sub_cancel, Nat.add_sub_cancel]
theorem pk_m1 (n : Nat) : nI (n + 1) + (-1) = nI n := by
  rw [← nI_1, Int32.add_assoc, show (1 : Int32) + (-1) = 0 from rfl, Int32.add_zero]
theorem pk_mul (a b : Nat) : nI a * nI b = nI (a * b) := (Int32.ofNat_mul a b).symm
theorem pk_ix (x : Int32) {n : Nat} (hn : n < 2 ^ 31) : x < 0 ∨ nI n ≤ x ∨ ∃ j : Nat, j < n ∧ x = nI j := by
  by_cases h : x < 0
  · exact Or.inl h
  · obtain ⟨j, hj, rfl⟩ := nI_of h
    by_cases h2 : j < n
    · exact Or.inr (Or.inr ⟨j, h2, rfl⟩)
    · exact Or.inr (Or.inl (nI_le (by omega) hj))
theorem pk_le {x y : Int32} {A B : Prop} (a b : Nat) (f : a ≤ b → A) (g : b < a → B) (hx : x = nI a := by rfl) (hy : y = nI b := by rfl) (ha : a < 2 ^ 31 := by omega) (hb : b < 2 ^ 31 := by omega) : (x ≤ y → A) ∧ (¬ x ≤ y → B) := by
  subst hx hy
  rw [nI_leI ha hb]
  exact ⟨f, fun z => g (by omega)⟩
theorem pk_lt {x y : Int32} {A B : Prop} (a b : Nat) (f : a < b → A) (g : b ≤ a → B) (hx : x = nI a := by rfl) (hy : y = nI b := by rfl) (ha : a < 2 ^ 31 := by omega) (hb : b < 2 ^ 31 := by omega) : (x < y → A) ∧ (¬ x < y → B) := by
  subst hx hy
  rw [nI_ltI ha hb]
  exact ⟨f, fun z => g (by omega)⟩
theorem pk_eq {x y : Int32} {A B : Prop} (a b : Nat) (f : a = b → A) (g : a ≠ b → B) (hx : x = nI a := by rfl) (hy : y = nI b := by rfl) (ha : a < 2 ^ 31 := by omega) (hb : b < 2 ^ 31 := by omega) : (x = y → A) ∧ (¬ x = y → B) := by
  subst hx hy
  rw [nI_eq ha hb]
  exact ⟨f, g⟩
theorem pk_in {x : Int32} (n N : Nat) (h : n < N) (hx : x = nI n := by rfl) (hN : N < 2 ^ 31 := by omega) : vp_in x N := by
  subst hx
  exact vp_in_nI h hN
theorem pk_cl {x : Int32} (n : Nat) (hx : x = nI n := by rfl) (h : n < 2 ^ 31 := by omega) : x.toNatClampNeg = n := by
  subst hx
  exact nI_clamp h
def bt (x : Int32) (i : Nat) : Bool := x.toBitVec.getLsbD i
theorem b_ext {x y : Int32} (h : ∀ i, i < 32 → bt x i = bt y i) : x = y := Int32.toBitVec_inj.mp (BitVec.eq_of_getLsbD_eq (fun i hi => h i hi))
theorem b_or (x y : Int32) (i : Nat) : bt (x ||| y) i = (bt x i || bt y i) := by unfold bt; rw [Int32.toBitVec_or, BitVec.getLsbD_or]
theorem b_and (x y : Int32) (i : Nat) : bt (x &&& y) i = (bt x i && bt y i) := by unfold bt; rw [Int32.toBitVec_and, BitVec.getLsbD_and]
theorem b_xor (x y : Int32) (i : Nat) : bt (x ^^^ y) i = (bt x i ^^ bt y i) := by unfold bt; rw [Int32.toBitVec_xor, BitVec.getLsbD_xor]
theorem b_big {x : Int32} {i : Nat} (h : 32 ≤ i) : bt x i = false := BitVec.getLsbD_of_ge _ _ h
theorem b_255 (i : Nat) : bt 255 i = decide (i < 8) := by
  rcases Nat.lt_or_ge i 32 with h | h
  · exact (by decide +kernel : ∀ i, i < 32 → bt 255 i = decide (i < 8)) i h
  · rw [b_big h, decide_eq_false (by omega)]
theorem b_65535 (i : Nat) : bt 65535 i = decide (i < 16) := by
  rcases Nat.lt_or_ge i 32 with h | h
  · exact (by decide +kernel : ∀ i, i < 32 → bt 65535 i = decide (i < 16)) i h
  · rw [b_big h, decide_eq_false (by omega)]
theorem b_m1 : ∀ i, i < 32 → bt (-1) i = true := by decide +kernel
theorem b_0 (i : Nat) : bt 0 i = false := BitVec.getLsbD_zero
theorem s_l : ∀ n, n < 32 → ((nI n &&& 31).toBitVec.smod 32).toNat = n := by decide +kernel
theorem s_u : ∀ n, n < 32 → (((nI n).toUInt32 &&& Int32.toUInt32 31).toBitVec % 32).toNat = n := by decide +kernel
theorem b_shl (n : Nat) (hn : n < 32) (x : Int32) {i : Nat} (hi : i < 32) : bt (x <<< (nI n &&& 31)) i = (decide (n ≤ i) && bt x (i - n)) := by
  unfold bt
  rw [Int32.toBitVec_shiftLeft]
  show (x.toBitVec <<< ((nI n &&& 31).toBitVec.smod 32).toNat).getLsbD i = _
  rw [s_l n hn, BitVec.getLsbD_shiftLeft]
  rcases Nat.lt_or_ge i n with h | h
  · simp [h, Nat.not_le.mpr h]
  · simp [hi, h, Nat.not_lt.mpr h]
theorem b_ushr (n : Nat) (hn : n < 32) (x : Int32) (i : Nat) : bt ((x.toUInt32 >>> ((nI n).toUInt32 &&& Int32.toUInt32 31)).toInt32) i = bt x (n + i) := by
  show (x.toUInt32 >>> ((nI n).toUInt32 &&& Int32.toUInt32 31)).toBitVec.getLsbD i = x.toUInt32.toBitVec.getLsbD (n + i)
  rw [UInt32.toBitVec_shiftRight]
  show (x.toUInt32.toBitVec >>> (((nI n).toUInt32 &&& Int32.toUInt32 31).toBitVec % 32).toNat).getLsbD i = _
  rw [s_u n hn, BitVec.getLsbD_ushiftRight]
theorem b_sshr (n : Nat) (hn : n < 32) (x : Int32) {i : Nat} (hi : i < 32) : bt (x >>> (nI n &&& 31)) i = if n + i < 32 then bt x (n + i) else bt x 31 := by
  unfold bt
  rw [Int32.toBitVec_shiftRight]
  show (x.toBitVec.sshiftRight ((nI n &&& 31).toBitVec.smod 32).toNat).getLsbD i = _
  rw [s_l n hn, BitVec.getLsbD_sshiftRight, BitVec.msb_eq_getLsbD_last]
  simp [hi]
/-- the number of n bytes at a -/
def wu_num (m : Nat → Int32) (a : Nat) : Nat → Int32
  | 0 => 0
  | n + 1 => wu_num m a n ||| (m (a + n) <<< ((8 * nI n) &&& 31))
def wu_byS (v : Int32) (n : Nat) : Int32 := (v >>> ((8 * nI n) &&& 31)) &&& 255
def wu_byU (v : Int32) (n : Nat) : Int32 := ((v.toUInt32 >>> ((8 * nI n).toUInt32 &&& Int32.toUInt32 31)).toInt32) &&& 255
/-- the memory after the low n bytes of v have been written at a -/
def wu_put (m : Nat → Int32) (a : Nat) (v : Int32) : Nat → (Nat → Int32)
  | 0 => m
  | n + 1 => upd (wu_put m a v n) (a + n) (wu_byS v n)
def wu_Byt (m : Nat → Int32) : Prop := ∀ j i, 8 ≤ i → bt (m j) i = false
theorem wu_8 (n : Nat) : (8 : Int32) * nI n = nI (8 * n) := by
  rw [← pk_mul]; rfl
theorem wu_su {v : Int32} {n : Nat} (h : n < 4) : wu_byU v n = wu_byS v n := by
  unfold wu_byU wu_byS
  apply b_ext
  intro i hi
  rw [b_and, b_and, wu_8, b_ushr (8 * n) (by omega), b_sshr (8 * n) (by omega) v hi, b_255]
  by_cases h8 : i < 8
  · rw [if_pos (by omega)]
  · simp [h8]
theorem wu_su1 {v : Int32} {n : Nat} (h : n < 8) : ((v.toUInt32 >>> ((nI n).toUInt32 &&& Int32.toUInt32 31)).toInt32) &&& 1 = (v >>> (nI n &&& 31)) &&& 1 := by
  apply b_ext
  intro i hi
  rw [b_and, b_and, b_ushr n (by omega), b_sshr n (by omega) v hi]
  by_cases h8 : n + i < 32
  · rw [if_pos h8]
  · have e : bt 1 i = false := (by decide +kernel : ∀ i, i < 32 → 1 ≤ i → bt 1 i = false) i hi (by omega)
    rw [e, Bool.and_false, Bool.and_false]
theorem wu_bybt (v : Int32) (n i : Nat) (h : 8 ≤ i) : bt (wu_byS v n) i = false := by
  unfold wu_byS
  rw [b_and, b_255, decide_eq_false (by omega), Bool.and_false]
theorem wu_putB {m : Nat → Int32} {a : Nat} {v : Int32} (h : wu_Byt m) : ∀ n, wu_Byt (wu_put m a v n)
  | 0 => h
  | n + 1 => by
    intro j i hi
    show bt (upd _ _ _ j) i = false
    by_cases e : j = a + n
    · rw [e, pk_us]; exact wu_bybt v n i hi
    · rw [pk_un e]; exact wu_putB h n j i hi
theorem wu_numbt {m : Nat → Int32} {a : Nat} (h : wu_Byt m) : ∀ n, n ≤ 4 → ∀ j, j < 32 → bt (wu_num m a n) j = (decide (j < 8 * n) && bt (m (a + j / 8)) (j % 8))
  | 0, _ => by
    intro j _
    show bt 0 j = _
    rw [b_0, decide_eq_false (by omega), Bool.false_and]
  | n + 1, hn => by
    intro j hj
    show bt (wu_num m a n ||| (m (a + n) <<< ((8 * nI n) &&& 31))) j = _
    rw [b_or, wu_8, b_shl (8 * n) (by omega) _ hj, wu_numbt h n (by omega) j hj]
    by_cases h1 : j < 8 * n
    · rw [decide_eq_true h1, decide_eq_false (by omega : ¬ 8 * n ≤ j), decide_eq_true (by omega : j < 8 * (n + 1)), Bool.false_and, Bool.or_false]
    · rw [decide_eq_false h1, decide_eq_true (by omega : 8 * n ≤ j), Bool.false_and, Bool.false_or, Bool.true_and]
      by_cases h2 : j < 8 * (n + 1)
      · rw [decide_eq_true h2, Bool.true_and, show j / 8 = n by omega, show j % 8 = j - 8 * n by omega]
      · rw [decide_eq_false h2, Bool.false_and]
        exact h _ _ (by omega)
theorem wu_byn {m : Nat → Int32} {a n i : Nat} (h : wu_Byt m) (hn : n ≤ 4) (hi : i < n) : wu_byU (wu_num m a n) i = m (a + i) := by
  apply b_ext
  intro j hj
  unfold wu_byU
  rw [b_and, wu_8, b_ushr (8 * i) (by omega), b_255]
  by_cases h8 : j < 8
  · rw [wu_numbt h n hn _ (by omega), decide_eq_true h8, decide_eq_true (by omega : 8 * i + j < 8 * n), Bool.true_and, Bool.and_true, show (8 * i + j) / 8 = i by omega, show (8 * i + j) % 8 = j by omega]
  · rw [decide_eq_false h8, Bool.and_false]
    exact (h _ _ (by omega)).symm
theorem wu_numc {m m' : Nat → Int32} {a : Nat} : ∀ n, (∀ i, i < n → m (a + i) = m' (a + i)) → wu_num m a n = wu_num m' a n
  | 0, _ => rfl
  | n + 1, h => by
    show wu_num m a n ||| _ = wu_num m' a n ||| _
    rw [wu_numc n (fun i hi => h i (by omega)), h n (by omega)]
end
section
section
variable {kc ls sc ac : Int32} {me on pa fi la ki sk hi km ka kn kb kf : Nat → Int32}
theorem wu_nb0 : narrow .boolean (.int 0) = .int 0 := lw_bz_n 0
theorem wu_nb1 : narrow .boolean (.int 1) = .int 1 := lw_bz_n 1
theorem wu_xnum5 {a s : Nat} (hs : a + s ≤ 40) (post : Int32 → Prop) (hp : post (wu_num me a s)) : ∀ d i, i + d = s → wX_numberAt_5 post (nI a) (nI s) kc ls sc ac me on pa fi la ki sk hi km ka kn kb kf (d + 1) (wu_num me a i) (nI i) := by
  intro d
  induction d with
  | zero =>
    intro i hi
    have e : i = s := by omega
    subst e
    exact br_t (nI_le (Nat.le_refl _) (by omega)) hp
  | succ d ih =>
    intro i hi
    refine br_f (nI_ge (by omega) (by omega)) ⟨pk_in (a + i) 40 (by omega) (nI_add a i), ?_⟩
    refine nm_r (e' := wu_num me a (i + 1)) ?_ (nm_r (nI_1 i) (ih (i + 1) (by omega)))
    rw [nI_add, nI_clamp (by omega)]; rfl
theorem wu_xnum {a s : Nat} (hs : a + s ≤ 40) {post : Int32 → Prop} (hp : post (wu_num me a s)) : wpX_numberAt post (kc, ls, sc, ac, me, on, pa, fi, la, ki, sk, hi, km, ka, kn, kb, kf) (nI a) (nI s) := ⟨s + 1, wu_xnum5 hs post hp s 0 (by omega)⟩
theorem wu_byte {v : Int32} {i : Nat} {post : Int32 → Prop} (h : post (wu_byU v i)) : wpX_byteOf post (kc, ls, sc, ac, me, on, pa, fi, la, ki, sk, hi, km, ka, kn, kb, kf) v (nI i) := h
theorem wu_xput3 {a s : Nat} {v : Int32} (hs : a + s ≤ 40) (h4 : s ≤ 4) (post : SX → Prop) (hp : post (kc, ls, sc, ac, wu_put me a v s, on, pa, fi, la, ki, sk, hi, km, ka, kn, kb, kf)) : ∀ d i, i + d = s → wX_putNumber_3 post (nI a) (nI s) v kc ls sc ac (d + 1) (nI i) (wu_put me a v i) on pa fi la ki sk hi km ka kn kb kf := by
  intro d
  induction d with
  | zero =>
    intro i hi
    have e : i = s := by omega
    subst e
    exact br_t (nI_le (Nat.le_refl _) (by omega)) hp
  | succ d ih =>
    intro i hi
    refine br_f (nI_ge (by omega) (by omega)) (wu_byte ?_)
    refine ⟨pk_in (a + i) 40 (by omega) (nI_add a i), ?_⟩
    refine nm_r (e' := wu_put me a v (i + 1)) ?_ (nm_r (nI_1 i) (ih (i + 1) (by omega)))
    rw [nI_add, nI_clamp (by omega), wu_su (by omega)]; rfl
theorem wu_xput {a s : Nat} {v : Int32} (hs : a + s ≤ 40) (h4 : s ≤ 4) {post : SX → Prop} (hp : post (kc, ls, sc, ac, wu_put me a v s, on, pa, fi, la, ki, sk, hi, km, ka, kn, kb, kf)) : wpX_putNumber post (kc, ls, sc, ac, me, on, pa, fi, la, ki, sk, hi, km, ka, kn, kb, kf) (nI a) (nI s) v := ⟨s + 1, wu_xput3 hs h4 post hp s 0 (by omega)⟩
theorem wu_xawake {w : Nat} (hw : w < 8) {post : Int32 → Prop} (h0 : on w = 0 → post 0) (h1 : ¬ on w = 0 → ¬ pa w = 0 → post 0) (h2 : ¬ on w = 0 → pa w = 0 → post 1) : wpX_isAwake post (kc, ls, sc, ac, me, on, pa, fi, la, ki, sk, hi, km, ka, kn, kb, kf) (nI w) := by
  have hc := nI_clamp (n := w) (by omega)
  have hv := vp_in_nI (N := 8) hw (by omega)
  unfold wpX_isAwake
  dsimp only
  rw [hc]
  exact ⟨hv, br_c h0 (fun n => ⟨hv, br_c (h2 n) (h1 n)⟩)⟩
theorem wu_xdif3 {o n : Int32} {e : Nat} (he : e < 100) (post : Int32 → Prop) : ∀ d i, i + d = e + 1 → ((∀ j, i ≤ j → j ≤ e → wu_byU o j = wu_byU n j) → post 0) → ((∃ j, i ≤ j ∧ j ≤ e ∧ wu_byU o j ≠ wu_byU n j) → post 1) → wX_differs_3 post o n (nI e) kc ls sc ac me on pa fi la ki sk hi km ka kn kb kf (d + 1) (nI i) := by
  intro d
  induction d with
  | zero =>
    intro i hi h0 h1
    exact br_t (nI_lt (by omega) (by omega)) (h0 (fun j _ _ => by omega))
  | succ d ih =>
    intro i hi h0 h1
    refine br_f (nI_nlt (by omega) (by omega)) (wu_byte (wu_byte ?_))
    refine br_c (fun hq => nm_r (nI_1 i) (ih (i + 1) (by omega) (fun h => h0 (fun j g1 g2 => ?_)) (fun h => h1 ?_))) (fun hq => h1 ⟨i, by omega, by omega, hq⟩)
    · by_cases ej : j = i
      · rw [ej]; exact hq
      · exact h j (by omega) g2
    · obtain ⟨j, g1, g2, g3⟩ := h
      exact ⟨j, by omega, g2, g3⟩
theorem wu_xdif {o n : Int32} {i e : Nat} (he : e < 100) (hie : i ≤ e + 1) {post : Int32 → Prop} (h0 : (∀ j, i ≤ j → j ≤ e → wu_byU o j = wu_byU n j) → post 0) (h1 : (∃ j, i ≤ j ∧ j ≤ e ∧ wu_byU o j ≠ wu_byU n j) → post 1) : wpX_differs post (kc, ls, sc, ac, me, on, pa, fi, la, ki, sk, hi, km, ka, kn, kb, kf) o n (nI i) (nI e) := ⟨e + 1 - i + 1, wu_xdif3 he post (e + 1 - i) i (by omega) h0 h1⟩
theorem wu_xgt {a b : Nat} (ha : a < 1000) (hb : b < 1000) {post : Int32 → Prop} (h : ∀ c, (c = a ∨ c = b) → a ≤ c → b ≤ c → post (nI c)) : wpX_greaterOf post (kc, ls, sc, ac, me, on, pa, fi, la, ki, sk, hi, km, ka, kn, kb, kf) (nI a) (nI b) := pk_le a b (fun g => h b (Or.inr rfl) g (Nat.le_refl _)) (fun g => h a (Or.inl rfl) (Nat.le_refl _) (by omega))
theorem wu_xls {a b : Nat} (ha : a < 1000) (hb : b < 1000) {post : Int32 → Prop} (h : ∀ c, (c = a ∨ c = b) → c ≤ a → c ≤ b → post (nI c)) : wpX_lesserOf post (kc, ls, sc, ac, me, on, pa, fi, la, ki, sk, hi, km, ka, kn, kb, kf) (nI a) (nI b) := pk_le b a (fun g => h b (Or.inr rfl) g (Nat.le_refl _)) (fun g => h a (Or.inl rfl) (Nat.le_refl _) (by omega))
theorem wu_xhit0 {w : Nat} {p1 p2 p3 o n : Int32} (hw : w < 8) (hz : on w = 0 ∨ ¬ pa w = 0) {post : Int32 → Prop} (hp : post 0) : wpX_isHit post (kc, ls, sc, ac, me, on, pa, fi, la, ki, sk, hi, km, ka, kn, kb, kf) (nI w) p1 p2 p3 o n := by
  unfold wpX_isHit
  refine wu_xawake hw (fun _ => br_t rfl hp) (fun _ _ => br_t rfl hp) (fun h1 h2 => ?_)
  rcases hz with z | z
  · exact absurd z h1
  · exact absurd h2 z
theorem wu_xhit {w a s f l : Nat} {p3 o n : Int32} (hw : w < 8) (hs1 : 1 ≤ s) (hs : a + s ≤ 40) (hl1 : 1 ≤ l) (hl : f + l ≤ 40) (h1 : ¬ on w = 0) (h2 : pa w = 0) (hf : fi w = nI f) (hla : la w = nI (f + l - 1)) {post : Int32 → Prop} (hN : ¬ (f < a + s ∧ a < f + l) → post 0)
    (hT : f < a + s → a < f + l → (ki w = 1 ∧ (p3 = 0 → post 1) ∧ (¬ p3 = 0 → post 0)) ∨ (ki w = 2 ∧ (p3 = 0 ∨ p3 = 1) ∧ post p3) ∨ (ki w = 3 ∧ post 1) ∨ (ki w = 4 ∧ ((∀ j, j < s → f ≤ a + j → a + j < f + l → wu_byU o j = wu_byU n j) → post 0) ∧ ((∃ j, j < s ∧ f ≤ a + j ∧ a + j < f + l ∧ wu_byU o j ≠ wu_byU n j) → post 1))) :
    wpX_isHit post (kc, ls, sc, ac, me, on, pa, fi, la, ki, sk, hi, km, ka, kn, kb, kf) (nI w) (nI a) (nI s) p3 o n := by
  have hc := nI_clamp (n := w) (by omega)
  have hv := vp_in_nI (N := 8) hw (by omega)
  unfold wpX_isHit
  dsimp only
  rw [hc, hf, hla, nI_add, show nI (a + s) - 1 = nI (a + s - 1) from pk_sub (b := 1) (by omega)]
  refine wu_xawake hw (fun z => absurd z h1) (fun _ z => absurd h2 z) (fun _ _ => br_f (by decide) ⟨hv, ?_⟩)
  refine wu_xgt (by omega) (by omega) (fun c c1 c2 c3 => ⟨hv, ?_⟩)
  refine wu_xls (by omega) (by omega) (fun e e1 e2 e3 => ?_)
  refine pk_le c e (fun g => ⟨hv, ?_⟩) (fun g => hN (by omega))
  rw [pk_sub c2, pk_sub (show a ≤ e by omega)]
  intro k hk
  rcases hT (by omega) (by omega) with ⟨q, t1, t2⟩ | ⟨q, t1, t2⟩ | ⟨q, t1⟩ | ⟨q, t1, t2⟩
  · rw [q] at hk; subst hk
    exact br_f (by decide) (br_f (by decide) (br_t rfl (br_c t1 t2)))
  · rw [q] at hk; subst hk
    refine br_f (by decide) (br_f (by decide) (br_f (by decide) (br_t rfl ⟨?_, t2⟩)))
    rcases t1 with t | t
    · rw [t]; exact wu_nb0
    · rw [t]; exact wu_nb1
  · rw [q] at hk; subst hk
    exact br_f (by decide) (br_f (by decide) (br_f (by decide) (br_f (by decide) (br_t rfl t1))))
  · rw [q] at hk; subst hk
    refine br_f (by decide) (br_t (by decide) (wu_xdif (by omega) (by omega) (fun h => ⟨wu_nb0, t1 (fun j g1 g2 g3 => h j (by omega) (by omega))⟩) (fun h => ⟨wu_nb1, t2 ?_⟩)))
    obtain ⟨j, g1, g2, g3⟩ := h
    exact ⟨j, by omega, by omega, by omega, g3⟩
end
end
section
section
variable {kc sc ac : Int32} {me ol on fi ln ki pa sk hi ms ma mn mb mf : Nat → Int32}
theorem wu_yin {w x f l : Nat} (hw : w < 8) (hx : x < 1000) (hl : f + l ≤ 40) (hf : fi w = nI f) (hln : ln w = nI l) {post : Int32 → Prop} (h0 : ¬ (f ≤ x ∧ x < f + l) → post 0) (h1 : f ≤ x → x < f + l → post 1) : wpY_inRange post (ac, sc, kc, me, ol, on, fi, ln, ki, pa, sk, hi, ms, ma, mn, mb, mf) (nI w) (nI x) := by
  have hc := nI_clamp (n := w) (by omega)
  have hv := vp_in_nI (N := 8) hw (by omega)
  unfold wpY_inRange
  dsimp only
  rw [hc, hf, hln]
  exact ⟨hv, pk_lt x f (fun h => h0 (by omega)) (fun h => ⟨hv, hv, pk_le (f + l) x (fun g => h0 (by omega)) (fun g => h1 h g) (nI_add f l)⟩)⟩
theorem wu_yhit29 {w a s f l : Nat} {x4 : Int32} (hw : w < 8) (hs : a + s ≤ 40) (hl : f + l ≤ 40) (hf : fi w = nI f) (hln : ln w = nI l) (post : Int32 → Prop)
    (K : ∀ x5 x6 : Int32, (x5 = 0 ∨ x5 = 1) → (x5 = 0 ↔ ∀ j, j < s → ¬ (f ≤ a + j ∧ a + j < f + l)) → (x6 = 0 ↔ ∀ j, j < s → f ≤ a + j → a + j < f + l → me (a + j) = ol (a + j)) → wY_hit_83 post (nI w) x4 x5 x6 ac sc kc me ol on fi ln ki pa sk hi ms ma mn mb mf) :
    ∀ d i, i + d = s → ∀ x5 x6 : Int32, (x5 = 0 ∨ x5 = 1) → (x5 = 0 ↔ ∀ j, j < i → ¬ (f ≤ a + j ∧ a + j < f + l)) → (x6 = 0 ↔ ∀ j, j < i → f ≤ a + j → a + j < f + l → me (a + j) = ol (a + j)) → wY_hit_29 post (nI w) (nI a) (nI s) x4 ac sc kc me ol on fi ln ki pa sk hi ms ma mn mb mf (d + 1) x5 x6 (nI (a + i)) := by
  intro d
  induction d with
  | zero =>
    intro i hi x5 x6 k0 k1 k2
    have e : i = s := by omega
    subst e
    exact br_t (by rw [nI_add]; exact nI_le (Nat.le_refl _) (by omega)) (K x5 x6 k0 k1 k2)
  | succ d ih =>
    intro i hi x5 x6 k0 k1 k2
    have hc := nI_clamp (n := a + i) (by omega)
    have hv := vp_in_nI (n := a + i) (N := 40) (by omega) (by omega)
    refine br_f (by rw [nI_add]; exact nI_ge (by omega) (by omega)) (br_f (nI_ge (b := 40) (by omega) (by decide)) ?_)
    refine wu_yin hw (by omega) hl hf hln (fun g => br_t rfl (nm_r (nI_1 (a + i)) (ih (i + 1) (by omega) x5 x6 k0 ?_ ?_))) (fun g1 g2 => br_f (by decide) ⟨hv, hv, ?_⟩)
    · constructor
      · intro z j hj
        by_cases ej : j = i
        · rw [ej]; exact g
        · exact k1.mp z j (by omega)
      · intro z
        exact k1.mpr (fun j hj => z j (by omega))
    · constructor
      · intro z j hj q1 q2
        by_cases ej : j = i
        · rw [ej] at q1 q2; exact absurd ⟨q1, q2⟩ g
        · exact k2.mp z j (by omega) q1 q2
      · intro z
        exact k2.mpr (fun j hj => z j (by omega))
    · rw [hc]
      have t1 : (1 : Int32) = 0 ↔ ∀ j, j < i + 1 → ¬ (f ≤ a + j ∧ a + j < f + l) := by
        constructor
        · intro z; exact absurd z (by decide)
        · intro z; exact absurd ⟨g1, g2⟩ (z i (by omega))
      refine br_c (fun q => nm_r (nI_1 (a + i)) (ih (i + 1) (by omega) 1 x6 (Or.inr rfl) t1 ?_)) (fun q => nm_r (nI_1 (a + i)) (ih (i + 1) (by omega) 1 1 (Or.inr rfl) t1 ?_))
      · constructor
        · intro z j hj q1 q2
          by_cases ej : j = i
          · rw [ej]; exact q
          · exact k2.mp z j (by omega) q1 q2
        · intro z
          exact k2.mpr (fun j hj => z j (by omega))
      · constructor
        · intro z; exact absurd z (by decide)
        · intro z; exact absurd (z i (by omega) g1 g2) q
theorem wu_yhit0 {w : Nat} {p1 p2 p3 : Int32} (hw : w < 8) (hz : on w = 0 ∨ ¬ pa w = 0) {post : Int32 → Prop} (hp : post 0) : wpY_hit post (ac, sc, kc, me, ol, on, fi, ln, ki, pa, sk, hi, ms, ma, mn, mb, mf) (nI w) p1 p2 p3 := by
  have hc := nI_clamp (n := w) (by omega)
  have hv := vp_in_nI (N := 8) hw (by omega)
  unfold wpY_hit
  dsimp only
  rw [hc]
  by_cases h : on w = 0
  · exact ⟨hv, br_t h hp⟩
  · exact ⟨hv, br_f h ⟨hv, br_f (hz.resolve_left h) hp⟩⟩
theorem wu_yhit {w a s f l : Nat} {p3 : Int32} (hw : w < 8) (hs : a + s ≤ 40) (hl : f + l ≤ 40) (h1 : ¬ on w = 0) (h2 : pa w = 0) (hf : fi w = nI f) (hln : ln w = nI l) {post : Int32 → Prop}
    (hk : ki w = 1 ∨ ki w = 2 ∨ ki w = 3 ∨ ki w = 4)
    (hN : (∀ j, j < s → ¬ (f ≤ a + j ∧ a + j < f + l)) → post 0)
    (hT : (¬ ∀ j, j < s → ¬ (f ≤ a + j ∧ a + j < f + l)) → (ki w = 1 → p3 = 0 → post 1) ∧ (ki w = 1 → ¬ p3 = 0 → post 0) ∧ (ki w = 2 → p3 = 0 → post 0) ∧ (ki w = 2 → ¬ p3 = 0 → post 1) ∧ (ki w = 3 → post 1) ∧ (ki w = 4 → (∀ j, j < s → f ≤ a + j → a + j < f + l → me (a + j) = ol (a + j)) → post 0) ∧ (ki w = 4 → p3 = 0 → post 0) ∧ (ki w = 4 → ¬ p3 = 0 → (¬ ∀ j, j < s → f ≤ a + j → a + j < f + l → me (a + j) = ol (a + j)) → post 1)) :
    wpY_hit post (ac, sc, kc, me, ol, on, fi, ln, ki, pa, sk, hi, ms, ma, mn, mb, mf) (nI w) (nI a) (nI s) p3 := by
  have hc := nI_clamp (n := w) (by omega)
  have hv := vp_in_nI (N := 8) hw (by omega)
  have hq : wpY_hit post (ac, sc, kc, me, ol, on, fi, ln, ki, pa, sk, hi, ms, ma, mn, mb, mf) (nI w) (nI a) (nI s) p3 = (vp_in (nI w) 8 ∧ ((on (nI w).toNatClampNeg = 0 → post 0) ∧ (¬ on (nI w).toNatClampNeg = 0 → (vp_in (nI w) 8 ∧ ((pa (nI w).toNatClampNeg = 0 → ∃ n29 : Nat, wY_hit_29 post (nI w) (nI a) (nI s) p3 ac sc kc me ol on fi ln ki pa sk hi ms ma mn mb mf n29 0 0 (nI a)) ∧ (¬ pa (nI w).toNatClampNeg = 0 → post 0)))))) := rfl
  rw [hq, hc]
  refine ⟨hv, br_f h1 ⟨hv, br_t h2 ⟨s + 1, ?_⟩⟩⟩
  refine wu_yhit29 hw hs hl hf hln post (fun x5 x6 k0 k1 k2 => ?_) s 0 (by omega) 0 0 (Or.inl rfl) ⟨fun _ j hj => by omega, fun _ => rfl⟩ ⟨fun _ j hj => by omega, fun _ => rfl⟩
  unfold wY_hit_83
  rw [hc]
  by_cases hx : x5 = 0
  · have hn := hN (k1.mp hx)
    have hx6 : x6 = 0 := k2.mpr (fun j hj q1 q2 => absurd ⟨q1, q2⟩ (k1.mp hx j hj))
    refine ⟨hv, br_c (fun _ => br_t hx hn) (fun _ => ⟨hv, br_c (fun _ => br_t hx hn) (fun _ => ⟨hv, br_c (fun _ => br_t hx6 hn) (fun _ => ⟨?_, ?_⟩)⟩)⟩)⟩
    · rw [hx]; exact wu_nb0
    · rw [hx]; exact hn
  · obtain ⟨t1, t2, t3, t4, t5, t6, t7, t8⟩ := hT (fun z => hx (k1.mpr z))
    refine ⟨hv, br_c (fun q => br_f hx (br_c (t1 q) (t2 q))) (fun q1 => ⟨hv, br_c (fun q => br_f hx (br_c (t3 q) (t4 q))) (fun q2 => ⟨hv, br_c (fun q => br_c (fun z => t6 q (k2.mp z)) (fun z => br_c (t7 q) (fun y => t8 q y (fun c => z (k2.mpr c))))) (fun q4 => ?_)⟩)⟩)⟩
    have e1 : x5 = 1 := k0.resolve_left hx
    have e3 : ki w = 3 := (hk.resolve_left q1).resolve_left q2 |>.resolve_right q4
    rw [e1]
    exact ⟨wu_nb1, t5 e3⟩
theorem wu_ynum6 {a s : Nat} {x3 : Int32} {m : Nat → Int32} (hs : a + s ≤ 40) (h0 : x3 = 0 → m = ol) (h1 : ¬ x3 = 0 → m = me) (post : Int32 → Prop) (hp : post (wu_num m a s)) : ∀ d i, i + d = s → wY_number_6 post (nI a) (nI s) x3 ac sc kc me ol on fi ln ki pa sk hi ms ma mn mb mf (d + 1) (wu_num m a i) (nI i) := by
  intro d
  induction d with
  | zero =>
    intro i hi
    have e : i = s := by omega
    subst e
    exact br_t (nI_le (Nat.le_refl _) (by omega)) hp
  | succ d ih =>
    intro i hi
    have hv := pk_in (a + i) 40 (by omega) (nI_add a i)
    refine br_f (nI_ge (by omega) (by omega)) (br_c (fun z => ⟨hv, ?_⟩) (fun z => ⟨hv, ?_⟩))
    · refine nm_r (e' := wu_num m a (i + 1)) ?_ (nm_r (nI_1 i) (ih (i + 1) (by omega)))
      rw [nI_add, nI_clamp (by omega), ← h0 z]; rfl
    · refine nm_r (e' := wu_num m a (i + 1)) ?_ (nm_r (nI_1 i) (ih (i + 1) (by omega)))
      rw [nI_add, nI_clamp (by omega), ← h1 z]; rfl
theorem wu_ynum1 {a s : Nat} (hs : a + s ≤ 40) {post : Int32 → Prop} (hp : post (wu_num me a s)) : wpY_number post (ac, sc, kc, me, ol, on, fi, ln, ki, pa, sk, hi, ms, ma, mn, mb, mf) (nI a) (nI s) 1 := ⟨s + 1, wu_ynum6 hs (fun z => absurd z (by decide)) (fun _ => rfl) post hp s 0 (by omega)⟩
theorem wu_ynum0 {a s : Nat} (hs : a + s ≤ 40) {post : Int32 → Prop} (hp : post (wu_num ol a s)) : wpY_number post (ac, sc, kc, me, ol, on, fi, ln, ki, pa, sk, hi, ms, ma, mn, mb, mf) (nI a) (nI s) 0 := ⟨s + 1, wu_ynum6 hs (fun _ => rfl) (fun z => absurd rfl z) post hp s 0 (by omega)⟩
end
end
section
def wu_nx (l : Nat) : Nat := if l < 7 then l + 1 else 0
def wu_cn (c : Nat) : Nat := if c < 8 then c + 1 else c
def wu_sl (l i : Nat) : Nat := if i ≤ l then l - i else l + 8 - i
/-- the ring K, its latest at l, shows the list M -/
def wu_Rg (l : Nat) (K M : Nat → Int32) : Prop := ∀ i, i < 8 → M i = K (wu_sl l i)
def wu_Sm (i : Nat) (M A : Nat → Int32) : Prop := (∀ j, j ≤ i → A j = M j) ∧ (∀ j, i < j → j < 8 → A j = M (j - 1))
def wu_Sh (M : Nat → Int32) (x : Int32) (A : Nat → Int32) : Prop := A 0 = x ∧ ∀ j, 0 < j → j < 8 → A j = M (j - 1)
theorem wu_nx8 (l : Nat) : wu_nx l < 8 := by
  unfold wu_nx; split <;> omega
theorem wu_cn8 {c : Nat} (h : c ≤ 8) : wu_cn c ≤ 8 := by
  unfold wu_cn; split <;> omega
theorem wu_sl8 {l i : Nat} (hl : l < 8) (hi : i < 8) : wu_sl l i < 8 := by
  unfold wu_sl; split <;> omega
theorem wu_sm7 {M : Nat → Int32} : wu_Sm 7 M M := ⟨fun _ _ => rfl, fun j h1 h2 => by omega⟩
theorem wu_sms {i : Nat} {M A : Nat → Int32} (h : wu_Sm (i + 1) M A) : wu_Sm i M (upd A (i + 1) (A i)) := by
  constructor
  · intro j hj
    rw [pk_un (by omega)]
    exact h.1 j (by omega)
  · intro j h1 h2
    by_cases e : j = i + 1
    · rw [e, pk_us, h.1 i (by omega)]; rfl
    · rw [pk_un e]
      exact h.2 j (by omega) h2
theorem wu_sm0 {M A : Nat → Int32} {x : Int32} (h : wu_Sm 0 M A) : wu_Sh M x (upd A 0 x) := by
  refine ⟨pk_us, fun j h1 h2 => ?_⟩
  rw [pk_un (by omega)]
  exact h.2 j h1 h2
theorem wu_rg {l : Nat} {K M B : Nat → Int32} {x : Int32} (hl : l < 8) (h : wu_Rg l K M) (hb : wu_Sh M x B) : wu_Rg (wu_nx l) (upd K (wu_nx l) x) B := by
  intro i hi
  by_cases e : i = 0
  · subst e
    have e0 : wu_sl (wu_nx l) 0 = wu_nx l := by
      unfold wu_sl; rw [if_pos (by omega)]; omega
    rw [e0, pk_us]; exact hb.1
  · have e1 : wu_sl (wu_nx l) i = wu_sl l (i - 1) := by
      unfold wu_sl wu_nx; split <;> split <;> split <;> omega
    have e2 : wu_sl l (i - 1) ≠ wu_nx l := by
      unfold wu_sl wu_nx; split <;> split <;> omega
    rw [e1, pk_un e2, hb.2 i (by omega) hi]
    exact h (i - 1) (by omega)
section
variable {kc ls sc ac : Int32} {me on pa fi la ki sk hi km ka kn kb kf : Nat → Int32}
theorem wu_xk54 {q : Nat} {m a o n : Int32} (hq : q < 8) {post : SX → Prop} (hp : post (kc, nI q, sc, ac, me, on, pa, fi, la, ki, sk, hi, upd km q m, upd ka q a, upd kn q ac, upd kb q o, upd kf q n)) : wX_keepStop_54 post m a o n kc (nI q) sc ac me on pa fi la ki sk hi km ka kn kb kf := by
  have hc := nI_clamp (n := q) (by omega)
  have hv := vp_in_nI (N := 8) hq (by omega)
  unfold wX_keepStop_54
  rw [hc]
  exact ⟨hv, nm_e ⟨hv, nm_e ⟨hv, nm_e ⟨hv, nm_e ⟨hv, nm_e hp⟩⟩⟩⟩⟩
theorem wu_xk32 {c q : Nat} {m a o n : Int32} (hc : c ≤ 8) (hq : q < 8) {post : SX → Prop} (hp : post (nI (wu_cn c), nI q, sc, ac, me, on, pa, fi, la, ki, sk, hi, upd km q m, upd ka q a, upd kn q ac, upd kb q o, upd kf q n)) : wX_keepStop_32 post m a o n (nI q) (nI c) ls sc ac me on pa fi la ki sk hi km ka kn kb kf := by
  unfold wX_keepStop_32
  refine pk_le 8 c (fun g => ?_) (fun g => nm_r (nI_1 c) ?_)
  · rw [show wu_cn c = c from if_neg (by omega)] at hp
    exact wu_xk54 hq hp
  · rw [show wu_cn c = c + 1 from if_pos (by omega)] at hp
    exact wu_xk54 hq hp
theorem wu_xkeep {c l : Nat} {m a o n : Int32} (hc : c ≤ 8) (hl : l < 8) {post : SX → Prop} (hp : post (nI (wu_cn c), nI (wu_nx l), sc + 1, ac, me, on, pa, fi, la, ki, sk, hi, upd km (wu_nx l) m, upd ka (wu_nx l) a, upd kn (wu_nx l) ac, upd kb (wu_nx l) o, upd kf (wu_nx l) n)) : wpX_keepStop post (nI c, nI l, sc, ac, me, on, pa, fi, la, ki, sk, hi, km, ka, kn, kb, kf) m a o n := by
  unfold wpX_keepStop
  dsimp only
  refine nm_e ?_
  rw [nI_1]
  refine pk_le 8 (l + 1) (fun g => ?_) (fun g => ?_)
  · rw [show wu_nx l = 0 from if_neg (by omega)] at hp
    exact wu_xk32 (q := 0) hc (by omega) hp
  · rw [show wu_nx l = l + 1 from if_pos (by omega)] at hp
    exact wu_xk32 hc (by omega) hp
end
section
variable {kc sc ac : Int32} {me ol on fi ln ki pa sk hi ms ma mn mb mf : Nat → Int32}
theorem wu_ykeep4 {c a s : Nat} {m : Int32} {M1 M2 M3 M4 M5 : Nat → Int32} (hc : c ≤ 8) (hs : a + s ≤ 40) : ∀ i, i < 8 → ∀ ms ma mn mb mf : Nat → Int32, wu_Sm i M1 ms → wu_Sm i M2 ma → wu_Sm i M3 mn → wu_Sm i M4 mb → wu_Sm i M5 mf → ∃ B1 B2 B3 B4 B5 : Nat → Int32, wu_Sh M1 m B1 ∧ wu_Sh M2 (nI a) B2 ∧ wu_Sh M3 ac B3 ∧ wu_Sh M4 (wu_num ol a s) B4 ∧ wu_Sh M5 (wu_num me a s) B5 ∧ ∀ post : SY → Prop, post (ac, sc + 1, nI (wu_cn c), me, ol, on, fi, ln, ki, pa, sk, hi, B1, B2, B3, B4, B5) → wY_keep_4 post m (nI a) (nI s) ac sc (nI c) (i + 1) (nI i) me ol on fi ln ki pa sk hi ms ma mn mb mf := by
  intro i
  induction i with
  | zero =>
    intro _ ms ma mn mb mf h1 h2 h3 h4 h5
    refine ⟨_, _, _, _, _, wu_sm0 h1, wu_sm0 h2, wu_sm0 h3, wu_sm0 h4, wu_sm0 h5, fun post hp => ?_⟩
    refine br_t (nI_le (a := 0) (b := 0) (by omega) (by decide)) ?_
    refine nm_e (nm_e (nm_e (wu_ynum0 hs (nm_e (wu_ynum1 hs (nm_e (nm_e ?_)))))))
    refine pk_le 8 c (fun g => ?_) (fun g => nm_r (nI_1 c) ?_)
    · rw [show wu_cn c = c from if_neg (by omega)] at hp
      exact hp
    · rw [show wu_cn c = c + 1 from if_pos (by omega)] at hp
      exact hp
  | succ i ih =>
    intro hi ms ma mn mb mf h1 h2 h3 h4 h5
    obtain ⟨B1, B2, B3, B4, B5, k1, k2, k3, k4, k5, hB⟩ := ih (by omega) _ _ _ _ _ (wu_sms h1) (wu_sms h2) (wu_sms h3) (wu_sms h4) (wu_sms h5)
    refine ⟨B1, B2, B3, B4, B5, k1, k2, k3, k4, k5, fun post hp => ?_⟩
    have hc1 := nI_clamp (n := i + 1) (by omega)
    have hc0 := nI_clamp (n := i) (by omega)
    have v1 := vp_in_nI (n := i + 1) (N := 8) (by omega) (by omega)
    have v0 := vp_in_nI (n := i) (N := 8) (by omega) (by omega)
    refine br_f (nI_nle (by omega) (by omega)) ?_
    rw [nI_pred, hc1, hc0]
    exact ⟨v0, v1, nm_e ⟨v0, v1, nm_e ⟨v0, v1, nm_e ⟨v0, v1, nm_e ⟨v0, v1, nm_e (nm_r (pk_m1 i) (hB post hp))⟩⟩⟩⟩⟩
theorem wu_ykeep {c a s : Nat} {m : Int32} (hc : c ≤ 8) (hs : a + s ≤ 40) : ∃ B1 B2 B3 B4 B5 : Nat → Int32, wu_Sh ms m B1 ∧ wu_Sh ma (nI a) B2 ∧ wu_Sh mn ac B3 ∧ wu_Sh mb (wu_num ol a s) B4 ∧ wu_Sh mf (wu_num me a s) B5 ∧ ∀ post : SY → Prop, post (ac, sc + 1, nI (wu_cn c), me, ol, on, fi, ln, ki, pa, sk, hi, B1, B2, B3, B4, B5) → wpY_keep post (ac, sc, nI c, me, ol, on, fi, ln, ki, pa, sk, hi, ms, ma, mn, mb, mf) m (nI a) (nI s) := by
  obtain ⟨B1, B2, B3, B4, B5, k1, k2, k3, k4, k5, hB⟩ := wu_ykeep4 (me := me) (ol := ol) (on := on) (fi := fi) (ln := ln) (ki := ki) (pa := pa) (sk := sk) (hi := hi) (ac := ac) (sc := sc) (m := m) hc hs 7 (by omega) ms ma mn mb mf wu_sm7 wu_sm7 wu_sm7 wu_sm7 wu_sm7
  exact ⟨B1, B2, B3, B4, B5, k1, k2, k3, k4, k5, fun post hp => ⟨8, hB post hp⟩⟩
end
end
section
/-- the set watches: a range within the memory, one of the four kinds -/
def wu_W (on fi ln la ki : Nat → Int32) : Prop := ∀ w, w < 8 → ¬ on w = 0 → ∃ f l : Nat, 1 ≤ l ∧ l ≤ 16 ∧ f + l ≤ 40 ∧ fi w = nI f ∧ ln w = nI l ∧ la w = nI (f + l - 1) ∧ (ki w = 1 ∨ ki w = 2 ∨ ki w = 3 ∨ ki w = 4)
/-- the two states belong together, their memory is me -/
def wu_Rm (me : Nat → Int32) (u : SX) (v : SY) : Prop := ∃ (c l : Nat) (sc ac : Int32) (on pa fi la ki sk hi km ka kn kb kf ol ln ms ma mn mb mf : Nat → Int32), u = (nI c, nI l, sc, ac, me, on, pa, fi, la, ki, sk, hi, km, ka, kn, kb, kf) ∧ v = (ac, sc, nI c, me, ol, on, fi, ln, ki, pa, sk, hi, ms, ma, mn, mb, mf) ∧ c ≤ 8 ∧ l < 8 ∧ wu_Byt me ∧ wu_W on fi ln la ki ∧ wu_Rg l km ms ∧ wu_Rg l ka ma ∧ wu_Rg l kn mn ∧ wu_Rg l kb mb ∧ wu_Rg l kf mf
theorem wu_hv (k p3 : Int32) (C : Prop) (hk : k = 1 ∨ k = 2 ∨ k = 3 ∨ k = 4) : ∃ r : Int32, (k = 1 → p3 = 0 → r = 1) ∧ (k = 1 → ¬ p3 = 0 → r = 0) ∧ (k = 2 → r = p3) ∧ (k = 3 → r = 1) ∧ (k = 4 → C → r = 1) ∧ (k = 4 → ¬ C → r = 0) := by
  rcases hk with e | e | e | e
  · subst e
    by_cases h : p3 = 0
    · exact ⟨1, fun _ _ => rfl, fun _ z => absurd h z, fun z => absurd z (by decide), fun z => absurd z (by decide), fun z => absurd z (by decide), fun z => absurd z (by decide)⟩
    · exact ⟨0, fun _ z => absurd z h, fun _ _ => rfl, fun z => absurd z (by decide), fun z => absurd z (by decide), fun z => absurd z (by decide), fun z => absurd z (by decide)⟩
  · subst e
    exact ⟨p3, fun z => absurd z (by decide), fun z => absurd z (by decide), fun _ => rfl, fun z => absurd z (by decide), fun z => absurd z (by decide), fun z => absurd z (by decide)⟩
  · subst e
    exact ⟨1, fun z => absurd z (by decide), fun z => absurd z (by decide), fun z => absurd z (by decide), fun _ => rfl, fun z => absurd z (by decide), fun z => absurd z (by decide)⟩
  · subst e
    by_cases h : C
    · exact ⟨1, fun z => absurd z (by decide), fun z => absurd z (by decide), fun z => absurd z (by decide), fun z => absurd z (by decide), fun _ _ => rfl, fun _ z => absurd h z⟩
    · exact ⟨0, fun z => absurd z (by decide), fun z => absurd z (by decide), fun z => absurd z (by decide), fun z => absurd z (by decide), fun _ z => absurd z h, fun _ _ => rfl⟩
section
variable {kc ls sc ac : Int32} {me on pa fi la ki sk hi km ka kn kb kf ol ln ms ma mn mb mf : Nat → Int32}
theorem wu_hit {w a s : Nat} {p3 : Int32} {m0 : Nat → Int32} (hw : w < 8) (hs1 : 1 ≤ s) (hs4 : s ≤ 4) (hs : a + s ≤ 40) (hW : wu_W on fi ln la ki) (B0 : wu_Byt m0) (B : wu_Byt me) (ho : ∀ i, i < s → ol (a + i) = m0 (a + i)) (hp : (p3 = 0 ∧ me = m0) ∨ p3 = 1) :
    ∃ r : Int32, (∀ post : Int32 → Prop, post r → wpX_isHit post (kc, ls, sc, ac, me, on, pa, fi, la, ki, sk, hi, km, ka, kn, kb, kf) (nI w) (nI a) (nI s) p3 (wu_num m0 a s) (wu_num me a s)) ∧ (∀ post : Int32 → Prop, post r → wpY_hit post (ac, sc, kc, me, ol, on, fi, ln, ki, pa, sk, hi, ms, ma, mn, mb, mf) (nI w) (nI a) (nI s) p3) := by
  by_cases h1 : on w = 0
  · exact ⟨0, fun _ q => wu_xhit0 hw (Or.inl h1) q, fun _ q => wu_yhit0 hw (Or.inl h1) q⟩
  by_cases h2 : pa w = 0
  rotate_left
  · exact ⟨0, fun _ q => wu_xhit0 hw (Or.inr h2) q, fun _ q => wu_yhit0 hw (Or.inr h2) q⟩
  obtain ⟨f, l, hl1, hl16, hl, hf, hln, hla, hk⟩ := hW w hw h1
  have hb : ∀ j, j < s → (wu_byU (wu_num m0 a s) j = wu_byU (wu_num me a s) j ↔ me (a + j) = ol (a + j)) := by
    intro j hj
    rw [wu_byn B0 hs4 hj, wu_byn B hs4 hj, ho j hj]
    exact eq_comm
  have hp1 : p3 = 0 ∨ p3 = 1 := hp.elim (fun z => Or.inl z.1) Or.inr
  by_cases hT : f < a + s ∧ a < f + l
  · have hT' : ¬ ∀ j, j < s → ¬ (f ≤ a + j ∧ a + j < f + l) := by
      intro z
      by_cases g : a ≤ f
      · exact z (f - a) (by omega) ⟨by omega, by omega⟩
      · exact z 0 (by omega) ⟨by omega, by omega⟩
    obtain ⟨r, v1, v2, v3, v4, v5, v6⟩ := wu_hv (ki w) p3 (∃ j, j < s ∧ f ≤ a + j ∧ a + j < f + l ∧ ¬ me (a + j) = ol (a + j)) hk
    refine ⟨r, fun post q => ?_, fun post q => ?_⟩
    · refine wu_xhit hw hs1 hs hl1 hl h1 h2 hf hla (fun z => absurd hT z) (fun _ _ => ?_)
      rcases hk with k | k | k | k
      · exact Or.inl ⟨k, fun z => v1 k z ▸ q, fun z => v2 k z ▸ q⟩
      · exact Or.inr (Or.inl ⟨k, hp1, v3 k ▸ q⟩)
      · exact Or.inr (Or.inr (Or.inl ⟨k, v4 k ▸ q⟩))
      · refine Or.inr (Or.inr (Or.inr ⟨k, fun z => ?_, fun z => ?_⟩))
        · have e : r = 0 := v6 k (fun ⟨j, g1, g2, g3, g4⟩ => g4 ((hb j g1).mp (z j g1 g2 g3)))
          exact e ▸ q
        · obtain ⟨j, g1, g2, g3, g4⟩ := z
          have e : r = 1 := v5 k ⟨j, g1, g2, g3, fun c => g4 ((hb j g1).mpr c)⟩
          exact e ▸ q
    · refine wu_yhit hw hs hl h1 h2 hf hln hk (fun z => absurd z hT') (fun _ => ⟨fun k z => v1 k z ▸ q, fun k z => v2 k z ▸ q, fun k z => (v3 k).trans z ▸ q, fun k z => (v3 k).trans (hp1.resolve_left z) ▸ q, fun k => v4 k ▸ q, fun k z => ?_, fun k z => ?_, fun k _ z => ?_⟩)
      · have e : r = 0 := v6 k (fun ⟨j, g1, g2, g3, g4⟩ => g4 (z j g1 g2 g3))
        exact e ▸ q
      · have e : r = 0 := v6 k (fun ⟨j, g1, g2, g3, g4⟩ => by
          rcases hp with y | y
          · exact g4 (by rw [y.2, ho j g1])
          · rw [y] at z; exact absurd z (by decide))
        exact e ▸ q
      · have e : r = 1 := by
          refine v5 k (Classical.byContradiction (fun y => z (fun j g1 g2 g3 => ?_)))
          exact Classical.byContradiction (fun g4 => y ⟨j, g1, g2, g3, g4⟩)
        exact e ▸ q
  · refine ⟨0, fun post q => wu_xhit hw hs1 hs hl1 hl h1 h2 hf hla (fun _ => q) (fun g1 g2 => absurd ⟨g1, g2⟩ hT), fun post q => wu_yhit hw hs hl h1 h2 hf hln hk (fun _ => q) (fun z => absurd (fun j hj => ?_) z)⟩
    omega
theorem wu_xstop1 {w : Nat} (hw : w < 8) (h : sk w ≤ 0) {post : Int32 → SX → Prop} (hp : post 1 (kc, ls, sc, ac, me, on, pa, fi, la, ki, sk, upd hi w (hi w + 1), km, ka, kn, kb, kf)) : wpX_stopsAt post (kc, ls, sc, ac, me, on, pa, fi, la, ki, sk, hi, km, ka, kn, kb, kf) (nI w) := by
  have hc := nI_clamp (n := w) (by omega)
  have hv := vp_in_nI (N := 8) hw (by omega)
  unfold wpX_stopsAt
  dsimp only
  rw [hc]
  exact ⟨hv, br_t h ⟨hv, hv, nm_e hp⟩⟩
theorem wu_xstop0 {w : Nat} (hw : w < 8) (h : ¬ sk w ≤ 0) {post : Int32 → SX → Prop} (hp : post 0 (kc, ls, sc, ac, me, on, pa, fi, la, ki, upd sk w (sk w - 1), hi, km, ka, kn, kb, kf)) : wpX_stopsAt post (kc, ls, sc, ac, me, on, pa, fi, la, ki, sk, hi, km, ka, kn, kb, kf) (nI w) := by
  have hc := nI_clamp (n := w) (by omega)
  have hv := vp_in_nI (N := 8) hw (by omega)
  unfold wpX_stopsAt
  dsimp only
  rw [hc]
  exact ⟨hv, br_f h ⟨hv, hv, nm_e hp⟩⟩
theorem wu_acc8 {c l a s : Nat} {p3 : Int32} {m0 : Nat → Int32} (hc : c ≤ 8) (hl : l < 8) (hs1 : 1 ≤ s) (hs4 : s ≤ 4) (hs : a + s ≤ 40) (hW : wu_W on fi ln la ki) (B0 : wu_Byt m0) (B : wu_Byt me) (ho : ∀ i, i < s → ol (a + i) = m0 (a + i)) (hp : (p3 = 0 ∧ me = m0) ∨ p3 = 1)
    (g1 : wu_Rg l km ms) (g2 : wu_Rg l ka ma) (g3 : wu_Rg l kn mn) (g4 : wu_Rg l kb mb) (g5 : wu_Rg l kf mf) :
    ∀ d w, w + d = 8 → ∀ (m : Int32) (sk hi : Nat → Int32), ∃ (mk : Int32) (u' : SX) (v' : SY), wu_Rm me u' v' ∧ (∀ post : Int32 → SX → Prop, post mk u' → wX_finishAccess_16 post (nI a) (nI s) p3 (wu_num m0 a s) (wu_num me a s) (d + 1) m (nI w) (nI c) (nI l) sc ac me on pa fi la ki sk hi km ka kn kb kf) ∧ (∀ post : Int32 → SY → Prop, post mk v' → wY_access_86 post (nI a) (nI s) p3 ac sc (nI c) (d + 1) m (nI w) me ol on fi ln ki pa sk hi ms ma mn mb mf) := by
  intro d
  induction d with
  | zero =>
    intro w hw m sk hi
    have h8 : (8 : Int32) ≤ nI w := nI_le (a := 8) (by omega) (by omega)
    by_cases hm : m = 0
    · exact ⟨m, (nI c, nI l, sc, ac, me, on, pa, fi, la, ki, sk, hi, km, ka, kn, kb, kf), (ac, sc, nI c, me, ol, on, fi, ln, ki, pa, sk, hi, ms, ma, mn, mb, mf), ⟨c, l, sc, ac, on, pa, fi, la, ki, sk, hi, km, ka, kn, kb, kf, ol, ln, ms, ma, mn, mb, mf, rfl, rfl, hc, hl, B, hW, g1, g2, g3, g4, g5⟩, fun post q => br_t h8 (br_t hm q), fun post q => br_t h8 (br_t hm q)⟩
    · obtain ⟨B1, B2, B3, B4, B5, k1, k2, k3, k4, k5, hB⟩ := wu_ykeep (me := me) (ol := ol) (on := on) (fi := fi) (ln := ln) (ki := ki) (pa := pa) (sk := sk) (hi := hi) (ac := ac) (sc := sc) (m := m) (ms := ms) (ma := ma) (mn := mn) (mb := mb) (mf := mf) hc hs
      rw [wu_numc s ho] at k4
      exact ⟨m, _, _, ⟨wu_cn c, wu_nx l, sc + 1, ac, on, pa, fi, la, ki, sk, hi, upd km (wu_nx l) m, upd ka (wu_nx l) (nI a), upd kn (wu_nx l) ac, upd kb (wu_nx l) (wu_num m0 a s), upd kf (wu_nx l) (wu_num me a s), ol, ln, B1, B2, B3, B4, B5, rfl, rfl, wu_cn8 hc, wu_nx8 l, B, hW, wu_rg hl g1 k1, wu_rg hl g2 k2, wu_rg hl g3 k3, wu_rg hl g4 k4, wu_rg hl g5 k5⟩, fun post q => br_t h8 (br_f hm (wu_xkeep hc hl q)), fun post q => br_t h8 (br_f hm (hB _ q))⟩
  | succ d ih =>
    intro w hw m sk hi
    have h8 : ¬ (8 : Int32) ≤ nI w := nI_ge (b := 8) (by omega) (by decide)
    have hcl := nI_clamp (n := w) (by omega)
    have hv := vp_in_nI (n := w) (N := 8) (by omega) (by omega)
    obtain ⟨r, hX, hY⟩ := wu_hit (kc := nI c) (ls := nI l) (sc := sc) (ac := ac) (sk := sk) (hi := hi) (pa := pa) (km := km) (ka := ka) (kn := kn) (kb := kb) (kf := kf) (ms := ms) (ma := ma) (mn := mn) (mb := mb) (mf := mf) (w := w) (by omega) hs1 hs4 hs hW B0 B ho hp
    by_cases hr : r = 0
    · obtain ⟨mk, u', v', hR, iX, iY⟩ := ih (w + 1) (by omega) m sk hi
      exact ⟨mk, u', v', hR, fun post q => br_f h8 (hX _ (br_t hr (nm_r (nI_1 w) (iX post q)))), fun post q => br_f h8 (hY _ (br_t hr (nm_r (nI_1 w) (iY post q))))⟩
    · by_cases hk : sk w ≤ 0
      · obtain ⟨mk, u', v', hR, iX, iY⟩ := ih (w + 1) (by omega) (m ||| ((1 : Int32) <<< (nI w &&& 31))) sk (upd hi w (hi w + 1))
        refine ⟨mk, u', v', hR, fun post q => br_f h8 (hX _ (br_f hr (wu_xstop1 (by omega) hk (br_f (by decide) (nm_e (nm_r (nI_1 w) (iX post q))))))), fun post q => br_f h8 (hY _ (br_f hr ?_))⟩
        rw [hcl]
        exact ⟨hv, br_t hk ⟨hv, hv, nm_e (nm_e (nm_r (nI_1 w) (iY post q)))⟩⟩
      · obtain ⟨mk, u', v', hR, iX, iY⟩ := ih (w + 1) (by omega) m (upd sk w (sk w - 1)) hi
        refine ⟨mk, u', v', hR, fun post q => br_f h8 (hX _ (br_f hr (wu_xstop0 (by omega) hk (br_t rfl (nm_r (nI_1 w) (iX post q)))))), fun post q => br_f h8 (hY _ (br_f hr ?_))⟩
        rw [hcl]
        exact ⟨hv, br_f hk ⟨hv, hv, nm_e (nm_r (nI_1 w) (iY post q))⟩⟩
end
section
variable {kc sc ac : Int32} {me ol on fi ln ki pa sk hi ms ma mn mb mf : Nat → Int32}
theorem wu_yold {x1 x2 x3 x4 : Int32} : ∀ d i, i + d = 40 → ∀ ol : Nat → Int32, (∀ j, j < i → ol j = me j) → ∃ o' : Nat → Int32, (∀ j, j < 40 → o' j = me j) ∧ ∀ post : Int32 → SY → Prop, (∃ n33 : Nat, wY_access_33 post x1 x2 x3 x4 ac sc kc n33 0 me o' on fi ln ki pa sk hi ms ma mn mb mf) → wY_access_3 post x1 x2 x3 x4 ac sc kc (d + 1) (nI i) me ol on fi ln ki pa sk hi ms ma mn mb mf := by
  intro d
  induction d with
  | zero =>
    intro i hi ol ho
    exact ⟨ol, fun j hj => ho j (by omega), fun post q => br_t (nI_le (a := 40) (by omega) (by omega)) q⟩
  | succ d ih =>
    intro i hi ol ho
    have hc := nI_clamp (n := i) (by omega)
    have hv := vp_in_nI (n := i) (N := 40) (by omega) (by omega)
    obtain ⟨o', h1, h2⟩ := ih (i + 1) (by omega) (upd ol i (me i)) (by
      intro j hj
      by_cases e : j = i
      · rw [e, pk_us]
      · rw [pk_un e]; exact ho j (by omega))
    refine ⟨o', h1, fun post q => br_f (nI_ge (b := 40) (by omega) (by decide)) ?_⟩
    rw [hc]
    exact ⟨hv, hv, nm_e (nm_r (nI_1 i) (h2 post q))⟩
theorem wu_yrd {x1 x4 : Int32} {s : Nat} (hs : s ≤ 40) (post : Int32 → SY → Prop) (q : ∃ n86 : Nat, wY_access_86 post x1 (nI s) 0 (ac + 1) sc kc n86 0 0 me ol on fi ln ki pa sk hi ms ma mn mb mf) : ∀ d i, i + d = s → wY_access_33 post x1 (nI s) 0 x4 ac sc kc (d + 1) (nI i) me ol on fi ln ki pa sk hi ms ma mn mb mf := by
  intro d
  induction d with
  | zero =>
    intro i hi
    exact br_t (nI_le (by omega) (by omega)) (nm_e q)
  | succ d ih =>
    intro i hi
    exact br_f (nI_ge (by omega) (by omega)) (br_t rfl (nm_r (nI_1 i) (ih (i + 1) (by omega))))
theorem wu_ywr {v : Int32} {a s : Nat} (hs : a + s ≤ 40) (post : Int32 → SY → Prop) (q : ∃ n86 : Nat, wY_access_86 post (nI a) (nI s) 1 (ac + 1) sc kc n86 0 0 (wu_put me a v s) ol on fi ln ki pa sk hi ms ma mn mb mf) : ∀ d i, i + d = s → wY_access_33 post (nI a) (nI s) 1 v ac sc kc (d + 1) (nI i) (wu_put me a v i) ol on fi ln ki pa sk hi ms ma mn mb mf := by
  intro d
  induction d with
  | zero =>
    intro i hi
    have e : i = s := by omega
    subst e
    exact br_t (nI_le (by omega) (by omega)) (nm_e q)
  | succ d ih =>
    intro i hi
    refine br_f (nI_ge (by omega) (by omega)) (br_f (by decide) ⟨pk_in (a + i) 40 (by omega) (nI_add a i), ?_⟩)
    refine nm_r (e' := wu_put me a v (i + 1)) ?_ (nm_r (nI_1 i) (ih (i + 1) (by omega)))
    rw [nI_add, nI_clamp (by omega)]; rfl
end
section
variable {kc ls sc ac : Int32} {me on pa fi la ki sk hi km ka kn kb kf ol ln ms ma mn mb mf : Nat → Int32}
/-- one access, on both sides -/
theorem wu_acc {c l a s : Nat} {p3 v : Int32} {m' : Nat → Int32} (hc : c ≤ 8) (hl : l < 8) (hs1 : 1 ≤ s) (hs4 : s ≤ 4) (hs : a + s ≤ 40) (hW : wu_W on fi ln la ki) (B : wu_Byt me) (hp : (p3 = 0 ∧ m' = me) ∨ (p3 = 1 ∧ m' = wu_put me a v s))
    (g1 : wu_Rg l km ms) (g2 : wu_Rg l ka ma) (g3 : wu_Rg l kn mn) (g4 : wu_Rg l kb mb) (g5 : wu_Rg l kf mf) :
    ∃ (mk : Int32) (u' : SX) (v' : SY), wu_Rm m' u' v' ∧ (∀ post : Int32 → SX → Prop, post mk u' → wpX_finishAccess post (nI c, nI l, sc, ac, m', on, pa, fi, la, ki, sk, hi, km, ka, kn, kb, kf) (nI a) (nI s) p3 (wu_num me a s) (wu_num m' a s)) ∧ (∀ post : Int32 → SY → Prop, post mk v' → wpY_access post (ac, sc, nI c, me, ol, on, fi, ln, ki, pa, sk, hi, ms, ma, mn, mb, mf) (nI a) (nI s) p3 v) := by
  obtain ⟨o', ho, hO⟩ := wu_yold (me := me) (on := on) (fi := fi) (ln := ln) (ki := ki) (pa := pa) (sk := sk) (hi := hi) (ms := ms) (ma := ma) (mn := mn) (mb := mb) (mf := mf) (kc := nI c) (sc := sc) (ac := ac) (x1 := nI a) (x2 := nI s) (x3 := p3) (x4 := v) 40 0 (by omega) ol (fun j hj => by omega)
  have B' : wu_Byt m' := by
    rcases hp with z | z
    · rw [z.2]; exact B
    · rw [z.2]; exact wu_putB B s
  obtain ⟨mk, u', v', hR, hX, hY⟩ := wu_acc8 (me := m') (ol := o') (on := on) (fi := fi) (ln := ln) (la := la) (ki := ki) (pa := pa) (km := km) (ka := ka) (kn := kn) (kb := kb) (kf := kf) (ms := ms) (ma := ma) (mn := mn) (mb := mb) (mf := mf) (sc := sc) (ac := ac + 1) (m0 := me) (p3 := p3) hc hl hs1 hs4 hs hW B B' (fun i hi => ho (a + i) (by omega)) (hp.elim Or.inl (fun z => Or.inr z.1)) g1 g2 g3 g4 g5 8 0 (by omega) 0 sk hi
  refine ⟨mk, u', v', hR, fun post q => ?_, fun post q => ⟨41, hO post ⟨s + 1, ?_⟩⟩⟩
  · unfold wpX_finishAccess
    dsimp only
    exact nm_e ⟨9, hX post q⟩
  · rcases hp with ⟨z, y⟩ | ⟨z, y⟩
    · subst z y
      exact wu_yrd (by omega) post ⟨9, hY post q⟩ s 0 (by omega)
    · subst z y
      exact wu_ywr hs post ⟨9, hY post q⟩ s 0 (by omega)
end
end
section
theorem wu_sub_toInt {a b : Nat} (ha : a < 2 ^ 30) (hb : b < 2 ^ 30) : (nI a - nI b).toInt = (a : Int) - b := by
  rw [Int32.toInt_sub, nI_toInt (by omega), nI_toInt (by omega)]
  exact Int.bmod_eq_of_le (by omega) (by omega)
theorem wu_sneg {a b : Nat} (hb : b < 2 ^ 30) (h : a < b) : nI a - nI b < 0 := by
  rw [Int32.lt_iff_toInt_lt, wu_sub_toInt (by omega) hb, show (0 : Int32).toInt = 0 from by decide]
  omega
theorem wu_s8 {a b : Nat} (h : b ≤ a + 8) : nI a - nI b + 8 = nI (a + 8 - b) := by
  rw [← pk_sub h, ← nI_add, show nI 8 = 8 from rfl]
  grind
theorem wu_adr {x : Int32} {s : Nat} (hs : s ≤ 16) (h0 : ¬ x < 0) (h : ¬ (40 - nI s) < x) : ∃ a : Nat, a + s ≤ 40 ∧ x = nI a := by
  have e : (40 : Int32) - nI s = nI (40 - s) := pk_sub (a := 40) (by omega)
  rw [e] at h
  obtain ⟨a, ha, rfl⟩ := nI_of2 (M := nI (40 - s)) (n := 40 - s) (nI_toInt (by omega)) h0 (Int32.not_lt.mp h)
  exact ⟨a, by omega, rfl⟩
theorem wu_Wset {on fi ln la ki : Nat → Int32} {w : Nat} {e x2 x3 x4 : Int32} (hW : wu_W on fi ln la ki) (h1 : ¬ x3 < 1) (h2 : x3 ≤ 16) (h3 : ¬ x2 < 0) (h4 : ¬ (40 - x3) < x2) (h5 : ¬ x4 < 1) (h6 : x4 ≤ 4) : wu_W (upd on w e) (upd fi w x2) (upd ln w x3) (upd la w ((x2 + x3) - 1)) (upd ki w x4) := by
  intro j hj ho
  by_cases q : j = w
  · subst q
    rw [pk_us, pk_us, pk_us, pk_us]
    obtain ⟨l, hl, rfl⟩ := nI_of2 (M := 16) (n := 16) (by decide) (fun z => h1 (Int32.lt_trans z (by decide))) h2
    have l1 : ¬ l < 1 := fun z => h1 (nI_lt (b := 1) z (by decide))
    obtain ⟨f, hf, rfl⟩ := wu_adr hl h3 h4
    obtain ⟨k, hk, rfl⟩ := nI_of2 (M := 4) (n := 4) (by decide) (fun z => h5 (Int32.lt_trans z (by decide))) h6
    have k1 : ¬ k < 1 := fun z => h5 (nI_lt (b := 1) z (by decide))
    refine ⟨f, l, by omega, hl, hf, rfl, rfl, ?_, ?_⟩
    · rw [nI_add]; exact pk_sub (b := 1) (by omega)
    · rcases (by omega : k = 1 ∨ k = 2 ∨ k = 3 ∨ k = 4) with z | z | z | z
      · subst z; exact Or.inl rfl
      · subst z; exact Or.inr (Or.inl rfl)
      · subst z; exact Or.inr (Or.inr (Or.inl rfl))
      · subst z; exact Or.inr (Or.inr (Or.inr rfl))
  · rw [pk_un q] at ho
    rw [pk_un q, pk_un q, pk_un q, pk_un q]
    exact hW j hj ho
theorem wu_Wclr {on fi ln la ki : Nat → Int32} {w : Nat} {e : Int32} (hW : wu_W on fi ln la ki) (h : ¬ on w = 0) : wu_W (upd on w e) fi ln la ki := by
  intro j hj ho
  by_cases q : j = w
  · rw [q] at hj ⊢; exact hW w hj h
  · rw [pk_un q] at ho; exact hW j hj ho
section
variable {kc ls sc ac : Int32} {me on pa fi la ki sk hi km ka kn kb kf ol ln ms ma mn mb mf : Nat → Int32}
theorem wu_xiw0 {x : Int32} (h : x < 0 ∨ nI 8 ≤ x) {post : Int32 → Prop} (hp : post 0) : wpX_isWatch post (kc, ls, sc, ac, me, on, pa, fi, la, ki, sk, hi, km, ka, kn, kb, kf) x := by
  by_cases z : x < 0
  · exact br_t z hp
  · exact br_f z (br_t (h.resolve_left z) hp)
theorem wu_xiw1 {w : Nat} (hw : w < 8) {post : Int32 → Prop} (hp : post 1) : wpX_isWatch post (kc, ls, sc, ac, me, on, pa, fi, la, ki, sk, hi, km, ka, kn, kb, kf) (nI w) := br_f (nI_pos (by omega)) (br_f (nI_ge (b := 8) hw (by decide)) hp)
theorem wu_yb1 {x : Int32} (h : x < 0 ∨ nI 8 ≤ x) {post : Int32 → Prop} (hp : post 1) : wpY_bad post (ac, sc, kc, me, ol, on, fi, ln, ki, pa, sk, hi, ms, ma, mn, mb, mf) x := by
  by_cases z : x < 0
  · exact br_t z hp
  · exact br_f z (br_f (fun y => absurd (Int32.le_trans (h.resolve_left z) y) (show ¬ (8 : Int32) ≤ 7 by decide)) hp)
theorem wu_yb0 {w : Nat} (hw : w < 8) {post : Int32 → Prop} (hp : post 0) : wpY_bad post (ac, sc, kc, me, ol, on, fi, ln, ki, pa, sk, hi, ms, ma, mn, mb, mf) (nI w) := br_f (nI_pos (by omega)) (br_t (nI_le (b := 7) (by omega) (by decide)) hp)
theorem wu_xrb {x : Int32} (h : x < 0 ∨ nI 8 ≤ x) {post : Int32 → Prop} (hp : post (-1)) : wpX_refusalOf post (kc, ls, sc, ac, me, on, pa, fi, la, ki, sk, hi, km, ka, kn, kb, kf) x := by
  unfold wpX_refusalOf
  exact wu_xiw0 h (br_t rfl hp)
theorem wu_xru {w : Nat} (hw : w < 8) (h : on w = 0) {post : Int32 → Prop} (hp : post (-2)) : wpX_refusalOf post (kc, ls, sc, ac, me, on, pa, fi, la, ki, sk, hi, km, ka, kn, kb, kf) (nI w) := by
  have hcl := nI_clamp (n := w) (by omega)
  unfold wpX_refusalOf
  dsimp only
  rw [hcl]
  exact wu_xiw1 hw (br_f (by decide) ⟨vp_in_nI hw (by omega), br_t h hp⟩)
theorem wu_xrs {w : Nat} (hw : w < 8) (h : ¬ on w = 0) {post : Int32 → Prop} (hp : post 0) : wpX_refusalOf post (kc, ls, sc, ac, me, on, pa, fi, la, ki, sk, hi, km, ka, kn, kb, kf) (nI w) := by
  have hcl := nI_clamp (n := w) (by omega)
  unfold wpX_refusalOf
  dsimp only
  rw [hcl]
  exact wu_xiw1 hw (br_f (by decide) ⟨vp_in_nI hw (by omega), br_f h hp⟩)
theorem wu_xl0 {x y : Int32} (h : x < 0 ∨ (40 - y) < x) {post : Int32 → Prop} (hp : post 0) : wpX_liesInMemory post (kc, ls, sc, ac, me, on, pa, fi, la, ki, sk, hi, km, ka, kn, kb, kf) x y := by
  by_cases z : x < 0
  · exact br_t z hp
  · exact br_f z (br_t (h.resolve_left z) hp)
theorem wu_xl1 {x y : Int32} (h : ¬ x < 0) (h2 : ¬ (40 - y) < x) {post : Int32 → Prop} (hp : post 1) : wpX_liesInMemory post (kc, ls, sc, ac, me, on, pa, fi, la, ki, sk, hi, km, ka, kn, kb, kf) x y := br_f h (br_f h2 hp)
theorem wu_xs65 {w : Nat} {x2 x3 x4 z : Int32} (hw : w < 8) {post : Int32 → SX → Prop} (hp : post z (kc, ls, sc, ac, me, upd on w (vp_nar .boolean 1), upd pa w (vp_nar .boolean 0), upd fi w x2, upd la w ((x2 + x3) - 1), upd ki w x4, upd sk w 0, upd hi w 0, km, ka, kn, kb, kf)) : wX_set_65 post (nI w) x2 x3 x4 z kc ls sc ac me on pa fi la ki sk hi km ka kn kb kf := by
  have hcl := nI_clamp (n := w) (by omega)
  have hv := vp_in_nI (N := 8) hw (by omega)
  unfold wX_set_65
  rw [hcl]
  exact ⟨hv, nm_e ⟨hv, nm_e ⟨hv, nm_e ⟨hv, nm_e ⟨hv, nm_e ⟨hv, nm_e ⟨hv, nm_e hp⟩⟩⟩⟩⟩⟩⟩
theorem wu_ys68 {w : Nat} {x2 x3 x4 z : Int32} (hw : w < 8) {post : Int32 → SY → Prop} (hp : post z (ac, sc, kc, me, ol, upd on w (vp_nar .boolean 1), upd fi w x2, upd ln w x3, upd ki w x4, upd pa w (vp_nar .boolean 0), upd sk w 0, upd hi w 0, ms, ma, mn, mb, mf)) : wY_set_68 post (nI w) x2 x3 x4 z ac sc kc me ol on fi ln ki pa sk hi ms ma mn mb mf := by
  have hcl := nI_clamp (n := w) (by omega)
  have hv := vp_in_nI (N := 8) hw (by omega)
  unfold wY_set_68
  rw [hcl]
  exact ⟨hv, nm_e ⟨hv, nm_e ⟨hv, nm_e ⟨hv, nm_e ⟨hv, nm_e ⟨hv, nm_e ⟨hv, nm_e hp⟩⟩⟩⟩⟩⟩⟩
theorem wu_xp26 {w : Nat} {x z : Int32} (hw : w < 8) {post : Int32 → SX → Prop} (h0 : x = 0 → post z (kc, ls, sc, ac, me, on, upd pa w (vp_nar .boolean 0), fi, la, ki, sk, hi, km, ka, kn, kb, kf)) (h1 : ¬ x = 0 → post z (kc, ls, sc, ac, me, on, upd pa w (vp_nar .boolean 1), fi, la, ki, sk, hi, km, ka, kn, kb, kf)) : wX_pause_26 post (nI w) x z kc ls sc ac me on pa fi la ki sk hi km ka kn kb kf := by
  have hcl := nI_clamp (n := w) (by omega)
  have hv := vp_in_nI (N := 8) hw (by omega)
  unfold wX_pause_26
  rw [hcl]
  exact br_c (fun q => ⟨hv, nm_e (h0 q)⟩) (fun q => ⟨hv, nm_e (h1 q)⟩)
theorem wu_yp36 {w : Nat} {x z : Int32} (hw : w < 8) {post : Int32 → SY → Prop} (h0 : x = 0 → post z (ac, sc, kc, me, ol, on, fi, ln, ki, upd pa w (vp_nar .boolean 0), sk, hi, ms, ma, mn, mb, mf)) (h1 : ¬ x = 0 → post z (ac, sc, kc, me, ol, on, fi, ln, ki, upd pa w (vp_nar .boolean 1), sk, hi, ms, ma, mn, mb, mf)) : wY_pause_36 post (nI w) x z ac sc kc me ol on fi ln ki pa sk hi ms ma mn mb mf := by
  have hcl := nI_clamp (n := w) (by omega)
  have hv := vp_in_nI (N := 8) hw (by omega)
  unfold wY_pause_36
  rw [hcl]
  exact br_c (fun q => ⟨hv, nm_e (h0 q)⟩) (fun q => ⟨hv, nm_e (h1 q)⟩)
theorem wu_xsn {c l : Nat} {x : Int32} (h : x < 0 ∨ nI c ≤ x) {post : Int32 → Prop} (hp : post (-1)) : wpX_slotOf post (nI c, nI l, sc, ac, me, on, pa, fi, la, ki, sk, hi, km, ka, kn, kb, kf) x := by
  by_cases z : x < 0
  · exact br_t z hp
  · exact br_f z (br_f (Int32.not_lt.mpr (h.resolve_left z)) hp)
theorem wu_xss {c l i : Nat} (hc : c ≤ 8) (hl : l < 8) (hic : i < c) {post : Int32 → Prop} (hp : post (nI (wu_sl l i))) : wpX_slotOf post (nI c, nI l, sc, ac, me, on, pa, fi, la, ki, sk, hi, km, ka, kn, kb, kf) (nI i) := by
  refine br_f (nI_pos (by omega)) (br_t (nI_lt hic (by omega)) ?_)
  by_cases q : i ≤ l
  · rw [show wu_sl l i = l - i from if_pos q] at hp
    exact nm_r (pk_sub q) (br_t (nI_pos' (by omega)) hp)
  · rw [show wu_sl l i = l + 8 - i from if_neg q, ← wu_s8 (by omega)] at hp
    exact nm_e (br_f (fun y => absurd (wu_sneg (by omega) (by omega)) (Int32.not_lt.mpr y)) hp)
theorem wu_yn1 {c : Nat} {x : Int32} (h : x < 0 ∨ nI c ≤ x) {post : Int32 → Prop} (hp : post 1) : wpY_noStop post (ac, sc, nI c, me, ol, on, fi, ln, ki, pa, sk, hi, ms, ma, mn, mb, mf) x := by
  by_cases z : x < 0
  · exact br_t z hp
  · exact br_f z (br_t (h.resolve_left z) hp)
theorem wu_yn0 {c i : Nat} (hc : c ≤ 8) (hic : i < c) {post : Int32 → Prop} (hp : post 0) : wpY_noStop post (ac, sc, nI c, me, ol, on, fi, ln, ki, pa, sk, hi, ms, ma, mn, mb, mf) (nI i) := br_f (nI_pos (by omega)) (br_f (nI_ge hic (by omega)) (br_t (nI_lt (b := 8) (by omega) (by decide)) hp))
end
end
section
/-- watch w covers the address x -/
def wu_P (on pa fi ln : Nat → Int32) (x w : Nat) : Prop := ¬ on w = 0 ∧ pa w = 0 ∧ (fi w).toNatClampNeg ≤ x ∧ x < (fi w).toNatClampNeg + (ln w).toNatClampNeg
theorem wu_Pin {on pa fi ln la ki : Nat → Int32} {x w : Nat} (hW : wu_W on fi ln la ki) (hw : w < 8) (h1 : ¬ on w = 0) (h2 : pa w = 0) : ∃ f l : Nat, 1 ≤ l ∧ f + l ≤ 40 ∧ fi w = nI f ∧ ln w = nI l ∧ la w = nI (f + l - 1) ∧ (wu_P on pa fi ln x w ↔ f ≤ x ∧ x < f + l) := by
  obtain ⟨f, l, k1, k2, k3, k4, k5, k6, k7⟩ := hW w hw h1
  refine ⟨f, l, k1, k3, k4, k5, k6, ?_⟩
  unfold wu_P
  rw [k4, k5, nI_clamp (by omega), nI_clamp (by omega)]
  exact ⟨fun z => z.2.2, fun z => ⟨h1, h2, z⟩⟩
section
variable {kc ls sc ac : Int32} {me on pa fi la ki sk hi km ka kn kb kf ol ln ms ma mn mb mf : Nat → Int32}
theorem wu_xw2 {x : Nat} (hx : x < 40) (hW : wu_W on fi ln la ki) (post : Int32 → Prop) : ∀ d w, w + d = 8 → ((∀ j, w ≤ j → j < 8 → ¬ wu_P on pa fi ln x j) → post 0) → ((∃ j, w ≤ j ∧ j < 8 ∧ wu_P on pa fi ln x j) → post 1) → wX_isWatched_2 post (nI x) kc ls sc ac me on pa fi la ki sk hi km ka kn kb kf (d + 1) (nI w) := by
  intro d
  induction d with
  | zero =>
    intro w hw h0 h1
    exact br_t (nI_le (a := 8) (by omega) (by omega)) (h0 (fun j _ _ => by omega))
  | succ d ih =>
    intro w hw h0 h1
    have hcl := nI_clamp (n := w) (by omega)
    have hv := vp_in_nI (n := w) (N := 8) (by omega) (by omega)
    have st : ¬ wu_P on pa fi ln x w → ∀ y, y = nI w + 1 → wX_isWatched_2 post (nI x) kc ls sc ac me on pa fi la ki sk hi km ka kn kb kf (d + 1) y := by
      intro g
      refine nm_r (nI_1 w) (ih (w + 1) (by omega) (fun z => h0 (fun j q1 q2 => ?_)) (fun z => h1 ?_))
      · by_cases e : j = w
        · rw [e]; exact g
        · exact z j (by omega) q2
      · obtain ⟨j, q1, q2, q3⟩ := z
        exact ⟨j, by omega, q2, q3⟩
    refine br_f (nI_ge (b := 8) (by omega) (by decide)) ?_
    rw [hcl]
    refine wu_xawake (by omega) (fun z => br_t rfl (st (fun p => p.1 z))) (fun _ z => br_t rfl (st (fun p => z p.2.1))) (fun z1 z2 => br_f (by decide) ⟨hv, ?_⟩)
    obtain ⟨f, l, k1, k2, k3, k4, k5, k6⟩ := wu_Pin (x := x) hW (by omega) z1 z2
    rw [k3, k5]
    refine pk_lt x f (fun g => st (fun p => ?_)) (fun g => ⟨hv, pk_lt (f + l - 1) x (fun g2 => st (fun p => ?_)) (fun g2 => h1 ⟨w, by omega, by omega, k6.mpr ⟨g, by omega⟩⟩)⟩)
    · have := k6.mp p; omega
    · have := k6.mp p; omega
theorem wu_yw15 {x : Nat} {n : Int32} (hx : x < 40) (hW : wu_W on fi ln la ki) (post : Int32 → Prop) (J4 : Int32 → Int32 → Prop) (K0 : (∀ j, j < 8 → ¬ wu_P on pa fi ln x j) → J4 n (nI (x + 1))) (K1 : (¬ ∀ j, j < 8 → ¬ wu_P on pa fi ln x j) → J4 (n + 1) (nI (x + 1))) : ∀ d w, w + d = 8 → ∀ x3 : Int32, (x3 = 0 ↔ ∀ j, j < w → ¬ wu_P on pa fi ln x j) → wY_watched_15 post J4 n (nI x) ac sc kc me ol on fi ln ki pa sk hi ms ma mn mb mf (d + 1) x3 (nI w) := by
  intro d
  induction d with
  | zero =>
    intro w hw x3 h3
    have e : w = 8 := by omega
    subst e
    exact br_t (nI_le (a := 8) (by omega) (by omega)) (br_c (fun z => nm_r (nI_1 x) (K0 (h3.mp z))) (fun z => nm_e (nm_r (nI_1 x) (K1 (fun y => z (h3.mpr y))))))
  | succ d ih =>
    intro w hw x3 h3
    have hcl := nI_clamp (n := w) (by omega)
    have hv := vp_in_nI (n := w) (N := 8) (by omega) (by omega)
    have st : ¬ wu_P on pa fi ln x w → ∀ y, y = nI w + 1 → wY_watched_15 post J4 n (nI x) ac sc kc me ol on fi ln ki pa sk hi ms ma mn mb mf (d + 1) x3 y := by
      intro g
      refine nm_r (nI_1 w) (ih (w + 1) (by omega) x3 ⟨fun z j hj => ?_, fun z => h3.mpr (fun j hj => z j (by omega))⟩)
      by_cases e : j = w
      · rw [e]; exact g
      · exact h3.mp z j (by omega)
    refine br_f (nI_ge (b := 8) (by omega) (by decide)) ?_
    rw [hcl]
    refine ⟨hv, br_c (fun z => st (fun p => p.1 z)) (fun z1 => ⟨hv, br_c (fun z2 => ?_) (fun z => st (fun p => z p.2.1))⟩)⟩
    obtain ⟨f, l, k1, k2, k3, k4, k5, k6⟩ := wu_Pin (x := x) hW (by omega) z1 z2
    refine wu_yin (by omega) (by omega) k2 k3 k4 (fun g => br_t rfl (st (fun p => g (k6.mp p)))) (fun q1 q2 => br_f (by decide) (nm_r (nI_1 w) (ih (w + 1) (by omega) 1 ⟨fun z => absurd z (by decide), fun z => absurd (k6.mpr ⟨q1, q2⟩) (z w (by omega))⟩)))
theorem wu_w4 (hW : wu_W on fi ln la ki) : ∀ d x, x + d = 40 → ∀ n : Int32, ∃ r : Int32, (∀ post : Int32 → Prop, post r → wX_watched_4 post kc ls sc ac me on pa fi la ki sk hi km ka kn kb kf (d + 1) n (nI x)) ∧ (∀ post : Int32 → Prop, post r → wY_watched_4 post ac sc kc me ol on fi ln ki pa sk hi ms ma mn mb mf (d + 1) n (nI x)) := by
  intro d
  induction d with
  | zero =>
    intro x hx n
    have h : (40 : Int32) ≤ nI x := nI_le (a := 40) (by omega) (by omega)
    exact ⟨n, fun _ q => br_t h q, fun _ q => br_t h q⟩
  | succ d ih =>
    intro x hx n
    have h : ¬ (40 : Int32) ≤ nI x := nI_ge (b := 40) (by omega) (by decide)
    by_cases hA : ∀ j, j < 8 → ¬ wu_P on pa fi ln x j
    · obtain ⟨r, hX, hY⟩ := ih (x + 1) (by omega) n
      refine ⟨r, fun post q => br_f h ⟨9, wu_xw2 (by omega) hW _ 8 0 (by omega) (fun _ => br_t rfl (nm_r (nI_1 x) (hX post q))) (fun z => ?_)⟩, fun post q => br_f h ⟨9, wu_yw15 (by omega) hW post _ (fun _ => hY post q) (fun z => absurd hA z) 8 0 (by omega) 0 ⟨fun _ j hj => by omega, fun _ => rfl⟩⟩⟩
      obtain ⟨j, q1, q2, q3⟩ := z
      exact absurd q3 (hA j q2)
    · obtain ⟨r, hX, hY⟩ := ih (x + 1) (by omega) (n + 1)
      refine ⟨r, fun post q => br_f h ⟨9, wu_xw2 (by omega) hW _ 8 0 (by omega) (fun z => absurd (fun j hj => z j (by omega) hj) hA) (fun z => br_f (by decide) (nm_e (nm_r (nI_1 x) (hX post q))))⟩, fun post q => br_f h ⟨9, wu_yw15 (by omega) hW post _ (fun z => absurd z hA) (fun _ => hY post q) 8 0 (by omega) 0 ⟨fun _ j hj => by omega, fun _ => rfl⟩⟩⟩
theorem wu_cnt {m : Int32} : ∀ d w, w + d = 8 → ∀ n : Int32, ∃ r : Int32, (∀ post : Int32 → Prop, post r → wX_watchesIn_4 post m kc ls sc ac me on pa fi la ki sk hi km ka kn kb kf (d + 1) n (nI w)) ∧ (∀ post : Int32 → SY → Prop, post r (ac, sc, kc, me, ol, on, fi, ln, ki, pa, sk, hi, ms, ma, mn, mb, mf) → wY_store_41 post m ac sc kc me ol on fi ln ki pa sk hi ms ma mn mb mf (d + 1) n (nI w)) := by
  intro d
  induction d with
  | zero =>
    intro w hw n
    have h : (8 : Int32) ≤ nI w := nI_le (a := 8) (by omega) (by omega)
    exact ⟨n, fun _ q => br_t h q, fun _ q => br_t h q⟩
  | succ d ih =>
    intro w hw n
    have h : ¬ (8 : Int32) ≤ nI w := nI_ge (b := 8) (by omega) (by decide)
    obtain ⟨r, hX, hY⟩ := ih (w + 1) (by omega) (n + ((m >>> (nI w &&& 31)) &&& 1))
    exact ⟨r, fun post q => br_f h (nm_r (congrArg (fun z => n + z) (wu_su1 (by omega))) (nm_r (nI_1 w) (hX post q))), fun post q => br_f h (nm_e (nm_r (nI_1 w) (hY post q)))⟩
end
theorem wu_num1 {m : Nat → Int32} {a : Nat} (h : wu_Byt m) : wu_num m a 1 = m a := by
  apply b_ext
  intro j hj
  rw [wu_numbt h 1 (by omega) j hj]
  by_cases h8 : j < 8
  · rw [decide_eq_true (by omega : j < 8 * 1), Bool.true_and, show j / 8 = 0 by omega, show j % 8 = j by omega, Nat.add_zero]
  · rw [decide_eq_false (by omega : ¬ j < 8 * 1), Bool.false_and]
    exact (h _ _ (by omega)).symm
def wu_R (u : SX) (v : SY) : Prop := ∃ me : Nat → Int32, wu_Rm me u v
def wu_xsw (post : Int32 → SX → Prop) (x2 : Int32) (n : Nat) (x3 x4 : Int32) (u : SX) : Prop := match u with
  | (kc, ls, sc, ac, me, on, pa, fi, la, ki, sk, hi, km, ka, kn, kb, kf) => wX_sweep_22 post x2 n x3 x4 kc ls sc ac me on pa fi la ki sk hi km ka kn kb kf
def wu_ysw (post : Int32 → SY → Prop) (x2 : Int32) (n : Nat) (x3 x4 : Int32) (v : SY) : Prop := match v with
  | (ac, sc, kc, me, ol, on, fi, ln, ki, pa, sk, hi, ms, ma, mn, mb, mf) => wY_sweep_22 post x2 n x3 x4 ac sc kc me ol on fi ln ki pa sk hi ms ma mn mb mf
theorem wu_sw {e : Nat} (he : e < 40) : ∀ d a, e < a + 2 * d → a < 42 → ∀ (n : Int32) (u : SX) (v : SY), wu_R u v → ∃ (r : Int32) (u' : SX) (v' : SY), wu_R u' v' ∧ (∀ post : Int32 → SX → Prop, post r u' → wu_xsw post (nI e) (d + 1) n (nI a) u) ∧ (∀ post : Int32 → SY → Prop, post r v' → wu_ysw post (nI e) (d + 1) n (nI a) v) := by
  intro d
  induction d with
  | zero =>
    intro a h1 h2 n u v hR
    have hR0 := hR
    obtain ⟨me, c, l, sc, ac, on, pa, fi, la, ki, sk, hi, km, ka, kn, kb, kf, ol, ln, ms, ma, mn, mb, mf, rfl, rfl, hc, hl, B, hW, g1, g2, g3, g4, g5⟩ := hR
    have h : nI e < nI a := nI_lt (by omega) (by omega)
    exact ⟨n, _, _, hR0, fun _ q => br_t h q, fun _ q => br_t h q⟩
  | succ d ih =>
    intro a h1 h2 n u v hR
    have hR0 := hR
    obtain ⟨me, c, l, sc, ac, on, pa, fi, la, ki, sk, hi, km, ka, kn, kb, kf, ol, ln, ms, ma, mn, mb, mf, rfl, rfl, hc, hl, B, hW, g1, g2, g3, g4, g5⟩ := hR
    by_cases hq : e < a
    · have h : nI e < nI a := nI_lt (by omega) (by omega)
      exact ⟨n, _, _, hR0, fun _ q => br_t h q, fun _ q => br_t h q⟩
    · have h : ¬ nI e < nI a := nI_nlt (by omega) (by omega)
      have hcl := nI_clamp (n := a) (by omega)
      have hv := vp_in_nI (n := a) (N := 40) (by omega) (by omega)
      obtain ⟨mk, u1, v1, hR1, hX, hY⟩ := wu_acc (a := a) (s := 1) (p3 := 0) (v := 0) (m' := me) (sc := sc) (ac := ac) (pa := pa) (sk := sk) (hi := hi) (ol := ol) hc hl (by omega) (by omega) (by omega) hW B (Or.inl ⟨rfl, rfl⟩) g1 g2 g3 g4 g5
      rw [wu_num1 B] at hX
      by_cases hm : mk = 0
      · obtain ⟨r, u2, v2, hR2, iX, iY⟩ := ih (a + 2) (by omega) (by omega) n u1 v1 ⟨me, hR1⟩
        obtain ⟨c1, l1, sc1, ac1, on1, pa1, fi1, la1, ki1, sk1, hi1, km1, ka1, kn1, kb1, kf1, ol1, ln1, ms1, ma1, mn1, mb1, mf1, rfl, rfl, _⟩ := hR1
        refine ⟨r, u2, v2, hR2, fun post q => br_f h ⟨hv, ?_⟩, fun post q => br_f h (hY _ (br_t hm (nm_r (nI_add a 2) (iY post q))))⟩
        rw [hcl]
        exact nm_e (hX _ (br_t hm (nm_r (nI_add a 2) (iX post q))))
      · obtain ⟨r, u2, v2, hR2, iX, iY⟩ := ih (a + 2) (by omega) (by omega) (n + 1) u1 v1 ⟨me, hR1⟩
        obtain ⟨c1, l1, sc1, ac1, on1, pa1, fi1, la1, ki1, sk1, hi1, km1, ka1, kn1, kb1, kf1, ol1, ln1, ms1, ma1, mn1, mb1, mf1, rfl, rfl, _⟩ := hR1
        refine ⟨r, u2, v2, hR2, fun post q => br_f h ⟨hv, ?_⟩, fun post q => br_f h (hY _ (br_f hm (nm_e (nm_r (nI_add a 2) (iY post q)))))⟩
        rw [hcl]
        exact nm_e (hX _ (br_f hm (nm_e (nm_r (nI_add a 2) (iX post q)))))
end
section
/-- the two states belong together (nothing of it grows with the script) -/
def i_Rel (_ : Nat) (u : SX) (v : SY) : Prop := wu_R u v
theorem i_up {k : Nat} {u : SX} {v : SY} (h : i_Rel k u v) : i_Rel (k + 5) u v := by
  exact h
theorem i_vc0 : wpX_init (fun u => wpY_init (fun v => i_Rel 0 u v)) := by
  refine ⟨fun _ => 0, 0, 0, 0, 0, fun _ => 0, fun _ => 0, fun _ => 0, fun _ => 0, fun _ => 0, fun _ => 0, fun _ => 0, fun _ => 0, fun _ => 0, fun _ => 0, fun _ => 0, fun _ => 0, fun _ => 0, fun _ => 0, fun _ => 0, fun _ => 0, fun _ => 0, fun _ => 0, fun _ => 0, rfl, rfl, by omega, by omega, fun _ i _ => b_0 i, fun w _ z => absurd rfl z, fun _ _ => rfl, fun _ _ => rfl, fun _ _ => rfl, fun _ _ => rfl, fun _ _ => rfl⟩
theorem i_vc_set {k : Nat} {u : SX} {v : SY} (I : i_Rel k u v) (hk : k + 5 ≤ 2560) (v1 : Int32) (v2 : Int32) (v3 : Int32) (v4 : Int32) : wpX_set (fun r u' => wpY_set (fun r' v' => r' = r ∧ i_Rel (k + 5) u' v') v v1 v2 v3 v4) u v1 v2 v3 v4 := by
  have hR : i_Rel (k + 5) u v := I
  obtain ⟨me, c, l, sc, ac, on, pa, fi, la, ki, sk, hi, km, ka, kn, kb, kf, ol, ln, ms, ma, mn, mb, mf, rfl, rfl, hc, hl, B, hW, g1, g2, g3, g4, g5⟩ := I
  by_cases hb : v1 < 0 ∨ nI 8 ≤ v1
  · unfold wpX_set
    refine wu_xiw0 hb (br_t rfl ?_)
    unfold wpY_set
    exact wu_yb1 hb (br_f (by decide) ⟨rfl, hR⟩)
  obtain ⟨w, hw, rfl⟩ : ∃ w : Nat, w < 8 ∧ v1 = nI w := by
    rcases pk_ix v1 (n := 8) (by omega) with z | z | z
    · exact absurd (Or.inl z) hb
    · exact absurd (Or.inr z) hb
    · exact z
  have hcl := nI_clamp (n := w) (by omega)
  have hv := vp_in_nI (N := 8) hw (by omega)
  unfold wpX_set
  dsimp only
  rw [hcl]
  by_cases h1 : v3 < 1
  · refine wu_xiw1 hw (br_f (by decide) (br_t h1 ?_))
    unfold wpY_set
    exact wu_yb0 hw (br_t rfl (br_t h1 ⟨rfl, hR⟩))
  by_cases h2 : v3 ≤ 16
  rotate_left
  · refine wu_xiw1 hw (br_f (by decide) (br_f h1 (br_f h2 ?_)))
    unfold wpY_set
    exact wu_yb0 hw (br_t rfl (br_f h1 (br_f h2 ⟨rfl, hR⟩)))
  by_cases h3 : v2 < 0
  · refine wu_xiw1 hw (br_f (by decide) (br_f h1 (br_t h2 (wu_xl0 (Or.inl h3) (br_t rfl ?_)))))
    unfold wpY_set
    exact wu_yb0 hw (br_t rfl (br_f h1 (br_t h2 (br_t h3 ⟨rfl, hR⟩))))
  by_cases h4 : (40 - v3) < v2
  · refine wu_xiw1 hw (br_f (by decide) (br_f h1 (br_t h2 (wu_xl0 (Or.inr h4) (br_t rfl ?_)))))
    unfold wpY_set
    exact wu_yb0 hw (br_t rfl (br_f h1 (br_t h2 (br_f h3 (br_f (Int32.not_le.mpr h4) ⟨rfl, hR⟩)))))
  have h4' : v2 ≤ (40 - v3) := Int32.not_lt.mp h4
  by_cases h5 : v4 < 1
  · refine wu_xiw1 hw (br_f (by decide) (br_f h1 (br_t h2 (wu_xl1 h3 h4 (br_f (by decide) (br_t h5 ?_))))))
    unfold wpY_set
    exact wu_yb0 hw (br_t rfl (br_f h1 (br_t h2 (br_f h3 (br_t h4' (br_t h5 ⟨rfl, hR⟩))))))
  by_cases h6 : v4 ≤ 4
  rotate_left
  · refine wu_xiw1 hw (br_f (by decide) (br_f h1 (br_t h2 (wu_xl1 h3 h4 (br_f (by decide) (br_f h5 (br_f h6 ?_)))))))
    unfold wpY_set
    exact wu_yb0 hw (br_t rfl (br_f h1 (br_t h2 (br_f h3 (br_t h4' (br_f h5 (br_f h6 ⟨rfl, hR⟩)))))))
  have hN : i_Rel (k + 5) (nI c, nI l, sc, ac, me, upd on w (vp_nar .boolean 1), upd pa w (vp_nar .boolean 0), upd fi w v2, upd la w ((v2 + v3) - 1), upd ki w v4, upd sk w 0, upd hi w 0, km, ka, kn, kb, kf) (ac, sc, nI c, me, ol, upd on w (vp_nar .boolean 1), upd fi w v2, upd ln w v3, upd ki w v4, upd pa w (vp_nar .boolean 0), upd sk w 0, upd hi w 0, ms, ma, mn, mb, mf) := ⟨_, _, _, _, _, _, _, _, _, _, _, _, _, _, _, _, _, _, _, _, _, _, _, _, rfl, rfl, hc, hl, B, wu_Wset hW h1 h2 h3 h4 h5 h6, g1, g2, g3, g4, g5⟩
  refine wu_xiw1 hw (br_f (by decide) (br_f h1 (br_t h2 (wu_xl1 h3 h4 (br_f (by decide) (br_f h5 (br_t h6 ⟨hv, br_c (fun z => wu_xs65 hw ?_) (fun z => wu_xs65 hw ?_)⟩)))))))
  · unfold wpY_set
    dsimp only
    rw [hcl]
    exact wu_yb0 hw (br_t rfl (br_f h1 (br_t h2 (br_f h3 (br_t h4' (br_f h5 (br_t h6 ⟨hv, br_t z (wu_ys68 hw ⟨rfl, hN⟩)⟩)))))))
  · unfold wpY_set
    dsimp only
    rw [hcl]
    exact wu_yb0 hw (br_t rfl (br_f h1 (br_t h2 (br_f h3 (br_t h4' (br_f h5 (br_t h6 ⟨hv, br_f z (wu_ys68 hw ⟨rfl, hN⟩)⟩)))))))
theorem i_vc_clear {k : Nat} {u : SX} {v : SY} (I : i_Rel k u v) (hk : k + 5 ≤ 2560) (v1 : Int32) : wpX_clear (fun r u' => wpY_clear (fun r' v' => r' = r ∧ i_Rel (k + 5) u' v') v v1) u v1 := by
  have hR : i_Rel (k + 5) u v := I
  obtain ⟨me, c, l, sc, ac, on, pa, fi, la, ki, sk, hi, km, ka, kn, kb, kf, ol, ln, ms, ma, mn, mb, mf, rfl, rfl, hc, hl, B, hW, g1, g2, g3, g4, g5⟩ := I
  by_cases hb : v1 < 0 ∨ nI 8 ≤ v1
  · unfold wpX_clear
    refine wu_xrb hb (br_f (by decide) ?_)
    unfold wpY_clear
    exact wu_yb1 hb (br_f (by decide) ⟨rfl, hR⟩)
  obtain ⟨w, hw, rfl⟩ : ∃ w : Nat, w < 8 ∧ v1 = nI w := by
    rcases pk_ix v1 (n := 8) (by omega) with z | z | z
    · exact absurd (Or.inl z) hb
    · exact absurd (Or.inr z) hb
    · exact z
  have hcl := nI_clamp (n := w) (by omega)
  have hv := vp_in_nI (N := 8) hw (by omega)
  by_cases h0 : on w = 0
  · unfold wpX_clear
    refine wu_xru hw h0 (br_f (by decide) ?_)
    unfold wpY_clear
    dsimp only
    rw [hcl]
    exact wu_yb0 hw (br_t rfl ⟨hv, br_t h0 ⟨rfl, hR⟩⟩)
  unfold wpX_clear
  dsimp only
  rw [hcl]
  refine wu_xrs hw h0 (br_t rfl ⟨hv, nm_e ⟨hv, ?_⟩⟩)
  unfold wpY_clear
  dsimp only
  rw [hcl]
  exact wu_yb0 hw (br_t rfl ⟨hv, br_f h0 ⟨hv, nm_e ⟨hv, rfl, ⟨_, _, _, _, _, _, _, _, _, _, _, _, _, _, _, _, _, _, _, _, _, _, _, _, rfl, rfl, hc, hl, B, wu_Wclr hW h0, g1, g2, g3, g4, g5⟩⟩⟩⟩)
theorem i_vc_pause {k : Nat} {u : SX} {v : SY} (I : i_Rel k u v) (hk : k + 5 ≤ 2560) (v1 : Int32) (v2 : Int32) : wpX_pause (fun r u' => wpY_pause (fun r' v' => r' = r ∧ i_Rel (k + 5) u' v') v v1 v2) u v1 v2 := by
  have hR : i_Rel (k + 5) u v := I
  obtain ⟨me, c, l, sc, ac, on, pa, fi, la, ki, sk, hi, km, ka, kn, kb, kf, ol, ln, ms, ma, mn, mb, mf, rfl, rfl, hc, hl, B, hW, g1, g2, g3, g4, g5⟩ := I
  by_cases hb : v1 < 0 ∨ nI 8 ≤ v1
  · unfold wpX_pause
    refine wu_xrb hb (br_f (by decide) ?_)
    unfold wpY_pause
    exact wu_yb1 hb (br_f (by decide) ⟨rfl, hR⟩)
  obtain ⟨w, hw, rfl⟩ : ∃ w : Nat, w < 8 ∧ v1 = nI w := by
    rcases pk_ix v1 (n := 8) (by omega) with z | z | z
    · exact absurd (Or.inl z) hb
    · exact absurd (Or.inr z) hb
    · exact z
  have hcl := nI_clamp (n := w) (by omega)
  have hv := vp_in_nI (N := 8) hw (by omega)
  by_cases h0 : on w = 0
  · unfold wpX_pause
    refine wu_xru hw h0 (br_f (by decide) ?_)
    unfold wpY_pause
    dsimp only
    rw [hcl]
    exact wu_yb0 hw (br_t rfl ⟨hv, br_t h0 ⟨rfl, hR⟩⟩)
  unfold wpX_pause
  dsimp only
  rw [hcl]
  refine wu_xrs hw h0 (br_t rfl ⟨hv, br_c (fun z => wu_xp26 hw (fun y => ?_) (fun y => ?_)) (fun z => wu_xp26 hw (fun y => ?_) (fun y => ?_))⟩)
  · unfold wpY_pause
    dsimp only
    rw [hcl]
    exact wu_yb0 hw (br_t rfl ⟨hv, br_f h0 ⟨hv, br_t z (wu_yp36 hw (fun _ => ⟨rfl, ⟨_, _, _, _, _, _, _, _, _, _, _, _, _, _, _, _, _, _, _, _, _, _, _, _, rfl, rfl, hc, hl, B, hW, g1, g2, g3, g4, g5⟩⟩) (fun q => absurd y q))⟩⟩)
  · unfold wpY_pause
    dsimp only
    rw [hcl]
    exact wu_yb0 hw (br_t rfl ⟨hv, br_f h0 ⟨hv, br_t z (wu_yp36 hw (fun q => absurd q y) (fun _ => ⟨rfl, ⟨_, _, _, _, _, _, _, _, _, _, _, _, _, _, _, _, _, _, _, _, _, _, _, _, rfl, rfl, hc, hl, B, hW, g1, g2, g3, g4, g5⟩⟩))⟩⟩)
  · unfold wpY_pause
    dsimp only
    rw [hcl]
    exact wu_yb0 hw (br_t rfl ⟨hv, br_f h0 ⟨hv, br_f z (wu_yp36 hw (fun _ => ⟨rfl, ⟨_, _, _, _, _, _, _, _, _, _, _, _, _, _, _, _, _, _, _, _, _, _, _, _, rfl, rfl, hc, hl, B, hW, g1, g2, g3, g4, g5⟩⟩) (fun q => absurd y q))⟩⟩)
  · unfold wpY_pause
    dsimp only
    rw [hcl]
    exact wu_yb0 hw (br_t rfl ⟨hv, br_f h0 ⟨hv, br_f z (wu_yp36 hw (fun q => absurd q y) (fun _ => ⟨rfl, ⟨_, _, _, _, _, _, _, _, _, _, _, _, _, _, _, _, _, _, _, _, _, _, _, _, rfl, rfl, hc, hl, B, hW, g1, g2, g3, g4, g5⟩⟩))⟩⟩)
theorem i_vc_skip {k : Nat} {u : SX} {v : SY} (I : i_Rel k u v) (hk : k + 5 ≤ 2560) (v1 : Int32) (v2 : Int32) : wpX_skip (fun r u' => wpY_skip (fun r' v' => r' = r ∧ i_Rel (k + 5) u' v') v v1 v2) u v1 v2 := by
  have hR : i_Rel (k + 5) u v := I
  obtain ⟨me, c, l, sc, ac, on, pa, fi, la, ki, sk, hi, km, ka, kn, kb, kf, ol, ln, ms, ma, mn, mb, mf, rfl, rfl, hc, hl, B, hW, g1, g2, g3, g4, g5⟩ := I
  by_cases hb : v1 < 0 ∨ nI 8 ≤ v1
  · unfold wpX_skip
    refine wu_xrb hb (br_f (by decide) ?_)
    unfold wpY_skip
    exact wu_yb1 hb (br_f (by decide) ⟨rfl, hR⟩)
  obtain ⟨w, hw, rfl⟩ : ∃ w : Nat, w < 8 ∧ v1 = nI w := by
    rcases pk_ix v1 (n := 8) (by omega) with z | z | z
    · exact absurd (Or.inl z) hb
    · exact absurd (Or.inr z) hb
    · exact z
  have hcl := nI_clamp (n := w) (by omega)
  have hv := vp_in_nI (N := 8) hw (by omega)
  by_cases h0 : on w = 0
  · unfold wpX_skip
    refine wu_xru hw h0 (br_f (by decide) ?_)
    unfold wpY_skip
    dsimp only
    rw [hcl]
    exact wu_yb0 hw (br_t rfl ⟨hv, br_t h0 ⟨rfl, hR⟩⟩)
  unfold wpX_skip
  dsimp only
  rw [hcl]
  by_cases h1 : v2 < 0
  · refine wu_xrs hw h0 (br_t rfl (br_t h1 ?_))
    unfold wpY_skip
    dsimp only
    rw [hcl]
    exact wu_yb0 hw (br_t rfl ⟨hv, br_f h0 (br_t h1 ⟨rfl, hR⟩)⟩)
  by_cases h2 : v2 ≤ 100
  · refine wu_xrs hw h0 (br_t rfl (br_f h1 (br_t h2 ⟨hv, nm_e ⟨hv, nm_e ?_⟩⟩)))
    unfold wpY_skip
    dsimp only
    rw [hcl]
    exact wu_yb0 hw (br_t rfl ⟨hv, br_f h0 (br_f h1 (br_t h2 ⟨hv, nm_e ⟨hv, nm_e ⟨rfl, ⟨_, _, _, _, _, _, _, _, _, _, _, _, _, _, _, _, _, _, _, _, _, _, _, _, rfl, rfl, hc, hl, B, hW, g1, g2, g3, g4, g5⟩⟩⟩⟩))⟩)
  · refine wu_xrs hw h0 (br_t rfl (br_f h1 (br_f h2 ?_)))
    unfold wpY_skip
    dsimp only
    rw [hcl]
    exact wu_yb0 hw (br_t rfl ⟨hv, br_f h0 (br_f h1 (br_f h2 ⟨rfl, hR⟩))⟩)
theorem i_vc_hits {k : Nat} {u : SX} {v : SY} (I : i_Rel k u v) (hk : k + 5 ≤ 2560) (v1 : Int32) : wpX_hits (fun r => wpY_hits (fun r' => r' = r ∧ i_Rel (k + 5) u v) v v1) u v1 := by
  have hR : i_Rel (k + 5) u v := I
  obtain ⟨me, c, l, sc, ac, on, pa, fi, la, ki, sk, hi, km, ka, kn, kb, kf, ol, ln, ms, ma, mn, mb, mf, rfl, rfl, hc, hl, B, hW, g1, g2, g3, g4, g5⟩ := I
  by_cases hb : v1 < 0 ∨ nI 8 ≤ v1
  · unfold wpX_hits
    refine wu_xrb hb (br_f (by decide) ?_)
    unfold wpY_hits
    exact wu_yb1 hb (br_f (by decide) ⟨rfl, hR⟩)
  obtain ⟨w, hw, rfl⟩ : ∃ w : Nat, w < 8 ∧ v1 = nI w := by
    rcases pk_ix v1 (n := 8) (by omega) with z | z | z
    · exact absurd (Or.inl z) hb
    · exact absurd (Or.inr z) hb
    · exact z
  have hcl := nI_clamp (n := w) (by omega)
  have hv := vp_in_nI (N := 8) hw (by omega)
  by_cases h0 : on w = 0
  · unfold wpX_hits
    refine wu_xru hw h0 (br_f (by decide) ?_)
    unfold wpY_hits
    dsimp only
    rw [hcl]
    exact wu_yb0 hw (br_t rfl ⟨hv, br_t h0 ⟨rfl, hR⟩⟩)
  unfold wpX_hits
  dsimp only
  rw [hcl]
  refine wu_xrs hw h0 (br_t rfl ⟨hv, ?_⟩)
  unfold wpY_hits
  dsimp only
  rw [hcl]
  exact wu_yb0 hw (br_t rfl ⟨hv, br_f h0 ⟨hv, rfl, hR⟩⟩)
theorem i_vc_skips {k : Nat} {u : SX} {v : SY} (I : i_Rel k u v) (hk : k + 5 ≤ 2560) (v1 : Int32) : wpX_skips (fun r => wpY_skips (fun r' => r' = r ∧ i_Rel (k + 5) u v) v v1) u v1 := by
  have hR : i_Rel (k + 5) u v := I
  obtain ⟨me, c, l, sc, ac, on, pa, fi, la, ki, sk, hi, km, ka, kn, kb, kf, ol, ln, ms, ma, mn, mb, mf, rfl, rfl, hc, hl, B, hW, g1, g2, g3, g4, g5⟩ := I
  by_cases hb : v1 < 0 ∨ nI 8 ≤ v1
  · unfold wpX_skips
    refine wu_xrb hb (br_f (by decide) ?_)
    unfold wpY_skips
    exact wu_yb1 hb (br_f (by decide) ⟨rfl, hR⟩)
  obtain ⟨w, hw, rfl⟩ : ∃ w : Nat, w < 8 ∧ v1 = nI w := by
    rcases pk_ix v1 (n := 8) (by omega) with z | z | z
    · exact absurd (Or.inl z) hb
    · exact absurd (Or.inr z) hb
    · exact z
  have hcl := nI_clamp (n := w) (by omega)
  have hv := vp_in_nI (N := 8) hw (by omega)
  by_cases h0 : on w = 0
  · unfold wpX_skips
    refine wu_xru hw h0 (br_f (by decide) ?_)
    unfold wpY_skips
    dsimp only
    rw [hcl]
    exact wu_yb0 hw (br_t rfl ⟨hv, br_t h0 ⟨rfl, hR⟩⟩)
  unfold wpX_skips
  dsimp only
  rw [hcl]
  refine wu_xrs hw h0 (br_t rfl ⟨hv, ?_⟩)
  unfold wpY_skips
  dsimp only
  rw [hcl]
  exact wu_yb0 hw (br_t rfl ⟨hv, br_f h0 ⟨hv, rfl, hR⟩⟩)
theorem i_vc_stops {k : Nat} {u : SX} {v : SY} (I : i_Rel k u v) (hk : k + 5 ≤ 2560) : wpX_stops (fun r => wpY_stops (fun r' => r' = r ∧ i_Rel (k + 5) u v) v) u := by
  have hR : i_Rel (k + 5) u v := I
  obtain ⟨me, c, l, sc, ac, on, pa, fi, la, ki, sk, hi, km, ka, kn, kb, kf, ol, ln, ms, ma, mn, mb, mf, rfl, rfl, hc, hl, B, hW, g1, g2, g3, g4, g5⟩ := I
  exact ⟨rfl, hR⟩
theorem i_vc_accesses {k : Nat} {u : SX} {v : SY} (I : i_Rel k u v) (hk : k + 5 ≤ 2560) : wpX_accesses (fun r => wpY_accesses (fun r' => r' = r ∧ i_Rel (k + 5) u v) v) u := by
  have hR : i_Rel (k + 5) u v := I
  obtain ⟨me, c, l, sc, ac, on, pa, fi, la, ki, sk, hi, km, ka, kn, kb, kf, ol, ln, ms, ma, mn, mb, mf, rfl, rfl, hc, hl, B, hW, g1, g2, g3, g4, g5⟩ := I
  exact ⟨rfl, hR⟩
theorem i_vc_kept {k : Nat} {u : SX} {v : SY} (I : i_Rel k u v) (hk : k + 5 ≤ 2560) : wpX_kept (fun r => wpY_kept (fun r' => r' = r ∧ i_Rel (k + 5) u v) v) u := by
  have hR : i_Rel (k + 5) u v := I
  obtain ⟨me, c, l, sc, ac, on, pa, fi, la, ki, sk, hi, km, ka, kn, kb, kf, ol, ln, ms, ma, mn, mb, mf, rfl, rfl, hc, hl, B, hW, g1, g2, g3, g4, g5⟩ := I
  exact ⟨rfl, hR⟩
theorem i_vc_stopMask {k : Nat} {u : SX} {v : SY} (I : i_Rel k u v) (hk : k + 5 ≤ 2560) (v1 : Int32) : wpX_stopMask (fun r => wpY_stopMask (fun r' => r' = r ∧ i_Rel (k + 5) u v) v v1) u v1 := by
  have hR : i_Rel (k + 5) u v := I
  obtain ⟨me, c, l, sc, ac, on, pa, fi, la, ki, sk, hi, km, ka, kn, kb, kf, ol, ln, ms, ma, mn, mb, mf, rfl, rfl, hc, hl, B, hW, g1, g2, g3, g4, g5⟩ := I
  by_cases hb : v1 < 0 ∨ nI c ≤ v1
  · unfold wpX_stopMask
    refine wu_xsn hb (br_f (by decide) ?_)
    unfold wpY_stopMask
    exact wu_yn1 hb (br_f (by decide) ⟨rfl, hR⟩)
  obtain ⟨w, hw, rfl⟩ : ∃ w : Nat, w < c ∧ v1 = nI w := by
    rcases pk_ix v1 (n := c) (by omega) with z | z | z
    · exact absurd (Or.inl z) hb
    · exact absurd (Or.inr z) hb
    · exact z
  have hq := wu_sl8 (i := w) hl (by omega)
  unfold wpX_stopMask
  refine wu_xss hc hl hw (br_t (nI_pos' (by omega)) ⟨vp_in_nI hq (by omega), ?_⟩)
  unfold wpY_stopMask
  dsimp only
  rw [nI_clamp (n := w) (by omega), nI_clamp (n := wu_sl l w) (by omega)]
  exact wu_yn0 hc hw (br_t rfl ⟨vp_in_nI (by omega) (by omega), g1 w (by omega), hR⟩)
theorem i_vc_stopAddress {k : Nat} {u : SX} {v : SY} (I : i_Rel k u v) (hk : k + 5 ≤ 2560) (v1 : Int32) : wpX_stopAddress (fun r => wpY_stopAddress (fun r' => r' = r ∧ i_Rel (k + 5) u v) v v1) u v1 := by
  have hR : i_Rel (k + 5) u v := I
  obtain ⟨me, c, l, sc, ac, on, pa, fi, la, ki, sk, hi, km, ka, kn, kb, kf, ol, ln, ms, ma, mn, mb, mf, rfl, rfl, hc, hl, B, hW, g1, g2, g3, g4, g5⟩ := I
  by_cases hb : v1 < 0 ∨ nI c ≤ v1
  · unfold wpX_stopAddress
    refine wu_xsn hb (br_f (by decide) ?_)
    unfold wpY_stopAddress
    exact wu_yn1 hb (br_f (by decide) ⟨rfl, hR⟩)
  obtain ⟨w, hw, rfl⟩ : ∃ w : Nat, w < c ∧ v1 = nI w := by
    rcases pk_ix v1 (n := c) (by omega) with z | z | z
    · exact absurd (Or.inl z) hb
    · exact absurd (Or.inr z) hb
    · exact z
  have hq := wu_sl8 (i := w) hl (by omega)
  unfold wpX_stopAddress
  refine wu_xss hc hl hw (br_t (nI_pos' (by omega)) ⟨vp_in_nI hq (by omega), ?_⟩)
  unfold wpY_stopAddress
  dsimp only
  rw [nI_clamp (n := w) (by omega), nI_clamp (n := wu_sl l w) (by omega)]
  exact wu_yn0 hc hw (br_t rfl ⟨vp_in_nI (by omega) (by omega), g2 w (by omega), hR⟩)
theorem i_vc_stopNumber {k : Nat} {u : SX} {v : SY} (I : i_Rel k u v) (hk : k + 5 ≤ 2560) (v1 : Int32) : wpX_stopNumber (fun r => wpY_stopNumber (fun r' => r' = r ∧ i_Rel (k + 5) u v) v v1) u v1 := by
  have hR : i_Rel (k + 5) u v := I
  obtain ⟨me, c, l, sc, ac, on, pa, fi, la, ki, sk, hi, km, ka, kn, kb, kf, ol, ln, ms, ma, mn, mb, mf, rfl, rfl, hc, hl, B, hW, g1, g2, g3, g4, g5⟩ := I
  by_cases hb : v1 < 0 ∨ nI c ≤ v1
  · unfold wpX_stopNumber
    refine wu_xsn hb (br_f (by decide) ?_)
    unfold wpY_stopNumber
    exact wu_yn1 hb (br_f (by decide) ⟨rfl, hR⟩)
  obtain ⟨w, hw, rfl⟩ : ∃ w : Nat, w < c ∧ v1 = nI w := by
    rcases pk_ix v1 (n := c) (by omega) with z | z | z
    · exact absurd (Or.inl z) hb
    · exact absurd (Or.inr z) hb
    · exact z
  have hq := wu_sl8 (i := w) hl (by omega)
  unfold wpX_stopNumber
  refine wu_xss hc hl hw (br_t (nI_pos' (by omega)) ⟨vp_in_nI hq (by omega), ?_⟩)
  unfold wpY_stopNumber
  dsimp only
  rw [nI_clamp (n := w) (by omega), nI_clamp (n := wu_sl l w) (by omega)]
  exact wu_yn0 hc hw (br_t rfl ⟨vp_in_nI (by omega) (by omega), g3 w (by omega), hR⟩)
theorem i_vc_before {k : Nat} {u : SX} {v : SY} (I : i_Rel k u v) (hk : k + 5 ≤ 2560) (v1 : Int32) : wpX_before (fun r => wpY_before (fun r' => r' = r ∧ i_Rel (k + 5) u v) v v1) u v1 := by
  have hR : i_Rel (k + 5) u v := I
  obtain ⟨me, c, l, sc, ac, on, pa, fi, la, ki, sk, hi, km, ka, kn, kb, kf, ol, ln, ms, ma, mn, mb, mf, rfl, rfl, hc, hl, B, hW, g1, g2, g3, g4, g5⟩ := I
  by_cases hb : v1 < 0 ∨ nI c ≤ v1
  · unfold wpX_before
    refine wu_xsn hb (br_f (by decide) ?_)
    unfold wpY_before
    exact wu_yn1 hb (br_f (by decide) ⟨rfl, hR⟩)
  obtain ⟨w, hw, rfl⟩ : ∃ w : Nat, w < c ∧ v1 = nI w := by
    rcases pk_ix v1 (n := c) (by omega) with z | z | z
    · exact absurd (Or.inl z) hb
    · exact absurd (Or.inr z) hb
    · exact z
  have hq := wu_sl8 (i := w) hl (by omega)
  unfold wpX_before
  refine wu_xss hc hl hw (br_t (nI_pos' (by omega)) ⟨vp_in_nI hq (by omega), ?_⟩)
  unfold wpY_before
  dsimp only
  rw [nI_clamp (n := w) (by omega), nI_clamp (n := wu_sl l w) (by omega)]
  exact wu_yn0 hc hw (br_t rfl ⟨vp_in_nI (by omega) (by omega), g4 w (by omega), hR⟩)
theorem i_vc_after {k : Nat} {u : SX} {v : SY} (I : i_Rel k u v) (hk : k + 5 ≤ 2560) (v1 : Int32) : wpX_after (fun r => wpY_after (fun r' => r' = r ∧ i_Rel (k + 5) u v) v v1) u v1 := by
  have hR : i_Rel (k + 5) u v := I
  obtain ⟨me, c, l, sc, ac, on, pa, fi, la, ki, sk, hi, km, ka, kn, kb, kf, ol, ln, ms, ma, mn, mb, mf, rfl, rfl, hc, hl, B, hW, g1, g2, g3, g4, g5⟩ := I
  by_cases hb : v1 < 0 ∨ nI c ≤ v1
  · unfold wpX_after
    refine wu_xsn hb (br_f (by decide) ?_)
    unfold wpY_after
    exact wu_yn1 hb (br_f (by decide) ⟨rfl, hR⟩)
  obtain ⟨w, hw, rfl⟩ : ∃ w : Nat, w < c ∧ v1 = nI w := by
    rcases pk_ix v1 (n := c) (by omega) with z | z | z
    · exact absurd (Or.inl z) hb
    · exact absurd (Or.inr z) hb
    · exact z
  have hq := wu_sl8 (i := w) hl (by omega)
  unfold wpX_after
  refine wu_xss hc hl hw (br_t (nI_pos' (by omega)) ⟨vp_in_nI hq (by omega), ?_⟩)
  unfold wpY_after
  dsimp only
  rw [nI_clamp (n := w) (by omega), nI_clamp (n := wu_sl l w) (by omega)]
  exact wu_yn0 hc hw (br_t rfl ⟨vp_in_nI (by omega) (by omega), g5 w (by omega), hR⟩)
theorem i_vc_peek {k : Nat} {u : SX} {v : SY} (I : i_Rel k u v) (hk : k + 5 ≤ 2560) (v1 : Int32) : wpX_peek (fun r => wpY_peek (fun r' => r' = r ∧ i_Rel (k + 5) u v) v v1) u v1 := by
  have hR : i_Rel (k + 5) u v := I
  obtain ⟨me, c, l, sc, ac, on, pa, fi, la, ki, sk, hi, km, ka, kn, kb, kf, ol, ln, ms, ma, mn, mb, mf, rfl, rfl, hc, hl, B, hW, g1, g2, g3, g4, g5⟩ := I
  have e : (40 : Int32) - 1 = 39 := by decide
  unfold wpX_peek
  by_cases h0 : v1 < 0
  · refine wu_xl0 (Or.inl h0) (br_t rfl ?_)
    unfold wpY_peek
    exact br_t h0 ⟨rfl, hR⟩
  by_cases h1 : ((40 : Int32) - 1) < v1
  · refine wu_xl0 (Or.inr h1) (br_t rfl ?_)
    unfold wpY_peek
    rw [e] at h1
    exact br_f h0 (br_f (Int32.not_le.mpr h1) ⟨rfl, hR⟩)
  · obtain ⟨a, ha, rfl⟩ := wu_adr (s := 1) (by omega) h0 h1
    have hv := vp_in_nI (n := a) (N := 40) (by omega) (by omega)
    refine wu_xl1 h0 h1 (br_f (by decide) ⟨hv, ?_⟩)
    unfold wpY_peek
    rw [e] at h1
    exact br_f h0 (br_t (Int32.not_lt.mp h1) ⟨hv, rfl, hR⟩)
theorem i_vc_watched {k : Nat} {u : SX} {v : SY} (I : i_Rel k u v) (hk : k + 5 ≤ 2560) : wpX_watched (fun r => wpY_watched (fun r' => r' = r ∧ i_Rel (k + 5) u v) v) u := by
  have hR : i_Rel (k + 5) u v := I
  obtain ⟨me, c, l, sc, ac, on, pa, fi, la, ki, sk, hi, km, ka, kn, kb, kf, ol, ln, ms, ma, mn, mb, mf, rfl, rfl, hc, hl, B, hW, g1, g2, g3, g4, g5⟩ := I
  obtain ⟨r, hX, hY⟩ := wu_w4 (kc := nI c) (ls := nI l) (sc := sc) (ac := ac) (me := me) (pa := pa) (sk := sk) (hi := hi) (km := km) (ka := ka) (kn := kn) (kb := kb) (kf := kf) (ol := ol) (ms := ms) (ma := ma) (mn := mn) (mb := mb) (mf := mf) hW 40 0 (by omega) 0
  unfold wpX_watched
  refine ⟨41, hX _ ?_⟩
  unfold wpY_watched
  exact ⟨41, hY _ ⟨rfl, hR⟩⟩
end
section
theorem wu_size (x : Int32) : (∃ s : Nat, (s = 1 ∨ s = 2 ∨ s = 4) ∧ x = nI s) ∨ (¬ x = 1 ∧ ¬ x = 2 ∧ ¬ x = 4) := by
  by_cases h1 : x = 1
  · exact Or.inl ⟨1, by omega, h1⟩
  by_cases h2 : x = 2
  · exact Or.inl ⟨2, by omega, h2⟩
  by_cases h4 : x = 4
  · exact Or.inl ⟨4, by omega, h4⟩
  exact Or.inr ⟨h1, h2, h4⟩
section
variable {kc ls sc ac : Int32} {me on pa fi la ki sk hi km ka kn kb kf ol ln ms ma mn mb mf : Nat → Int32}
theorem wu_xas1 {s : Nat} (hs : s = 1 ∨ s = 2 ∨ s = 4) {post : Int32 → Prop} (hp : post 1) : wpX_isAccessSize post (kc, ls, sc, ac, me, on, pa, fi, la, ki, sk, hi, km, ka, kn, kb, kf) (nI s) := br_c (fun _ => hp) (fun z1 => br_c (fun _ => hp) (fun z2 => br_c (fun _ => hp) (fun z4 => by
  rcases hs with h | h | h
  · exact absurd (congrArg nI h) z1
  · exact absurd (congrArg nI h) z2
  · exact absurd (congrArg nI h) z4)))
theorem wu_xas0 {x : Int32} (h : ¬ x = 1 ∧ ¬ x = 2 ∧ ¬ x = 4) {post : Int32 → Prop} (hp : post 0) : wpX_isAccessSize post (kc, ls, sc, ac, me, on, pa, fi, la, ki, sk, hi, km, ka, kn, kb, kf) x := br_f h.1 (br_f h.2.1 (br_f h.2.2 hp))
theorem wu_ybs0 {s : Nat} (hs : s = 1 ∨ s = 2 ∨ s = 4) {post : Int32 → Prop} (hp : post 0) : wpY_badSize post (ac, sc, kc, me, ol, on, fi, ln, ki, pa, sk, hi, ms, ma, mn, mb, mf) (nI s) := br_c (fun _ => hp) (fun z1 => br_c (fun _ => hp) (fun z2 => br_c (fun _ => hp) (fun z4 => by
  rcases hs with h | h | h
  · exact absurd (congrArg nI h) z1
  · exact absurd (congrArg nI h) z2
  · exact absurd (congrArg nI h) z4)))
theorem wu_ybs1 {x : Int32} (h : ¬ x = 1 ∧ ¬ x = 2 ∧ ¬ x = 4) {post : Int32 → Prop} (hp : post 1) : wpY_badSize post (ac, sc, kc, me, ol, on, fi, ln, ki, pa, sk, hi, ms, ma, mn, mb, mf) x := br_f h.1 (br_f h.2.1 (br_f h.2.2 hp))
end
theorem i_vc_load {k : Nat} {u : SX} {v : SY} (I : i_Rel k u v) (hk : k + 5 ≤ 2560) (v1 : Int32) (v2 : Int32) : wpX_load (fun r u' => wpY_load (fun r' v' => r' = r ∧ i_Rel (k + 5) u' v') v v1 v2) u v1 v2 := by
  have hR : i_Rel (k + 5) u v := I
  obtain ⟨me, c, l, sc, ac, on, pa, fi, la, ki, sk, hi, km, ka, kn, kb, kf, ol, ln, ms, ma, mn, mb, mf, rfl, rfl, hc, hl, B, hW, g1, g2, g3, g4, g5⟩ := I
  unfold wpX_load
  rcases wu_size v2 with ⟨s, hs, rfl⟩ | hs
  rotate_left
  · refine wu_xas0 hs (br_t rfl ?_)
    unfold wpY_load
    exact wu_ybs1 hs (br_f (by decide) ⟨rfl, hR⟩)
  by_cases h0 : v1 < 0
  · refine wu_xas1 hs (br_f (by decide) (wu_xl0 (Or.inl h0) (br_t rfl ?_)))
    unfold wpY_load
    exact wu_ybs0 hs (br_t rfl (br_t h0 ⟨rfl, hR⟩))
  by_cases h1 : (40 - nI s) < v1
  · refine wu_xas1 hs (br_f (by decide) (wu_xl0 (Or.inr h1) (br_t rfl ?_)))
    unfold wpY_load
    exact wu_ybs0 hs (br_t rfl (br_f h0 (br_f (Int32.not_le.mpr h1) ⟨rfl, hR⟩)))
  obtain ⟨a, ha, rfl⟩ := wu_adr (by omega) h0 h1
  obtain ⟨mk, u1, v1, hR1, hX, hY⟩ := wu_acc (a := a) (s := s) (p3 := 0) (v := 0) (m' := me) (sc := sc) (ac := ac) (pa := pa) (sk := sk) (hi := hi) (ol := ol) hc hl (by omega) (by omega) ha hW B (Or.inl ⟨rfl, rfl⟩) g1 g2 g3 g4 g5
  have hN : i_Rel (k + 5) u1 v1 := ⟨me, hR1⟩
  obtain ⟨c1, l1, sc1, ac1, on1, pa1, fi1, la1, ki1, sk1, hi1, km1, ka1, kn1, kb1, kf1, ol1, ln1, ms1, ma1, mn1, mb1, mf1, rfl, rfl, _⟩ := hR1
  refine wu_xas1 hs (br_f (by decide) (wu_xl1 h0 h1 (br_f (by decide) (wu_xnum ha (hX _ ?_)))))
  unfold wpY_load
  exact wu_ybs0 hs (br_t rfl (br_f h0 (br_t (Int32.not_lt.mp h1) (hY _ (wu_ynum1 ha ⟨rfl, hN⟩)))))
theorem i_vc_store {k : Nat} {u : SX} {v : SY} (I : i_Rel k u v) (hk : k + 5 ≤ 2560) (v1 : Int32) (v2 : Int32) (v3 : Int32) : wpX_store (fun r u' => wpY_store (fun r' v' => r' = r ∧ i_Rel (k + 5) u' v') v v1 v2 v3) u v1 v2 v3 := by
  have hR : i_Rel (k + 5) u v := I
  obtain ⟨me, c, l, sc, ac, on, pa, fi, la, ki, sk, hi, km, ka, kn, kb, kf, ol, ln, ms, ma, mn, mb, mf, rfl, rfl, hc, hl, B, hW, g1, g2, g3, g4, g5⟩ := I
  unfold wpX_store
  rcases wu_size v2 with ⟨s, hs, rfl⟩ | hs
  rotate_left
  · refine wu_xas0 hs (br_t rfl ?_)
    unfold wpY_store
    exact wu_ybs1 hs (br_f (by decide) ⟨rfl, hR⟩)
  by_cases h0 : v1 < 0
  · refine wu_xas1 hs (br_f (by decide) (wu_xl0 (Or.inl h0) (br_t rfl ?_)))
    unfold wpY_store
    exact wu_ybs0 hs (br_t rfl (br_t h0 ⟨rfl, hR⟩))
  by_cases h1 : (40 - nI s) < v1
  · refine wu_xas1 hs (br_f (by decide) (wu_xl0 (Or.inr h1) (br_t rfl ?_)))
    unfold wpY_store
    exact wu_ybs0 hs (br_t rfl (br_f h0 (br_f (Int32.not_le.mpr h1) ⟨rfl, hR⟩)))
  obtain ⟨a, ha, rfl⟩ := wu_adr (by omega) h0 h1
  obtain ⟨mk, u1, v1, hR1, hX, hY⟩ := wu_acc (a := a) (s := s) (p3 := 1) (v := v3) (m' := wu_put me a v3 s) (sc := sc) (ac := ac) (pa := pa) (sk := sk) (hi := hi) (ol := ol) hc hl (by omega) (by omega) ha hW B (Or.inr ⟨rfl, rfl⟩) g1 g2 g3 g4 g5
  have hN : i_Rel (k + 5) u1 v1 := ⟨_, hR1⟩
  obtain ⟨c1, l1, sc1, ac1, on1, pa1, fi1, la1, ki1, sk1, hi1, km1, ka1, kn1, kb1, kf1, ol1, ln1, ms1, ma1, mn1, mb1, mf1, rfl, rfl, _⟩ := hR1
  obtain ⟨r, cX, cY⟩ := wu_cnt (kc := nI c1) (ls := nI l1) (sc := sc1) (ac := ac1) (me := wu_put me a v3 s) (on := on1) (pa := pa1) (fi := fi1) (la := la1) (ki := ki1) (sk := sk1) (hi := hi1) (km := km1) (ka := ka1) (kn := kn1) (kb := kb1) (kf := kf1) (ol := ol1) (ln := ln1) (ms := ms1) (ma := ma1) (mn := mn1) (mb := mb1) (mf := mf1) (m := mk) 8 0 (by omega) 0
  refine wu_xas1 hs (br_f (by decide) (wu_xl1 h0 h1 (br_f (by decide) (wu_xnum ha (wu_xput ha (by omega) (wu_xnum ha (hX _ ⟨9, cX _ ?_⟩)))))))
  unfold wpY_store
  exact wu_ybs0 hs (br_t rfl (br_f h0 (br_t (Int32.not_lt.mp h1) (hY _ ⟨9, cY _ ⟨rfl, hN⟩⟩))))
theorem i_vc_sweep {k : Nat} {u : SX} {v : SY} (I : i_Rel k u v) (hk : k + 5 ≤ 2560) (v1 : Int32) (v2 : Int32) : wpX_sweep (fun r u' => wpY_sweep (fun r' v' => r' = r ∧ i_Rel (k + 5) u' v') v v1 v2) u v1 v2 := by
  have hR : i_Rel (k + 5) u v := I
  have I0 : wu_R u v := I
  obtain ⟨me, c, l, sc, ac, on, pa, fi, la, ki, sk, hi, km, ka, kn, kb, kf, ol, ln, ms, ma, mn, mb, mf, rfl, rfl, hc, hl, B, hW, g1, g2, g3, g4, g5⟩ := I
  unfold wpX_sweep
  by_cases h0 : v1 < 0
  · refine br_t h0 ?_
    unfold wpY_sweep
    exact br_t h0 ⟨rfl, hR⟩
  by_cases h1 : (40 : Int32) ≤ v2
  · refine br_f h0 (br_t h1 ?_)
    unfold wpY_sweep
    exact br_f h0 (br_t (Int32.lt_of_lt_of_le (by decide) h1) ⟨rfl, hR⟩)
  have h1' : v2 < 40 := Int32.not_le.mp h1
  by_cases h2 : v1 ≤ v2
  rotate_left
  · refine br_f h0 (br_f h1 (br_f h2 ?_))
    unfold wpY_sweep
    refine br_f h0 (br_f (fun z => ?_) (br_f h2 ⟨rfl, hR⟩))
    rw [Int32.lt_iff_toInt_lt] at z h1'
    rw [show (39 : Int32).toInt = 39 by decide] at z
    rw [show (40 : Int32).toInt = 40 by decide] at h1'
    omega
  obtain ⟨a, ha, rfl⟩ := nI_of h0
  obtain ⟨e, he, rfl⟩ := nI_of (x := v2) (fun z => h0 (Int32.lt_of_le_of_lt h2 z))
  have e40 : e < 40 := (nI_ltI he (by omega)).mp h1'
  have hae : a ≤ e := (nI_leI ha he).mp h2
  obtain ⟨r, u1, v1, hN, hX, hY⟩ := wu_sw e40 40 a (by omega) (by omega) 0 _ _ I0
  refine br_f h0 (br_f h1 (br_t h2 ⟨41, hX (fun r u' => wpY_sweep (fun r' v' => r' = r ∧ i_Rel (k + 5) u' v') (ac, sc, nI c, me, ol, on, fi, ln, ki, pa, sk, hi, ms, ma, mn, mb, mf) (nI a) (nI e)) ?_⟩))
  unfold wpY_sweep
  exact br_f h0 (br_f (nI_nlt (a := 39) (b := e) (by omega) (by omega)) (br_t h2 ⟨41, hY (fun r' v' => r' = r ∧ i_Rel (k + 5) u1 v') ⟨rfl, hN⟩⟩))
end
