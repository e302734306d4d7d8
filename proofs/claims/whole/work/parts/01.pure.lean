theorem pk_us {f : Nat → Int32} {k : Nat} {x : Int32} : upd f k x k = x := if_pos rfl
theorem pk_un {f : Nat → Int32} {k j : Nat} {x : Int32} (h : j ≠ k) : upd f k x j = f j := if_neg h
theorem pk_sub {a b : Nat} (h : b ≤ a) : nI a - nI b = nI (a - b) := by
  obtain ⟨c, rfl⟩ : ∃ c, a = c + b := ⟨a - b, by omega⟩
  rw [← nI_add, Int32.add_sub_cancel, Nat.add_sub_cancel]
theorem pk_m1 (n : Nat) : nI (n + 1) + (-1) = nI n := by
  rw [← nI_1, Int32.add_assoc, show (1 : Int32) + (-1) = 0 from rfl, Int32.add_zero]
theorem pk_mul (a b : Nat) : nI a * nI b = nI (a * b) := (Int32.ofNat_mul a b).symm
theorem pk_ix (x : Int32) {n : Nat} (hn : n < 2 ^ 31) : x < 0 ∨ nI n ≤ x ∨ ∃ j : Nat, j < n ∧ x = nI j := by
  by_cases h : x < 0
  · exact Or.inl h
  · obtain ⟨j, hj, rfl⟩ := nI_of h
    by_cases h2 : j < n
    · exact Or.inr (Or.inr ⟨j, h2, rfl⟩)
    · exact Or.inr (Or.inl (nI_le (by omega) hj))
theorem pk_le {x y : Int32} {A B : Prop} (a b : Nat) (f : a ≤ b → A) (g : b < a → B) (hx : x = nI a := by rfl) (hy : y = nI b := by rfl) (ha : a < 2 ^ 31 := by omega) (hb : b < 2 ^ 31 := by omega) : (x ≤ y → A) ∧ (¬ x ≤ y → B) := by
  subst hx hy
  rw [nI_leI ha hb]
  exact ⟨f, fun z => g (by omega)⟩
theorem pk_lt {x y : Int32} {A B : Prop} (a b : Nat) (f : a < b → A) (g : b ≤ a → B) (hx : x = nI a := by rfl) (hy : y = nI b := by rfl) (ha : a < 2 ^ 31 := by omega) (hb : b < 2 ^ 31 := by omega) : (x < y → A) ∧ (¬ x < y → B) := by
  subst hx hy
  rw [nI_ltI ha hb]
  exact ⟨f, fun z => g (by omega)⟩
theorem pk_eq {x y : Int32} {A B : Prop} (a b : Nat) (f : a = b → A) (g : a ≠ b → B) (hx : x = nI a := by rfl) (hy : y = nI b := by rfl) (ha : a < 2 ^ 31 := by omega) (hb : b < 2 ^ 31 := by omega) : (x = y → A) ∧ (¬ x = y → B) := by
  subst hx hy
  rw [nI_eq ha hb]
  exact ⟨f, g⟩
theorem pk_in {x : Int32} (n N : Nat) (h : n < N) (hx : x = nI n := by rfl) (hN : N < 2 ^ 31 := by omega) : vp_in x N := by
  subst hx
  exact vp_in_nI h hN
theorem pk_cl {x : Int32} (n : Nat) (hx : x = nI n := by rfl) (h : n < 2 ^ 31 := by omega) : x.toNatClampNeg = n := by
  subst hx
  exact nI_clamp h
def bt (x : Int32) (i : Nat) : Bool := x.toBitVec.getLsbD i
theorem b_ext {x y : Int32} (h : ∀ i, i < 32 → bt x i = bt y i) : x = y := Int32.toBitVec_inj.mp (BitVec.eq_of_getLsbD_eq (fun i hi => h i hi))
theorem b_or (x y : Int32) (i : Nat) : bt (x ||| y) i = (bt x i || bt y i) := by unfold bt; rw [Int32.toBitVec_or, BitVec.getLsbD_or]
theorem b_and (x y : Int32) (i : Nat) : bt (x &&& y) i = (bt x i && bt y i) := by unfold bt; rw [Int32.toBitVec_and, BitVec.getLsbD_and]
theorem b_xor (x y : Int32) (i : Nat) : bt (x ^^^ y) i = (bt x i ^^ bt y i) := by unfold bt; rw [Int32.toBitVec_xor, BitVec.getLsbD_xor]
theorem b_big {x : Int32} {i : Nat} (h : 32 ≤ i) : bt x i = false := BitVec.getLsbD_of_ge _ _ h
theorem b_255 (i : Nat) : bt 255 i = decide (i < 8) := by
  rcases Nat.lt_or_ge i 32 with h | h
  · exact (by decide +kernel : ∀ i, i < 32 → bt 255 i = decide (i < 8)) i h
  · rw [b_big h, decide_eq_false (by omega)]
theorem b_65535 (i : Nat) : bt 65535 i = decide (i < 16) := by
  rcases Nat.lt_or_ge i 32 with h | h
  · exact (by decide +kernel : ∀ i, i < 32 → bt 65535 i = decide (i < 16)) i h
  · rw [b_big h, decide_eq_false (by omega)]
theorem b_m1 : ∀ i, i < 32 → bt (-1) i = true := by decide +kernel
theorem b_0 (i : Nat) : bt 0 i = false := BitVec.getLsbD_zero
theorem s_l : ∀ n, n < 32 → ((nI n &&& 31).toBitVec.smod 32).toNat = n := by decide +kernel
theorem s_u : ∀ n, n < 32 → (((nI n).toUInt32 &&& Int32.toUInt32 31).toBitVec % 32).toNat = n := by decide +kernel
theorem b_shl (n : Nat) (hn : n < 32) (x : Int32) {i : Nat} (hi : i < 32) : bt (x <<< (nI n &&& 31)) i = (decide (n ≤ i) && bt x (i - n)) := by
  unfold bt
  rw [Int32.toBitVec_shiftLeft]
  show (x.toBitVec <<< ((nI n &&& 31).toBitVec.smod 32).toNat).getLsbD i = _
  rw [s_l n hn, BitVec.getLsbD_shiftLeft]
  rcases Nat.lt_or_ge i n with h | h
  · simp [h, Nat.not_le.mpr h]
  · simp [hi, h, Nat.not_lt.mpr h]
theorem b_ushr (n : Nat) (hn : n < 32) (x : Int32) (i : Nat) : bt ((x.toUInt32 >>> ((nI n).toUInt32 &&& Int32.toUInt32 31)).toInt32) i = bt x (n + i) := by
  show (x.toUInt32 >>> ((nI n).toUInt32 &&& Int32.toUInt32 31)).toBitVec.getLsbD i = x.toUInt32.toBitVec.getLsbD (n + i)
  rw [UInt32.toBitVec_shiftRight]
  show (x.toUInt32.toBitVec >>> (((nI n).toUInt32 &&& Int32.toUInt32 31).toBitVec % 32).toNat).getLsbD i = _
  rw [s_u n hn, BitVec.getLsbD_ushiftRight]
theorem b_sshr (n : Nat) (hn : n < 32) (x : Int32) {i : Nat} (hi : i < 32) : bt (x >>> (nI n &&& 31)) i = if n + i < 32 then bt x (n + i) else bt x 31 := by
  unfold bt
  rw [Int32.toBitVec_shiftRight]
  show (x.toBitVec.sshiftRight ((nI n &&& 31).toBitVec.smod 32).toNat).getLsbD i = _
  rw [s_l n hn, BitVec.getLsbD_sshiftRight, BitVec.msb_eq_getLsbD_last]
  simp [hi]
/-- the number of n bytes at a -/
def wu_num (m : Nat → Int32) (a : Nat) : Nat → Int32
  | 0 => 0
  | n + 1 => wu_num m a n ||| (m (a + n) <<< ((8 * nI n) &&& 31))
def wu_byS (v : Int32) (n : Nat) : Int32 := (v >>> ((8 * nI n) &&& 31)) &&& 255
def wu_byU (v : Int32) (n : Nat) : Int32 := ((v.toUInt32 >>> ((8 * nI n).toUInt32 &&& Int32.toUInt32 31)).toInt32) &&& 255
/-- the memory after the low n bytes of v have been written at a -/
def wu_put (m : Nat → Int32) (a : Nat) (v : Int32) : Nat → (Nat → Int32)
  | 0 => m
  | n + 1 => upd (wu_put m a v n) (a + n) (wu_byS v n)
def wu_Byt (m : Nat → Int32) : Prop := ∀ j i, 8 ≤ i → bt (m j) i = false
theorem wu_8 (n : Nat) : (8 : Int32) * nI n = nI (8 * n) := by
  rw [← pk_mul]; rfl
theorem wu_su {v : Int32} {n : Nat} (h : n < 4) : wu_byU v n = wu_byS v n := by
  unfold wu_byU wu_byS
  apply b_ext
  intro i hi
  rw [b_and, b_and, wu_8, b_ushr (8 * n) (by omega), b_sshr (8 * n) (by omega) v hi, b_255]
  by_cases h8 : i < 8
  · rw [if_pos (by omega)]
  · simp [h8]
theorem wu_su1 {v : Int32} {n : Nat} (h : n < 8) : ((v.toUInt32 >>> ((nI n).toUInt32 &&& Int32.toUInt32 31)).toInt32) &&& 1 = (v >>> (nI n &&& 31)) &&& 1 := by
  apply b_ext
  intro i hi
  rw [b_and, b_and, b_ushr n (by omega), b_sshr n (by omega) v hi]
  by_cases h8 : n + i < 32
  · rw [if_pos h8]
  · have e : bt 1 i = false := (by decide +kernel : ∀ i, i < 32 → 1 ≤ i → bt 1 i = false) i hi (by omega)
    rw [e, Bool.and_false, Bool.and_false]
theorem wu_bybt (v : Int32) (n i : Nat) (h : 8 ≤ i) : bt (wu_byS v n) i = false := by
  unfold wu_byS
  rw [b_and, b_255, decide_eq_false (by omega), Bool.and_false]
theorem wu_putB {m : Nat → Int32} {a : Nat} {v : Int32} (h : wu_Byt m) : ∀ n, wu_Byt (wu_put m a v n)
  | 0 => h
  | n + 1 => by
    intro j i hi
    show bt (upd _ _ _ j) i = false
    by_cases e : j = a + n
    · rw [e, pk_us]; exact wu_bybt v n i hi
    · rw [pk_un e]; exact wu_putB h n j i hi
theorem wu_numbt {m : Nat → Int32} {a : Nat} (h : wu_Byt m) : ∀ n, n ≤ 4 → ∀ j, j < 32 → bt (wu_num m a n) j = (decide (j < 8 * n) && bt (m (a + j / 8)) (j % 8))
  | 0, _ => by
    intro j _
    show bt 0 j = _
    rw [b_0, decide_eq_false (by omega), Bool.false_and]
  | n + 1, hn => by
    intro j hj
    show bt (wu_num m a n ||| (m (a + n) <<< ((8 * nI n) &&& 31))) j = _
    rw [b_or, wu_8, b_shl (8 * n) (by omega) _ hj, wu_numbt h n (by omega) j hj]
    by_cases h1 : j < 8 * n
    · rw [decide_eq_true h1, decide_eq_false (by omega : ¬ 8 * n ≤ j), decide_eq_true (by omega : j < 8 * (n + 1)), Bool.false_and, Bool.or_false]
    · rw [decide_eq_false h1, decide_eq_true (by omega : 8 * n ≤ j), Bool.false_and, Bool.false_or, Bool.true_and]
      by_cases h2 : j < 8 * (n + 1)
      · rw [decide_eq_true h2, Bool.true_and, show j / 8 = n by omega, show j % 8 = j - 8 * n by omega]
      · rw [decide_eq_false h2, Bool.false_and]
        exact h _ _ (by omega)
theorem wu_byn {m : Nat → Int32} {a n i : Nat} (h : wu_Byt m) (hn : n ≤ 4) (hi : i < n) : wu_byU (wu_num m a n) i = m (a + i) := by
  apply b_ext
  intro j hj
  unfold wu_byU
  rw [b_and, wu_8, b_ushr (8 * i) (by omega), b_255]
  by_cases h8 : j < 8
  · rw [wu_numbt h n hn _ (by omega), decide_eq_true h8, decide_eq_true (by omega : 8 * i + j < 8 * n), Bool.true_and, Bool.and_true, show (8 * i + j) / 8 = i by omega, show (8 * i + j) % 8 = j by omega]
  · rw [decide_eq_false h8, Bool.and_false]
    exact (h _ _ (by omega)).symm
theorem wu_numc {m m' : Nat → Int32} {a : Nat} : ∀ n, (∀ i, i < n → m (a + i) = m' (a + i)) → wu_num m a n = wu_num m' a n
  | 0, _ => rfl
  | n + 1, h => by
    show wu_num m a n ||| _ = wu_num m' a n ||| _
    rw [wu_numc n (fun i hi => h i (by omega)), h n (by omega)]
