def bt (x : Int32) (i : Nat) : Bool := x.toBitVec.getLsbD i
theorem b_ext {x y : Int32} (h : ∀ i, i < 32 → bt x i = bt y i) : x = y := Int32.toBitVec_inj.mp (BitVec.eq_of_getLsbD_eq (fun i hi => h i hi))
theorem b_or (x y : Int32) (i : Nat) : bt (x ||| y) i = (bt x i || bt y i) := by unfold bt; rw [Int32.toBitVec_or, BitVec.getLsbD_or]
theorem b_and (x y : Int32) (i : Nat) : bt (x &&& y) i = (bt x i && bt y i) := by unfold bt; rw [Int32.toBitVec_and, BitVec.getLsbD_and]
theorem b_xor (x y : Int32) (i : Nat) : bt (x ^^^ y) i = (bt x i ^^ bt y i) := by unfold bt; rw [Int32.toBitVec_xor, BitVec.getLsbD_xor]
theorem b_big {x : Int32} {i : Nat} (h : 32 ≤ i) : bt x i = false := BitVec.getLsbD_of_ge _ _ h
theorem b_m1 : ∀ i, i < 32 → bt (-1) i = true := by decide +kernel
theorem b_0 (i : Nat) : bt 0 i = false := BitVec.getLsbD_zero
theorem s_l : ∀ n, n < 32 → ((nI n &&& 31).toBitVec.smod 32).toNat = n := by decide +kernel
theorem b_shl (n : Nat) (hn : n < 32) (x : Int32) {i : Nat} (hi : i < 32) : bt (x <<< (nI n &&& 31)) i = (decide (n ≤ i) && bt x (i - n)) := by
  unfold bt
  rw [Int32.toBitVec_shiftLeft]
  show (x.toBitVec <<< ((nI n &&& 31).toBitVec.smod 32).toNat).getLsbD i = _
  rw [s_l n hn, BitVec.getLsbD_shiftLeft]
  rcases Nat.lt_or_ge i n with h | h
  · simp [h, Nat.not_le.mpr h]
  · simp [hi, h, Nat.not_lt.mpr h]
theorem b_sshr (n : Nat) (hn : n < 32) (x : Int32) {i : Nat} (hi : i < 32) : bt (x >>> (nI n &&& 31)) i = if n + i < 32 then bt x (n + i) else bt x 31 := by
  unfold bt
  rw [Int32.toBitVec_shiftRight]
  show (x.toBitVec.sshiftRight ((nI n &&& 31).toBitVec.smod 32).toNat).getLsbD i = _
  rw [s_l n hn, BitVec.getLsbD_sshiftRight, BitVec.msb_eq_getLsbD_last]
  simp [hi]
theorem pk_us {f : Nat → Int32} {k : Nat} {x : Int32} : upd f k x k = x := if_pos rfl
theorem pk_un {f : Nat → Int32} {k j : Nat} {x : Int32} (h : j ≠ k) : upd f k x j = f j := if_neg h
theorem pk_sub {a b : Nat} (h : b ≤ a) : nI a - nI b = nI (a - b) := by
  obtain ⟨c, rfl⟩ : ∃ c, a = c + b := ⟨a - b, by omega⟩
  rw [← nI_add, Int32.add_sub_cancel, Nat.add_sub_cancel]
theorem pk_mul (a b : Nat) : nI a * nI b = nI (a * b) := (Int32.ofNat_mul a b).symm
theorem pk_div {a d : Nat} (ha : a < 2 ^ 31) (h0 : 0 < d) (hd : d < 2 ^ 31) : nI a / nI d = nI (a / d) := by
  apply Int32.toInt_inj.mp
  rw [lg_idiv_nonneg (by rw [nI_toInt ha]; omega) (by rw [nI_toInt hd]; omega), nI_toInt ha, nI_toInt hd, nI_toInt (Nat.lt_of_le_of_lt (Nat.div_le_self a d) ha)]
  first | rfl | exact (Int.natCast_ediv _ _).symm
theorem pk_rem {a d : Nat} (ha : a < 2 ^ 31) (h0 : 0 < d) (hd : d < 2 ^ 31) : nI a - nI a / nI d * nI d = nI (a % d) := by
  rw [pk_div ha h0 hd, pk_mul, pk_sub (Nat.div_mul_le_self a d)]
  exact congrArg nI (by have := Nat.div_add_mod' a d; omega)
/-! own rows: single bits -/
theorem tp_b1 : ∀ i, i < 32 → bt 1 i = decide (i = 0) := by decide +kernel
theorem tp_has (x : Int32) (k : Nat) (hk : k < 32) : ((x >>> (nI k &&& 31)) &&& 1) = 1 ↔ bt x k = true := by
  have e0 : bt ((x >>> (nI k &&& 31)) &&& 1) 0 = bt x k := by
    rw [b_and, b_sshr k hk x (by omega), if_pos (by omega), tp_b1 0 (by omega)]
    simp
  constructor
  · intro h
    rw [← e0, h]
    decide
  · intro h
    apply b_ext
    intro i hi
    by_cases z : i = 0
    · subst z
      rw [e0, h]
      decide
    · rw [b_and, tp_b1 i hi, decide_eq_false z, Bool.and_false]
theorem tp_bit (k : Nat) (hk : k < 32) (i : Nat) : bt ((1 : Int32) <<< (nI k &&& 31)) i = decide (i = k) := by
  rcases Nat.lt_or_ge i 32 with h | h
  · rw [b_shl k hk 1 h]
    by_cases z : k ≤ i
    · rw [decide_eq_true z, Bool.true_and, tp_b1 (i - k) (by omega)]
      exact decide_eq_decide.mpr (by omega)
    · rw [decide_eq_false z, Bool.false_and, decide_eq_false (by omega)]
  · rw [b_big h, decide_eq_false (by omega)]
theorem tp_orb (x : Int32) (k : Nat) (hk : k < 32) (i : Nat) : bt (x ||| ((1 : Int32) <<< (nI k &&& 31))) i = true ↔ (bt x i = true ∨ i = k) := by
  rw [b_or, tp_bit k hk i, Bool.or_eq_true, decide_eq_true_iff]
theorem tp_clb (x : Int32) (k : Nat) (hk : k < 32) (i : Nat) : bt (x &&& (((1 : Int32) <<< (nI k &&& 31)) ^^^ (-1))) i = true ↔ (bt x i = true ∧ i ≠ k) := by
  rcases Nat.lt_or_ge i 32 with h | h
  · rw [b_and, b_xor, tp_bit k hk i, b_m1 i h, Bool.and_eq_true]
    simp
  · rw [b_big h, b_big h]
    simp
theorem tp_585 : ∀ m, m < 3 → ∀ i, i < 32 → bt ((585 : Int32) <<< (nI m &&& 31)) i = decide (i < 12 ∧ i % 3 = m) := by decide +kernel
theorem tp_hit (x : Int32) (m : Nat) (hm : m < 3) : (x &&& ((585 : Int32) <<< (nI m &&& 31))) = 0 ↔ ∀ k, k < 12 → k % 3 = m → ¬ bt x k = true := by
  constructor
  · intro h k hk e hb
    have z : bt (x &&& ((585 : Int32) <<< (nI m &&& 31))) k = bt 0 k := by rw [h]
    rw [b_and, tp_585 m hm k (by omega), hb, decide_eq_true ⟨hk, e⟩, b_0] at z
    exact absurd z (by decide)
  · intro h
    apply b_ext
    intro i hi
    rw [b_and, tp_585 m hm i hi, b_0]
    by_cases z : i < 12 ∧ i % 3 = m
    · have := h i z.1 z.2
      cases hb : bt x i
      · rfl
      · exact absurd hb this
    · rw [decide_eq_false z, Bool.and_false]
theorem tp_vb0 : vp_nar .boolean 0 = 0 := by decide
theorem tp_vb1 : vp_nar .boolean 1 = 1 := by decide
theorem tp_ni {a b : Nat} (h : nI a = nI b) (ha : a < 2 ^ 31) (hb : b < 2 ^ 31) : a = b := (nI_eq ha hb).mp h
theorem tp_ne0 {a : Nat} (ha : a + 1 < 2 ^ 31) : ¬ nI (a + 1) = 0 := nI_ne0 (by omega) ha
