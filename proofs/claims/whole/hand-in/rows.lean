section
def bt (x : Int32) (i : Nat) : Bool := x.toBitVec.getLsbD i
theorem b_ext {x y : Int32} (h : ∀ i, i < 32 → bt x i = bt y i) : x = y := Int32.toBitVec_inj.mp (BitVec.eq_of_getLsbD_eq (fun i hi => h i hi))
theorem b_or (x y : Int32) (i : Nat) : bt (x ||| y) i = (bt x i || bt y i) := by unfold bt; rw [Int32.toBitVec_or, BitVec.getLsbD_or]
theorem b_and (x y : Int32) (i : Nat) : bt (x &&& y) i = (bt x i && bt y i) := by unfold bt; rw [Int32.toBitVec_and, BitVec.getLsbD_and]
theorem b_xor (x y : Int32) (i : Nat) : bt (x ^^^ y) i = (bt x i ^^ bt y i) := by unfold bt; rw [Int32.toBitVec_xor, BitVec.getLsbD_xor]
theorem b_big {x : Int32} {i : Nat} (h : 32 ≤ i) : bt x i = false := BitVec.getLsbD_of_ge _ _ h
theorem b_m1 : ∀ i, i < 32 → bt (-1) i = true := by decide +kernel
theorem b_0 (i : Nat) : bt 0 i = false := BitVec.getLsbD_zero
theorem s_l : ∀ n, n < 32 → ((nI n &&& 31).toBitVec.smod 32).toNat = n := by decide +kernel
theorem b_shl (n : Nat) (hn : n < 32) (x : Int32) {i : Nat} (hi : i < 32) : bt (x <<< (nI n &&& 31)) i = (decide (n ≤ i) && bt x (i - n)) := by
  unfold bt
  rw [Int32.toBitVec_shiftLeft]
  show (x.toBitVec <<< ((nI n &&& 31).toBitVec.smod 32).toNat).getLsbD i = _
  rw [s_l n hn, BitVec.getLsbD_shiftLeft]
  rcases Nat.lt_or_ge i n with h | h
  · simp [h, Nat.not_le.mpr h]
  · simp [hi, h, Nat.not_lt.mpr h]
theorem b_sshr (n : Nat) (hn : n < 32) (x : Int32) {i : Nat} (hi : i < 32) : bt (x >>> (nI n &&& 31)) i = if n + i < 32 then bt x (n + i) else bt x 31 := by
  unfold bt
  rw [Int32.toBitVec_shiftRight]
  show (x.toBitVec.sshiftRight ((nI n &&& 31).toBitVec.smod 32).toNat).getLsbD i = _
  rw [s_l n hn, BitVec.getLsbD_sshiftRight, BitVec.msb_eq_getLsbD_last]
  simp [hi]
theorem pk_us {f : Nat → Int32} {k : Nat} {x : Int32} : upd f k x k = x := if_pos rfl
theorem pk_un {f : Nat → Int32} {k j : Nat} {x : Int32} (h : j ≠ k) : upd f k x j = f j := if_neg h
theorem pk_sub {a b : Nat} (h : b ≤ a) : nI a - nI b = nI (a - b) := by
  obtain ⟨c, rfl⟩ : ∃ c, a = c + b := ⟨a - b, by omega⟩
  rw [← nI_add, Int32.add_sub_cancel, Nat.add_sub_cancel]
theorem pk_mul (a b : Nat) : nI a * nI b = nI (a * b) := (Int32.ofNat_mul a b).symm
theorem pk_div {a d : Nat} (ha : a < 2 ^ 31) (h0 : 0 < d) (hd : d < 2 ^ 31) : nI a / nI d = nI (a / d) := by
  apply Int32.toInt_inj.mp
  rw [lg_idiv_nonneg (by rw [nI_toInt ha]; omega) (by rw [nI_toInt hd]; omega), nI_toInt ha, nI_toInt hd, nI_toInt (Nat.lt_of_le_of_lt (Nat.div_le_self a d) ha)]
  first | rfl | exact (Int.natCast_ediv _ _).symm
theorem pk_rem {a d : Nat} (ha : a < 2 ^ 31) (h0 : 0 < d) (hd : d < 2 ^ 31) : nI a - nI a / nI d * nI d = nI (a % d) := by
  rw [pk_div ha h0 hd, pk_mul, pk_sub (Nat.div_mul_le_self a d)]
  exact congrArg nI (by have := Nat.div_add_mod' a d; omega)
/-! own rows: single bits -/
theorem tp_b1 : ∀ i, i < 32 → bt 1 i = decide (i = 0) := by decide +kernel
theorem tp_has (x : Int32) (k : Nat) (hk : k < 32) : ((x >>> (nI k &&& 31)) &&& 1) = 1 ↔ bt x k = true := by
  have e0 : bt ((x >>> (nI k &&& 31)) &&& 1) 0 = bt x k := by
    rw [b_and, b_sshr k hk x (by omega), if_pos (by omega), tp_b1 0 (by omega)]
    simp
  constructor
  · intro h
    rw [← e0, h]
    decide
  · intro h
    apply b_ext
    intro i hi
    by_cases z : i = 0
    · subst z
      rw [e0, h]
      decide
    · rw [b_and, tp_b1 i hi, decide_eq_false z, Bool.and_false]
theorem tp_bit (k : Nat) (hk : k < 32) (i : Nat) : bt ((1 : Int32) <<< (nI k &&& 31)) i = decide (i = k) := by
  rcases Nat.lt_or_ge i 32 with h | h
  · rw [b_shl k hk 1 h]
    by_cases z : k ≤ i
    · rw [decide_eq_true z, Bool.true_and, tp_b1 (i - k) (by omega)]
      exact decide_eq_decide.mpr (by omega)
    · rw [decide_eq_false z, Bool.false_and, decide_eq_false (by omega)]
  · rw [b_big h, decide_eq_false (by omega)]
theorem tp_orb (x : Int32) (k : Nat) (hk : k < 32) (i : Nat) : bt (x ||| ((1 : Int32) <<< (nI k &&& 31))) i = true ↔ (bt x i = true ∨ i = k) := by
  rw [b_or, tp_bit k hk i, Bool.or_eq_true, decide_eq_true_iff]
theorem tp_clb (x : Int32) (k : Nat) (hk : k < 32) (i : Nat) : bt (x &&& (((1 : Int32) <<< (nI k &&& 31)) ^^^ (-1))) i = true ↔ (bt x i = true ∧ i ≠ k) := by
  rcases Nat.lt_or_ge i 32 with h | h
  · rw [b_and, b_xor, tp_bit k hk i, b_m1 i h, Bool.and_eq_true]
    simp
  · rw [b_big h, b_big h]
    simp
theorem tp_585 : ∀ m, m < 3 → ∀ i, i < 32 → bt ((585 : Int32) <<< (nI m &&& 31)) i = decide (i < 12 ∧ i % 3 = m) := by decide +kernel
theorem tp_hit (x : Int32) (m : Nat) (hm : m < 3) : (x &&& ((585 : Int32) <<< (nI m &&& 31))) = 0 ↔ ∀ k, k < 12 → k % 3 = m → ¬ bt x k = true := by
  constructor
  · intro h k hk e hb
    have z : bt (x &&& ((585 : Int32) <<< (nI m &&& 31))) k = bt 0 k := by rw [h]
    rw [b_and, tp_585 m hm k (by omega), hb, decide_eq_true ⟨hk, e⟩, b_0] at z
    exact absurd z (by decide)
  · intro h
    apply b_ext
    intro i hi
    rw [b_and, tp_585 m hm i hi, b_0]
    by_cases z : i < 12 ∧ i % 3 = m
    · have := h i z.1 z.2
      cases hb : bt x i
      · rfl
      · exact absurd hb this
    · rw [decide_eq_false z, Bool.and_false]
theorem tp_vb0 : vp_nar .boolean 0 = 0 := by decide
theorem tp_vb1 : vp_nar .boolean 1 = 1 := by decide
theorem tp_ni {a b : Nat} (h : nI a = nI b) (ha : a < 2 ^ 31) (hb : b < 2 ^ 31) : a = b := (nI_eq ha hb).mp h
theorem tp_ne0 {a : Nat} (ha : a + 1 < 2 ^ 31) : ¬ nI (a + 1) = 0 := nI_ne0 (by omega) ha
end
section
/-! the relation, and what keeps it -/
def tp_N (x : Int32) : Prop := ¬ x < (-9999) ∧ ¬ 9999 < x
def tp_R (o : Int32) (nu dr hb wb ho se ch ac : Nat → Int32) : Prop :=
  (∀ t, t < 4 → (bt o t = true ↔ ¬ ac t = 0)) ∧
  (∀ i, 4 ≤ i → ¬ bt o i = true) ∧
  (∀ k, k < 12 → ∃ h, h ≤ 4 ∧ ho k = nI h ∧ ∀ t, h = t + 1 → ¬ ac t = 0) ∧
  (∀ t, t < 4 → ∀ k, k < 12 → (bt (hb t) k = true ↔ ho k = nI (t + 1))) ∧
  (∀ t, t < 4 → ∀ i, 12 ≤ i → ¬ bt (hb t) i = true) ∧
  (∀ t, t < 4 → ∀ k, k < 12 → (bt (wb t) k = true ↔ (ho k = nI (t + 1) ∧ ¬ ch k = 0))) ∧
  (∀ t, t < 4 → ∀ i, 12 ≤ i → ¬ bt (wb t) i = true) ∧
  (∀ k, k < 12 → ¬ ho k = 0 → (ch k = 0 → se k = nu k) ∧ (¬ ch k = 0 → se k = dr k)) ∧
  (∀ k, k < 12 → tp_N (nu k)) ∧ (∀ k, k < 12 → ¬ ho k = 0 → tp_N (se k))
theorem tp_N0 : tp_N 0 := ⟨by decide, by decide⟩
theorem tp_nbusy {x : Int32} (h : tp_N x) : ¬ x = (-300000) := by
  intro e
  subst e
  exact h.1 (by decide)
theorem tp_R0 : tp_R 0 (fun _ => 0) (fun _ => 0) (fun _ => 0) (fun _ => 0) (fun _ => 0) (fun _ => 0) (fun _ => 0) (fun _ => 0) := by
  refine ⟨fun t _ => ?_, fun i _ => ?_, fun k _ => ⟨0, by omega, rfl, fun t h => by omega⟩, fun t ht k _ => ?_, fun t _ i _ => ?_, fun t ht k _ => ?_, fun t _ i _ => ?_, fun k _ h => absurd rfl h, fun k _ => tp_N0, fun k _ h => absurd rfl h⟩
  · simp [b_0]
  · simp [b_0]
  · have : ¬ (0 : Int32) = nI (t + 1) := fun e => tp_ne0 (a := t) (by omega) e.symm
    simp [b_0, this]
  · simp [b_0]
  · have : ¬ (0 : Int32) = nI (t + 1) := fun e => tp_ne0 (a := t) (by omega) e.symm
    simp [b_0, this]
  · simp [b_0]
/-- transaction t takes key k (get, and the first half of put) -/
theorem tp_Rhold {o : Int32} {nu dr hb wb ho se ch ac ho' se' ch' : Nat → Int32} (R : tp_R o nu dr hb wb ho se ch ac) {t k : Nat} (ht : t < 4) (hk : k < 12) (ha : ¬ ac t = 0)
    (e1 : ho' k = nI (t + 1)) (e2 : ∀ j, j ≠ k → ho' j = ho j ∧ se' j = se j ∧ ch' j = ch j)
    (e3 : (ho k = nI (t + 1) ∧ se' k = se k ∧ ch' k = ch k) ∨ (ho k = 0 ∧ se' k = nu k ∧ ch' k = 0)) :
    tp_R o nu dr (upd hb t (hb t ||| ((1 : Int32) <<< (nI k &&& 31)))) wb ho' se' ch' ac := by
  obtain ⟨r1, r2, r3, r4, r5, r6, r7, r8, r9, r10⟩ := R
  refine ⟨r1, r2, ?_, ?_, ?_, ?_, r7, ?_, r9, ?_⟩
  · intro j hj
    by_cases z : j = k
    · subst z
      exact ⟨t + 1, by omega, e1, fun s hs => by have : s = t := by omega
                                                 rw [this]; exact ha⟩
    · rw [(e2 j z).1]
      exact r3 j hj
  · intro s hs j hj
    by_cases y : s = t
    · subst y
      rw [pk_us, tp_orb _ k (by omega)]
      by_cases z : j = k
      · subst z
        simp [e1]
      · rw [(e2 j z).1, r4 s hs j hj]
        simp [z]
    · rw [pk_un y, r4 s hs j hj]
      by_cases z : j = k
      · subst z
        have n1 : ¬ nI (t + 1) = nI (s + 1) := fun e => by have := tp_ni e (by omega) (by omega); omega
        rw [e1]
        rcases e3 with ⟨e, _⟩ | ⟨e, _⟩
        · rw [e]
        · rw [e]
          have n2 : ¬ (0 : Int32) = nI (s + 1) := fun e => tp_ne0 (a := s) (by omega) e.symm
          simp [n1, n2]
      · rw [(e2 j z).1]
  · intro s hs i hi
    by_cases y : s = t
    · subst y
      rw [pk_us, tp_orb _ k (by omega)]
      intro h
      rcases h with h | h
      · exact r5 s hs i hi h
      · omega
    · rw [pk_un y]
      exact r5 s hs i hi
  · intro s hs j hj
    rw [r6 s hs j hj]
    by_cases z : j = k
    · subst z
      rw [e1]
      rcases e3 with ⟨e, _, f⟩ | ⟨e, _, f⟩
      · rw [e, f]
      · have n2 : ¬ (0 : Int32) = nI (s + 1) := fun e => tp_ne0 (a := s) (by omega) e.symm
        rw [e, f]
        simp [n2]
    · rw [(e2 j z).1, (e2 j z).2.2]
  · intro j hj hz
    by_cases z : j = k
    · subst z
      rcases e3 with ⟨e, f, g⟩ | ⟨e, f, g⟩
      · rw [f, g]
        exact r8 j hj (by rw [e]; exact tp_ne0 (by omega))
      · exact ⟨fun _ => f, fun n => absurd g n⟩
    · rw [(e2 j z).2.1, (e2 j z).2.2]
      rw [(e2 j z).1] at hz
      exact r8 j hj hz
  · intro j hj hz
    by_cases z : j = k
    · subst z
      rcases e3 with ⟨e, f, g⟩ | ⟨e, f, g⟩
      · rw [f]
        exact r10 j hj (by rw [e]; exact tp_ne0 (by omega))
      · rw [f]
        exact r9 j hj
    · rw [(e2 j z).2.1]
      rw [(e2 j z).1] at hz
      exact r10 j hj hz
/-- transaction t, which holds k, writes v there -/
theorem tp_Rwrite {o : Int32} {nu dr hb wb ho se ch ac : Nat → Int32} (R : tp_R o nu dr hb wb ho se ch ac) {t k : Nat} (ht : t < 4) (hk : k < 12) {v : Int32} (hv : tp_N v)
    (e1 : ho k = nI (t + 1)) :
    tp_R o nu (upd dr k v) hb (upd wb t (wb t ||| ((1 : Int32) <<< (nI k &&& 31)))) ho (upd se k v) (upd ch k 1) ac := by
  obtain ⟨r1, r2, r3, r4, r5, r6, r7, r8, r9, r10⟩ := R
  have n1 : ¬ (1 : Int32) = 0 := by decide
  refine ⟨r1, r2, r3, r4, r5, ?_, ?_, ?_, r9, ?_⟩
  · intro s hs j hj
    by_cases y : s = t
    · subst y
      rw [pk_us, tp_orb _ k (by omega)]
      by_cases z : j = k
      · subst z
        rw [pk_us]
        simp [e1, n1]
      · rw [pk_un z, r6 s hs j hj]
        simp [z]
    · rw [pk_un y, r6 s hs j hj]
      by_cases z : j = k
      · subst z
        have n2 : ¬ nI (t + 1) = nI (s + 1) := fun e => by have := tp_ni e (by omega) (by omega); omega
        rw [e1]
        simp [n2]
      · rw [pk_un z]
  · intro s hs i hi
    by_cases y : s = t
    · subst y
      rw [pk_us, tp_orb _ k (by omega)]
      intro h
      rcases h with h | h
      · exact r7 s hs i hi h
      · omega
    · rw [pk_un y]
      exact r7 s hs i hi
  · intro j hj hz
    by_cases z : j = k
    · subst z
      rw [pk_us, pk_us, pk_us]
      exact ⟨fun e => absurd e n1, fun _ => rfl⟩
    · rw [pk_un z, pk_un z, pk_un z]
      exact r8 j hj hz
  · intro j hj hz
    by_cases z : j = k
    · subst z
      rw [pk_us]
      exact hv
    · rw [pk_un z]
      exact r10 j hj hz
/-- transaction t ends; the numbers become nu' -/
theorem tp_Rend {o : Int32} {nu dr hb wb ho se ch ac nu' ho' : Nat → Int32} (R : tp_R o nu dr hb wb ho se ch ac) {t : Nat} (ht : t < 4)
    (e1 : ∀ k, k < 12 → ho k = nI (t + 1) → ho' k = 0 ∧ tp_N (nu' k)) (e2 : ∀ k, k < 12 → ¬ ho k = nI (t + 1) → ho' k = ho k ∧ nu' k = nu k) :
    tp_R (o &&& (((1 : Int32) <<< (nI t &&& 31)) ^^^ (-1))) nu' dr (upd hb t 0) (upd wb t 0) ho' se ch (upd ac t 0) := by
  obtain ⟨r1, r2, r3, r4, r5, r6, r7, r8, r9, r10⟩ := R
  have n0 : ∀ s, s < 4 → ¬ (0 : Int32) = nI (s + 1) := fun s hs e => tp_ne0 (a := s) (by omega) e.symm
  refine ⟨?_, ?_, ?_, ?_, ?_, ?_, ?_, ?_, ?_, ?_⟩
  · intro s hs
    rw [tp_clb _ t (by omega), r1 s hs]
    by_cases y : s = t
    · subst y
      rw [pk_us]
      simp
    · rw [pk_un y]
      simp [y]
  · intro i hi h
    rw [tp_clb _ t (by omega)] at h
    exact r2 i hi h.1
  · intro j hj
    by_cases z : ho j = nI (t + 1)
    · exact ⟨0, by omega, (e1 j hj z).1, fun s hs => by omega⟩
    · obtain ⟨h, h4, he, hh⟩ := r3 j hj
      refine ⟨h, h4, (e2 j hj z).1.trans he, fun s hs => ?_⟩
      by_cases y : s = t
      · subst y
        subst hs
        exact absurd he z
      · rw [pk_un y]
        exact hh s hs
  · intro s hs j hj
    by_cases z : ho j = nI (t + 1)
    · rw [(e1 j hj z).1]
      by_cases y : s = t
      · subst y
        rw [pk_us, b_0]
        simp [n0 s hs]
      · rw [pk_un y, r4 s hs j hj, z]
        have n2 : ¬ nI (t + 1) = nI (s + 1) := fun e => by have := tp_ni e (by omega) (by omega); omega
        simp [n2, n0 s hs]
    · rw [(e2 j hj z).1]
      by_cases y : s = t
      · subst y
        rw [pk_us, b_0]
        simp [z]
      · rw [pk_un y, r4 s hs j hj]
  · intro s hs i hi
    by_cases y : s = t
    · subst y
      rw [pk_us, b_0]
      simp
    · rw [pk_un y]
      exact r5 s hs i hi
  · intro s hs j hj
    by_cases z : ho j = nI (t + 1)
    · rw [(e1 j hj z).1]
      by_cases y : s = t
      · subst y
        rw [pk_us, b_0]
        simp [n0 s hs]
      · rw [pk_un y, r6 s hs j hj, z]
        have n2 : ¬ nI (t + 1) = nI (s + 1) := fun e => by have := tp_ni e (by omega) (by omega); omega
        simp [n2, n0 s hs]
    · rw [(e2 j hj z).1]
      by_cases y : s = t
      · subst y
        rw [pk_us, b_0]
        simp [z]
      · rw [pk_un y, r6 s hs j hj]
  · intro s hs i hi
    by_cases y : s = t
    · subst y
      rw [pk_us, b_0]
      simp
    · rw [pk_un y]
      exact r7 s hs i hi
  · intro j hj hz
    by_cases z : ho j = nI (t + 1)
    · exact absurd (e1 j hj z).1 hz
    · rw [(e2 j hj z).1] at hz
      rw [(e2 j hj z).2]
      exact r8 j hj hz
  · intro j hj
    by_cases z : ho j = nI (t + 1)
    · exact (e1 j hj z).2
    · rw [(e2 j hj z).2]
      exact r9 j hj
  · intro j hj hz
    by_cases z : ho j = nI (t + 1)
    · exact absurd (e1 j hj z).1 hz
    · rw [(e2 j hj z).1] at hz
      exact r10 j hj hz
/-- transaction t begins -/
theorem tp_Rbegin {o : Int32} {nu dr hb wb ho se ch ac : Nat → Int32} (R : tp_R o nu dr hb wb ho se ch ac) {t : Nat} (ht : t < 4) :
    tp_R (o ||| ((1 : Int32) <<< (nI t &&& 31))) nu dr hb wb ho se ch (upd ac t 1) := by
  obtain ⟨r1, r2, r3, r4, r5, r6, r7, r8, r9, r10⟩ := R
  have n1 : ¬ (1 : Int32) = 0 := by decide
  refine ⟨?_, ?_, ?_, r4, r5, r6, r7, r8, r9, r10⟩
  · intro s hs
    rw [tp_orb _ t (by omega), r1 s hs]
    by_cases y : s = t
    · subst y
      rw [pk_us]
      simp [n1]
    · rw [pk_un y]
      simp [y]
  · intro i hi h
    rw [tp_orb _ t (by omega)] at h
    rcases h with h | h
    · exact r2 i hi h
    · omega
  · intro j hj
    obtain ⟨h, h4, he, hh⟩ := r3 j hj
    refine ⟨h, h4, he, fun s hs => ?_⟩
    by_cases y : s = t
    · subst y
      rw [pk_us]
      exact n1
    · rw [pk_un y]
      exact hh s hs
def i_Rel (_ : Nat) (u : SX) (v : SY) : Prop := ∃ (o c : Int32) (nu dr hb wb ho se ch ac : Nat → Int32), u = (o, c, nu, dr, hb, wb) ∧ v = (c, nu, ho, se, ch, ac) ∧ tp_R o nu dr hb wb ho se ch ac
theorem i_up {k : Nat} {u : SX} {v : SY} (h : i_Rel k u v) : i_Rel (k + 4) u v := h
theorem i_vc0 : wpX_init (fun u => wpY_init (fun v => i_Rel 0 u v)) := ⟨0, 0, fun _ => 0, fun _ => 0, fun _ => 0, fun _ => 0, fun _ => 0, fun _ => 0, fun _ => 0, fun _ => 0, rfl, rfl, tp_R0⟩
end
section
/-! the small methods, with a general post -/
theorem tp_xop1 {post : Int32 → Prop} {o c : Int32} {nu dr hb wb : Nat → Int32} {j : Nat} (hj : j < 4) (h : bt o j = true) (hp : post 1) : wpX_isOpen post (o, c, nu, dr, hb, wb) (nI j) :=
  br_f (nI_pos (by omega)) (br_f (nI_ge (b := 4) hj (by decide)) (br_t ((tp_has o j (by omega)).mpr h) hp))
theorem tp_xop0 {post : Int32 → Prop} {o c : Int32} {nu dr hb wb : Nat → Int32} {j : Nat} (hj : j < 4) (h : ¬ bt o j = true) (hp : post 0) : wpX_isOpen post (o, c, nu, dr, hb, wb) (nI j) :=
  br_f (nI_pos (by omega)) (br_f (nI_ge (b := 4) hj (by decide)) (br_f (fun z => h ((tp_has o j (by omega)).mp z)) hp))
theorem tp_yop1 {post : Int32 → Prop} {c : Int32} {nu ho se ch ac : Nat → Int32} {j : Nat} (hj : j < 4) (h : ¬ ac j = 0) (hp : post 1) : wpY_isOpen post (c, nu, ho, se, ch, ac) (nI j) := by
  have h' : ¬ ac (nI j).toNatClampNeg = 0 := by rw [nI_clamp (by omega)]; exact h
  exact br_f (nI_pos (by omega)) (br_f (nI_nlt (b := j) (a := 3) (by omega) (by decide)) ⟨vp_in_nI hj (by decide), br_f h' hp⟩)
theorem tp_yop0 {post : Int32 → Prop} {c : Int32} {nu ho se ch ac : Nat → Int32} {j : Nat} (hj : j < 4) (h : ac j = 0) (hp : post 0) : wpY_isOpen post (c, nu, ho, se, ch, ac) (nI j) := by
  have h' : ac (nI j).toNatClampNeg = 0 := by rw [nI_clamp (by omega)]; exact h
  exact br_f (nI_pos (by omega)) (br_f (nI_nlt (b := j) (a := 3) (by omega) (by decide)) ⟨vp_in_nI hj (by decide), br_t h' hp⟩)
theorem tp_ix (x : Int32) (n : Nat) (hn : n < 2 ^ 31) : (∃ j, j < n ∧ x = nI j) ∨ x < 0 ∨ (¬ x < 0 ∧ nI n ≤ x ∧ ∀ m, m < n → nI m < x) := by
  by_cases h : x < 0
  · exact Or.inr (Or.inl h)
  · obtain ⟨j, hj, rfl⟩ := nI_of h
    by_cases h2 : j < n
    · exact Or.inl ⟨j, h2, rfl⟩
    · exact Or.inr (Or.inr ⟨h, nI_le (by omega) hj, fun m hm => nI_lt (by omega) hj⟩)
/-- is t open? Both sides say the same -/
theorem tp_op {o : Int32} {nu dr hb wb ho se ch ac : Nat → Int32} (R : tp_R o nu dr hb wb ho se ch ac) (t : Int32) :
    (∃ j, j < 4 ∧ t = nI j ∧ bt o j = true ∧ ¬ ac j = 0) ∨ ((∀ (c : Int32) (post : Int32 → Prop), post 0 → wpX_isOpen post (o, c, nu, dr, hb, wb) t) ∧ (∀ (c : Int32) (post : Int32 → Prop), post 0 → wpY_isOpen post (c, nu, ho, se, ch, ac) t)) := by
  rcases tp_ix t 4 (by decide) with ⟨j, hj, rfl⟩ | h | ⟨h0, h4, h3⟩
  · by_cases z : bt o j = true
    · exact Or.inl ⟨j, hj, rfl, z, (R.1 j hj).mp z⟩
    · have y : ac j = 0 := by
        by_cases y : ac j = 0
        · exact y
        · exact absurd ((R.1 j hj).mpr y) z
      exact Or.inr ⟨fun c post hp => tp_xop0 hj z hp, fun c post hp => tp_yop0 hj y hp⟩
  · exact Or.inr ⟨fun c post hp => br_t h hp, fun c post hp => br_t h hp⟩
  · exact Or.inr ⟨fun c post hp => br_f h0 (br_t h4 hp), fun c post hp => br_f h0 (br_t (h3 3 (by decide)) hp)⟩
theorem tp_xk1 {post : Int32 → Prop} {j : Nat} (hj : j < 12) (hp : post 1) : wpX_isKey post (nI j) :=
  br_f (nI_pos (by omega)) (br_f (nI_ge (b := 12) hj (by decide)) hp)
theorem tp_yk1 {post : Int32 → Prop} {c : Int32} {nu ho se ch ac : Nat → Int32} {j : Nat} (hj : j < 12) (hp : post 1) : wpY_key post (c, nu, ho, se, ch, ac) (nI j) :=
  br_f (nI_pos (by omega)) (br_f (nI_nlt (b := j) (a := 11) (by omega) (by decide)) hp)
theorem tp_key (x : Int32) : (∃ j, j < 12 ∧ x = nI j) ∨ ((∀ post : Int32 → Prop, post 0 → wpX_isKey post x) ∧ (∀ (c : Int32) (nu ho se ch ac : Nat → Int32) (post : Int32 → Prop), post 0 → wpY_key post (c, nu, ho, se, ch, ac) x)) := by
  rcases tp_ix x 12 (by decide) with ⟨j, hj, rfl⟩ | h | ⟨h0, h4, h3⟩
  · exact Or.inl ⟨j, hj, rfl⟩
  · exact Or.inr ⟨fun post hp => br_t h hp, fun c nu ho se ch ac post hp => br_t h hp⟩
  · exact Or.inr ⟨fun post hp => br_f h0 (br_t h4 hp), fun c nu ho se ch ac post hp => br_f h0 (br_t (h3 11 (by decide)) hp)⟩
theorem tp_xn1 {post : Int32 → Prop} {x : Int32} (h : tp_N x) (hp : post 1) : wpX_isNumber post x := br_f h.1 (br_f h.2 hp)
theorem tp_yn1 {post : Int32 → Prop} {c : Int32} {nu ho se ch ac : Nat → Int32} {x : Int32} (h : tp_N x) (hp : post 1) : wpY_fits post (c, nu, ho, se, ch, ac) x := br_f h.1 (br_f h.2 hp)
theorem tp_num (x : Int32) : tp_N x ∨ ((∀ post : Int32 → Prop, post 0 → wpX_isNumber post x) ∧ (∀ (c : Int32) (nu ho se ch ac : Nat → Int32) (post : Int32 → Prop), post 0 → wpY_fits post (c, nu, ho, se, ch, ac) x)) := by
  by_cases h : x < (-9999)
  · exact Or.inr ⟨fun post hp => br_t h hp, fun c nu ho se ch ac post hp => br_t h hp⟩
  · by_cases h2 : 9999 < x
    · exact Or.inr ⟨fun post hp => br_f h (br_t h2 hp), fun c nu ho se ch ac post hp => br_f h (br_t h2 hp)⟩
    · exact Or.inl ⟨h, h2⟩
theorem tp_km1 {post : Int32 → Prop} {j : Nat} (hj : j < 3) (hp : post 1) : wpX_isKeyMachine post (nI j) :=
  br_f (nI_pos (by omega)) (br_f (nI_ge (b := 3) hj (by decide)) hp)
theorem tp_km0 {post : Int32 → Prop} {j : Nat} (hj : 3 ≤ j) (hj2 : j < 2 ^ 31) (hp : post 0) : wpX_isKeyMachine post (nI j) :=
  br_f (nI_pos hj2) (br_t (nI_le (a := 3) hj hj2) hp)
theorem tp_hk1 {post : Int32 → Prop} {x : Int32} {k : Nat} (hk : k < 32) (h : bt x k = true) (hp : post 1) : wpX_hasKey post x (nI k) := br_t ((tp_has x k hk).mpr h) hp
theorem tp_hk0 {post : Int32 → Prop} {x : Int32} {k : Nat} (hk : k < 32) (h : ¬ bt x k = true) (hp : post 0) : wpX_hasKey post x (nI k) := br_f (fun z => h ((tp_has x k hk).mp z)) hp
theorem tp_10 : ¬ (1 : Int32) = 0 := by decide
/-! findHolder -/
theorem tp_fhL {post : Int32 → Prop} {o c : Int32} {nu dr hb wb : Nat → Int32} {k e : Nat} (hk : k < 12) (he : e ≤ 4) (hn : ∀ t, t < e → ¬ bt (hb t) k = true)
    (hx : wX_findHolder_2 post (nI k) o c nu dr hb wb 1 (nI e)) : ∀ d j, j + d = e → wX_findHolder_2 post (nI k) o c nu dr hb wb (d + 1) (nI j) := by
  intro d
  induction d with
  | zero =>
    intro j hj
    have : j = e := by omega
    subst this
    exact hx
  | succ d ih =>
    intro j hj
    have hb' : ¬ bt (hb (nI j).toNatClampNeg) k = true := by rw [nI_clamp (by omega)]; exact hn j (by omega)
    refine br_f (nI_ge (b := 4) (by omega) (by decide)) ⟨vp_in_nI (by omega) (by decide), tp_hk0 (by omega) hb' (br_t rfl (nm_r (nI_1 j) (ih (j + 1) (by omega))))⟩
theorem tp_fh0 {post : Int32 → Prop} {o c : Int32} {nu dr hb wb : Nat → Int32} {k : Nat} (hk : k < 12) (hn : ∀ t, t < 4 → ¬ bt (hb t) k = true) (hp : post (-1)) : wpX_findHolder post (o, c, nu, dr, hb, wb) (nI k) :=
  ⟨5, tp_fhL (e := 4) hk (by omega) hn (br_t (nI_le (a := 4) (b := 4) (by omega) (by decide)) hp) 4 0 rfl⟩
theorem tp_fh1 {post : Int32 → Prop} {o c : Int32} {nu dr hb wb : Nat → Int32} {k e : Nat} (hk : k < 12) (he : e < 4) (hn : ∀ t, t < e → ¬ bt (hb t) k = true) (hh : bt (hb e) k = true) (hp : post (nI e)) : wpX_findHolder post (o, c, nu, dr, hb, wb) (nI k) := by
  have hb' : bt (hb (nI e).toNatClampNeg) k = true := by rw [nI_clamp (by omega)]; exact hh
  exact ⟨e + 1, tp_fhL (e := e) hk (by omega) hn (br_f (nI_ge (b := 4) (by omega) (by decide)) ⟨vp_in_nI (by omega) (by decide), tp_hk1 (by omega) hb' (br_f tp_10 hp)⟩) e 0 (by omega)⟩
/-- who holds k: the two sides' answers -/
theorem tp_fh {o : Int32} {nu dr hb wb ho se ch ac : Nat → Int32} (R : tp_R o nu dr hb wb ho se ch ac) {k : Nat} (hk : k < 12) :
    (ho k = 0 ∧ ∀ (c : Int32) (post : Int32 → Prop), post (-1) → wpX_findHolder post (o, c, nu, dr, hb, wb) (nI k)) ∨
    (∃ s, s < 4 ∧ ho k = nI (s + 1) ∧ ∀ (c : Int32) (post : Int32 → Prop), post (nI s) → wpX_findHolder post (o, c, nu, dr, hb, wb) (nI k)) := by
  obtain ⟨r1, r2, r3, r4, _⟩ := R
  obtain ⟨h, h4, he, _⟩ := r3 k hk
  cases h with
  | zero =>
    refine Or.inl ⟨he, fun c post hp => tp_fh0 hk (fun t ht z => ?_) hp⟩
    rw [r4 t ht k hk, he] at z
    have := tp_ni z (by omega) (by omega)
    omega
  | succ s =>
    refine Or.inr ⟨s, by omega, he, fun c post hp => tp_fh1 hk (by omega) (fun t ht z => ?_) ((r4 s (by omega) k hk).mpr he) hp⟩
    rw [r4 t (by omega) k hk, he] at z
    have := tp_ni z (by omega) (by omega)
    omega
theorem tp_m1 {s : Nat} (hs : s < 4) : ¬ nI s = (-1) := by
  intro e
  have h : ¬ nI s < 0 := nI_pos (by omega)
  rw [e] at h
  exact h (by decide)
/-- is k held by another than t? -/
theorem tp_busy {o : Int32} {nu dr hb wb ho se ch ac : Nat → Int32} (R : tp_R o nu dr hb wb ho se ch ac) {t k : Nat} (ht : t < 4) (hk : k < 12) :
    ((ho k = 0 ∨ ho k = nI (t + 1)) ∧ (∀ (c : Int32) (post : Int32 → Prop), post 0 → wpX_isHeldByAnother post (o, c, nu, dr, hb, wb) (nI t) (nI k)) ∧ (∀ (c : Int32) (post : Int32 → Prop), post 0 → wpY_busy post (c, nu, ho, se, ch, ac) (nI t) (nI k))) ∨
    ((∀ (c : Int32) (post : Int32 → Prop), post 1 → wpX_isHeldByAnother post (o, c, nu, dr, hb, wb) (nI t) (nI k)) ∧ (∀ (c : Int32) (post : Int32 → Prop), post 1 → wpY_busy post (c, nu, ho, se, ch, ac) (nI t) (nI k))) := by
  have ec : (nI k).toNatClampNeg = k := nI_clamp (by omega)
  have hi : vp_in (nI k) 12 := vp_in_nI hk (by decide)
  rcases tp_fh R hk with ⟨h0, hX⟩ | ⟨s, hs, h0, hX⟩
  · have h0' : ho (nI k).toNatClampNeg = 0 := by rw [ec]; exact h0
    refine Or.inl ⟨Or.inl h0, fun c post hp => ?_, fun c post hp => ⟨hi, br_t h0' hp⟩⟩
    unfold wpX_isHeldByAnother
    exact hX c _ (br_t rfl hp)
  · have h1 : ¬ ho (nI k).toNatClampNeg = 0 := by rw [ec, h0]; exact tp_ne0 (by omega)
    by_cases z : s = t
    · subst z
      have h2 : ho (nI k).toNatClampNeg = nI s + 1 := by rw [ec, h0, nI_1]
      refine Or.inl ⟨Or.inr h0, fun c post hp => ?_, fun c post hp => ⟨hi, br_f h1 ⟨hi, br_t h2 hp⟩⟩⟩
      unfold wpX_isHeldByAnother
      exact hX c _ (br_f (tp_m1 hs) (br_t rfl hp))
    · have h2 : ¬ ho (nI k).toNatClampNeg = nI t + 1 := by
        rw [ec, h0, nI_1]
        intro e
        have := tp_ni e (by omega) (by omega)
        omega
      have h3 : ¬ nI s = nI t := fun e => z (tp_ni e (by omega) (by omega))
      refine Or.inr ⟨fun c post hp => ?_, fun c post hp => ⟨hi, br_f h1 ⟨hi, br_f h2 hp⟩⟩⟩
      unfold wpX_isHeldByAnother
      exact hX c _ (br_f (tp_m1 hs) (br_f h3 hp))
/-- the number that t sees at k -/
theorem tp_xsee {nu dr wb : Nat → Int32} {t k : Nat} (ht : t < 4) (hk : k < 12) (s : Int32) (h1 : bt (wb t) k = true → s = dr k) (h0 : ¬ bt (wb t) k = true → s = nu k) (o c : Int32) (hb : Nat → Int32) (post : Int32 → Prop) (hp : post s) : wpX_numberSeen post (o, c, nu, dr, hb, wb) (nI t) (nI k) := by
  have ec : (nI k).toNatClampNeg = k := nI_clamp (by omega)
  have et : (nI t).toNatClampNeg = t := nI_clamp (by omega)
  have hi : vp_in (nI k) 12 := vp_in_nI hk (by decide)
  have ht' : vp_in (nI t) 4 := vp_in_nI ht (by decide)
  unfold wpX_numberSeen
  dsimp only
  rw [ec, et]
  by_cases z : bt (wb t) k = true
  · rw [h1 z] at hp
    exact ⟨ht', tp_hk1 (by omega) z (br_f tp_10 ⟨hi, hp⟩)⟩
  · rw [h0 z] at hp
    exact ⟨ht', tp_hk0 (by omega) z (br_t rfl ⟨hi, hp⟩)⟩
theorem tp_see {o : Int32} {nu dr hb wb ho se ch ac : Nat → Int32} (R : tp_R o nu dr hb wb ho se ch ac) {t k : Nat} (ht : t < 4) (hk : k < 12) (hh : ho k = 0 ∨ ho k = nI (t + 1)) :
    ∃ s, (∀ (c : Int32) (post : Int32 → Prop), post s → wpX_numberSeen post (o, c, nu, dr, hb, wb) (nI t) (nI k)) ∧ (∀ (c : Int32) (post : Int32 → Prop), post s → wpY_sees post (c, nu, ho, se, ch, ac) (nI t) (nI k)) := by
  obtain ⟨r1, r2, r3, r4, r5, r6, r7, r8, r9, r10⟩ := R
  have ec : (nI k).toNatClampNeg = k := nI_clamp (by omega)
  have hi : vp_in (nI k) 12 := vp_in_nI hk (by decide)
  rcases hh with h | h
  · have hn : ¬ ho k = nI (t + 1) := by rw [h]; exact fun e => tp_ne0 (a := t) (by omega) e.symm
    have hn' : ¬ ho (nI k).toNatClampNeg = nI t + 1 := by rw [ec, nI_1]; exact hn
    refine ⟨nu k, fun c post hp => tp_xsee ht hk (nu k) (fun z => absurd ((r6 t ht k hk).mp z).1 hn) (fun _ => rfl) o c hb post hp, fun c post hp => ⟨hi, br_f hn' ⟨hi, ?_⟩⟩⟩
    rw [ec]
    exact hp
  · have hn' : ho (nI k).toNatClampNeg = nI t + 1 := by rw [ec, nI_1]; exact h
    have h8 := r8 k hk (by rw [h]; exact tp_ne0 (by omega))
    refine ⟨se k, fun c post hp => tp_xsee ht hk (se k) (fun z => h8.2 ((r6 t ht k hk).mp z).2) (fun z => h8.1 ?_) o c hb post hp, fun c post hp => ⟨hi, br_t hn' ⟨hi, ?_⟩⟩⟩
    · by_cases y : ch k = 0
      · exact y
      · exact absurd ((r6 t ht k hk).mpr ⟨h, y⟩) z
    · rw [ec]
      exact hp
end
section
/-! get, put, move -/
/-- t takes k: the reference's walk, the new relation, and what the class then sees -/
theorem tp_hold {o : Int32} {nu dr hb wb ho se ch ac : Nat → Int32} (R : tp_R o nu dr hb wb ho se ch ac) {t k : Nat} (ht : t < 4) (hk : k < 12) (ha : ¬ ac t = 0) (hh : ho k = 0 ∨ ho k = nI (t + 1)) :
    ∃ ho' se' ch' : Nat → Int32, (∀ (c : Int32) (post : SY → Prop), post (c, nu, ho', se', ch', ac) → wpY_hold post (c, nu, ho, se, ch, ac) (nI t) (nI k)) ∧
      tp_R o nu dr (upd hb t (hb t ||| ((1 : Int32) <<< (nI k &&& 31)))) wb ho' se' ch' ac ∧ ho' k = nI (t + 1) ∧ (∀ j, j ≠ k → ho' j = ho j) ∧ tp_N (se' k) ∧
      (∀ (o c : Int32) (hb : Nat → Int32) (post : Int32 → Prop), post (se' k) → wpX_numberSeen post (o, c, nu, dr, hb, wb) (nI t) (nI k)) := by
  have R' := R
  obtain ⟨r1, r2, r3, r4, r5, r6, r7, r8, r9, r10⟩ := R'
  have ec : (nI k).toNatClampNeg = k := nI_clamp (by omega)
  have hi : vp_in (nI k) 12 := vp_in_nI hk (by decide)
  rcases hh with h | h
  · have hn : ¬ ho k = nI (t + 1) := by rw [h]; exact fun e => tp_ne0 (a := t) (by omega) e.symm
    refine ⟨upd ho k (nI (t + 1)), upd se k (nu k), upd ch k 0, fun c post hp => ?_, ?_, pk_us, fun j hj => pk_un hj, ?_, ?_⟩
    · have h' : ho (nI k).toNatClampNeg = 0 := by rw [ec]; exact h
      refine ⟨hi, br_t h' ⟨hi, nm_r (e' := upd ho k (nI (t + 1))) (by rw [ec, nI_1]) ⟨hi, hi, nm_r (e' := upd se k (nu k)) (by rw [ec]) ⟨hi, nm_r (e' := upd ch k 0) (by rw [ec, tp_vb0]) hp⟩⟩⟩⟩
    · exact tp_Rhold R ht hk ha pk_us (fun j hj => ⟨pk_un hj, pk_un hj, pk_un hj⟩) (Or.inr ⟨h, pk_us, pk_us⟩)
    · rw [pk_us]
      exact r9 k hk
    · intro o c hb post hp
      rw [pk_us] at hp
      exact tp_xsee ht hk (nu k) (fun z => absurd ((r6 t ht k hk).mp z).1 hn) (fun _ => rfl) o c hb post hp
  · have hz : ¬ ho k = 0 := by rw [h]; exact tp_ne0 (by omega)
    have h8 := r8 k hk hz
    refine ⟨ho, se, ch, fun c post hp => ?_, ?_, h, fun j hj => rfl, r10 k hk hz, ?_⟩
    · have h' : ¬ ho (nI k).toNatClampNeg = 0 := by rw [ec]; exact hz
      exact ⟨hi, br_f h' hp⟩
    · exact tp_Rhold R ht hk ha h (fun j hj => ⟨rfl, rfl, rfl⟩) (Or.inl ⟨h, rfl, rfl⟩)
    · intro o c hb post hp
      refine tp_xsee ht hk (se k) (fun z => h8.2 ((r6 t ht k hk).mp z).2) (fun z => h8.1 ?_) o c hb post hp
      by_cases y : ch k = 0
      · exact y
      · exact absurd ((r6 t ht k hk).mpr ⟨h, y⟩) z
/-- the reference's get, where it takes the key -/
theorem tp_yget {c : Int32} {nu ho se ch ac ho' se' ch' : Nat → Int32} {t k : Nat} (ht : t < 4) (hk : k < 12) (ha : ¬ ac t = 0)
    (hB : ∀ post : Int32 → Prop, post 0 → wpY_busy post (c, nu, ho, se, ch, ac) (nI t) (nI k))
    (hH : ∀ post : SY → Prop, post (c, nu, ho', se', ch', ac) → wpY_hold post (c, nu, ho, se, ch, ac) (nI t) (nI k))
    {post : Int32 → SY → Prop} (hp : post (se' k) (c, nu, ho', se', ch', ac)) : wpY_get post (c, nu, ho, se, ch, ac) (nI t) (nI k) := by
  have ec : (nI k).toNatClampNeg = k := nI_clamp (by omega)
  have hi : vp_in (nI k) 12 := vp_in_nI hk (by decide)
  unfold wpY_get
  dsimp only
  refine tp_yop1 ht ha (br_f tp_10 (tp_yk1 hk (br_f tp_10 (hB _ (br_t rfl (hH _ ⟨hi, ?_⟩))))))
  rw [ec]
  exact hp
theorem i_vc_get {k : Nat} {u : SX} {v : SY} (I : i_Rel k u v) (hk : k + 4 ≤ 2048) (v1 : Int32) (v2 : Int32) : wpX_get (fun r u' => wpY_get (fun r' v' => r' = r ∧ i_Rel (k + 4) u' v') v v1 v2) u v1 v2 := by
  obtain ⟨o, c, nu, dr, hb, wb, ho, se, ch, ac, rfl, rfl, R⟩ := I
  have J : ∀ n, i_Rel n (o, c, nu, dr, hb, wb) (c, nu, ho, se, ch, ac) := fun n => ⟨o, c, nu, dr, hb, wb, ho, se, ch, ac, rfl, rfl, R⟩
  unfold wpX_get
  dsimp only
  rcases tp_op R v1 with ⟨t, ht, rfl, hx, ha⟩ | ⟨hX, hY⟩
  · refine tp_xop1 ht hx (br_f tp_10 ?_)
    rcases tp_key v2 with ⟨q, hq, rfl⟩ | ⟨kX, kY⟩
    · refine tp_xk1 hq (br_f tp_10 ?_)
      rcases tp_busy R ht hq with ⟨hh, bX, bY⟩ | ⟨bX, bY⟩
      · obtain ⟨ho', se', ch', hH, R', _, _, _, hS⟩ := tp_hold R ht hq ha hh
        have et : (nI t).toNatClampNeg = t := nI_clamp (by omega)
        have hi : vp_in (nI t) 4 := vp_in_nI ht (by decide)
        refine bX c _ (br_t rfl ⟨hi, hi, nm_r (e' := upd hb t (hb t ||| ((1 : Int32) <<< (nI q &&& 31)))) (by rw [et]) ?_⟩)
        refine hS _ _ _ _ ?_
        exact tp_yget ht hq ha (bY c) (hH c) ⟨rfl, _, _, _, _, _, _, _, _, _, _, rfl, rfl, R'⟩
      · refine bX c _ (br_f tp_10 ?_)
        unfold wpY_get
        dsimp only
        exact tp_yop1 ht ha (br_f tp_10 (tp_yk1 hq (br_f tp_10 (bY c _ (br_f tp_10 ⟨rfl, J _⟩)))))
    · refine kX _ (br_t rfl ?_)
      unfold wpY_get
      dsimp only
      exact tp_yop1 ht ha (br_f tp_10 (kY _ _ _ _ _ _ _ (br_t rfl ⟨rfl, J _⟩)))
  · refine hX c _ (br_t rfl ?_)
    unfold wpY_get
    dsimp only
    exact hY c _ (br_t rfl ⟨rfl, J _⟩)
/-- t writes v at k: both walks, and the new relation -/
theorem tp_put {o : Int32} {nu dr hb wb ho se ch ac : Nat → Int32} (R : tp_R o nu dr hb wb ho se ch ac) {t k : Nat} (ht : t < 4) (hk : k < 12) (ha : ¬ ac t = 0) (hh : ho k = 0 ∨ ho k = nI (t + 1)) {x : Int32} (hx : tp_N x) :
    ∃ (s : Int32) (dr' hb' wb' ho' se' ch' : Nat → Int32),
      (∀ (c : Int32) (post : Int32 → Prop), post s → wpX_numberSeen post (o, c, nu, dr, hb, wb) (nI t) (nI k)) ∧
      (∀ (c : Int32) (post : SX → Prop), post (o, c, nu, dr', hb', wb') → wpX_write post (o, c, nu, dr, hb, wb) (nI t) (nI k) x) ∧
      (∀ (c : Int32) (post : Int32 → SY → Prop), post s (c, nu, ho', se', ch', ac) → wpY_put post (c, nu, ho, se, ch, ac) (nI t) (nI k) x) ∧
      tp_R o nu dr' hb' wb' ho' se' ch' ac ∧ (∀ j, ho' j = ho j ∨ ho' j = nI (t + 1)) := by
  obtain ⟨ho', se', ch', hH, R', e1, e2, hN, hS⟩ := tp_hold R ht hk ha hh
  have ec : (nI k).toNatClampNeg = k := nI_clamp (by omega)
  have et : (nI t).toNatClampNeg = t := nI_clamp (by omega)
  have hi : vp_in (nI k) 12 := vp_in_nI hk (by decide)
  have hj : vp_in (nI t) 4 := vp_in_nI ht (by decide)
  refine ⟨se' k, upd dr k x, upd hb t (hb t ||| ((1 : Int32) <<< (nI k &&& 31))), upd wb t (wb t ||| ((1 : Int32) <<< (nI k &&& 31))), ho', upd se' k x, upd ch' k 1, fun c post hp => hS o c hb post hp, fun c post hp => ?_, fun c post hp => ?_, tp_Rwrite R' ht hk hx e1, fun j => ?_⟩
  · unfold wpX_write
    dsimp only
    rw [ec, et]
    exact ⟨hi, nm_e ⟨hj, hj, nm_e ⟨hj, hj, nm_e hp⟩⟩⟩
  · unfold wpY_put
    dsimp only
    have bY : ∀ post : Int32 → Prop, post 0 → wpY_busy post (c, nu, ho, se, ch, ac) (nI t) (nI k) := by
      intro post hp
      rcases hh with h | h
      · have h' : ho (nI k).toNatClampNeg = 0 := by rw [ec]; exact h
        exact ⟨hi, br_t h' hp⟩
      · have h1 : ¬ ho (nI k).toNatClampNeg = 0 := by rw [ec, h]; exact tp_ne0 (by omega)
        have h2 : ho (nI k).toNatClampNeg = nI t + 1 := by rw [ec, h, nI_1]
        exact ⟨hi, br_f h1 ⟨hi, br_t h2 hp⟩⟩
    refine tp_yop1 ht ha (br_f tp_10 (tp_yk1 hk (br_f tp_10 (tp_yn1 hx (br_f tp_10 (tp_yget ht hk ha bY (hH c) ?_))))))
    dsimp only
    rw [ec, tp_vb1]
    exact br_f (tp_nbusy hN) ⟨hi, nm_e ⟨hi, nm_e hp⟩⟩
  · by_cases z : j = k
    · subst z
      exact Or.inr e1
    · exact Or.inl (e2 j z)
theorem i_vc_put {k : Nat} {u : SX} {v : SY} (I : i_Rel k u v) (hk : k + 4 ≤ 2048) (v1 : Int32) (v2 : Int32) (v3 : Int32) : wpX_put (fun r u' => wpY_put (fun r' v' => r' = r ∧ i_Rel (k + 4) u' v') v v1 v2 v3) u v1 v2 v3 := by
  obtain ⟨o, c, nu, dr, hb, wb, ho, se, ch, ac, rfl, rfl, R⟩ := I
  have J : ∀ n, i_Rel n (o, c, nu, dr, hb, wb) (c, nu, ho, se, ch, ac) := fun n => ⟨o, c, nu, dr, hb, wb, ho, se, ch, ac, rfl, rfl, R⟩
  unfold wpX_put
  dsimp only
  rcases tp_op R v1 with ⟨t, ht, rfl, hx, ha⟩ | ⟨hX, hY⟩
  · refine tp_xop1 ht hx (br_f tp_10 ?_)
    rcases tp_key v2 with ⟨q, hq, rfl⟩ | ⟨kX, kY⟩
    · refine tp_xk1 hq (br_f tp_10 ?_)
      rcases tp_num v3 with hN | ⟨nX, nY⟩
      · refine tp_xn1 hN (br_f tp_10 ?_)
        rcases tp_busy R ht hq with ⟨hh, bX, bY⟩ | ⟨bX, bY⟩
        · obtain ⟨s, dr', hb', wb', ho', se', ch', hS, hW, hP, R', _⟩ := tp_put R ht hq ha hh hN
          refine bX c _ (br_t rfl (hS c _ (hW c _ ?_)))
          exact hP c _ ⟨rfl, _, _, _, _, _, _, _, _, _, _, rfl, rfl, R'⟩
        · refine bX c _ (br_f tp_10 ?_)
          unfold wpY_put
          dsimp only
          refine tp_yop1 ht ha (br_f tp_10 (tp_yk1 hq (br_f tp_10 (tp_yn1 hN (br_f tp_10 ?_)))))
          unfold wpY_get
          dsimp only
          exact tp_yop1 ht ha (br_f tp_10 (tp_yk1 hq (br_f tp_10 (bY c _ (br_f tp_10 (br_t rfl ⟨rfl, J _⟩))))))
      · refine nX _ (br_t rfl ?_)
        unfold wpY_put
        dsimp only
        exact tp_yop1 ht ha (br_f tp_10 (tp_yk1 hq (br_f tp_10 (nY _ _ _ _ _ _ _ (br_t rfl ⟨rfl, J _⟩)))))
    · refine kX _ (br_t rfl ?_)
      unfold wpY_put
      dsimp only
      exact tp_yop1 ht ha (br_f tp_10 (kY _ _ _ _ _ _ _ (br_t rfl ⟨rfl, J _⟩)))
  · refine hX c _ (br_t rfl ?_)
    unfold wpY_put
    dsimp only
    exact hY c _ (br_t rfl ⟨rfl, J _⟩)
end
section
/-! move -/
theorem tp_120 : ¬ (12 : Int32) = 0 := by decide
theorem tp_rem12 {j : Nat} (hj : j < 144) : nI j - nI j / 12 * 12 = nI (j % 12) := pk_rem (d := 12) (by omega) (by omega) (by omega)
theorem tp_div12 {j : Nat} (hj : j < 144) : nI j / 12 = nI (j / 12) := pk_div (d := 12) (by omega) (by omega) (by omega)
/-- the class's head of move, to its two keys -/
theorem tp_xmv {o c : Int32} {nu dr hb wb : Nat → Int32} {t j : Nat} (ht : t < 4) (hx : bt o t = true) (hj : j < 144) {p : Int32} (h0 : ¬ p < 0) (h9 : p ≤ 9999) (hne : j % 12 ≠ j / 12) {post : Int32 → SX → Prop}
    (h : wpX_isHeldByAnother (fun r_18 => (((r_18 = 0 → (wpX_isHeldByAnother (fun r_26 => (((r_26 = 0 → (wpX_numberSeen (fun r_34 => (wpX_numberSeen (fun r_42 => (wpX_isNumber (fun r_50 => (((r_50 = 0 → (post (-200000) (o, c, nu, dr, hb, wb))) ∧ (¬ r_50 = 0 → (wpX_isNumber (fun r_52 => (((r_52 = 0 → (post (-200000) (o, c, nu, dr, hb, wb))) ∧ (¬ r_52 = 0 → (wpX_write (fun u => wpX_write (fun u => post (r_34 - p) u) u (nI t) (nI (j / 12)) (r_42 + p)) (o, c, nu, dr, hb, wb) (nI t) (nI (j % 12)) (r_34 - p)))))) (r_42 + p)))))) (r_34 - p))) (o, c, nu, dr, hb, wb) (nI t) (nI (j / 12)))) (o, c, nu, dr, hb, wb) (nI t) (nI (j % 12)))) ∧ (¬ r_26 = 0 → (post (-300000) (o, c, nu, dr, hb, wb)))))) (o, c, nu, dr, hb, wb) (nI t) (nI (j / 12)))) ∧ (¬ r_18 = 0 → (post (-300000) (o, c, nu, dr, hb, wb)))))) (o, c, nu, dr, hb, wb) (nI t) (nI (j % 12))) :
    wpX_move post (o, c, nu, dr, hb, wb) (nI t) (nI j) p := by
  have n1 : ¬ nI (j % 12) = nI (j / 12) := fun e => hne (tp_ni e (by omega) (by omega))
  unfold wpX_move
  dsimp only
  rw [tp_rem12 hj, tp_div12 hj]
  refine tp_xop1 ht hx (br_f tp_10 (br_f (nI_pos (by omega)) (br_t (nI_lt (b := 144) hj (by decide)) ⟨tp_120, nm_e ⟨tp_120, nm_e (br_f n1 (br_f h0 (br_t h9 ?_)))⟩⟩)))
  simp only [forall_eq]
  exact h
theorem tp_ymv {c : Int32} {nu ho se ch ac : Nat → Int32} {t j : Nat} (ht : t < 4) (ha : ¬ ac t = 0) (hj : j < 144) {p : Int32} (h0 : ¬ p < 0) (h9 : p ≤ 9999) (hne : j % 12 ≠ j / 12) {post : Int32 → SY → Prop}
    (h : wpY_busy (fun r_20 => (((r_20 = 0 → (wpY_busy (fun r_28 => (((r_28 = 0 → (wpY_sees (fun r_36 => (wpY_sees (fun r_44 => (wpY_fits (fun r_52 => (((r_52 = 0 → (post (-200000) (c, nu, ho, se, ch, ac))) ∧ (¬ r_52 = 0 → (wpY_fits (fun r_60 => (((r_60 = 0 → (post (-200000) (c, nu, ho, se, ch, ac))) ∧ (¬ r_60 = 0 → (wpY_put (fun r_68 u => wpY_put (fun r_75 u => post (r_36 - p) u) u (nI t) (nI (j / 12)) (r_44 + p)) (c, nu, ho, se, ch, ac) (nI t) (nI (j % 12)) (r_36 - p)))))) (c, nu, ho, se, ch, ac) (r_44 + p)))))) (c, nu, ho, se, ch, ac) (r_36 - p))) (c, nu, ho, se, ch, ac) (nI t) (nI (j / 12)))) (c, nu, ho, se, ch, ac) (nI t) (nI (j % 12)))) ∧ (¬ r_28 = 0 → (post (-300000) (c, nu, ho, se, ch, ac)))))) (c, nu, ho, se, ch, ac) (nI t) (nI (j / 12)))) ∧ (¬ r_20 = 0 → (post (-300000) (c, nu, ho, se, ch, ac)))))) (c, nu, ho, se, ch, ac) (nI t) (nI (j % 12))) :
    wpY_move post (c, nu, ho, se, ch, ac) (nI t) (nI j) p := by
  have n1 : ¬ nI (j % 12) = nI (j / 12) := fun e => hne (tp_ni e (by omega) (by omega))
  unfold wpY_move
  dsimp only
  rw [tp_rem12 hj, tp_div12 hj]
  refine tp_yop1 ht ha (br_f tp_10 (br_f (nI_pos (by omega)) (br_f (nI_nlt (b := j) (a := 143) (by omega) (by decide)) ⟨tp_120, tp_120, br_f n1 (br_f h0 (br_t h9 ⟨tp_120, nm_e ⟨tp_120, nm_e ?_⟩⟩))⟩)))
  simp only [forall_eq]
  exact h
theorem i_vc_move {k : Nat} {u : SX} {v : SY} (I : i_Rel k u v) (hk : k + 4 ≤ 2048) (v1 : Int32) (v2 : Int32) (v3 : Int32) : wpX_move (fun r u' => wpY_move (fun r' v' => r' = r ∧ i_Rel (k + 4) u' v') v v1 v2 v3) u v1 v2 v3 := by
  obtain ⟨o, c, nu, dr, hb, wb, ho, se, ch, ac, rfl, rfl, R⟩ := I
  have J : ∀ n, i_Rel n (o, c, nu, dr, hb, wb) (c, nu, ho, se, ch, ac) := fun n => ⟨o, c, nu, dr, hb, wb, ho, se, ch, ac, rfl, rfl, R⟩
  rcases tp_op R v1 with ⟨t, ht, rfl, hx, ha⟩ | ⟨hX, hY⟩
  · rcases tp_ix v2 144 (by decide) with ⟨j, hj, rfl⟩ | h | ⟨h0, h4, h3⟩
    · by_cases hp : v3 < 0 ∨ ¬ v3 ≤ 9999 ∨ j % 12 = j / 12
      · have bX : ∀ post : Int32 → SX → Prop, post (-100000) (o, c, nu, dr, hb, wb) → wpX_move post (o, c, nu, dr, hb, wb) (nI t) (nI j) v3 := by
          intro post hq
          unfold wpX_move
          dsimp only
          rw [tp_rem12 hj, tp_div12 hj]
          refine tp_xop1 ht hx (br_f tp_10 (br_f (nI_pos (by omega)) (br_t (nI_lt (b := 144) hj (by decide)) ⟨tp_120, nm_e ⟨tp_120, nm_e (br_c (fun _ => hq) (fun n1 => br_c (fun _ => hq) (fun n2 => br_c (fun n3 => ?_) (fun _ => hq))))⟩⟩)))
          rcases hp with h | h | h
          · exact absurd h n2
          · exact absurd n3 h
          · exact absurd (congrArg nI h) n1
        have bY : ∀ post : Int32 → SY → Prop, post (-100000) (c, nu, ho, se, ch, ac) → wpY_move post (c, nu, ho, se, ch, ac) (nI t) (nI j) v3 := by
          intro post hq
          unfold wpY_move
          dsimp only
          rw [tp_rem12 hj, tp_div12 hj]
          refine tp_yop1 ht ha (br_f tp_10 (br_f (nI_pos (by omega)) (br_f (nI_nlt (b := j) (a := 143) (by omega) (by decide)) ⟨tp_120, tp_120, br_c (fun _ => hq) (fun n1 => br_c (fun _ => hq) (fun n2 => br_c (fun n3 => ?_) (fun _ => hq)))⟩)))
          rcases hp with h | h | h
          · exact absurd h n2
          · exact absurd n3 h
          · exact absurd (congrArg nI h) n1
        exact bX _ (bY _ ⟨rfl, J _⟩)
      · have n0 : ¬ v3 < 0 := fun z => hp (Or.inl z)
        have n9 : v3 ≤ 9999 := by
          by_cases z : v3 ≤ 9999
          · exact z
          · exact absurd (Or.inr (Or.inl z)) hp
        have ne : j % 12 ≠ j / 12 := fun z => hp (Or.inr (Or.inr z))
        have ha12 : j % 12 < 12 := by omega
        have hb12 : j / 12 < 12 := by omega
        refine tp_xmv ht hx hj n0 n9 ne ?_
        rcases tp_busy R ht ha12 with ⟨hh, aX, aY⟩ | ⟨aX, aY⟩
        · refine aX c _ (br_t rfl ?_)
          rcases tp_busy R ht hb12 with ⟨hh2, bX, bY⟩ | ⟨bX, bY⟩
          · refine bX c _ (br_t rfl ?_)
            obtain ⟨s1, sX1, sY1⟩ := tp_see R ht ha12 hh
            obtain ⟨s2, sX2, sY2⟩ := tp_see R ht hb12 hh2
            refine sX1 c _ (sX2 c _ ?_)
            rcases tp_num (s1 - v3) with hN1 | ⟨nX, nY⟩
            · refine tp_xn1 hN1 (br_f tp_10 ?_)
              rcases tp_num (s2 + v3) with hN2 | ⟨nX, nY⟩
              · refine tp_xn1 hN2 (br_f tp_10 ?_)
                obtain ⟨_, dr', hb', wb', ho', se', ch', _, hW, hP, R', hh'⟩ := tp_put R ht ha12 ha hh hN1
                have hh2' : ho' (j / 12) = 0 ∨ ho' (j / 12) = nI (t + 1) := by
                  rcases hh' (j / 12) with e | e
                  · rw [e]; exact hh2
                  · exact Or.inr e
                obtain ⟨_, dr2, hb2, wb2, ho2, se2, ch2, _, hW2, hP2, R2, _⟩ := tp_put R' ht hb12 ha hh2' hN2
                refine hW c _ (hW2 c _ ?_)
                refine tp_ymv ht ha hj n0 n9 ne ?_
                refine aY c _ (br_t rfl (bY c _ (br_t rfl (sY1 c _ (sY2 c _ (tp_yn1 hN1 (br_f tp_10 (tp_yn1 hN2 (br_f tp_10 ?_)))))))))
                exact hP c _ (hP2 c _ ⟨rfl, _, _, _, _, _, _, _, _, _, _, rfl, rfl, R2⟩)
              · refine nX _ (br_t rfl ?_)
                refine tp_ymv ht ha hj n0 n9 ne ?_
                exact aY c _ (br_t rfl (bY c _ (br_t rfl (sY1 c _ (sY2 c _ (tp_yn1 hN1 (br_f tp_10 (nY _ _ _ _ _ _ _ (br_t rfl ⟨rfl, J _⟩)))))))))
            · refine nX _ (br_t rfl ?_)
              refine tp_ymv ht ha hj n0 n9 ne ?_
              exact aY c _ (br_t rfl (bY c _ (br_t rfl (sY1 c _ (sY2 c _ (nY _ _ _ _ _ _ _ (br_t rfl ⟨rfl, J _⟩)))))))
          · refine bX c _ (br_f tp_10 ?_)
            refine tp_ymv ht ha hj n0 n9 ne ?_
            exact aY c _ (br_t rfl (bY c _ (br_f tp_10 ⟨rfl, J _⟩)))
        · refine aX c _ (br_f tp_10 ?_)
          refine tp_ymv ht ha hj n0 n9 ne ?_
          exact aY c _ (br_f tp_10 ⟨rfl, J _⟩)
    · unfold wpX_move
      dsimp only
      refine tp_xop1 ht hx (br_f tp_10 (br_t h ?_))
      unfold wpY_move
      dsimp only
      exact tp_yop1 ht ha (br_f tp_10 (br_t h ⟨rfl, J _⟩))
    · unfold wpX_move
      dsimp only
      refine tp_xop1 ht hx (br_f tp_10 (br_f h0 (br_f (Int32.not_lt.mpr h4) ?_)))
      unfold wpY_move
      dsimp only
      exact tp_yop1 ht ha (br_f tp_10 (br_f h0 (br_t (h3 143 (by decide)) ⟨rfl, J _⟩)))
  · unfold wpX_move
    dsimp only
    refine hX c _ (br_t rfl ?_)
    unfold wpY_move
    dsimp only
    exact hY c _ (br_t rfl ⟨rfl, J _⟩)
end
section
/-! how a transaction ends: close and carryOut of the class, end of the reference -/
def tp_en (x2 : Int32) (t : Nat) (nu ho se ch : Nat → Int32) (j : Nat) : Nat → Int32 := fun i => if i < j ∧ ho i = nI (t + 1) ∧ ¬ x2 = 0 ∧ ¬ ch i = 0 then se i else nu i
def tp_eh (t : Nat) (ho : Nat → Int32) (j : Nat) : Nat → Int32 := fun i => if i < j ∧ ho i = nI (t + 1) then 0 else ho i
theorem tp_en0 (x2 : Int32) (t : Nat) (nu ho se ch : Nat → Int32) : tp_en x2 t nu ho se ch 0 = nu := by
  funext i
  exact if_neg (fun h => by omega)
theorem tp_eh0 (t : Nat) (ho : Nat → Int32) : tp_eh t ho 0 = ho := by
  funext i
  exact if_neg (fun h => by omega)
theorem tp_enj (x2 : Int32) (t : Nat) (nu ho se ch : Nat → Int32) (j : Nat) : tp_en x2 t nu ho se ch j j = nu j := if_neg (fun h => by omega)
theorem tp_ehj (t : Nat) (ho : Nat → Int32) (j : Nat) : tp_eh t ho j j = ho j := if_neg (fun h => by omega)
theorem tp_enN {x2 : Int32} {t : Nat} {nu ho se ch : Nat → Int32} {j : Nat} (h : ¬ (ho j = nI (t + 1) ∧ ¬ x2 = 0 ∧ ¬ ch j = 0)) : tp_en x2 t nu ho se ch (j + 1) = tp_en x2 t nu ho se ch j := by
  funext i
  unfold tp_en
  by_cases z : i = j
  · subst z
    rw [if_neg (fun y => h y.2), if_neg (fun y => h y.2)]
  · by_cases y : i < j
    · simp [y, show i < j + 1 by omega]
    · simp [y, show ¬ i < j + 1 by omega]
theorem tp_enS {x2 : Int32} {t : Nat} {nu ho se ch : Nat → Int32} {j : Nat} (h : ¬ (ho j = nI (t + 1) ∧ ¬ x2 = 0 ∧ ¬ ch j = 0)) : upd (tp_en x2 t nu ho se ch j) j (nu j) = tp_en x2 t nu ho se ch (j + 1) := by
  rw [tp_enN h]
  funext i
  by_cases z : i = j
  · subst z
    rw [pk_us, tp_enj]
  · rw [pk_un z]
theorem tp_enU {x2 : Int32} {t : Nat} {nu ho se ch : Nat → Int32} {j : Nat} (h : ho j = nI (t + 1) ∧ ¬ x2 = 0 ∧ ¬ ch j = 0) : upd (tp_en x2 t nu ho se ch j) j (se j) = tp_en x2 t nu ho se ch (j + 1) := by
  funext i
  by_cases z : i = j
  · subst z
    rw [pk_us]
    exact (if_pos ⟨by omega, h⟩).symm
  · rw [pk_un z]
    unfold tp_en
    by_cases y : i < j
    · simp [y, show i < j + 1 by omega]
    · simp [y, show ¬ i < j + 1 by omega]
theorem tp_ehU {t : Nat} {ho : Nat → Int32} {j : Nat} (h : ho j = nI (t + 1)) : upd (tp_eh t ho j) j 0 = tp_eh t ho (j + 1) := by
  funext i
  by_cases z : i = j
  · subst z
    rw [pk_us]
    exact (if_pos ⟨by omega, h⟩).symm
  · rw [pk_un z]
    unfold tp_eh
    by_cases y : i < j
    · simp [y, show i < j + 1 by omega]
    · simp [y, show ¬ i < j + 1 by omega]
theorem tp_ehS {t : Nat} {ho : Nat → Int32} {j : Nat} (h : ¬ ho j = nI (t + 1)) : tp_eh t ho (j + 1) = tp_eh t ho j := by
  funext i
  unfold tp_eh
  by_cases z : i = j
  · subst z
    rw [if_neg (fun y => h y.2), if_neg (fun y => h y.2)]
  · by_cases y : i < j
    · simp [y, show i < j + 1 by omega]
    · simp [y, show ¬ i < j + 1 by omega]
theorem tp_yendL {post : SY → Prop} {t : Nat} (ht : t < 4) (x2 c : Int32) (nu ho se ch ac : Nat → Int32)
    (hp0 : x2 = 0 → post (c, tp_en x2 t nu ho se ch 12, tp_eh t ho 12, se, ch, upd ac t 0)) (hp1 : ¬ x2 = 0 → post (c + 1, tp_en x2 t nu ho se ch 12, tp_eh t ho 12, se, ch, upd ac t 0)) :
    ∀ d j, j + d = 12 → wY_end_2 post (nI t) x2 c (d + 1) (nI j) (tp_en x2 t nu ho se ch j) (tp_eh t ho j) se ch ac := by
  have et : (nI t).toNatClampNeg = t := nI_clamp (by omega)
  have hi4 : vp_in (nI t) 4 := vp_in_nI ht (by decide)
  intro d
  induction d with
  | zero =>
    intro j hj
    have : j = 12 := by omega
    subst this
    exact br_t (nI_le (a := 12) (b := 12) (by omega) (by decide)) ⟨hi4, nm_r (e' := upd ac t 0) (by rw [et, tp_vb0]) (br_c hp0 (fun z => nm_e (hp1 z)))⟩
  | succ d ih =>
    intro j hj
    have ej : (nI j).toNatClampNeg = j := nI_clamp (by omega)
    have hi : vp_in (nI j) 12 := vp_in_nI (by omega) (by decide)
    have ihj := ih (j + 1) (by omega)
    refine br_f (nI_ge (b := 12) (by omega) (by decide)) ⟨hi, ?_⟩
    rw [ej, tp_ehj, nI_1]
    have k47 : ¬ (ho j = nI (t + 1) ∧ ¬ x2 = 0 ∧ ¬ ch j = 0) → ho j = nI (t + 1) → wY_end_47 post (wY_end_2 post (nI t) x2 c (d + 1)) (nI t) x2 (nI j) (nI j) c (tp_en x2 t nu ho se ch j) (tp_eh t ho j) se ch ac := by
      intro hn hh
      refine ⟨hi, hi, nm_r (e' := tp_en x2 t nu ho se ch (j + 1)) (by rw [ej, tp_enj, tp_enS hn]) ⟨hi, nm_r (e' := tp_eh t ho (j + 1)) (by rw [ej, tp_ehU hh]) (nm_r (nI_1 j) ihj)⟩⟩
    refine br_c (fun hh => ?_) (fun hh => ?_)
    · refine br_c (fun z => k47 (fun y => y.2.1 z) hh) (fun z => ⟨hi, br_c (fun y => k47 (fun w => w.2.2 y) hh) (fun y => ⟨hi, ?_⟩)⟩)
      exact ⟨hi, nm_r (e' := tp_en x2 t nu ho se ch (j + 1)) (by rw [ej]; exact tp_enU ⟨hh, z, y⟩) ⟨hi, nm_r (e' := tp_eh t ho (j + 1)) (by rw [ej, tp_ehU hh]) (nm_r (nI_1 j) ihj)⟩⟩
    · rw [tp_enN (fun y => hh y.1), tp_ehS hh] at ihj
      exact nm_r (nI_1 j) ihj
theorem tp_yend {post : SY → Prop} {t : Nat} (ht : t < 4) (x2 c : Int32) (nu ho se ch ac : Nat → Int32)
    (hp0 : x2 = 0 → post (c, tp_en x2 t nu ho se ch 12, tp_eh t ho 12, se, ch, upd ac t 0)) (hp1 : ¬ x2 = 0 → post (c + 1, tp_en x2 t nu ho se ch 12, tp_eh t ho 12, se, ch, upd ac t 0)) :
    wpY_end post (c, nu, ho, se, ch, ac) (nI t) x2 := by
  have h := tp_yendL ht x2 c nu ho se ch ac hp0 hp1 12 0 rfl
  rw [tp_en0, tp_eh0] at h
  exact ⟨13, h⟩
theorem tp_xclose {post : SX → Prop} {t : Nat} (ht : t < 4) (o c : Int32) (nu dr hb wb : Nat → Int32) (hp : post (o &&& (((1 : Int32) <<< (nI t &&& 31)) ^^^ (-1)), c, nu, dr, upd hb t 0, upd wb t 0)) : wpX_close post (o, c, nu, dr, hb, wb) (nI t) := by
  have et : (nI t).toNatClampNeg = t := nI_clamp (by omega)
  have hi4 : vp_in (nI t) 4 := vp_in_nI ht (by decide)
  unfold wpX_close
  dsimp only
  rw [et]
  exact ⟨hi4, nm_e ⟨hi4, nm_e (nm_e hp)⟩⟩
def tp_cn (w : Int32) (nu dr : Nat → Int32) (j : Nat) : Nat → Int32 := fun i => if i < j ∧ bt w i = true then dr i else nu i
theorem tp_cnN {w : Int32} {nu dr : Nat → Int32} {j : Nat} (h : ¬ bt w j = true) : tp_cn w nu dr (j + 1) = tp_cn w nu dr j := by
  funext i
  unfold tp_cn
  by_cases z : i = j
  · subst z
    rw [if_neg (fun y => h y.2), if_neg (fun y => h y.2)]
  · by_cases y : i < j
    · simp [y, show i < j + 1 by omega]
    · simp [y, show ¬ i < j + 1 by omega]
theorem tp_cnU {w : Int32} {nu dr : Nat → Int32} {j : Nat} (h : bt w j = true) : upd (tp_cn w nu dr j) j (dr j) = tp_cn w nu dr (j + 1) := by
  funext i
  by_cases z : i = j
  · subst z
    rw [pk_us]
    exact (if_pos ⟨by omega, h⟩).symm
  · rw [pk_un z]
    unfold tp_cn
    by_cases y : i < j
    · simp [y, show i < j + 1 by omega]
    · simp [y, show ¬ i < j + 1 by omega]
theorem tp_xcarL {post : SX → Prop} {t : Nat} (ht : t < 4) (o c : Int32) (nu dr hb wb : Nat → Int32) (hp : post (o &&& (((1 : Int32) <<< (nI t &&& 31)) ^^^ (-1)), c + 1, tp_cn (wb t) nu dr 12, dr, upd hb t 0, upd wb t 0)) :
    ∀ d j, j + d = 12 → wX_carryOut_2 post (nI t) o c (d + 1) (nI j) (tp_cn (wb t) nu dr j) dr hb wb := by
  have et : (nI t).toNatClampNeg = t := nI_clamp (by omega)
  have hi4 : vp_in (nI t) 4 := vp_in_nI ht (by decide)
  intro d
  induction d with
  | zero =>
    intro j hj
    have : j = 12 := by omega
    subst this
    exact br_t (nI_le (a := 12) (b := 12) (by omega) (by decide)) (nm_e (tp_xclose ht o (c + 1) _ dr hb wb hp))
  | succ d ih =>
    intro j hj
    have ej : (nI j).toNatClampNeg = j := nI_clamp (by omega)
    have hi : vp_in (nI j) 12 := vp_in_nI (by omega) (by decide)
    have ihj := ih (j + 1) (by omega)
    refine br_f (nI_ge (b := 12) (by omega) (by decide)) ⟨hi4, ?_⟩
    rw [et]
    by_cases z : bt (wb t) j = true
    · exact tp_hk1 (by omega) z (br_f tp_10 ⟨hi, hi, nm_r (e' := tp_cn (wb t) nu dr (j + 1)) (by rw [ej, tp_cnU z]) (nm_r (nI_1 j) ihj)⟩)
    · rw [tp_cnN z] at ihj
      exact tp_hk0 (by omega) z (br_t rfl (nm_r (nI_1 j) ihj))
theorem tp_xcar {post : SX → Prop} {t : Nat} (ht : t < 4) (o c : Int32) (nu dr hb wb : Nat → Int32) (hp : post (o &&& (((1 : Int32) <<< (nI t &&& 31)) ^^^ (-1)), c + 1, tp_cn (wb t) nu dr 12, dr, upd hb t 0, upd wb t 0)) :
    wpX_carryOut post (o, c, nu, dr, hb, wb) (nI t) := by
  have h := tp_xcarL ht o c nu dr hb wb hp 12 0 rfl
  have e : tp_cn (wb t) nu dr 0 = nu := by
    funext i
    exact if_neg (fun h => by omega)
  rw [e] at h
  exact ⟨13, h⟩
/-- a transaction is carried out -/
theorem tp_done {o : Int32} {nu dr hb wb ho se ch ac : Nat → Int32} (R : tp_R o nu dr hb wb ho se ch ac) {t : Nat} (ht : t < 4) :
    ∃ (o' : Int32) (nu' hb' wb' ho' ac' : Nat → Int32), (∀ (c : Int32) (post : SX → Prop), post (o', c + 1, nu', dr, hb', wb') → wpX_carryOut post (o, c, nu, dr, hb, wb) (nI t)) ∧
      (∀ (c : Int32) (post : SY → Prop), post (c + 1, nu', ho', se, ch, ac') → wpY_end post (c, nu, ho, se, ch, ac) (nI t) 1) ∧ tp_R o' nu' dr hb' wb' ho' se ch ac' := by
  have R' := R
  obtain ⟨r1, r2, r3, r4, r5, r6, r7, r8, r9, r10⟩ := R'
  have e : tp_cn (wb t) nu dr 12 = tp_en 1 t nu ho se ch 12 := by
    funext i
    unfold tp_cn tp_en
    by_cases z : i < 12
    · by_cases y : bt (wb t) i = true
      · have y' := (r6 t ht i z).mp y
        rw [if_pos ⟨z, y⟩, if_pos ⟨z, y'.1, tp_10, y'.2⟩]
        exact ((r8 i z (by rw [y'.1]; exact tp_ne0 (by omega))).2 y'.2).symm
      · rw [if_neg (fun w => y w.2), if_neg (fun w => y ((r6 t ht i z).mpr ⟨w.2.1, w.2.2.2⟩))]
    · rw [if_neg (fun w => z w.1), if_neg (fun w => z w.1)]
  refine ⟨_, tp_en 1 t nu ho se ch 12, upd hb t 0, upd wb t 0, tp_eh t ho 12, upd ac t 0, fun c post hp => tp_xcar ht o c nu dr hb wb (by rw [e]; exact hp), fun c post hp => tp_yend ht 1 c nu ho se ch ac (fun z => absurd z tp_10) (fun _ => hp), tp_Rend R ht ?_ ?_⟩
  · intro k hk hh
    refine ⟨if_pos ⟨hk, hh⟩, ?_⟩
    unfold tp_en
    by_cases z : ch k = 0
    · rw [if_neg (fun w => w.2.2.2 z)]
      exact r9 k hk
    · rw [if_pos ⟨hk, hh, tp_10, z⟩]
      exact r10 k hk (by rw [hh]; exact tp_ne0 (by omega))
  · intro k hk hh
    exact ⟨if_neg (fun w => hh w.2), if_neg (fun w => hh w.2.1)⟩
/-- a transaction is rolled back -/
theorem tp_back {o : Int32} {nu dr hb wb ho se ch ac : Nat → Int32} (R : tp_R o nu dr hb wb ho se ch ac) {t : Nat} (ht : t < 4) :
    ∃ (o' : Int32) (hb' wb' ho' ac' : Nat → Int32), (∀ (c : Int32) (post : SX → Prop), post (o', c, nu, dr, hb', wb') → wpX_close post (o, c, nu, dr, hb, wb) (nI t)) ∧
      (∀ (c : Int32) (post : SY → Prop), post (c, nu, ho', se, ch, ac') → wpY_end post (c, nu, ho, se, ch, ac) (nI t) 0) ∧ tp_R o' nu dr hb' wb' ho' se ch ac' := by
  have R' := R
  obtain ⟨r1, r2, r3, r4, r5, r6, r7, r8, r9, r10⟩ := R'
  have e : tp_en 0 t nu ho se ch 12 = nu := by
    funext i
    exact if_neg (fun w => w.2.2.1 rfl)
  refine ⟨_, upd hb t 0, upd wb t 0, tp_eh t ho 12, upd ac t 0, fun c post hp => tp_xclose ht o c nu dr hb wb hp, fun c post hp => tp_yend ht 0 c nu ho se ch ac (fun _ => by rw [e]; exact hp) (fun z => absurd rfl z), tp_Rend R ht ?_ ?_⟩
  · intro k hk hh
    exact ⟨if_pos ⟨hk, hh⟩, r9 k hk⟩
  · intro k hk hh
    exact ⟨if_neg (fun w => hh w.2), rfl⟩
end
section
/-! abort, and breakdowns -/
theorem tp_abL {o : Int32} {nu dr hb wb ho se ch ac : Nat → Int32} (R : tp_R o nu dr hb wb ho se ch ac) {t : Nat} (ht : t < 4) :
    ∀ d j, j + d = 12 → ∀ x : Int32, ∃ r : Int32, (∀ (c : Int32) (post : Int32 → SX → Prop), wpX_close (fun u => post r u) (o, c, nu, dr, hb, wb) (nI t) → wX_abort_15 post (nI t) o c nu dr hb wb (d + 1) x (nI j)) ∧
      (∀ (c : Int32) (post : Int32 → SY → Prop), wpY_end (fun u => post r u) (c, nu, ho, se, ch, ac) (nI t) 0 → wY_abort_15 post (nI t) c nu ho se ch ac (d + 1) x (nI j)) := by
  obtain ⟨r1, r2, r3, r4, r5, r6, r7, r8, r9, r10⟩ := R
  have et : (nI t).toNatClampNeg = t := nI_clamp (by omega)
  have hi4 : vp_in (nI t) 4 := vp_in_nI ht (by decide)
  intro d
  induction d with
  | zero =>
    intro j hj x
    have : j = 12 := by omega
    subst this
    have h12 : (12 : Int32) ≤ nI 12 := nI_le (a := 12) (b := 12) (by omega) (by decide)
    exact ⟨x, fun c post hp => br_t h12 hp, fun c post hp => br_t h12 hp⟩
  | succ d ih =>
    intro j hj x
    have ej : (nI j).toNatClampNeg = j := nI_clamp (by omega)
    have hi : vp_in (nI j) 12 := vp_in_nI (by omega) (by decide)
    have hn : ¬ (12 : Int32) ≤ nI j := nI_ge (b := 12) (by omega) (by decide)
    by_cases z : bt (hb t) j = true
    · obtain ⟨r, hX, hY⟩ := ih (j + 1) (by omega) (x + 1)
      have hh : ho (nI j).toNatClampNeg = nI t + 1 := by rw [ej, nI_1]; exact (r4 t ht j (by omega)).mp z
      have z' : bt (hb (nI t).toNatClampNeg) j = true := by rw [et]; exact z
      exact ⟨r, fun c post hp => br_f hn ⟨hi4, tp_hk1 (by omega) z' (br_f tp_10 (nm_e (nm_r (nI_1 j) (hX c post hp))))⟩, fun c post hp => br_f hn ⟨hi, br_t hh (nm_e (nm_r (nI_1 j) (hY c post hp)))⟩⟩
    · obtain ⟨r, hX, hY⟩ := ih (j + 1) (by omega) x
      have hh : ¬ ho (nI j).toNatClampNeg = nI t + 1 := by rw [ej, nI_1]; exact fun e => z ((r4 t ht j (by omega)).mpr e)
      have z' : ¬ bt (hb (nI t).toNatClampNeg) j = true := by rw [et]; exact z
      exact ⟨r, fun c post hp => br_f hn ⟨hi4, tp_hk0 (by omega) z' (br_t rfl (nm_r (nI_1 j) (hX c post hp)))⟩, fun c post hp => br_f hn ⟨hi, br_f hh (nm_r (nI_1 j) (hY c post hp))⟩⟩
theorem i_vc_abort {k : Nat} {u : SX} {v : SY} (I : i_Rel k u v) (hk : k + 4 ≤ 2048) (v1 : Int32) : wpX_abort (fun r u' => wpY_abort (fun r' v' => r' = r ∧ i_Rel (k + 4) u' v') v v1) u v1 := by
  obtain ⟨o, c, nu, dr, hb, wb, ho, se, ch, ac, rfl, rfl, R⟩ := I
  have J : ∀ n, i_Rel n (o, c, nu, dr, hb, wb) (c, nu, ho, se, ch, ac) := fun n => ⟨o, c, nu, dr, hb, wb, ho, se, ch, ac, rfl, rfl, R⟩
  unfold wpX_abort
  dsimp only
  rcases tp_op R v1 with ⟨t, ht, rfl, hx, ha⟩ | ⟨hX, hY⟩
  · obtain ⟨r, hX, hY⟩ := tp_abL R ht 12 0 rfl 0
    obtain ⟨o', hb', wb', ho', ac', cX, cY, R'⟩ := tp_back R ht
    rw [nI_0] at hX hY
    refine tp_xop1 ht hx (br_f tp_10 ⟨13, hX c _ (cX c _ ?_)⟩)
    unfold wpY_abort
    dsimp only
    exact tp_yop1 ht ha (br_f tp_10 ⟨13, hY c _ (cY c _ ⟨rfl, _, _, _, _, _, _, _, _, _, _, rfl, rfl, R'⟩)⟩)
  · refine hX c _ (br_t rfl ?_)
    unfold wpY_abort
    dsimp only
    exact hY c _ (br_t rfl ⟨rfl, J _⟩)
theorem tp_30 : ¬ (3 : Int32) = 0 := by decide
theorem tp_rem3 {j : Nat} (hj : j < 12) : nI j - nI j / 3 * 3 = nI (j % 3) := pk_rem (d := 3) (by omega) (by omega) (by omega)
theorem tp_nb0 : narrow .boolean (.int 0) = .int 0 := rfl
theorem tp_nb1 : narrow .boolean (.int 1) = .int 1 := rfl
theorem tp_hoL {post : Int32 → Prop} {c : Int32} {nu ho se ch ac : Nat → Int32} {t m : Nat} (ht : t < 4) (hm : m < 3)
    (hp0 : (∀ k, k < 12 → k % 3 = m → ¬ ho k = nI (t + 1)) → post 0) (hp1 : (∃ k, k < 12 ∧ k % 3 = m ∧ ho k = nI (t + 1)) → post 1) :
    ∀ d j, j + d = 12 → ((∀ k, k < j → k % 3 = m → ¬ ho k = nI (t + 1)) → wY_holdsOn_5 post (nI t) (nI m) c nu ho se ch ac (d + 1) 0 (nI j)) ∧ ((∃ k, k < 12 ∧ k % 3 = m ∧ ho k = nI (t + 1)) → wY_holdsOn_5 post (nI t) (nI m) c nu ho se ch ac (d + 1) 1 (nI j)) := by
  intro d
  induction d with
  | zero =>
    intro j hj
    have : j = 12 := by omega
    subst this
    have h12 : (12 : Int32) ≤ nI 12 := nI_le (a := 12) (b := 12) (by omega) (by decide)
    exact ⟨fun h => br_t h12 ⟨tp_nb0, hp0 h⟩, fun h => br_t h12 ⟨tp_nb1, hp1 h⟩⟩
  | succ d ih =>
    intro j hj
    have ej : (nI j).toNatClampNeg = j := nI_clamp (by omega)
    have hi : vp_in (nI j) 12 := vp_in_nI (by omega) (by decide)
    have hn : ¬ (12 : Int32) ≤ nI j := nI_ge (b := 12) (by omega) (by decide)
    obtain ⟨i0, i1⟩ := ih (j + 1) (by omega)
    refine ⟨fun h => ?_, fun h => br_f hn (br_f tp_10 (nm_r (nI_1 j) (i1 h)))⟩
    refine br_f hn (br_t rfl ⟨hi, ?_⟩)
    by_cases z : ho j = nI (t + 1)
    · have z' : ho (nI j).toNatClampNeg = nI t + 1 := by rw [ej, nI_1]; exact z
      refine br_t z' ⟨tp_30, ?_⟩
      by_cases y : j % 3 = m
      · have y' : nI j - nI j / 3 * 3 = nI m := by rw [tp_rem3 (by omega), y]
        exact br_t y' (nm_r (nI_1 j) (i1 ⟨j, by omega, y, z⟩))
      · have y' : ¬ nI j - nI j / 3 * 3 = nI m := by
          rw [tp_rem3 (by omega)]
          exact fun e => y (tp_ni e (by omega) (by omega))
        refine br_f y' (nm_r (nI_1 j) (i0 (fun k hk hm => ?_)))
        by_cases w : k = j
        · subst w
          exact absurd hm y
        · exact h k (by omega) hm
    · have z' : ¬ ho (nI j).toNatClampNeg = nI t + 1 := by rw [ej, nI_1]; exact z
      refine br_f z' (nm_r (nI_1 j) (i0 (fun k hk hm => ?_)))
      by_cases w : k = j
      · subst w
        exact z
      · exact h k (by omega) hm
/-- is t hit by the breakdown of m? -/
theorem tp_hits {o : Int32} {nu dr hb wb ho se ch ac : Nat → Int32} (R : tp_R o nu dr hb wb ho se ch ac) {t m : Nat} (ht : t < 4) (hm : m < 3) :
    ((∀ (c : Int32) (post : Int32 → Prop), post 1 → wpX_isHitBy post (o, c, nu, dr, hb, wb) (nI t) (nI m)) ∧ (∀ (c : Int32) (post : Int32 → Prop), post 1 → wpY_holdsOn post (c, nu, ho, se, ch, ac) (nI t) (nI m))) ∨
    ((∀ (c : Int32) (post : Int32 → Prop), post 0 → wpX_isHitBy post (o, c, nu, dr, hb, wb) (nI t) (nI m)) ∧ (∀ (c : Int32) (post : Int32 → Prop), post 0 → wpY_holdsOn post (c, nu, ho, se, ch, ac) (nI t) (nI m))) := by
  obtain ⟨r1, r2, r3, r4, r5, r6, r7, r8, r9, r10⟩ := R
  have et : (nI t).toNatClampNeg = t := nI_clamp (by omega)
  have hi4 : vp_in (nI t) 4 := vp_in_nI ht (by decide)
  have n3 : ¬ nI m = 3 := fun e => by have := tp_ni (b := 3) e (by omega) (by omega); omega
  by_cases z : ∃ k, k < 12 ∧ k % 3 = m ∧ ho k = nI (t + 1)
  · refine Or.inl ⟨fun c post hp => ?_, fun c post hp => ?_⟩
    · have h : ¬ (hb (nI t).toNatClampNeg &&& ((585 : Int32) <<< (nI m &&& 31))) = 0 := by
        rw [et, tp_hit _ m hm]
        intro h
        obtain ⟨k, hk, e, hh⟩ := z
        exact h k hk e ((r4 t ht k hk).mpr hh)
      exact br_f n3 ⟨hi4, br_f h hp⟩
    · have h := (tp_hoL (post := post) (c := c) (nu := nu) (ho := ho) (se := se) (ch := ch) (ac := ac) ht hm (fun w => absurd z (fun ⟨k, hk, e, hh⟩ => w k hk e hh)) (fun _ => hp) 12 0 rfl).1 (fun k hk => by omega)
      exact ⟨13, h⟩
  · have z' : ∀ k, k < 12 → k % 3 = m → ¬ ho k = nI (t + 1) := fun k hk e hh => z ⟨k, hk, e, hh⟩
    refine Or.inr ⟨fun c post hp => ?_, fun c post hp => ?_⟩
    · have h : (hb (nI t).toNatClampNeg &&& ((585 : Int32) <<< (nI m &&& 31))) = 0 := by
        rw [et, tp_hit _ m hm]
        intro k hk e hh
        exact z' k hk e ((r4 t ht k hk).mp hh)
      exact br_f n3 ⟨hi4, br_t h hp⟩
    · have h := (tp_hoL (post := post) (c := c) (nu := nu) (ho := ho) (se := se) (ch := ch) (ac := ac) ht hm (fun _ => hp) (fun w => absurd w z) 12 0 rfl).1 (fun k hk => by omega)
      exact ⟨13, h⟩
/-- both loops over the transactions, side by side -/
theorem tp_brL {nu dr se ch : Nat → Int32} {m : Nat} (hm : m < 4) :
    ∀ d j, j + d = 4 → ∀ (x o : Int32) (hb wb ho ac : Nat → Int32), tp_R o nu dr hb wb ho se ch ac →
      ∃ (r o' : Int32) (hb' wb' ho' ac' : Nat → Int32), (∀ (c : Int32) (post : Int32 → SX → Prop), post r (o', c, nu, dr, hb', wb') → wX_breakDown_4 post (nI m) (d + 1) x (nI j) o c nu dr hb wb) ∧
        (∀ (c : Int32) (post : Int32 → SY → Prop), post r (c, nu, ho', se, ch, ac') → wY_crash_16 post (nI m) (d + 1) x (nI j) c nu ho se ch ac) ∧ tp_R o' nu dr hb' wb' ho' se ch ac' := by
  intro d
  induction d with
  | zero =>
    intro j hj x o hb wb ho ac R
    have : j = 4 := by omega
    subst this
    have h4 : (4 : Int32) ≤ nI 4 := nI_le (a := 4) (b := 4) (by omega) (by decide)
    exact ⟨x, o, hb, wb, ho, ac, fun c post hp => br_t h4 hp, fun c post hp => br_t h4 hp, R⟩
  | succ d ih =>
    intro j hj x o hb wb ho ac R
    have hj4 : j < 4 := by omega
    have ej : (nI j).toNatClampNeg = j := nI_clamp (by omega)
    have hi : vp_in (nI j) 4 := vp_in_nI hj4 (by decide)
    have hn : ¬ (4 : Int32) ≤ nI j := nI_ge (b := 4) (by omega) (by decide)
    by_cases z : bt o j = true
    · have za : ¬ ac (nI j).toNatClampNeg = 0 := by rw [ej]; exact (R.1 j hj4).mp z
      obtain ⟨o1, hb1, wb1, ho1, ac1, cX, cY, R1⟩ := tp_back R hj4
      obtain ⟨r, o', hb', wb', ho', ac', iX, iY, R'⟩ := ih (j + 1) (by omega) (x + 1) o1 hb1 wb1 ho1 ac1 R1
      have c44 : ∀ (c : Int32) (post : Int32 → SY → Prop), post r (c, nu, ho', se, ch, ac') → wY_crash_44 post (wY_crash_16 post (nI m) (d + 1)) (nI m) x (nI j) c nu ho se ch ac := by
        intro c post hp
        unfold wY_crash_44
        exact cY c _ (nm_e (nm_r (nI_1 j) (iY c post hp)))
      by_cases y : m = 3
      · subst y
        have e3 : nI 3 = 3 := rfl
        refine ⟨r, o', hb', wb', ho', ac', fun c post hp => ?_, fun c post hp => ?_, R'⟩
        · exact br_f hn (tp_xop1 hj4 z (br_f tp_10 (br_t e3 (br_f tp_10 (cX c _ (nm_e (nm_r (nI_1 j) (iX c post hp))))))))
        · exact br_f hn ⟨hi, br_f za (br_t e3 (c44 c post hp))⟩
      · have n3 : ¬ nI m = 3 := fun e => by have := tp_ni (b := 3) e (by omega) (by omega); omega
        rcases tp_hits R hj4 (show m < 3 by omega) with ⟨hX, hY⟩ | ⟨hX, hY⟩
        · refine ⟨r, o', hb', wb', ho', ac', fun c post hp => ?_, fun c post hp => ?_, R'⟩
          · exact br_f hn (tp_xop1 hj4 z (br_f tp_10 (hX c _ (br_f tp_10 (cX c _ (nm_e (nm_r (nI_1 j) (iX c post hp))))))))
          · exact br_f hn ⟨hi, br_f za (br_f n3 (hY c _ (br_f tp_10 (c44 c post hp))))⟩
        · obtain ⟨r, o', hb', wb', ho', ac', iX, iY, R'⟩ := ih (j + 1) (by omega) x o hb wb ho ac R
          refine ⟨r, o', hb', wb', ho', ac', fun c post hp => ?_, fun c post hp => ?_, R'⟩
          · exact br_f hn (tp_xop1 hj4 z (br_f tp_10 (hX c _ (br_t rfl (nm_r (nI_1 j) (iX c post hp))))))
          · exact br_f hn ⟨hi, br_f za (br_f n3 (hY c _ (br_t rfl (nm_r (nI_1 j) (iY c post hp)))))⟩
    · have za : ac (nI j).toNatClampNeg = 0 := by
        rw [ej]
        by_cases y : ac j = 0
        · exact y
        · exact absurd ((R.1 j hj4).mpr y) z
      obtain ⟨r, o', hb', wb', ho', ac', iX, iY, R'⟩ := ih (j + 1) (by omega) x o hb wb ho ac R
      refine ⟨r, o', hb', wb', ho', ac', fun c post hp => ?_, fun c post hp => ?_, R'⟩
      · exact br_f hn (tp_xop0 hj4 z (br_t rfl (nm_r (nI_1 j) (iX c post hp))))
      · exact br_f hn ⟨hi, br_t za (nm_r (nI_1 j) (iY c post hp))⟩
theorem tp_br {o : Int32} {nu dr hb wb ho se ch ac : Nat → Int32} (R : tp_R o nu dr hb wb ho se ch ac) {m : Nat} (hm : m < 4) :
    ∃ (r o' : Int32) (hb' wb' ho' ac' : Nat → Int32), (∀ (c : Int32) (post : Int32 → SX → Prop), post r (o', c, nu, dr, hb', wb') → wpX_breakDown post (o, c, nu, dr, hb, wb) (nI m)) ∧
      (∀ (c : Int32) (post : Int32 → SY → Prop), post r (c, nu, ho', se, ch, ac') → wpY_crash post (c, nu, ho, se, ch, ac) (nI m)) ∧ tp_R o' nu dr hb' wb' ho' se ch ac' := by
  obtain ⟨r, o', hb', wb', ho', ac', iX, iY, R'⟩ := tp_brL (nu := nu) (dr := dr) (se := se) (ch := ch) hm 4 0 rfl 0 o hb wb ho ac R
  exact ⟨r, o', hb', wb', ho', ac', fun c post hp => ⟨5, iX c post hp⟩, fun c post hp => br_f (nI_pos (by omega)) (br_t (nI_le (b := 3) (by omega) (by decide)) ⟨5, iY c post hp⟩), R'⟩
theorem i_vc_crash {k : Nat} {u : SX} {v : SY} (I : i_Rel k u v) (hk : k + 4 ≤ 2048) (v1 : Int32) : wpX_crash (fun r u' => wpY_crash (fun r' v' => r' = r ∧ i_Rel (k + 4) u' v') v v1) u v1 := by
  obtain ⟨o, c, nu, dr, hb, wb, ho, se, ch, ac, rfl, rfl, R⟩ := I
  have J : ∀ n, i_Rel n (o, c, nu, dr, hb, wb) (c, nu, ho, se, ch, ac) := fun n => ⟨o, c, nu, dr, hb, wb, ho, se, ch, ac, rfl, rfl, R⟩
  unfold wpX_crash
  dsimp only
  rcases tp_ix v1 4 (by decide) with ⟨m, hm, rfl⟩ | h | ⟨h0, h4, h3⟩
  · obtain ⟨r, o', hb', wb', ho', ac', iX, iY, R'⟩ := tp_br R hm
    have h15 : wX_crash_15 (fun r u' => wpY_crash (fun r' v' => r' = r ∧ i_Rel (k + 4) u' v') (c, nu, ho, se, ch, ac) (nI m)) (nI m) o c nu dr hb wb := by
      unfold wX_crash_15
      exact iX c _ (iY c _ ⟨rfl, _, _, _, _, _, _, _, _, _, _, rfl, rfl, R'⟩)
    by_cases y : m = 3
    · subst y
      exact tp_km0 (by omega) (by omega) (br_t rfl (br_t rfl h15))
    · exact tp_km1 (by omega) (br_f tp_10 h15)
  · have n3 : ¬ v1 = 3 := by
      intro e
      subst e
      exact absurd h (by decide)
    exact br_t h (br_t rfl (br_f n3 (br_t h ⟨rfl, J _⟩)))
  · have n3 : ¬ v1 = 3 := by
      intro e
      subst e
      exact absurd h4 (by decide)
    have l3 : (3 : Int32) ≤ v1 := Int32.le_of_lt (h3 3 (by decide))
    have g3 : ¬ v1 ≤ 3 := Int32.not_le.mpr (h3 3 (by decide))
    exact br_f h0 (br_t l3 (br_t rfl (br_f n3 (br_f h0 (br_f g3 ⟨rfl, J _⟩)))))
end
section
/-! commit -/
theorem tp_nq {a b : Nat} (h : a ≠ b) (ha : a < 2 ^ 31) (hb : b < 2 ^ 31) : ¬ nI a = nI b := fun e => h (tp_ni e ha hb)
/-- behind an early breakdown: carried out if it is still open -/
theorem tp_early {o : Int32} {nu dr hb wb ho se ch ac : Nat → Int32} (R : tp_R o nu dr hb wb ho se ch ac) {t q : Nat} (ht : t < 4) (hq : q = 1 ∨ q = 2) (x3 : Int32) :
    ∃ (r o' : Int32) (f : Int32 → Int32) (nu' hb' wb' ho' ac' : Nat → Int32), (∀ (c : Int32) (post : Int32 → SX → Prop), post r (o', f c, nu', dr, hb', wb') → wX_commit_50 post (nI t) (nI q) x3 o c nu dr hb wb) ∧
      (∀ (c : Int32) (post : Int32 → SY → Prop), post r (f c, nu', ho', se, ch, ac') → wY_commit_98 post (nI t) 1 c nu ho se ch ac) ∧ tp_R o' nu' dr hb' wb' ho' se ch ac' := by
  have et : (nI t).toNatClampNeg = t := nI_clamp (by omega)
  have hi : vp_in (nI t) 4 := vp_in_nI ht (by decide)
  have n3 : ¬ nI q = 3 := tp_nq (b := 3) (by omega) (by omega) (by omega)
  have n4 : ¬ nI q = 4 := tp_nq (b := 4) (by omega) (by omega) (by omega)
  have n5 : ¬ nI q = 5 := tp_nq (b := 5) (by omega) (by omega) (by omega)
  by_cases z : bt o t = true
  · have za : ¬ ac t = 0 := (R.1 t ht).mp z
    have za' : ¬ ac (nI t).toNatClampNeg = 0 := by rw [et]; exact za
    obtain ⟨o', nu', hb', wb', ho', ac', dX, dY, R'⟩ := tp_done R ht
    refine ⟨1, o', fun c => c + 1, nu', hb', wb', ho', ac', fun c post hp => ?_, fun c post hp => ?_, R'⟩
    · unfold wX_commit_50
      refine tp_xop1 ht z (br_f tp_10 (dX c _ ?_))
      refine br_f n3 ?_
      unfold wX_commit_76
      exact br_f n4 (br_f n5 hp)
    · unfold wY_commit_98
      exact br_f tp_10 ⟨hi, br_f za' (dY c _ hp)⟩
  · have za : ac (nI t).toNatClampNeg = 0 := by
      rw [et]
      by_cases y : ac t = 0
      · exact y
      · exact absurd ((R.1 t ht).mpr y) z
    refine ⟨0, o, fun c => c, nu, hb, wb, ho, ac, fun c post hp => ?_, fun c post hp => ?_, R⟩
    · unfold wX_commit_50
      exact tp_xop0 ht z (br_t rfl hp)
    · unfold wY_commit_98
      refine br_f tp_10 ⟨hi, br_t za ?_⟩
      unfold wY_commit_120
      exact br_f tp_10 hp
/-- no early breakdown: carried out, and what breaks down then -/
theorem tp_late {o : Int32} {nu dr hb wb ho se ch ac : Nat → Int32} (R : tp_R o nu dr hb wb ho se ch ac) {t q m : Nat} (ht : t < 4) (hz : bt o t = true) (hq : q < 8) (h1 : q ≠ 1) (h2 : q ≠ 2) (hm : m < 3) :
    ∃ (o' : Int32) (nu' hb' wb' ho' ac' : Nat → Int32), (∀ (c : Int32) (post : Int32 → SX → Prop), post 1 (o', c + 1, nu', dr, hb', wb') → wX_commit_50 post (nI t) (nI q) (nI m) o c nu dr hb wb) ∧
      (∀ (c : Int32) (post : Int32 → SY → Prop), post 1 (c + 1, nu', ho', se, ch, ac') → wY_commit_45 post (nI t) (nI q) (nI m) 0 c nu ho se ch ac) ∧ tp_R o' nu' dr hb' wb' ho' se ch ac' := by
  have m1 : ¬ nI q = 1 := tp_nq (b := 1) h1 (by omega) (by omega)
  have m2 : ¬ nI q = 2 := tp_nq (b := 2) h2 (by omega) (by omega)
  obtain ⟨o1, nu1, hb1, wb1, ho1, ac1, dX, dY, R1⟩ := tp_done R ht
  have k98 : ∀ (c : Int32) (nu ho ac : Nat → Int32) (post : Int32 → SY → Prop), post 1 (c, nu, ho, se, ch, ac) → wY_commit_98 post (nI t) 0 c nu ho se ch ac := by
    intro c nu ho ac post hp
    unfold wY_commit_98
    refine br_t rfl ?_
    unfold wY_commit_120
    exact br_t rfl hp
  by_cases e3 : q = 3
  · subst e3
    obtain ⟨r, o', hb', wb', ho', ac', iX, iY, R'⟩ := tp_br R1 (m := 3) (by omega)
    refine ⟨o', nu1, hb', wb', ho', ac', fun c post hp => ?_, fun c post hp => ?_, R'⟩
    · unfold wX_commit_50
      refine tp_xop1 ht hz (br_f tp_10 (dX c _ ?_))
      refine br_t rfl (iX _ _ ?_)
      unfold wX_commit_76
      exact br_f (tp_nq (b := 4) (by omega) (by omega) (by omega)) (br_f (tp_nq (b := 5) (by omega) (by omega) (by omega)) hp)
    · unfold wY_commit_45
      refine br_t rfl (dY c _ ?_)
      unfold wY_commit_58
      refine br_f m2 (br_t rfl ?_)
      unfold wY_commit_68
      exact iY _ _ (k98 _ _ _ _ _ hp)
  · have m3 : ¬ nI q = 3 := tp_nq (b := 3) e3 (by omega) (by omega)
    by_cases e45 : q = 4 ∨ q = 5
    · obtain ⟨r, o', hb', wb', ho', ac', iX, iY, R'⟩ := tp_br R1 (m := m) (by omega)
      refine ⟨o', nu1, hb', wb', ho', ac', fun c post hp => ?_, fun c post hp => ?_, R'⟩
      · unfold wX_commit_50
        refine tp_xop1 ht hz (br_f tp_10 (dX c _ ?_))
        refine br_f m3 ?_
        unfold wX_commit_76
        have h86 : wX_commit_86 post (nI m) o1 (c + 1) nu1 dr hb1 wb1 := by
          unfold wX_commit_86
          exact iX _ _ hp
        rcases e45 with e | e
        · subst e
          exact br_t rfl h86
        · subst e
          exact br_f (tp_nq (b := 4) (by omega) (by omega) (by omega)) (br_t rfl h86)
      · unfold wY_commit_45
        refine br_t rfl (dY c _ ?_)
        unfold wY_commit_58
        have h92 : wY_commit_92 post (nI t) (nI m) 0 (c + 1) nu1 ho1 se ch ac1 := by
          unfold wY_commit_92
          exact iY _ _ (k98 _ _ _ _ _ hp)
        refine br_f m2 (br_f m3 (br_f m1 ?_))
        rcases e45 with e | e
        · subst e
          exact br_t rfl h92
        · subst e
          exact br_f (tp_nq (b := 4) (by omega) (by omega) (by omega)) (br_t rfl h92)
    · have m4 : ¬ nI q = 4 := tp_nq (b := 4) (fun e => e45 (Or.inl e)) (by omega) (by omega)
      have m5 : ¬ nI q = 5 := tp_nq (b := 5) (fun e => e45 (Or.inr e)) (by omega) (by omega)
      refine ⟨o1, nu1, hb1, wb1, ho1, ac1, fun c post hp => ?_, fun c post hp => ?_, R1⟩
      · unfold wX_commit_50
        refine tp_xop1 ht hz (br_f tp_10 (dX c _ ?_))
        refine br_f m3 ?_
        unfold wX_commit_76
        exact br_f m4 (br_f m5 hp)
      · unfold wY_commit_45
        refine br_t rfl (dY c _ ?_)
        unfold wY_commit_58
        exact br_f m2 (br_f m3 (br_f m1 (br_f m4 (br_f m5 (k98 _ _ _ _ _ hp)))))
/-- the whole of commit, within the ranges -/
theorem tp_com {o : Int32} {nu dr hb wb ho se ch ac : Nat → Int32} (R : tp_R o nu dr hb wb ho se ch ac) {t q m : Nat} (ht : t < 4) (hz : bt o t = true) (hq : q < 8) (hm : m < 3) :
    ∃ (r o' : Int32) (f : Int32 → Int32) (nu' hb' wb' ho' ac' : Nat → Int32), (∀ (c : Int32) (post : Int32 → SX → Prop), post r (o', f c, nu', dr, hb', wb') → wpX_commit post (o, c, nu, dr, hb, wb) (nI t) (nI q) (nI m)) ∧
      (∀ (c : Int32) (post : Int32 → SY → Prop), post r (f c, nu', ho', se, ch, ac') → wpY_commit post (c, nu, ho, se, ch, ac) (nI t) (nI q) (nI m)) ∧ tp_R o' nu' dr hb' wb' ho' se ch ac' := by
  have ha : ¬ ac t = 0 := (R.1 t ht).mp hz
  have q0 : ¬ nI q < 0 := nI_pos (by omega)
  have q7 : ¬ (7 : Int32) < nI q := nI_nlt (b := q) (a := 7) (by omega) (by decide)
  have m0 : ¬ nI m < 0 := nI_pos (by omega)
  have m2 : nI m ≤ 2 := nI_le (b := 2) (by omega) (by decide)
  by_cases e1 : q = 1
  · subst e1
    obtain ⟨r1, o1, hb1, wb1, ho1, ac1, iX, iY, R1⟩ := tp_br R (m := m) (by omega)
    obtain ⟨r, o', f, nu', hb', wb', ho', ac', jX, jY, R'⟩ := tp_early R1 ht (Or.inl rfl) (nI m)
    refine ⟨r, o', f, nu', hb', wb', ho', ac', fun c post hp => ?_, fun c post hp => ?_, R'⟩
    · unfold wpX_commit
      dsimp only
      refine tp_xop1 ht hz (br_f tp_10 (br_f q0 (br_f q7 (tp_km1 hm (br_f tp_10 (br_t rfl (iX c _ ?_)))))))
      dsimp only
      unfold wX_commit_39
      exact br_f (tp_nq (b := 2) (by omega) (by omega) (by omega)) (jX c _ hp)
    · unfold wpY_commit
      dsimp only
      refine tp_yop1 ht ha (br_f tp_10 (br_f q0 (br_f q7 (br_f m0 (br_t m2 (br_t rfl ?_))))))
      unfold wY_commit_40 wY_commit_45
      refine br_f tp_10 ?_
      unfold wY_commit_58
      refine br_f (tp_nq (b := 2) (by omega) (by omega) (by omega)) (br_f (tp_nq (b := 3) (by omega) (by omega) (by omega)) (br_t rfl ?_))
      unfold wY_commit_92
      exact iY c _ (jY c _ hp)
  · have n1 : ¬ nI q = 1 := tp_nq (b := 1) e1 (by omega) (by omega)
    by_cases e2 : q = 2
    · subst e2
      obtain ⟨r1, o1, hb1, wb1, ho1, ac1, iX, iY, R1⟩ := tp_br R (m := 3) (by omega)
      obtain ⟨r, o', f, nu', hb', wb', ho', ac', jX, jY, R'⟩ := tp_early R1 ht (Or.inr rfl) (nI m)
      refine ⟨r, o', f, nu', hb', wb', ho', ac', fun c post hp => ?_, fun c post hp => ?_, R'⟩
      · unfold wpX_commit
        dsimp only
        refine tp_xop1 ht hz (br_f tp_10 (br_f q0 (br_f q7 (tp_km1 hm (br_f tp_10 (br_f n1 ?_))))))
        unfold wX_commit_39
        exact br_t rfl (iX c _ (jX c _ hp))
      · unfold wpY_commit
        dsimp only
        refine tp_yop1 ht ha (br_f tp_10 (br_f q0 (br_f q7 (br_f m0 (br_t m2 (br_f n1 (br_t rfl ?_)))))))
        unfold wY_commit_40 wY_commit_45
        refine br_f tp_10 ?_
        unfold wY_commit_58
        refine br_t rfl ?_
        unfold wY_commit_68
        exact iY c _ (jY c _ hp)
    · have n2 : ¬ nI q = 2 := tp_nq (b := 2) e2 (by omega) (by omega)
      obtain ⟨o', nu', hb', wb', ho', ac', jX, jY, R'⟩ := tp_late R ht hz hq e1 e2 hm
      refine ⟨1, o', fun c => c + 1, nu', hb', wb', ho', ac', fun c post hp => ?_, fun c post hp => ?_, R'⟩
      · unfold wpX_commit
        dsimp only
        refine tp_xop1 ht hz (br_f tp_10 (br_f q0 (br_f q7 (tp_km1 hm (br_f tp_10 (br_f n1 ?_))))))
        unfold wX_commit_39
        exact br_f n2 (jX c _ hp)
      · unfold wpY_commit
        dsimp only
        exact tp_yop1 ht ha (br_f tp_10 (br_f q0 (br_f q7 (br_f m0 (br_t m2 (br_f n1 (br_f n2 (jY c _ hp))))))))
theorem i_vc_commit {k : Nat} {u : SX} {v : SY} (I : i_Rel k u v) (hk : k + 4 ≤ 2048) (v1 : Int32) (v2 : Int32) (v3 : Int32) : wpX_commit (fun r u' => wpY_commit (fun r' v' => r' = r ∧ i_Rel (k + 4) u' v') v v1 v2 v3) u v1 v2 v3 := by
  obtain ⟨o, c, nu, dr, hb, wb, ho, se, ch, ac, rfl, rfl, R⟩ := I
  have J : ∀ n, i_Rel n (o, c, nu, dr, hb, wb) (c, nu, ho, se, ch, ac) := fun n => ⟨o, c, nu, dr, hb, wb, ho, se, ch, ac, rfl, rfl, R⟩
  rcases tp_op R v1 with ⟨t, ht, rfl, hx, ha⟩ | ⟨hX, hY⟩
  · rcases tp_ix v2 8 (by decide) with ⟨q, hq, rfl⟩ | h | ⟨h0, h4, h3⟩
    · have q0 : ¬ nI q < 0 := nI_pos (by omega)
      have q7 : ¬ (7 : Int32) < nI q := nI_nlt (b := q) (a := 7) (by omega) (by decide)
      rcases tp_ix v3 3 (by decide) with ⟨m, hm, rfl⟩ | h | ⟨h0, h4, h3⟩
      · obtain ⟨r, o', f, nu', hb', wb', ho', ac', jX, jY, R'⟩ := tp_com R ht hx hq hm
        exact jX c _ (jY c _ ⟨rfl, _, _, _, _, _, _, _, _, _, _, rfl, rfl, R'⟩)
      · unfold wpX_commit
        dsimp only
        refine tp_xop1 ht hx (br_f tp_10 (br_f q0 (br_f q7 (br_t h (br_t rfl ?_)))))
        unfold wpY_commit
        dsimp only
        exact tp_yop1 ht ha (br_f tp_10 (br_f q0 (br_f q7 (br_t h ⟨rfl, J _⟩))))
      · unfold wpX_commit
        dsimp only
        refine tp_xop1 ht hx (br_f tp_10 (br_f q0 (br_f q7 (br_f h0 (br_t h4 (br_t rfl ?_))))))
        unfold wpY_commit
        dsimp only
        exact tp_yop1 ht ha (br_f tp_10 (br_f q0 (br_f q7 (br_f h0 (br_f (Int32.not_le.mpr (h3 2 (by decide))) ⟨rfl, J _⟩)))))
    · unfold wpX_commit
      dsimp only
      refine tp_xop1 ht hx (br_f tp_10 (br_t h ?_))
      unfold wpY_commit
      dsimp only
      exact tp_yop1 ht ha (br_f tp_10 (br_t h ⟨rfl, J _⟩))
    · unfold wpX_commit
      dsimp only
      refine tp_xop1 ht hx (br_f tp_10 (br_f h0 (br_t (h3 7 (by decide)) ?_)))
      unfold wpY_commit
      dsimp only
      exact tp_yop1 ht ha (br_f tp_10 (br_f h0 (br_t (h3 7 (by decide)) ⟨rfl, J _⟩)))
  · unfold wpX_commit
    dsimp only
    refine hX c _ (br_t rfl ?_)
    unfold wpY_commit
    dsimp only
    exact hY c _ (br_t rfl ⟨rfl, J _⟩)
end
section
/-! begin, and the calls that only read -/
theorem tp_bgL {o : Int32} {nu dr hb wb ho se ch ac : Nat → Int32} (R : tp_R o nu dr hb wb ho se ch ac) :
    ∀ d j, j + d = 4 → ∃ (r o' : Int32) (ac' : Nat → Int32), (∀ (c : Int32) (post : Int32 → SX → Prop), post r (o', c, nu, dr, hb, wb) → wX_begin_2 post o c nu dr hb wb (d + 1) (nI j)) ∧
      (∀ (c : Int32) (post : Int32 → SY → Prop), post r (c, nu, ho, se, ch, ac') → wY_begin_2 post c nu ho se ch ac (d + 1) (nI j)) ∧ tp_R o' nu dr hb wb ho se ch ac' := by
  intro d
  induction d with
  | zero =>
    intro j hj
    have : j = 4 := by omega
    subst this
    have h4 : (4 : Int32) ≤ nI 4 := nI_le (a := 4) (b := 4) (by omega) (by decide)
    exact ⟨-200000, o, ac, fun c post hp => br_t h4 hp, fun c post hp => br_t h4 hp, R⟩
  | succ d ih =>
    intro j hj
    have hj4 : j < 4 := by omega
    have ej : (nI j).toNatClampNeg = j := nI_clamp (by omega)
    have hi : vp_in (nI j) 4 := vp_in_nI hj4 (by decide)
    have hn : ¬ (4 : Int32) ≤ nI j := nI_ge (b := 4) (by omega) (by decide)
    by_cases z : bt o j = true
    · have za : ¬ ac (nI j).toNatClampNeg = 0 := by rw [ej]; exact (R.1 j hj4).mp z
      obtain ⟨r, o', ac', iX, iY, R'⟩ := ih (j + 1) (by omega)
      exact ⟨r, o', ac', fun c post hp => br_f hn (tp_xop1 hj4 z (br_f tp_10 (nm_r (nI_1 j) (iX c post hp)))), fun c post hp => br_f hn ⟨hi, br_f za (nm_r (nI_1 j) (iY c post hp))⟩, R'⟩
    · have za : ac (nI j).toNatClampNeg = 0 := by
        rw [ej]
        by_cases y : ac j = 0
        · exact y
        · exact absurd ((R.1 j hj4).mpr y) z
      exact ⟨nI j, _, upd ac j 1, fun c post hp => br_f hn (tp_xop0 hj4 z (br_t rfl (nm_e hp))), fun c post hp => br_f hn ⟨hi, br_t za ⟨hi, nm_r (e' := upd ac j 1) (by rw [ej, tp_vb1]) hp⟩⟩, tp_Rbegin R hj4⟩
theorem i_vc_begin {k : Nat} {u : SX} {v : SY} (I : i_Rel k u v) (hk : k + 4 ≤ 2048) : wpX_begin (fun r u' => wpY_begin (fun r' v' => r' = r ∧ i_Rel (k + 4) u' v') v) u := by
  obtain ⟨o, c, nu, dr, hb, wb, ho, se, ch, ac, rfl, rfl, R⟩ := I
  obtain ⟨r, o', ac', iX, iY, R'⟩ := tp_bgL R 4 0 rfl
  exact ⟨5, iX c _ ⟨5, iY c _ ⟨rfl, _, _, _, _, _, _, _, _, _, _, rfl, rfl, R'⟩⟩⟩
theorem i_vc_peek {k : Nat} {u : SX} {v : SY} (I : i_Rel k u v) (hk : k + 4 ≤ 2048) (v1 : Int32) : wpX_peek (fun r => wpY_peek (fun r' => r' = r ∧ i_Rel (k + 4) u v) v v1) u v1 := by
  obtain ⟨o, c, nu, dr, hb, wb, ho, se, ch, ac, rfl, rfl, R⟩ := I
  have J : ∀ n, i_Rel n (o, c, nu, dr, hb, wb) (c, nu, ho, se, ch, ac) := fun n => ⟨o, c, nu, dr, hb, wb, ho, se, ch, ac, rfl, rfl, R⟩
  unfold wpX_peek
  dsimp only
  rcases tp_key v1 with ⟨q, hq, rfl⟩ | ⟨kX, kY⟩
  · have hi : vp_in (nI q) 12 := vp_in_nI hq (by decide)
    refine tp_xk1 hq (br_f tp_10 ⟨hi, ?_⟩)
    unfold wpY_peek
    dsimp only
    exact tp_yk1 hq (br_f tp_10 ⟨hi, rfl, J _⟩)
  · refine kX _ (br_t rfl ?_)
    unfold wpY_peek
    dsimp only
    exact kY _ _ _ _ _ _ _ (br_t rfl ⟨rfl, J _⟩)
theorem i_vc_commits {k : Nat} {u : SX} {v : SY} (I : i_Rel k u v) (hk : k + 4 ≤ 2048) : wpX_commits (fun r => wpY_commits (fun r' => r' = r ∧ i_Rel (k + 4) u v) v) u := by
  obtain ⟨o, c, nu, dr, hb, wb, ho, se, ch, ac, rfl, rfl, R⟩ := I
  exact ⟨rfl, o, c, nu, dr, hb, wb, ho, se, ch, ac, rfl, rfl, R⟩
theorem i_vc_holder {k : Nat} {u : SX} {v : SY} (I : i_Rel k u v) (hk : k + 4 ≤ 2048) (v1 : Int32) : wpX_holder (fun r => wpY_holder (fun r' => r' = r ∧ i_Rel (k + 4) u v) v v1) u v1 := by
  obtain ⟨o, c, nu, dr, hb, wb, ho, se, ch, ac, rfl, rfl, R⟩ := I
  have J : ∀ n, i_Rel n (o, c, nu, dr, hb, wb) (c, nu, ho, se, ch, ac) := fun n => ⟨o, c, nu, dr, hb, wb, ho, se, ch, ac, rfl, rfl, R⟩
  unfold wpX_holder
  dsimp only
  rcases tp_key v1 with ⟨q, hq, rfl⟩ | ⟨kX, kY⟩
  · have hi : vp_in (nI q) 12 := vp_in_nI hq (by decide)
    have eq : (nI q).toNatClampNeg = q := nI_clamp (by omega)
    refine tp_xk1 hq (br_f tp_10 ?_)
    rcases tp_fh R hq with ⟨h0, hX⟩ | ⟨s, hs, h0, hX⟩
    · refine hX c _ (br_t rfl ?_)
      unfold wpY_holder
      dsimp only
      have h0' : ho (nI q).toNatClampNeg = 0 := by rw [eq]; exact h0
      exact tp_yk1 hq (br_f tp_10 ⟨hi, br_t h0' ⟨rfl, J _⟩⟩)
    · refine hX c _ (br_f (tp_m1 hs) ?_)
      unfold wpY_holder
      dsimp only
      have h0' : ¬ ho (nI q).toNatClampNeg = 0 := by rw [eq, h0]; exact tp_ne0 (by omega)
      exact tp_yk1 hq (br_f tp_10 ⟨hi, br_f h0' ⟨hi, by rw [eq, h0, nI_pred], J _⟩⟩)
  · refine kX _ (br_t rfl ?_)
    unfold wpY_holder
    dsimp only
    exact kY _ _ _ _ _ _ _ (br_t rfl ⟨rfl, J _⟩)
/-! the sets: open, keys, written -/
theorem tp_opL {post : Int32 → Prop} {c o : Int32} {nu ho se ch ac : Nat → Int32} (r1 : ∀ t, t < 4 → (bt o t = true ↔ ¬ ac t = 0)) (r2 : ∀ i, 4 ≤ i → ¬ bt o i = true) (hp : post o) :
    ∀ d j, j + d = 4 → ∀ x : Int32, (∀ i, bt x i = true ↔ (i < j ∧ bt o i = true)) → wY_open_4 post c nu ho se ch ac (d + 1) x (nI j) := by
  intro d
  induction d with
  | zero =>
    intro j hj x hx
    have : j = 4 := by omega
    subst this
    have h4 : (4 : Int32) ≤ nI 4 := nI_le (a := 4) (b := 4) (by omega) (by decide)
    have e : x = o := by
      apply b_ext
      intro i _
      rw [Bool.eq_iff_iff, hx i]
      exact ⟨fun h => h.2, fun h => ⟨Nat.lt_of_not_le (fun z => r2 i z h), h⟩⟩
    rw [e]
    exact br_t h4 hp
  | succ d ih =>
    intro j hj x hx
    have hj4 : j < 4 := by omega
    have ej : (nI j).toNatClampNeg = j := nI_clamp (by omega)
    have hi : vp_in (nI j) 4 := vp_in_nI hj4 (by decide)
    have hn : ¬ (4 : Int32) ≤ nI j := nI_ge (b := 4) (by omega) (by decide)
    refine br_f hn ⟨hi, ?_⟩
    rw [ej]
    refine br_c (fun z => nm_r (nI_1 j) (ih (j + 1) (by omega) x (fun i => ?_))) (fun z => nm_e (nm_r (nI_1 j) (ih (j + 1) (by omega) _ (fun i => ?_))))
    · rw [hx i]
      by_cases y : i = j
      · subst y
        have : ¬ bt o i = true := fun w => ((r1 i hj4).mp w) z
        simp [this]
      · rw [show i < j + 1 ↔ i < j by omega]
    · rw [tp_orb _ j (by omega), hx i]
      by_cases y : i = j
      · subst y
        have : bt o i = true := (r1 i hj4).mpr z
        simp [this]
      · rw [show i < j + 1 ↔ i < j by omega]
        simp [y]
theorem i_vc_open {k : Nat} {u : SX} {v : SY} (I : i_Rel k u v) (hk : k + 4 ≤ 2048) : wpX_open (fun r => wpY_open (fun r' => r' = r ∧ i_Rel (k + 4) u v) v) u := by
  obtain ⟨o, c, nu, dr, hb, wb, ho, se, ch, ac, rfl, rfl, R⟩ := I
  refine ⟨5, tp_opL (o := o) R.1 R.2.1 ⟨rfl, o, c, nu, dr, hb, wb, ho, se, ch, ac, rfl, rfl, R⟩ 4 0 rfl 0 (fun i => ?_)⟩
  rw [b_0]
  simp
theorem tp_kyL {post : Int32 → Prop} {c w : Int32} {nu ho se ch ac : Nat → Int32} {t : Nat} (ht : t < 4) (ha : ¬ ac t = 0) (r1 : ∀ k, k < 12 → (bt w k = true ↔ ho k = nI (t + 1))) (r2 : ∀ i, 12 ≤ i → ¬ bt w i = true) (hp : post w) :
    ∀ d j, j + d = 12 → ∀ x : Int32, (∀ i, bt x i = true ↔ (i < j ∧ bt w i = true)) → wY_keys_4 post (nI t) c nu ho se ch ac (d + 1) x (nI j) := by
  intro d
  induction d with
  | zero =>
    intro j hj x hx
    have : j = 12 := by omega
    subst this
    have h4 : (12 : Int32) ≤ nI 12 := nI_le (a := 12) (b := 12) (by omega) (by decide)
    have e : x = w := by
      apply b_ext
      intro i _
      rw [Bool.eq_iff_iff, hx i]
      exact ⟨fun h => h.2, fun h => ⟨Nat.lt_of_not_le (fun z => r2 i z h), h⟩⟩
    rw [e]
    exact br_t h4 hp
  | succ d ih =>
    intro j hj x hx
    have hj4 : j < 12 := by omega
    have ej : (nI j).toNatClampNeg = j := nI_clamp (by omega)
    have hi : vp_in (nI j) 12 := vp_in_nI hj4 (by decide)
    have hn : ¬ (12 : Int32) ≤ nI j := nI_ge (b := 12) (by omega) (by decide)
    refine br_f hn (tp_yop1 ht ha (br_f tp_10 ⟨hi, ?_⟩))
    rw [ej, nI_1 t]
    refine br_c (fun z => nm_e (nm_r (nI_1 j) (ih (j + 1) (by omega) _ (fun i => ?_)))) (fun z => nm_r (nI_1 j) (ih (j + 1) (by omega) x (fun i => ?_)))
    · rw [tp_orb _ j (by omega), hx i]
      by_cases y : i = j
      · subst y
        have : bt w i = true := (r1 i hj4).mpr z
        simp [this]
      · rw [show i < j + 1 ↔ i < j by omega]
        simp [y]
    · rw [hx i]
      by_cases y : i = j
      · subst y
        have : ¬ bt w i = true := fun w' => z ((r1 i hj4).mp w')
        simp [this]
      · rw [show i < j + 1 ↔ i < j by omega]
theorem i_vc_keys {k : Nat} {u : SX} {v : SY} (I : i_Rel k u v) (hk : k + 4 ≤ 2048) (v1 : Int32) : wpX_keys (fun r => wpY_keys (fun r' => r' = r ∧ i_Rel (k + 4) u v) v v1) u v1 := by
  obtain ⟨o, c, nu, dr, hb, wb, ho, se, ch, ac, rfl, rfl, R⟩ := I
  have J : ∀ n, i_Rel n (o, c, nu, dr, hb, wb) (c, nu, ho, se, ch, ac) := fun n => ⟨o, c, nu, dr, hb, wb, ho, se, ch, ac, rfl, rfl, R⟩
  unfold wpX_keys
  dsimp only
  rcases tp_op R v1 with ⟨t, ht, rfl, hx, ha⟩ | ⟨hX, hY⟩
  · have et : (nI t).toNatClampNeg = t := nI_clamp (by omega)
    have hi : vp_in (nI t) 4 := vp_in_nI ht (by decide)
    refine tp_xop1 ht hx (br_f tp_10 ⟨hi, ?_⟩)
    rw [et]
    obtain ⟨r1, r2, r3, r4, r5, r6, r7, r8, r9, r10⟩ := R
    refine ⟨13, tp_kyL (w := hb t) ht ha (r4 t ht) (r5 t ht) ⟨rfl, J _⟩ 12 0 rfl 0 (fun i => ?_)⟩
    rw [b_0]
    simp
  · refine hX c _ (br_t rfl ⟨1, br_f (by decide) (hY c _ (br_t rfl ⟨rfl, J _⟩))⟩)
theorem tp_wrL {post : Int32 → Prop} {c w : Int32} {nu ho se ch ac : Nat → Int32} {t : Nat} (ht : t < 4) (ha : ¬ ac t = 0) (r1 : ∀ k, k < 12 → (bt w k = true ↔ (ho k = nI (t + 1) ∧ ¬ ch k = 0))) (r2 : ∀ i, 12 ≤ i → ¬ bt w i = true) (hp : post w) :
    ∀ d j, j + d = 12 → ∀ x : Int32, (∀ i, bt x i = true ↔ (i < j ∧ bt w i = true)) → wY_written_4 post (nI t) c nu ho se ch ac (d + 1) x (nI j) := by
  intro d
  induction d with
  | zero =>
    intro j hj x hx
    have : j = 12 := by omega
    subst this
    have h4 : (12 : Int32) ≤ nI 12 := nI_le (a := 12) (b := 12) (by omega) (by decide)
    have e : x = w := by
      apply b_ext
      intro i _
      rw [Bool.eq_iff_iff, hx i]
      exact ⟨fun h => h.2, fun h => ⟨Nat.lt_of_not_le (fun z => r2 i z h), h⟩⟩
    rw [e]
    exact br_t h4 hp
  | succ d ih =>
    intro j hj x hx
    have hj4 : j < 12 := by omega
    have ej : (nI j).toNatClampNeg = j := nI_clamp (by omega)
    have hi : vp_in (nI j) 12 := vp_in_nI hj4 (by decide)
    have hn : ¬ (12 : Int32) ≤ nI j := nI_ge (b := 12) (by omega) (by decide)
    have keep : ¬ bt w j = true → wY_written_4 post (nI t) c nu ho se ch ac (d + 1) x (nI (j + 1)) := by
      intro nz
      refine ih (j + 1) (by omega) x (fun i => ?_)
      rw [hx i]
      by_cases y : i = j
      · subst y
        simp [nz]
      · rw [show i < j + 1 ↔ i < j by omega]
    refine br_f hn (tp_yop1 ht ha (br_f tp_10 ⟨hi, ?_⟩))
    rw [ej, nI_1 t]
    refine br_c (fun z => ⟨hi, br_c (fun y => nm_r (nI_1 j) (keep (fun h => ((r1 j hj4).mp h).2 y))) (fun z2 => nm_e (nm_r (nI_1 j) (ih (j + 1) (by omega) _ (fun i => ?_))))⟩) (fun z => nm_r (nI_1 j) (keep (fun h => z ((r1 j hj4).mp h).1)))
    rw [tp_orb _ j (by omega), hx i]
    by_cases y : i = j
    · subst y
      have : bt w i = true := (r1 i hj4).mpr ⟨z, z2⟩
      simp [this]
    · rw [show i < j + 1 ↔ i < j by omega]
      simp [y]
theorem i_vc_written {k : Nat} {u : SX} {v : SY} (I : i_Rel k u v) (hk : k + 4 ≤ 2048) (v1 : Int32) : wpX_written (fun r => wpY_written (fun r' => r' = r ∧ i_Rel (k + 4) u v) v v1) u v1 := by
  obtain ⟨o, c, nu, dr, hb, wb, ho, se, ch, ac, rfl, rfl, R⟩ := I
  have J : ∀ n, i_Rel n (o, c, nu, dr, hb, wb) (c, nu, ho, se, ch, ac) := fun n => ⟨o, c, nu, dr, hb, wb, ho, se, ch, ac, rfl, rfl, R⟩
  unfold wpX_written
  dsimp only
  rcases tp_op R v1 with ⟨t, ht, rfl, hx, ha⟩ | ⟨hX, hY⟩
  · have et : (nI t).toNatClampNeg = t := nI_clamp (by omega)
    have hi : vp_in (nI t) 4 := vp_in_nI ht (by decide)
    refine tp_xop1 ht hx (br_f tp_10 ⟨hi, ?_⟩)
    rw [et]
    obtain ⟨r1, r2, r3, r4, r5, r6, r7, r8, r9, r10⟩ := R
    refine ⟨13, tp_wrL (w := wb t) ht ha (r6 t ht) (r7 t ht) ⟨rfl, J _⟩ 12 0 rfl 0 (fun i => ?_)⟩
    rw [b_0]
    simp
  · refine hX c _ (br_t rfl ⟨1, br_f (by decide) (hY c _ (br_t rfl ⟨rfl, J _⟩))⟩)
end
section
/-! sum and total -/
def tp_sv (nu : Nat → Int32) (x1 : Int32) : Nat → Int32
  | 0 => 0
  | j + 1 => if nI (j % 3) = x1 then tp_sv nu x1 j + nu j else tp_sv nu x1 j
def tp_tv (nu : Nat → Int32) : Nat → Int32
  | 0 => 0
  | j + 1 => tp_tv nu j + nu j
theorem tp_sv0 (nu : Nat → Int32) : tp_sv nu (nI 0) 12 = 0 + nu 0 + nu 3 + nu 6 + nu 9 := by rfl
theorem tp_sv1 (nu : Nat → Int32) : tp_sv nu (nI 1) 12 = 0 + nu 1 + nu 4 + nu 7 + nu 10 := by rfl
theorem tp_sv2 (nu : Nat → Int32) : tp_sv nu (nI 2) 12 = 0 + nu 2 + nu 5 + nu 8 + nu 11 := by rfl
theorem tp_svm (nu : Nat → Int32) {m : Nat} (hm : m < 3) : tp_sv nu (nI m) 12 = 0 + nu m + nu (m + 3) + nu (m + 6) + nu (m + 9) := by
  have h : m = 0 ∨ m = 1 ∨ m = 2 := by omega
  rcases h with rfl | rfl | rfl
  · exact tp_sv0 nu
  · exact tp_sv1 nu
  · exact tp_sv2 nu
theorem tp_ac (a b c d e f g h i j k l : Int32) : ((0 + a + d + g + j) + (0 + b + e + h + k)) + (0 + c + f + i + l) = 0 + a + b + c + d + e + f + g + h + i + j + k + l := by grind
theorem tp_svt (nu : Nat → Int32) : (tp_sv nu (nI 0) 12 + tp_sv nu (nI 1) 12) + tp_sv nu (nI 2) 12 = tp_tv nu 12 := by
  rw [tp_sv0, tp_sv1, tp_sv2, tp_ac]
  rfl
theorem tp_xsS {post : Int32 → Prop} {o c x : Int32} {nu dr hb wb : Nat → Int32} {n j : Nat} (hj : j < 12) (h : wX_sum_14 post o c nu dr hb wb n (x + nu j) (nI (j + 3))) : wX_sum_14 post o c nu dr hb wb (n + 1) x (nI j) := by
  have ej : (nI j).toNatClampNeg = j := nI_clamp (by omega)
  exact br_f (nI_ge (b := 12) hj (by decide)) ⟨vp_in_nI hj (by decide), nm_r (e' := x + nu j) (by rw [ej]) (nm_r (e' := nI (j + 3)) (nI_add j 3) h)⟩
theorem tp_xsE {post : Int32 → Prop} {o c x : Int32} {nu dr hb wb : Nat → Int32} {n j : Nat} (hj : 12 ≤ j) (hj2 : j < 2 ^ 31) (h : post x) : wX_sum_14 post o c nu dr hb wb (n + 1) x (nI j) :=
  br_t (nI_le (a := 12) hj hj2) h
theorem tp_ysL {post : Int32 → Prop} {c x1 : Int32} {nu ho se ch ac : Nat → Int32} (hp : (x1 < 0 → post (-100000)) ∧ (¬ x1 < 0 → ((2 < x1 → post (-100000)) ∧ (¬ 2 < x1 → post (tp_sv nu x1 12))))) :
    ∀ d j, j + d = 12 → wY_sum_4 post x1 c nu ho se ch ac (d + 1) (tp_sv nu x1 j) (nI j) := by
  intro d
  induction d with
  | zero =>
    intro j hj
    have : j = 12 := by omega
    subst this
    exact br_t (nI_le (a := 12) (b := 12) (by omega) (by decide)) hp
  | succ d ih =>
    intro j hj
    have ej : (nI j).toNatClampNeg = j := nI_clamp (by omega)
    have hi : vp_in (nI j) 12 := vp_in_nI (by omega) (by decide)
    have hn : ¬ (12 : Int32) ≤ nI j := nI_ge (b := 12) (by omega) (by decide)
    have ihj := ih (j + 1) (by omega)
    refine br_f hn ⟨tp_30, ?_⟩
    rw [tp_rem3 (by omega), ej]
    refine br_c (fun z => ⟨hi, nm_r (e' := tp_sv nu x1 (j + 1)) (if_pos z).symm (nm_r (nI_1 j) ihj)⟩) (fun z => nm_r (nI_1 j) ?_)
    rw [show tp_sv nu x1 (j + 1) = tp_sv nu x1 j from if_neg z] at ihj
    exact ihj
theorem tp_ysum {post : Int32 → Prop} {c x1 : Int32} {nu ho se ch ac : Nat → Int32} (hp : (x1 < 0 → post (-100000)) ∧ (¬ x1 < 0 → ((2 < x1 → post (-100000)) ∧ (¬ 2 < x1 → post (tp_sv nu x1 12))))) : wpY_sum post (c, nu, ho, se, ch, ac) x1 :=
  ⟨13, tp_ysL hp 12 0 rfl⟩
theorem i_vc_sum {k : Nat} {u : SX} {v : SY} (I : i_Rel k u v) (hk : k + 4 ≤ 2048) (v1 : Int32) : wpX_sum (fun r => wpY_sum (fun r' => r' = r ∧ i_Rel (k + 4) u v) v v1) u v1 := by
  obtain ⟨o, c, nu, dr, hb, wb, ho, se, ch, ac, rfl, rfl, R⟩ := I
  have J : ∀ n, i_Rel n (o, c, nu, dr, hb, wb) (c, nu, ho, se, ch, ac) := fun n => ⟨o, c, nu, dr, hb, wb, ho, se, ch, ac, rfl, rfl, R⟩
  unfold wpX_sum
  dsimp only
  rcases tp_ix v1 3 (by decide) with ⟨m, hm, rfl⟩ | h | ⟨h0, h4, h3⟩
  · refine tp_km1 hm (br_f tp_10 ⟨5, tp_xsS (by omega) (tp_xsS (by omega) (tp_xsS (by omega) (tp_xsS (by omega) (tp_xsE (by omega) (by omega) ?_))))⟩)
    exact tp_ysum (br_f (nI_pos (by omega)) (br_f (nI_nlt (b := m) (a := 2) (by omega) (by decide)) ⟨tp_svm nu hm, J _⟩))
  · exact br_t h (br_t rfl (tp_ysum (br_t h ⟨rfl, J _⟩)))
  · exact br_f h0 (br_t h4 (br_t rfl (tp_ysum (br_f h0 (br_t (h3 2 (by decide)) ⟨rfl, J _⟩)))))
theorem tp_xtL {post : Int32 → Prop} {o c : Int32} {nu dr hb wb : Nat → Int32} (hp : post (tp_tv nu 12)) :
    ∀ d j, j + d = 12 → wX_total_4 post o c nu dr hb wb (d + 1) (tp_tv nu j) (nI j) := by
  intro d
  induction d with
  | zero =>
    intro j hj
    have : j = 12 := by omega
    subst this
    exact br_t (nI_le (a := 12) (b := 12) (by omega) (by decide)) hp
  | succ d ih =>
    intro j hj
    have ej : (nI j).toNatClampNeg = j := nI_clamp (by omega)
    have hi : vp_in (nI j) 12 := vp_in_nI (by omega) (by decide)
    exact br_f (nI_ge (b := 12) (by omega) (by decide)) ⟨hi, nm_r (e' := tp_tv nu (j + 1)) (by rw [ej]; rfl) (nm_r (nI_1 j) (ih (j + 1) (by omega)))⟩
theorem i_vc_total {k : Nat} {u : SX} {v : SY} (I : i_Rel k u v) (hk : k + 4 ≤ 2048) : wpX_total (fun r => wpY_total (fun r' => r' = r ∧ i_Rel (k + 4) u v) v) u := by
  obtain ⟨o, c, nu, dr, hb, wb, ho, se, ch, ac, rfl, rfl, R⟩ := I
  have J : ∀ n, i_Rel n (o, c, nu, dr, hb, wb) (c, nu, ho, se, ch, ac) := fun n => ⟨o, c, nu, dr, hb, wb, ho, se, ch, ac, rfl, rfl, R⟩
  refine ⟨13, tp_xtL ?_ 12 0 rfl⟩
  unfold wpY_total
  dsimp only
  refine tp_ysum (br_f (by decide) (br_f (by decide) (tp_ysum (br_f (by decide) (br_f (by decide) (tp_ysum (br_f (by decide) (br_f (by decide) ⟨tp_svt nu, J _⟩))))))))
end
