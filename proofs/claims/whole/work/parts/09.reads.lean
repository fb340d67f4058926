/-! begin, and the calls that only read -/
theorem tp_bgL {o : Int32} {nu dr hb wb ho se ch ac : Nat → Int32} (R : tp_R o nu dr hb wb ho se ch ac) :
    ∀ d j, j + d = 4 → ∃ (r o' : Int32) (ac' : Nat → Int32), (∀ (c : Int32) (post : Int32 → SX → Prop), post r (o', c, nu, dr, hb, wb) → wX_begin_2 post o c nu dr hb wb (d + 1) (nI j)) ∧
      (∀ (c : Int32) (post : Int32 → SY → Prop), post r (c, nu, ho, se, ch, ac') → wY_begin_2 post c nu ho se ch ac (d + 1) (nI j)) ∧ tp_R o' nu dr hb wb ho se ch ac' := by
  intro d
  induction d with
  | zero =>
    intro j hj
    have : j = 4 := by omega
    subst this
    have h4 : (4 : Int32) ≤ nI 4 := nI_le (a := 4) (b := 4) (by omega) (by decide)
    exact ⟨-200000, o, ac, fun c post hp => br_t h4 hp, fun c post hp => br_t h4 hp, R⟩
  | succ d ih =>
    intro j hj
    have hj4 : j < 4 := by omega
    have ej : (nI j).toNatClampNeg = j := nI_clamp (by omega)
    have hi : vp_in (nI j) 4 := vp_in_nI hj4 (by decide)
    have hn : ¬ (4 : Int32) ≤ nI j := nI_ge (b := 4) (by omega) (by decide)
    by_cases z : bt o j = true
    · have za : ¬ ac (nI j).toNatClampNeg = 0 := by rw [ej]; exact (R.1 j hj4).mp z
      obtain ⟨r, o', ac', iX, iY, R'⟩ := ih (j + 1) (by omega)
      exact ⟨r, o', ac', fun c post hp => br_f hn (tp_xop1 hj4 z (br_f tp_10 (nm_r (nI_1 j) (iX c post hp)))), fun c post hp => br_f hn ⟨hi, br_f za (nm_r (nI_1 j) (iY c post hp))⟩, R'⟩
    · have za : ac (nI j).toNatClampNeg = 0 := by
        rw [ej]
        by_cases y : ac j = 0
        · exact y
        · exact absurd ((R.1 j hj4).mpr y) z
      exact ⟨nI j, _, upd ac j 1, fun c post hp => br_f hn (tp_xop0 hj4 z (br_t rfl (nm_e hp))), fun c post hp => br_f hn ⟨hi, br_t za ⟨hi, nm_r (e' := upd ac j 1) (by rw [ej, tp_vb1]) hp⟩⟩, tp_Rbegin R hj4⟩
theorem i_vc_begin {k : Nat} {u : SX} {v : SY} (I : i_Rel k u v) (hk : k + 4 ≤ 2048) : wpX_begin (fun r u' => wpY_begin (fun r' v' => r' = r ∧ i_Rel (k + 4) u' v') v) u := by
  obtain ⟨o, c, nu, dr, hb, wb, ho, se, ch, ac, rfl, rfl, R⟩ := I
  obtain ⟨r, o', ac', iX, iY, R'⟩ := tp_bgL R 4 0 rfl
  exact ⟨5, iX c _ ⟨5, iY c _ ⟨rfl, _, _, _, _, _, _, _, _, _, _, rfl, rfl, R'⟩⟩⟩
theorem i_vc_peek {k : Nat} {u : SX} {v : SY} (I : i_Rel k u v) (hk : k + 4 ≤ 2048) (v1 : Int32) : wpX_peek (fun r => wpY_peek (fun r' => r' = r ∧ i_Rel (k + 4) u v) v v1) u v1 := by
  obtain ⟨o, c, nu, dr, hb, wb, ho, se, ch, ac, rfl, rfl, R⟩ := I
  have J : ∀ n, i_Rel n (o, c, nu, dr, hb, wb) (c, nu, ho, se, ch, ac) := fun n => ⟨o, c, nu, dr, hb, wb, ho, se, ch, ac, rfl, rfl, R⟩
  unfold wpX_peek
  dsimp only
  rcases tp_key v1 with ⟨q, hq, rfl⟩ | ⟨kX, kY⟩
  · have hi : vp_in (nI q) 12 := vp_in_nI hq (by decide)
    refine tp_xk1 hq (br_f tp_10 ⟨hi, ?_⟩)
    unfold wpY_peek
    dsimp only
    exact tp_yk1 hq (br_f tp_10 ⟨hi, rfl, J _⟩)
  · refine kX _ (br_t rfl ?_)
    unfold wpY_peek
    dsimp only
    exact kY _ _ _ _ _ _ _ (br_t rfl ⟨rfl, J _⟩)
theorem i_vc_commits {k : Nat} {u : SX} {v : SY} (I : i_Rel k u v) (hk : k + 4 ≤ 2048) : wpX_commits (fun r => wpY_commits (fun r' => r' = r ∧ i_Rel (k + 4) u v) v) u := by
  obtain ⟨o, c, nu, dr, hb, wb, ho, se, ch, ac, rfl, rfl, R⟩ := I
  exact ⟨rfl, o, c, nu, dr, hb, wb, ho, se, ch, ac, rfl, rfl, R⟩
theorem i_vc_holder {k : Nat} {u : SX} {v : SY} (I : i_Rel k u v) (hk : k + 4 ≤ 2048) (v1 : Int32) : wpX_holder (fun r => wpY_holder (fun r' => r' = r ∧ i_Rel (k + 4) u v) v v1) u v1 := by
  obtain ⟨o, c, nu, dr, hb, wb, ho, se, ch, ac, rfl, rfl, R⟩ := I
  have J : ∀ n, i_Rel n (o, c, nu, dr, hb, wb) (c, nu, ho, se, ch, ac) := fun n => ⟨o, c, nu, dr, hb, wb, ho, se, ch, ac, rfl, rfl, R⟩
  unfold wpX_holder
  dsimp only
  rcases tp_key v1 with ⟨q, hq, rfl⟩ | ⟨kX, kY⟩
  · have hi : vp_in (nI q) 12 := vp_in_nI hq (by decide)
    have eq : (nI q).toNatClampNeg = q := nI_clamp (by omega)
    refine tp_xk1 hq (br_f tp_10 ?_)
    rcases tp_fh R hq with ⟨h0, hX⟩ | ⟨s, hs, h0, hX⟩
    · refine hX c _ (br_t rfl ?_)
      unfold wpY_holder
      dsimp only
      have h0' : ho (nI q).toNatClampNeg = 0 := by rw [eq]; exact h0
      exact tp_yk1 hq (br_f tp_10 ⟨hi, br_t h0' ⟨rfl, J _⟩⟩)
    · refine hX c _ (br_f (tp_m1 hs) ?_)
      unfold wpY_holder
      dsimp only
      have h0' : ¬ ho (nI q).toNatClampNeg = 0 := by rw [eq, h0]; exact tp_ne0 (by omega)
      exact tp_yk1 hq (br_f tp_10 ⟨hi, br_f h0' ⟨hi, by rw [eq, h0, nI_pred], J _⟩⟩)
  · refine kX _ (br_t rfl ?_)
    unfold wpY_holder
    dsimp only
    exact kY _ _ _ _ _ _ _ (br_t rfl ⟨rfl, J _⟩)
/-! the sets: open, keys, written -/
theorem tp_opL {post : Int32 → Prop} {c o : Int32} {nu ho se ch ac : Nat → Int32} (r1 : ∀ t, t < 4 → (bt o t = true ↔ ¬ ac t = 0)) (r2 : ∀ i, 4 ≤ i → ¬ bt o i = true) (hp : post o) :
    ∀ d j, j + d = 4 → ∀ x : Int32, (∀ i, bt x i = true ↔ (i < j ∧ bt o i = true)) → wY_open_4 post c nu ho se ch ac (d + 1) x (nI j) := by
  intro d
  induction d with
  | zero =>
    intro j hj x hx
    have : j = 4 := by omega
    subst this
    have h4 : (4 : Int32) ≤ nI 4 := nI_le (a := 4) (b := 4) (by omega) (by decide)
    have e : x = o := by
      apply b_ext
      intro i _
      rw [Bool.eq_iff_iff, hx i]
      exact ⟨fun h => h.2, fun h => ⟨Nat.lt_of_not_le (fun z => r2 i z h), h⟩⟩
    rw [e]
    exact br_t h4 hp
  | succ d ih =>
    intro j hj x hx
    have hj4 : j < 4 := by omega
    have ej : (nI j).toNatClampNeg = j := nI_clamp (by omega)
    have hi : vp_in (nI j) 4 := vp_in_nI hj4 (by decide)
    have hn : ¬ (4 : Int32) ≤ nI j := nI_ge (b := 4) (by omega) (by decide)
    refine br_f hn ⟨hi, ?_⟩
    rw [ej]
    refine br_c (fun z => nm_r (nI_1 j) (ih (j + 1) (by omega) x (fun i => ?_))) (fun z => nm_e (nm_r (nI_1 j) (ih (j + 1) (by omega) _ (fun i => ?_))))
    · rw [hx i]
      by_cases y : i = j
      · subst y
        have : ¬ bt o i = true := fun w => ((r1 i hj4).mp w) z
        simp [this]
      · rw [show i < j + 1 ↔ i < j by omega]
    · rw [tp_orb _ j (by omega), hx i]
      by_cases y : i = j
      · subst y
        have : bt o i = true := (r1 i hj4).mpr z
        simp [this]
      · rw [show i < j + 1 ↔ i < j by omega]
        simp [y]
theorem i_vc_open {k : Nat} {u : SX} {v : SY} (I : i_Rel k u v) (hk : k + 4 ≤ 2048) : wpX_open (fun r => wpY_open (fun r' => r' = r ∧ i_Rel (k + 4) u v) v) u := by
  obtain ⟨o, c, nu, dr, hb, wb, ho, se, ch, ac, rfl, rfl, R⟩ := I
  refine ⟨5, tp_opL (o := o) R.1 R.2.1 ⟨rfl, o, c, nu, dr, hb, wb, ho, se, ch, ac, rfl, rfl, R⟩ 4 0 rfl 0 (fun i => ?_)⟩
  rw [b_0]
  simp
theorem tp_kyL {post : Int32 → Prop} {c w : Int32} {nu ho se ch ac : Nat → Int32} {t : Nat} (ht : t < 4) (ha : ¬ ac t = 0) (r1 : ∀ k, k < 12 → (bt w k = true ↔ ho k = nI (t + 1))) (r2 : ∀ i, 12 ≤ i → ¬ bt w i = true) (hp : post w) :
    ∀ d j, j + d = 12 → ∀ x : Int32, (∀ i, bt x i = true ↔ (i < j ∧ bt w i = true)) → wY_keys_4 post (nI t) c nu ho se ch ac (d + 1) x (nI j) := by
  intro d
  induction d with
  | zero =>
    intro j hj x hx
    have : j = 12 := by omega
    subst this
    have h4 : (12 : Int32) ≤ nI 12 := nI_le (a := 12) (b := 12) (by omega) (by decide)
    have e : x = w := by
      apply b_ext
      intro i _
      rw [Bool.eq_iff_iff, hx i]
      exact ⟨fun h => h.2, fun h => ⟨Nat.lt_of_not_le (fun z => r2 i z h), h⟩⟩
    rw [e]
    exact br_t h4 hp
  | succ d ih =>
    intro j hj x hx
    have hj4 : j < 12 := by omega
    have ej : (nI j).toNatClampNeg = j := nI_clamp (by omega)
    have hi : vp_in (nI j) 12 := vp_in_nI hj4 (by decide)
    have hn : ¬ (12 : Int32) ≤ nI j := nI_ge (b := 12) (by omega) (by decide)
    refine br_f hn (tp_yop1 ht ha (br_f tp_10 ⟨hi, ?_⟩))
    rw [ej, nI_1 t]
    refine br_c (fun z => nm_e (nm_r (nI_1 j) (ih (j + 1) (by omega) _ (fun i => ?_)))) (fun z => nm_r (nI_1 j) (ih (j + 1) (by omega) x (fun i => ?_)))
    · rw [tp_orb _ j (by omega), hx i]
      by_cases y : i = j
      · subst y
        have : bt w i = true := (r1 i hj4).mpr z
        simp [this]
      · rw [show i < j + 1 ↔ i < j by omega]
        simp [y]
    · rw [hx i]
      by_cases y : i = j
      · subst y
        have : ¬ bt w i = true := fun w' => z ((r1 i hj4).mp w')
        simp [this]
      · rw [show i < j + 1 ↔ i < j by omega]
theorem i_vc_keys {k : Nat} {u : SX} {v : SY} (I : i_Rel k u v) (hk : k + 4 ≤ 2048) (v1 : Int32) : wpX_keys (fun r => wpY_keys (fun r' => r' = r ∧ i_Rel (k + 4) u v) v v1) u v1 := by
  obtain ⟨o, c, nu, dr, hb, wb, ho, se, ch, ac, rfl, rfl, R⟩ := I
  have J : ∀ n, i_Rel n (o, c, nu, dr, hb, wb) (c, nu, ho, se, ch, ac) := fun n => ⟨o, c, nu, dr, hb, wb, ho, se, ch, ac, rfl, rfl, R⟩
  unfold wpX_keys
  dsimp only
  rcases tp_op R v1 with ⟨t, ht, rfl, hx, ha⟩ | ⟨hX, hY⟩
  · have et : (nI t).toNatClampNeg = t := nI_clamp (by omega)
    have hi : vp_in (nI t) 4 := vp_in_nI ht (by decide)
    refine tp_xop1 ht hx (br_f tp_10 ⟨hi, ?_⟩)
    rw [et]
    obtain ⟨r1, r2, r3, r4, r5, r6, r7, r8, r9, r10⟩ := R
    refine ⟨13, tp_kyL (w := hb t) ht ha (r4 t ht) (r5 t ht) ⟨rfl, J _⟩ 12 0 rfl 0 (fun i => ?_)⟩
    rw [b_0]
    simp
  · refine hX c _ (br_t rfl ⟨1, br_f (by decide) (hY c _ (br_t rfl ⟨rfl, J _⟩))⟩)
theorem tp_wrL {post : Int32 → Prop} {c w : Int32} {nu ho se ch ac : Nat → Int32} {t : Nat} (ht : t < 4) (ha : ¬ ac t = 0) (r1 : ∀ k, k < 12 → (bt w k = true ↔ (ho k = nI (t + 1) ∧ ¬ ch k = 0))) (r2 : ∀ i, 12 ≤ i → ¬ bt w i = true) (hp : post w) :
    ∀ d j, j + d = 12 → ∀ x : Int32, (∀ i, bt x i = true ↔ (i < j ∧ bt w i = true)) → wY_written_4 post (nI t) c nu ho se ch ac (d + 1) x (nI j) := by
  intro d
  induction d with
  | zero =>
    intro j hj x hx
    have : j = 12 := by omega
    subst this
    have h4 : (12 : Int32) ≤ nI 12 := nI_le (a := 12) (b := 12) (by omega) (by decide)
    have e : x = w := by
      apply b_ext
      intro i _
      rw [Bool.eq_iff_iff, hx i]
      exact ⟨fun h => h.2, fun h => ⟨Nat.lt_of_not_le (fun z => r2 i z h), h⟩⟩
    rw [e]
    exact br_t h4 hp
  | succ d ih =>
    intro j hj x hx
    have hj4 : j < 12 := by omega
    have ej : (nI j).toNatClampNeg = j := nI_clamp (by omega)
    have hi : vp_in (nI j) 12 := vp_in_nI hj4 (by decide)
    have hn : ¬ (12 : Int32) ≤ nI j := nI_ge (b := 12) (by omega) (by decide)
    have keep : ¬ bt w j = true → wY_written_4 post (nI t) c nu ho se ch ac (d + 1) x (nI (j + 1)) := by
      intro nz
      refine ih (j + 1) (by omega) x (fun i => ?_)
      rw [hx i]
      by_cases y : i = j
      · subst y
        simp [nz]
      · rw [show i < j + 1 ↔ i < j by omega]
    refine br_f hn (tp_yop1 ht ha (br_f tp_10 ⟨hi, ?_⟩))
    rw [ej, nI_1 t]
    refine br_c (fun z => ⟨hi, br_c (fun y => nm_r (nI_1 j) (keep (fun h => ((r1 j hj4).mp h).2 y))) (fun z2 => nm_e (nm_r (nI_1 j) (ih (j + 1) (by omega) _ (fun i => ?_))))⟩) (fun z => nm_r (nI_1 j) (keep (fun h => z ((r1 j hj4).mp h).1)))
    rw [tp_orb _ j (by omega), hx i]
    by_cases y : i = j
    · subst y
      have : bt w i = true := (r1 i hj4).mpr ⟨z, z2⟩
      simp [this]
    · rw [show i < j + 1 ↔ i < j by omega]
      simp [y]
theorem i_vc_written {k : Nat} {u : SX} {v : SY} (I : i_Rel k u v) (hk : k + 4 ≤ 2048) (v1 : Int32) : wpX_written (fun r => wpY_written (fun r' => r' = r ∧ i_Rel (k + 4) u v) v v1) u v1 := by
  obtain ⟨o, c, nu, dr, hb, wb, ho, se, ch, ac, rfl, rfl, R⟩ := I
  have J : ∀ n, i_Rel n (o, c, nu, dr, hb, wb) (c, nu, ho, se, ch, ac) := fun n => ⟨o, c, nu, dr, hb, wb, ho, se, ch, ac, rfl, rfl, R⟩
  unfold wpX_written
  dsimp only
  rcases tp_op R v1 with ⟨t, ht, rfl, hx, ha⟩ | ⟨hX, hY⟩
  · have et : (nI t).toNatClampNeg = t := nI_clamp (by omega)
    have hi : vp_in (nI t) 4 := vp_in_nI ht (by decide)
    refine tp_xop1 ht hx (br_f tp_10 ⟨hi, ?_⟩)
    rw [et]
    obtain ⟨r1, r2, r3, r4, r5, r6, r7, r8, r9, r10⟩ := R
    refine ⟨13, tp_wrL (w := wb t) ht ha (r6 t ht) (r7 t ht) ⟨rfl, J _⟩ 12 0 rfl 0 (fun i => ?_)⟩
    rw [b_0]
    simp
  · refine hX c _ (br_t rfl ⟨1, br_f (by decide) (hY c _ (br_t rfl ⟨rfl, J _⟩))⟩)
