/-! abort, and breakdowns -/
theorem tp_abL {o : Int32} {nu dr hb wb ho se ch ac : Nat → Int32} (R : tp_R o nu dr hb wb ho se ch ac) {t : Nat} (ht : t < 4) :
    ∀ d j, j + d = 12 → ∀ x : Int32, ∃ r : Int32, (∀ (c : Int32) (post : Int32 → SX → Prop), wpX_close (fun u => post r u) (o, c, nu, dr, hb, wb) (nI t) → wX_abort_15 post (nI t) o c nu dr hb wb (d + 1) x (nI j)) ∧
      (∀ (c : Int32) (post : Int32 → SY → Prop), wpY_end (fun u => post r u) (c, nu, ho, se, ch, ac) (nI t) 0 → wY_abort_15 post (nI t) c nu ho se ch ac (d + 1) x (nI j)) := by
  obtain ⟨r1, r2, r3, r4, r5, r6, r7, r8, r9, r10⟩ := R
  have et : (nI t).toNatClampNeg = t := nI_clamp (by omega)
  have hi4 : vp_in (nI t) 4 := vp_in_nI ht (by decide)
  intro d
  induction d with
  | zero =>
    intro j hj x
    have : j = 12 := by omega
    subst this
    have h12 : (12 : Int32) ≤ nI 12 := nI_le (a := 12) (b := 12) (by omega) (by decide)
    exact ⟨x, fun c post hp => br_t h12 hp, fun c post hp => br_t h12 hp⟩
  | succ d ih =>
    intro j hj x
    have ej : (nI j).toNatClampNeg = j := nI_clamp (by omega)
    have hi : vp_in (nI j) 12 := vp_in_nI (by omega) (by decide)
    have hn : ¬ (12 : Int32) ≤ nI j := nI_ge (b := 12) (by omega) (by decide)
    by_cases z : bt (hb t) j = true
    · obtain ⟨r, hX, hY⟩ := ih (j + 1) (by omega) (x + 1)
      have hh : ho (nI j).toNatClampNeg = nI t + 1 := by rw [ej, nI_1]; exact (r4 t ht j (by omega)).mp z
      have z' : bt (hb (nI t).toNatClampNeg) j = true := by rw [et]; exact z
      exact ⟨r, fun c post hp => br_f hn ⟨hi4, tp_hk1 (by omega) z' (br_f tp_10 (nm_e (nm_r (nI_1 j) (hX c post hp))))⟩, fun c post hp => br_f hn ⟨hi, br_t hh (nm_e (nm_r (nI_1 j) (hY c post hp)))⟩⟩
    · obtain ⟨r, hX, hY⟩ := ih (j + 1) (by omega) x
      have hh : ¬ ho (nI j).toNatClampNeg = nI t + 1 := by rw [ej, nI_1]; exact fun e => z ((r4 t ht j (by omega)).mpr e)
      have z' : ¬ bt (hb (nI t).toNatClampNeg) j = true := by rw [et]; exact z
      exact ⟨r, fun c post hp => br_f hn ⟨hi4, tp_hk0 (by omega) z' (br_t rfl (nm_r (nI_1 j) (hX c post hp)))⟩, fun c post hp => br_f hn ⟨hi, br_f hh (nm_r (nI_1 j) (hY c post hp))⟩⟩
theorem i_vc_abort {k : Nat} {u : SX} {v : SY} (I : i_Rel k u v) (hk : k + 4 ≤ 2048) (v1 : Int32) : wpX_abort (fun r u' => wpY_abort (fun r' v' => r' = r ∧ i_Rel (k + 4) u' v') v v1) u v1 := by
  obtain ⟨o, c, nu, dr, hb, wb, ho, se, ch, ac, rfl, rfl, R⟩ := I
  have J : ∀ n, i_Rel n (o, c, nu, dr, hb, wb) (c, nu, ho, se, ch, ac) := fun n => ⟨o, c, nu, dr, hb, wb, ho, se, ch, ac, rfl, rfl, R⟩
  unfold wpX_abort
  dsimp only
  rcases tp_op R v1 with ⟨t, ht, rfl, hx, ha⟩ | ⟨hX, hY⟩
  · obtain ⟨r, hX, hY⟩ := tp_abL R ht 12 0 rfl 0
    obtain ⟨o', hb', wb', ho', ac', cX, cY, R'⟩ := tp_back R ht
    rw [nI_0] at hX hY
    refine tp_xop1 ht hx (br_f tp_10 ⟨13, hX c _ (cX c _ ?_)⟩)
    unfold wpY_abort
    dsimp only
    exact tp_yop1 ht ha (br_f tp_10 ⟨13, hY c _ (cY c _ ⟨rfl, _, _, _, _, _, _, _, _, _, _, rfl, rfl, R'⟩)⟩)
  · refine hX c _ (br_t rfl ?_)
    unfold wpY_abort
    dsimp only
    exact hY c _ (br_t rfl ⟨rfl, J _⟩)
theorem tp_30 : ¬ (3 : Int32) = 0 := by decide
theorem tp_rem3 {j : Nat} (hj : j < 12) : nI j - nI j / 3 * 3 = nI (j % 3) := pk_rem (d := 3) (by omega) (by omega) (by omega)
theorem tp_nb0 : narrow .boolean (.int 0) = .int 0 := rfl
theorem tp_nb1 : narrow .boolean (.int 1) = .int 1 := rfl
theorem tp_hoL {post : Int32 → Prop} {c : Int32} {nu ho se ch ac : Nat → Int32} {t m : Nat} (ht : t < 4) (hm : m < 3)
    (hp0 : (∀ k, k < 12 → k % 3 = m → ¬ ho k = nI (t + 1)) → post 0) (hp1 : (∃ k, k < 12 ∧ k % 3 = m ∧ ho k = nI (t + 1)) → post 1) :
    ∀ d j, j + d = 12 → ((∀ k, k < j → k % 3 = m → ¬ ho k = nI (t + 1)) → wY_holdsOn_5 post (nI t) (nI m) c nu ho se ch ac (d + 1) 0 (nI j)) ∧ ((∃ k, k < 12 ∧ k % 3 = m ∧ ho k = nI (t + 1)) → wY_holdsOn_5 post (nI t) (nI m) c nu ho se ch ac (d + 1) 1 (nI j)) := by
  intro d
  induction d with
  | zero =>
    intro j hj
    have : j = 12 := by omega
    subst this
    have h12 : (12 : Int32) ≤ nI 12 := nI_le (a := 12) (b := 12) (by omega) (by decide)
    exact ⟨fun h => br_t h12 ⟨tp_nb0, hp0 h⟩, fun h => br_t h12 ⟨tp_nb1, hp1 h⟩⟩
  | succ d ih =>
    intro j hj
    have ej : (nI j).toNatClampNeg = j := nI_clamp (by omega)
    have hi : vp_in (nI j) 12 := vp_in_nI (by omega) (by decide)
    have hn : ¬ (12 : Int32) ≤ nI j := nI_ge (b := 12) (by omega) (by decide)
    obtain ⟨i0, i1⟩ := ih (j + 1) (by omega)
    refine ⟨fun h => ?_, fun h => br_f hn (br_f tp_10 (nm_r (nI_1 j) (i1 h)))⟩
    refine br_f hn (br_t rfl ⟨hi, ?_⟩)
    by_cases z : ho j = nI (t + 1)
    · have z' : ho (nI j).toNatClampNeg = nI t + 1 := by rw [ej, nI_1]; exact z
      refine br_t z' ⟨tp_30, ?_⟩
      by_cases y : j % 3 = m
      · have y' : nI j - nI j / 3 * 3 = nI m := by rw [tp_rem3 (by omega), y]
        exact br_t y' (nm_r (nI_1 j) (i1 ⟨j, by omega, y, z⟩))
      · have y' : ¬ nI j - nI j / 3 * 3 = nI m := by
          rw [tp_rem3 (by omega)]
          exact fun e => y (tp_ni e (by omega) (by omega))
        refine br_f y' (nm_r (nI_1 j) (i0 (fun k hk hm => ?_)))
        by_cases w : k = j
        · subst w
          exact absurd hm y
        · exact h k (by omega) hm
    · have z' : ¬ ho (nI j).toNatClampNeg = nI t + 1 := by rw [ej, nI_1]; exact z
      refine br_f z' (nm_r (nI_1 j) (i0 (fun k hk hm => ?_)))
      by_cases w : k = j
      · subst w
        exact z
      · exact h k (by omega) hm
/-- is t hit by the breakdown of m? -/
theorem tp_hits {o : Int32} {nu dr hb wb ho se ch ac : Nat → Int32} (R : tp_R o nu dr hb wb ho se ch ac) {t m : Nat} (ht : t < 4) (hm : m < 3) :
    ((∀ (c : Int32) (post : Int32 → Prop), post 1 → wpX_isHitBy post (o, c, nu, dr, hb, wb) (nI t) (nI m)) ∧ (∀ (c : Int32) (post : Int32 → Prop), post 1 → wpY_holdsOn post (c, nu, ho, se, ch, ac) (nI t) (nI m))) ∨
    ((∀ (c : Int32) (post : Int32 → Prop), post 0 → wpX_isHitBy post (o, c, nu, dr, hb, wb) (nI t) (nI m)) ∧ (∀ (c : Int32) (post : Int32 → Prop), post 0 → wpY_holdsOn post (c, nu, ho, se, ch, ac) (nI t) (nI m))) := by
  obtain ⟨r1, r2, r3, r4, r5, r6, r7, r8, r9, r10⟩ := R
  have et : (nI t).toNatClampNeg = t := nI_clamp (by omega)
  have hi4 : vp_in (nI t) 4 := vp_in_nI ht (by decide)
  have n3 : ¬ nI m = 3 := fun e => by have := tp_ni (b := 3) e (by omega) (by omega); omega
  by_cases z : ∃ k, k < 12 ∧ k % 3 = m ∧ ho k = nI (t + 1)
  · refine Or.inl ⟨fun c post hp => ?_, fun c post hp => ?_⟩
    · have h : ¬ (hb (nI t).toNatClampNeg &&& ((585 : Int32) <<< (nI m &&& 31))) = 0 := by
        rw [et, tp_hit _ m hm]
        intro h
        obtain ⟨k, hk, e, hh⟩ := z
        exact h k hk e ((r4 t ht k hk).mpr hh)
      exact br_f n3 ⟨hi4, br_f h hp⟩
    · have h := (tp_hoL (post := post) (c := c) (nu := nu) (ho := ho) (se := se) (ch := ch) (ac := ac) ht hm (fun w => absurd z (fun ⟨k, hk, e, hh⟩ => w k hk e hh)) (fun _ => hp) 12 0 rfl).1 (fun k hk => by omega)
      exact ⟨13, h⟩
  · have z' : ∀ k, k < 12 → k % 3 = m → ¬ ho k = nI (t + 1) := fun k hk e hh => z ⟨k, hk, e, hh⟩
    refine Or.inr ⟨fun c post hp => ?_, fun c post hp => ?_⟩
    · have h : (hb (nI t).toNatClampNeg &&& ((585 : Int32) <<< (nI m &&& 31))) = 0 := by
        rw [et, tp_hit _ m hm]
        intro k hk e hh
        exact z' k hk e ((r4 t ht k hk).mp hh)
      exact br_f n3 ⟨hi4, br_t h hp⟩
    · have h := (tp_hoL (post := post) (c := c) (nu := nu) (ho := ho) (se := se) (ch := ch) (ac := ac) ht hm (fun _ => hp) (fun w => absurd w z) 12 0 rfl).1 (fun k hk => by omega)
      exact ⟨13, h⟩
/-- both loops over the transactions, side by side -/
theorem tp_brL {nu dr se ch : Nat → Int32} {m : Nat} (hm : m < 4) :
    ∀ d j, j + d = 4 → ∀ (x o : Int32) (hb wb ho ac : Nat → Int32), tp_R o nu dr hb wb ho se ch ac →
      ∃ (r o' : Int32) (hb' wb' ho' ac' : Nat → Int32), (∀ (c : Int32) (post : Int32 → SX → Prop), post r (o', c, nu, dr, hb', wb') → wX_breakDown_4 post (nI m) (d + 1) x (nI j) o c nu dr hb wb) ∧
        (∀ (c : Int32) (post : Int32 → SY → Prop), post r (c, nu, ho', se, ch, ac') → wY_crash_16 post (nI m) (d + 1) x (nI j) c nu ho se ch ac) ∧ tp_R o' nu dr hb' wb' ho' se ch ac' := by
  intro d
  induction d with
  | zero =>
    intro j hj x o hb wb ho ac R
    have : j = 4 := by omega
    subst this
    have h4 : (4 : Int32) ≤ nI 4 := nI_le (a := 4) (b := 4) (by omega) (by decide)
    exact ⟨x, o, hb, wb, ho, ac, fun c post hp => br_t h4 hp, fun c post hp => br_t h4 hp, R⟩
  | succ d ih =>
    intro j hj x o hb wb ho ac R
    have hj4 : j < 4 := by omega
    have ej : (nI j).toNatClampNeg = j := nI_clamp (by omega)
    have hi : vp_in (nI j) 4 := vp_in_nI hj4 (by decide)
    have hn : ¬ (4 : Int32) ≤ nI j := nI_ge (b := 4) (by omega) (by decide)
    by_cases z : bt o j = true
    · have za : ¬ ac (nI j).toNatClampNeg = 0 := by rw [ej]; exact (R.1 j hj4).mp z
      obtain ⟨o1, hb1, wb1, ho1, ac1, cX, cY, R1⟩ := tp_back R hj4
      obtain ⟨r, o', hb', wb', ho', ac', iX, iY, R'⟩ := ih (j + 1) (by omega) (x + 1) o1 hb1 wb1 ho1 ac1 R1
      have c44 : ∀ (c : Int32) (post : Int32 → SY → Prop), post r (c, nu, ho', se, ch, ac') → wY_crash_44 post (wY_crash_16 post (nI m) (d + 1)) (nI m) x (nI j) c nu ho se ch ac := by
        intro c post hp
        unfold wY_crash_44
        exact cY c _ (nm_e (nm_r (nI_1 j) (iY c post hp)))
      by_cases y : m = 3
      · subst y
        have e3 : nI 3 = 3 := rfl
        refine ⟨r, o', hb', wb', ho', ac', fun c post hp => ?_, fun c post hp => ?_, R'⟩
        · exact br_f hn (tp_xop1 hj4 z (br_f tp_10 (br_t e3 (br_f tp_10 (cX c _ (nm_e (nm_r (nI_1 j) (iX c post hp))))))))
        · exact br_f hn ⟨hi, br_f za (br_t e3 (c44 c post hp))⟩
      · have n3 : ¬ nI m = 3 := fun e => by have := tp_ni (b := 3) e (by omega) (by omega); omega
        rcases tp_hits R hj4 (show m < 3 by omega) with ⟨hX, hY⟩ | ⟨hX, hY⟩
        · refine ⟨r, o', hb', wb', ho', ac', fun c post hp => ?_, fun c post hp => ?_, R'⟩
          · exact br_f hn (tp_xop1 hj4 z (br_f tp_10 (hX c _ (br_f tp_10 (cX c _ (nm_e (nm_r (nI_1 j) (iX c post hp))))))))
          · exact br_f hn ⟨hi, br_f za (br_f n3 (hY c _ (br_f tp_10 (c44 c post hp))))⟩
        · obtain ⟨r, o', hb', wb', ho', ac', iX, iY, R'⟩ := ih (j + 1) (by omega) x o hb wb ho ac R
          refine ⟨r, o', hb', wb', ho', ac', fun c post hp => ?_, fun c post hp => ?_, R'⟩
          · exact br_f hn (tp_xop1 hj4 z (br_f tp_10 (hX c _ (br_t rfl (nm_r (nI_1 j) (iX c post hp))))))
          · exact br_f hn ⟨hi, br_f za (br_f n3 (hY c _ (br_t rfl (nm_r (nI_1 j) (iY c post hp)))))⟩
    · have za : ac (nI j).toNatClampNeg = 0 := by
        rw [ej]
        by_cases y : ac j = 0
        · exact y
        · exact absurd ((R.1 j hj4).mpr y) z
      obtain ⟨r, o', hb', wb', ho', ac', iX, iY, R'⟩ := ih (j + 1) (by omega) x o hb wb ho ac R
      refine ⟨r, o', hb', wb', ho', ac', fun c post hp => ?_, fun c post hp => ?_, R'⟩
      · exact br_f hn (tp_xop0 hj4 z (br_t rfl (nm_r (nI_1 j) (iX c post hp))))
      · exact br_f hn ⟨hi, br_t za (nm_r (nI_1 j) (iY c post hp))⟩
theorem tp_br {o : Int32} {nu dr hb wb ho se ch ac : Nat → Int32} (R : tp_R o nu dr hb wb ho se ch ac) {m : Nat} (hm : m < 4) :
    ∃ (r o' : Int32) (hb' wb' ho' ac' : Nat → Int32), (∀ (c : Int32) (post : Int32 → SX → Prop), post r (o', c, nu, dr, hb', wb') → wpX_breakDown post (o, c, nu, dr, hb, wb) (nI m)) ∧
      (∀ (c : Int32) (post : Int32 → SY → Prop), post r (c, nu, ho', se, ch, ac') → wpY_crash post (c, nu, ho, se, ch, ac) (nI m)) ∧ tp_R o' nu dr hb' wb' ho' se ch ac' := by
  obtain ⟨r, o', hb', wb', ho', ac', iX, iY, R'⟩ := tp_brL (nu := nu) (dr := dr) (se := se) (ch := ch) hm 4 0 rfl 0 o hb wb ho ac R
  exact ⟨r, o', hb', wb', ho', ac', fun c post hp => ⟨5, iX c post hp⟩, fun c post hp => br_f (nI_pos (by omega)) (br_t (nI_le (b := 3) (by omega) (by decide)) ⟨5, iY c post hp⟩), R'⟩
theorem i_vc_crash {k : Nat} {u : SX} {v : SY} (I : i_Rel k u v) (hk : k + 4 ≤ 2048) (v1 : Int32) : wpX_crash (fun r u' => wpY_crash (fun r' v' => r' = r ∧ i_Rel (k + 4) u' v') v v1) u v1 := by
  obtain ⟨o, c, nu, dr, hb, wb, ho, se, ch, ac, rfl, rfl, R⟩ := I
  have J : ∀ n, i_Rel n (o, c, nu, dr, hb, wb) (c, nu, ho, se, ch, ac) := fun n => ⟨o, c, nu, dr, hb, wb, ho, se, ch, ac, rfl, rfl, R⟩
  unfold wpX_crash
  dsimp only
  rcases tp_ix v1 4 (by decide) with ⟨m, hm, rfl⟩ | h | ⟨h0, h4, h3⟩
  · obtain ⟨r, o', hb', wb', ho', ac', iX, iY, R'⟩ := tp_br R hm
    have h15 : wX_crash_15 (fun r u' => wpY_crash (fun r' v' => r' = r ∧ i_Rel (k + 4) u' v') (c, nu, ho, se, ch, ac) (nI m)) (nI m) o c nu dr hb wb := by
      unfold wX_crash_15
      exact iX c _ (iY c _ ⟨rfl, _, _, _, _, _, _, _, _, _, _, rfl, rfl, R'⟩)
    by_cases y : m = 3
    · subst y
      exact tp_km0 (by omega) (by omega) (br_t rfl (br_t rfl h15))
    · exact tp_km1 (by omega) (br_f tp_10 h15)
  · have n3 : ¬ v1 = 3 := by
      intro e
      subst e
      exact absurd h (by decide)
    exact br_t h (br_t rfl (br_f n3 (br_t h ⟨rfl, J _⟩)))
  · have n3 : ¬ v1 = 3 := by
      intro e
      subst e
      exact absurd h4 (by decide)
    have l3 : (3 : Int32) ≤ v1 := Int32.le_of_lt (h3 3 (by decide))
    have g3 : ¬ v1 ≤ 3 := Int32.not_le.mpr (h3 3 (by decide))
    exact br_f h0 (br_t l3 (br_t rfl (br_f n3 (br_f h0 (br_f g3 ⟨rfl, J _⟩)))))
