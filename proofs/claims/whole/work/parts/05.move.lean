/-! move -/
theorem tp_120 : ¬ (12 : Int32) = 0 := by decide
theorem tp_rem12 {j : Nat} (hj : j < 144) : nI j - nI j / 12 * 12 = nI (j % 12) := pk_rem (d := 12) (by omega) (by omega) (by omega)
theorem tp_div12 {j : Nat} (hj : j < 144) : nI j / 12 = nI (j / 12) := pk_div (d := 12) (by omega) (by omega) (by omega)
/-- the class's head of move, to its two keys -/
theorem tp_xmv {o c : Int32} {nu dr hb wb : Nat → Int32} {t j : Nat} (ht : t < 4) (hx : bt o t = true) (hj : j < 144) {p : Int32} (h0 : ¬ p < 0) (h9 : p ≤ 9999) (hne : j % 12 ≠ j / 12) {post : Int32 → SX → Prop}
    (h : wpX_isHeldByAnother (fun r_18 => (((r_18 = 0 → (wpX_isHeldByAnother (fun r_26 => (((r_26 = 0 → (wpX_numberSeen (fun r_34 => (wpX_numberSeen (fun r_42 => (wpX_isNumber (fun r_50 => (((r_50 = 0 → (post (-200000) (o, c, nu, dr, hb, wb))) ∧ (¬ r_50 = 0 → (wpX_isNumber (fun r_52 => (((r_52 = 0 → (post (-200000) (o, c, nu, dr, hb, wb))) ∧ (¬ r_52 = 0 → (wpX_write (fun u => wpX_write (fun u => post (r_34 - p) u) u (nI t) (nI (j / 12)) (r_42 + p)) (o, c, nu, dr, hb, wb) (nI t) (nI (j % 12)) (r_34 - p)))))) (r_42 + p)))))) (r_34 - p))) (o, c, nu, dr, hb, wb) (nI t) (nI (j / 12)))) (o, c, nu, dr, hb, wb) (nI t) (nI (j % 12)))) ∧ (¬ r_26 = 0 → (post (-300000) (o, c, nu, dr, hb, wb)))))) (o, c, nu, dr, hb, wb) (nI t) (nI (j / 12)))) ∧ (¬ r_18 = 0 → (post (-300000) (o, c, nu, dr, hb, wb)))))) (o, c, nu, dr, hb, wb) (nI t) (nI (j % 12))) :
    wpX_move post (o, c, nu, dr, hb, wb) (nI t) (nI j) p := by
  have n1 : ¬ nI (j % 12) = nI (j / 12) := fun e => hne (tp_ni e (by omega) (by omega))
  unfold wpX_move
  dsimp only
  rw [tp_rem12 hj, tp_div12 hj]
  refine tp_xop1 ht hx (br_f tp_10 (br_f (nI_pos (by omega)) (br_t (nI_lt (b := 144) hj (by decide)) ⟨tp_120, nm_e ⟨tp_120, nm_e (br_f n1 (br_f h0 (br_t h9 ?_)))⟩⟩)))
  simp only [forall_eq]
  exact h
theorem tp_ymv {c : Int32} {nu ho se ch ac : Nat → Int32} {t j : Nat} (ht : t < 4) (ha : ¬ ac t = 0) (hj : j < 144) {p : Int32} (h0 : ¬ p < 0) (h9 : p ≤ 9999) (hne : j % 12 ≠ j / 12) {post : Int32 → SY → Prop}
    (h : wpY_busy (fun r_20 => (((r_20 = 0 → (wpY_busy (fun r_28 => (((r_28 = 0 → (wpY_sees (fun r_36 => (wpY_sees (fun r_44 => (wpY_fits (fun r_52 => (((r_52 = 0 → (post (-200000) (c, nu, ho, se, ch, ac))) ∧ (¬ r_52 = 0 → (wpY_fits (fun r_60 => (((r_60 = 0 → (post (-200000) (c, nu, ho, se, ch, ac))) ∧ (¬ r_60 = 0 → (wpY_put (fun r_68 u => wpY_put (fun r_75 u => post (r_36 - p) u) u (nI t) (nI (j / 12)) (r_44 + p)) (c, nu, ho, se, ch, ac) (nI t) (nI (j % 12)) (r_36 - p)))))) (c, nu, ho, se, ch, ac) (r_44 + p)))))) (c, nu, ho, se, ch, ac) (r_36 - p))) (c, nu, ho, se, ch, ac) (nI t) (nI (j / 12)))) (c, nu, ho, se, ch, ac) (nI t) (nI (j % 12)))) ∧ (¬ r_28 = 0 → (post (-300000) (c, nu, ho, se, ch, ac)))))) (c, nu, ho, se, ch, ac) (nI t) (nI (j / 12)))) ∧ (¬ r_20 = 0 → (post (-300000) (c, nu, ho, se, ch, ac)))))) (c, nu, ho, se, ch, ac) (nI t) (nI (j % 12))) :
    wpY_move post (c, nu, ho, se, ch, ac) (nI t) (nI j) p := by
  have n1 : ¬ nI (j % 12) = nI (j / 12) := fun e => hne (tp_ni e (by omega) (by omega))
  unfold wpY_move
  dsimp only
  rw [tp_rem12 hj, tp_div12 hj]
  refine tp_yop1 ht ha (br_f tp_10 (br_f (nI_pos (by omega)) (br_f (nI_nlt (b := j) (a := 143) (by omega) (by decide)) ⟨tp_120, tp_120, br_f n1 (br_f h0 (br_t h9 ⟨tp_120, nm_e ⟨tp_120, nm_e ?_⟩⟩))⟩)))
  simp only [forall_eq]
  exact h
theorem i_vc_move {k : Nat} {u : SX} {v : SY} (I : i_Rel k u v) (hk : k + 4 ≤ 2048) (v1 : Int32) (v2 : Int32) (v3 : Int32) : wpX_move (fun r u' => wpY_move (fun r' v' => r' = r ∧ i_Rel (k + 4) u' v') v v1 v2 v3) u v1 v2 v3 := by
  obtain ⟨o, c, nu, dr, hb, wb, ho, se, ch, ac, rfl, rfl, R⟩ := I
  have J : ∀ n, i_Rel n (o, c, nu, dr, hb, wb) (c, nu, ho, se, ch, ac) := fun n => ⟨o, c, nu, dr, hb, wb, ho, se, ch, ac, rfl, rfl, R⟩
  rcases tp_op R v1 with ⟨t, ht, rfl, hx, ha⟩ | ⟨hX, hY⟩
  · rcases tp_ix v2 144 (by decide) with ⟨j, hj, rfl⟩ | h | ⟨h0, h4, h3⟩
    · by_cases hp : v3 < 0 ∨ ¬ v3 ≤ 9999 ∨ j % 12 = j / 12
      · have bX : ∀ post : Int32 → SX → Prop, post (-100000) (o, c, nu, dr, hb, wb) → wpX_move post (o, c, nu, dr, hb, wb) (nI t) (nI j) v3 := by
          intro post hq
          unfold wpX_move
          dsimp only
          rw [tp_rem12 hj, tp_div12 hj]
          refine tp_xop1 ht hx (br_f tp_10 (br_f (nI_pos (by omega)) (br_t (nI_lt (b := 144) hj (by decide)) ⟨tp_120, nm_e ⟨tp_120, nm_e (br_c (fun _ => hq) (fun n1 => br_c (fun _ => hq) (fun n2 => br_c (fun n3 => ?_) (fun _ => hq))))⟩⟩)))
          rcases hp with h | h | h
          · exact absurd h n2
          · exact absurd n3 h
          · exact absurd (congrArg nI h) n1
        have bY : ∀ post : Int32 → SY → Prop, post (-100000) (c, nu, ho, se, ch, ac) → wpY_move post (c, nu, ho, se, ch, ac) (nI t) (nI j) v3 := by
          intro post hq
          unfold wpY_move
          dsimp only
          rw [tp_rem12 hj, tp_div12 hj]
          refine tp_yop1 ht ha (br_f tp_10 (br_f (nI_pos (by omega)) (br_f (nI_nlt (b := j) (a := 143) (by omega) (by decide)) ⟨tp_120, tp_120, br_c (fun _ => hq) (fun n1 => br_c (fun _ => hq) (fun n2 => br_c (fun n3 => ?_) (fun _ => hq)))⟩)))
          rcases hp with h | h | h
          · exact absurd h n2
          · exact absurd n3 h
          · exact absurd (congrArg nI h) n1
        exact bX _ (bY _ ⟨rfl, J _⟩)
      · have n0 : ¬ v3 < 0 := fun z => hp (Or.inl z)
        have n9 : v3 ≤ 9999 := by
          by_cases z : v3 ≤ 9999
          · exact z
          · exact absurd (Or.inr (Or.inl z)) hp
        have ne : j % 12 ≠ j / 12 := fun z => hp (Or.inr (Or.inr z))
        have ha12 : j % 12 < 12 := by omega
        have hb12 : j / 12 < 12 := by omega
        refine tp_xmv ht hx hj n0 n9 ne ?_
        rcases tp_busy R ht ha12 with ⟨hh, aX, aY⟩ | ⟨aX, aY⟩
        · refine aX c _ (br_t rfl ?_)
          rcases tp_busy R ht hb12 with ⟨hh2, bX, bY⟩ | ⟨bX, bY⟩
          · refine bX c _ (br_t rfl ?_)
            obtain ⟨s1, sX1, sY1⟩ := tp_see R ht ha12 hh
            obtain ⟨s2, sX2, sY2⟩ := tp_see R ht hb12 hh2
            refine sX1 c _ (sX2 c _ ?_)
            rcases tp_num (s1 - v3) with hN1 | ⟨nX, nY⟩
            · refine tp_xn1 hN1 (br_f tp_10 ?_)
              rcases tp_num (s2 + v3) with hN2 | ⟨nX, nY⟩
              · refine tp_xn1 hN2 (br_f tp_10 ?_)
                obtain ⟨_, dr', hb', wb', ho', se', ch', _, hW, hP, R', hh'⟩ := tp_put R ht ha12 ha hh hN1
                have hh2' : ho' (j / 12) = 0 ∨ ho' (j / 12) = nI (t + 1) := by
                  rcases hh' (j / 12) with e | e
                  · rw [e]; exact hh2
                  · exact Or.inr e
                obtain ⟨_, dr2, hb2, wb2, ho2, se2, ch2, _, hW2, hP2, R2, _⟩ := tp_put R' ht hb12 ha hh2' hN2
                refine hW c _ (hW2 c _ ?_)
                refine tp_ymv ht ha hj n0 n9 ne ?_
                refine aY c _ (br_t rfl (bY c _ (br_t rfl (sY1 c _ (sY2 c _ (tp_yn1 hN1 (br_f tp_10 (tp_yn1 hN2 (br_f tp_10 ?_)))))))))
                exact hP c _ (hP2 c _ ⟨rfl, _, _, _, _, _, _, _, _, _, _, rfl, rfl, R2⟩)
              · refine nX _ (br_t rfl ?_)
                refine tp_ymv ht ha hj n0 n9 ne ?_
                exact aY c _ (br_t rfl (bY c _ (br_t rfl (sY1 c _ (sY2 c _ (tp_yn1 hN1 (br_f tp_10 (nY _ _ _ _ _ _ _ (br_t rfl ⟨rfl, J _⟩)))))))))
            · refine nX _ (br_t rfl ?_)
              refine tp_ymv ht ha hj n0 n9 ne ?_
              exact aY c _ (br_t rfl (bY c _ (br_t rfl (sY1 c _ (sY2 c _ (nY _ _ _ _ _ _ _ (br_t rfl ⟨rfl, J _⟩)))))))
          · refine bX c _ (br_f tp_10 ?_)
            refine tp_ymv ht ha hj n0 n9 ne ?_
            exact aY c _ (br_t rfl (bY c _ (br_f tp_10 ⟨rfl, J _⟩)))
        · refine aX c _ (br_f tp_10 ?_)
          refine tp_ymv ht ha hj n0 n9 ne ?_
          exact aY c _ (br_f tp_10 ⟨rfl, J _⟩)
    · unfold wpX_move
      dsimp only
      refine tp_xop1 ht hx (br_f tp_10 (br_t h ?_))
      unfold wpY_move
      dsimp only
      exact tp_yop1 ht ha (br_f tp_10 (br_t h ⟨rfl, J _⟩))
    · unfold wpX_move
      dsimp only
      refine tp_xop1 ht hx (br_f tp_10 (br_f h0 (br_f (Int32.not_lt.mpr h4) ?_)))
      unfold wpY_move
      dsimp only
      exact tp_yop1 ht ha (br_f tp_10 (br_f h0 (br_t (h3 143 (by decide)) ⟨rfl, J _⟩)))
  · unfold wpX_move
    dsimp only
    refine hX c _ (br_t rfl ?_)
    unfold wpY_move
    dsimp only
    exact hY c _ (br_t rfl ⟨rfl, J _⟩)
