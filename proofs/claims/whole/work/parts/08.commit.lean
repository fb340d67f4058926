/-! commit -/
theorem tp_nq {a b : Nat} (h : a ≠ b) (ha : a < 2 ^ 31) (hb : b < 2 ^ 31) : ¬ nI a = nI b := fun e => h (tp_ni e ha hb)
/-- behind an early breakdown: carried out if it is still open -/
theorem tp_early {o : Int32} {nu dr hb wb ho se ch ac : Nat → Int32} (R : tp_R o nu dr hb wb ho se ch ac) {t q : Nat} (ht : t < 4) (hq : q = 1 ∨ q = 2) (x3 : Int32) :
    ∃ (r o' : Int32) (f : Int32 → Int32) (nu' hb' wb' ho' ac' : Nat → Int32), (∀ (c : Int32) (post : Int32 → SX → Prop), post r (o', f c, nu', dr, hb', wb') → wX_commit_50 post (nI t) (nI q) x3 o c nu dr hb wb) ∧
      (∀ (c : Int32) (post : Int32 → SY → Prop), post r (f c, nu', ho', se, ch, ac') → wY_commit_98 post (nI t) 1 c nu ho se ch ac) ∧ tp_R o' nu' dr hb' wb' ho' se ch ac' := by
  have et : (nI t).toNatClampNeg = t := nI_clamp (by omega)
  have hi : vp_in (nI t) 4 := vp_in_nI ht (by decide)
  have n3 : ¬ nI q = 3 := tp_nq (b := 3) (by omega) (by omega) (by omega)
  have n4 : ¬ nI q = 4 := tp_nq (b := 4) (by omega) (by omega) (by omega)
  have n5 : ¬ nI q = 5 := tp_nq (b := 5) (by omega) (by omega) (by omega)
  by_cases z : bt o t = true
  · have za : ¬ ac t = 0 := (R.1 t ht).mp z
    have za' : ¬ ac (nI t).toNatClampNeg = 0 := by rw [et]; exact za
    obtain ⟨o', nu', hb', wb', ho', ac', dX, dY, R'⟩ := tp_done R ht
    refine ⟨1, o', fun c => c + 1, nu', hb', wb', ho', ac', fun c post hp => ?_, fun c post hp => ?_, R'⟩
    · unfold wX_commit_50
      refine tp_xop1 ht z (br_f tp_10 (dX c _ ?_))
      refine br_f n3 ?_
      unfold wX_commit_76
      exact br_f n4 (br_f n5 hp)
    · unfold wY_commit_98
      exact br_f tp_10 ⟨hi, br_f za' (dY c _ hp)⟩
  · have za : ac (nI t).toNatClampNeg = 0 := by
      rw [et]
      by_cases y : ac t = 0
      · exact y
      · exact absurd ((R.1 t ht).mpr y) z
    refine ⟨0, o, fun c => c, nu, hb, wb, ho, ac, fun c post hp => ?_, fun c post hp => ?_, R⟩
    · unfold wX_commit_50
      exact tp_xop0 ht z (br_t rfl hp)
    · unfold wY_commit_98
      refine br_f tp_10 ⟨hi, br_t za ?_⟩
      unfold wY_commit_120
      exact br_f tp_10 hp
/-- no early breakdown: carried out, and what breaks down then -/
theorem tp_late {o : Int32} {nu dr hb wb ho se ch ac : Nat → Int32} (R : tp_R o nu dr hb wb ho se ch ac) {t q m : Nat} (ht : t < 4) (hz : bt o t = true) (hq : q < 8) (h1 : q ≠ 1) (h2 : q ≠ 2) (hm : m < 3) :
    ∃ (o' : Int32) (nu' hb' wb' ho' ac' : Nat → Int32), (∀ (c : Int32) (post : Int32 → SX → Prop), post 1 (o', c + 1, nu', dr, hb', wb') → wX_commit_50 post (nI t) (nI q) (nI m) o c nu dr hb wb) ∧
      (∀ (c : Int32) (post : Int32 → SY → Prop), post 1 (c + 1, nu', ho', se, ch, ac') → wY_commit_45 post (nI t) (nI q) (nI m) 0 c nu ho se ch ac) ∧ tp_R o' nu' dr hb' wb' ho' se ch ac' := by
  have m1 : ¬ nI q = 1 := tp_nq (b := 1) h1 (by omega) (by omega)
  have m2 : ¬ nI q = 2 := tp_nq (b := 2) h2 (by omega) (by omega)
  obtain ⟨o1, nu1, hb1, wb1, ho1, ac1, dX, dY, R1⟩ := tp_done R ht
  have k98 : ∀ (c : Int32) (nu ho ac : Nat → Int32) (post : Int32 → SY → Prop), post 1 (c, nu, ho, se, ch, ac) → wY_commit_98 post (nI t) 0 c nu ho se ch ac := by
    intro c nu ho ac post hp
    unfold wY_commit_98
    refine br_t rfl ?_
    unfold wY_commit_120
    exact br_t rfl hp
  by_cases e3 : q = 3
  · subst e3
    obtain ⟨r, o', hb', wb', ho', ac', iX, iY, R'⟩ := tp_br R1 (m := 3) (by omega)
    refine ⟨o', nu1, hb', wb', ho', ac', fun c post hp => ?_, fun c post hp => ?_, R'⟩
    · unfold wX_commit_50
      refine tp_xop1 ht hz (br_f tp_10 (dX c _ ?_))
      refine br_t rfl (iX _ _ ?_)
      unfold wX_commit_76
      exact br_f (tp_nq (b := 4) (by omega) (by omega) (by omega)) (br_f (tp_nq (b := 5) (by omega) (by omega) (by omega)) hp)
    · unfold wY_commit_45
      refine br_t rfl (dY c _ ?_)
      unfold wY_commit_58
      refine br_f m2 (br_t rfl ?_)
      unfold wY_commit_68
      exact iY _ _ (k98 _ _ _ _ _ hp)
  · have m3 : ¬ nI q = 3 := tp_nq (b := 3) e3 (by omega) (by omega)
    by_cases e45 : q = 4 ∨ q = 5
    · obtain ⟨r, o', hb', wb', ho', ac', iX, iY, R'⟩ := tp_br R1 (m := m) (by omega)
      refine ⟨o', nu1, hb', wb', ho', ac', fun c post hp => ?_, fun c post hp => ?_, R'⟩
      · unfold wX_commit_50
        refine tp_xop1 ht hz (br_f tp_10 (dX c _ ?_))
        refine br_f m3 ?_
        unfold wX_commit_76
        have h86 : wX_commit_86 post (nI m) o1 (c + 1) nu1 dr hb1 wb1 := by
          unfold wX_commit_86
          exact iX _ _ hp
        rcases e45 with e | e
        · subst e
          exact br_t rfl h86
        · subst e
          exact br_f (tp_nq (b := 4) (by omega) (by omega) (by omega)) (br_t rfl h86)
      · unfold wY_commit_45
        refine br_t rfl (dY c _ ?_)
        unfold wY_commit_58
        have h92 : wY_commit_92 post (nI t) (nI m) 0 (c + 1) nu1 ho1 se ch ac1 := by
          unfold wY_commit_92
          exact iY _ _ (k98 _ _ _ _ _ hp)
        refine br_f m2 (br_f m3 (br_f m1 ?_))
        rcases e45 with e | e
        · subst e
          exact br_t rfl h92
        · subst e
          exact br_f (tp_nq (b := 4) (by omega) (by omega) (by omega)) (br_t rfl h92)
    · have m4 : ¬ nI q = 4 := tp_nq (b := 4) (fun e => e45 (Or.inl e)) (by omega) (by omega)
      have m5 : ¬ nI q = 5 := tp_nq (b := 5) (fun e => e45 (Or.inr e)) (by omega) (by omega)
      refine ⟨o1, nu1, hb1, wb1, ho1, ac1, fun c post hp => ?_, fun c post hp => ?_, R1⟩
      · unfold wX_commit_50
        refine tp_xop1 ht hz (br_f tp_10 (dX c _ ?_))
        refine br_f m3 ?_
        unfold wX_commit_76
        exact br_f m4 (br_f m5 hp)
      · unfold wY_commit_45
        refine br_t rfl (dY c _ ?_)
        unfold wY_commit_58
        exact br_f m2 (br_f m3 (br_f m1 (br_f m4 (br_f m5 (k98 _ _ _ _ _ hp)))))
/-- the whole of commit, within the ranges -/
theorem tp_com {o : Int32} {nu dr hb wb ho se ch ac : Nat → Int32} (R : tp_R o nu dr hb wb ho se ch ac) {t q m : Nat} (ht : t < 4) (hz : bt o t = true) (hq : q < 8) (hm : m < 3) :
    ∃ (r o' : Int32) (f : Int32 → Int32) (nu' hb' wb' ho' ac' : Nat → Int32), (∀ (c : Int32) (post : Int32 → SX → Prop), post r (o', f c, nu', dr, hb', wb') → wpX_commit post (o, c, nu, dr, hb, wb) (nI t) (nI q) (nI m)) ∧
      (∀ (c : Int32) (post : Int32 → SY → Prop), post r (f c, nu', ho', se, ch, ac') → wpY_commit post (c, nu, ho, se, ch, ac) (nI t) (nI q) (nI m)) ∧ tp_R o' nu' dr hb' wb' ho' se ch ac' := by
  have ha : ¬ ac t = 0 := (R.1 t ht).mp hz
  have q0 : ¬ nI q < 0 := nI_pos (by omega)
  have q7 : ¬ (7 : Int32) < nI q := nI_nlt (b := q) (a := 7) (by omega) (by decide)
  have m0 : ¬ nI m < 0 := nI_pos (by omega)
  have m2 : nI m ≤ 2 := nI_le (b := 2) (by omega) (by decide)
  by_cases e1 : q = 1
  · subst e1
    obtain ⟨r1, o1, hb1, wb1, ho1, ac1, iX, iY, R1⟩ := tp_br R (m := m) (by omega)
    obtain ⟨r, o', f, nu', hb', wb', ho', ac', jX, jY, R'⟩ := tp_early R1 ht (Or.inl rfl) (nI m)
    refine ⟨r, o', f, nu', hb', wb', ho', ac', fun c post hp => ?_, fun c post hp => ?_, R'⟩
    · unfold wpX_commit
      dsimp only
      refine tp_xop1 ht hz (br_f tp_10 (br_f q0 (br_f q7 (tp_km1 hm (br_f tp_10 (br_t rfl (iX c _ ?_)))))))
      dsimp only
      unfold wX_commit_39
      exact br_f (tp_nq (b := 2) (by omega) (by omega) (by omega)) (jX c _ hp)
    · unfold wpY_commit
      dsimp only
      refine tp_yop1 ht ha (br_f tp_10 (br_f q0 (br_f q7 (br_f m0 (br_t m2 (br_t rfl ?_))))))
      unfold wY_commit_40 wY_commit_45
      refine br_f tp_10 ?_
      unfold wY_commit_58
      refine br_f (tp_nq (b := 2) (by omega) (by omega) (by omega)) (br_f (tp_nq (b := 3) (by omega) (by omega) (by omega)) (br_t rfl ?_))
      unfold wY_commit_92
      exact iY c _ (jY c _ hp)
  · have n1 : ¬ nI q = 1 := tp_nq (b := 1) e1 (by omega) (by omega)
    by_cases e2 : q = 2
    · subst e2
      obtain ⟨r1, o1, hb1, wb1, ho1, ac1, iX, iY, R1⟩ := tp_br R (m := 3) (by omega)
      obtain ⟨r, o', f, nu', hb', wb', ho', ac', jX, jY, R'⟩ := tp_early R1 ht (Or.inr rfl) (nI m)
      refine ⟨r, o', f, nu', hb', wb', ho', ac', fun c post hp => ?_, fun c post hp => ?_, R'⟩
      · unfold wpX_commit
        dsimp only
        refine tp_xop1 ht hz (br_f tp_10 (br_f q0 (br_f q7 (tp_km1 hm (br_f tp_10 (br_f n1 ?_))))))
        unfold wX_commit_39
        exact br_t rfl (iX c _ (jX c _ hp))
      · unfold wpY_commit
        dsimp only
        refine tp_yop1 ht ha (br_f tp_10 (br_f q0 (br_f q7 (br_f m0 (br_t m2 (br_f n1 (br_t rfl ?_)))))))
        unfold wY_commit_40 wY_commit_45
        refine br_f tp_10 ?_
        unfold wY_commit_58
        refine br_t rfl ?_
        unfold wY_commit_68
        exact iY c _ (jY c _ hp)
    · have n2 : ¬ nI q = 2 := tp_nq (b := 2) e2 (by omega) (by omega)
      obtain ⟨o', nu', hb', wb', ho', ac', jX, jY, R'⟩ := tp_late R ht hz hq e1 e2 hm
      refine ⟨1, o', fun c => c + 1, nu', hb', wb', ho', ac', fun c post hp => ?_, fun c post hp => ?_, R'⟩
      · unfold wpX_commit
        dsimp only
        refine tp_xop1 ht hz (br_f tp_10 (br_f q0 (br_f q7 (tp_km1 hm (br_f tp_10 (br_f n1 ?_))))))
        unfold wX_commit_39
        exact br_f n2 (jX c _ hp)
      · unfold wpY_commit
        dsimp only
        exact tp_yop1 ht ha (br_f tp_10 (br_f q0 (br_f q7 (br_f m0 (br_t m2 (br_f n1 (br_f n2 (jY c _ hp))))))))
theorem i_vc_commit {k : Nat} {u : SX} {v : SY} (I : i_Rel k u v) (hk : k + 4 ≤ 2048) (v1 : Int32) (v2 : Int32) (v3 : Int32) : wpX_commit (fun r u' => wpY_commit (fun r' v' => r' = r ∧ i_Rel (k + 4) u' v') v v1 v2 v3) u v1 v2 v3 := by
  obtain ⟨o, c, nu, dr, hb, wb, ho, se, ch, ac, rfl, rfl, R⟩ := I
  have J : ∀ n, i_Rel n (o, c, nu, dr, hb, wb) (c, nu, ho, se, ch, ac) := fun n => ⟨o, c, nu, dr, hb, wb, ho, se, ch, ac, rfl, rfl, R⟩
  rcases tp_op R v1 with ⟨t, ht, rfl, hx, ha⟩ | ⟨hX, hY⟩
  · rcases tp_ix v2 8 (by decide) with ⟨q, hq, rfl⟩ | h | ⟨h0, h4, h3⟩
    · have q0 : ¬ nI q < 0 := nI_pos (by omega)
      have q7 : ¬ (7 : Int32) < nI q := nI_nlt (b := q) (a := 7) (by omega) (by decide)
      rcases tp_ix v3 3 (by decide) with ⟨m, hm, rfl⟩ | h | ⟨h0, h4, h3⟩
      · obtain ⟨r, o', f, nu', hb', wb', ho', ac', jX, jY, R'⟩ := tp_com R ht hx hq hm
        exact jX c _ (jY c _ ⟨rfl, _, _, _, _, _, _, _, _, _, _, rfl, rfl, R'⟩)
      · unfold wpX_commit
        dsimp only
        refine tp_xop1 ht hx (br_f tp_10 (br_f q0 (br_f q7 (br_t h (br_t rfl ?_)))))
        unfold wpY_commit
        dsimp only
        exact tp_yop1 ht ha (br_f tp_10 (br_f q0 (br_f q7 (br_t h ⟨rfl, J _⟩))))
      · unfold wpX_commit
        dsimp only
        refine tp_xop1 ht hx (br_f tp_10 (br_f q0 (br_f q7 (br_f h0 (br_t h4 (br_t rfl ?_))))))
        unfold wpY_commit
        dsimp only
        exact tp_yop1 ht ha (br_f tp_10 (br_f q0 (br_f q7 (br_f h0 (br_f (Int32.not_le.mpr (h3 2 (by decide))) ⟨rfl, J _⟩)))))
    · unfold wpX_commit
      dsimp only
      refine tp_xop1 ht hx (br_f tp_10 (br_t h ?_))
      unfold wpY_commit
      dsimp only
      exact tp_yop1 ht ha (br_f tp_10 (br_t h ⟨rfl, J _⟩))
    · unfold wpX_commit
      dsimp only
      refine tp_xop1 ht hx (br_f tp_10 (br_f h0 (br_t (h3 7 (by decide)) ?_)))
      unfold wpY_commit
      dsimp only
      exact tp_yop1 ht ha (br_f tp_10 (br_f h0 (br_t (h3 7 (by decide)) ⟨rfl, J _⟩)))
  · unfold wpX_commit
    dsimp only
    refine hX c _ (br_t rfl ?_)
    unfold wpY_commit
    dsimp only
    exact hY c _ (br_t rfl ⟨rfl, J _⟩)
