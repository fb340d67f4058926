/-! get, put, move -/
/-- t takes k: the reference's walk, the new relation, and what the class then sees -/
theorem tp_hold {o : Int32} {nu dr hb wb ho se ch ac : Nat → Int32} (R : tp_R o nu dr hb wb ho se ch ac) {t k : Nat} (ht : t < 4) (hk : k < 12) (ha : ¬ ac t = 0) (hh : ho k = 0 ∨ ho k = nI (t + 1)) :
    ∃ ho' se' ch' : Nat → Int32, (∀ (c : Int32) (post : SY → Prop), post (c, nu, ho', se', ch', ac) → wpY_hold post (c, nu, ho, se, ch, ac) (nI t) (nI k)) ∧
      tp_R o nu dr (upd hb t (hb t ||| ((1 : Int32) <<< (nI k &&& 31)))) wb ho' se' ch' ac ∧ ho' k = nI (t + 1) ∧ (∀ j, j ≠ k → ho' j = ho j) ∧ tp_N (se' k) ∧
      (∀ (o c : Int32) (hb : Nat → Int32) (post : Int32 → Prop), post (se' k) → wpX_numberSeen post (o, c, nu, dr, hb, wb) (nI t) (nI k)) := by
  have R' := R
  obtain ⟨r1, r2, r3, r4, r5, r6, r7, r8, r9, r10⟩ := R'
  have ec : (nI k).toNatClampNeg = k := nI_clamp (by omega)
  have hi : vp_in (nI k) 12 := vp_in_nI hk (by decide)
  rcases hh with h | h
  · have hn : ¬ ho k = nI (t + 1) := by rw [h]; exact fun e => tp_ne0 (a := t) (by omega) e.symm
    refine ⟨upd ho k (nI (t + 1)), upd se k (nu k), upd ch k 0, fun c post hp => ?_, ?_, pk_us, fun j hj => pk_un hj, ?_, ?_⟩
    · have h' : ho (nI k).toNatClampNeg = 0 := by rw [ec]; exact h
      refine ⟨hi, br_t h' ⟨hi, nm_r (e' := upd ho k (nI (t + 1))) (by rw [ec, nI_1]) ⟨hi, hi, nm_r (e' := upd se k (nu k)) (by rw [ec]) ⟨hi, nm_r (e' := upd ch k 0) (by rw [ec, tp_vb0]) hp⟩⟩⟩⟩
    · exact tp_Rhold R ht hk ha pk_us (fun j hj => ⟨pk_un hj, pk_un hj, pk_un hj⟩) (Or.inr ⟨h, pk_us, pk_us⟩)
    · rw [pk_us]
      exact r9 k hk
    · intro o c hb post hp
      rw [pk_us] at hp
      exact tp_xsee ht hk (nu k) (fun z => absurd ((r6 t ht k hk).mp z).1 hn) (fun _ => rfl) o c hb post hp
  · have hz : ¬ ho k = 0 := by rw [h]; exact tp_ne0 (by omega)
    have h8 := r8 k hk hz
    refine ⟨ho, se, ch, fun c post hp => ?_, ?_, h, fun j hj => rfl, r10 k hk hz, ?_⟩
    · have h' : ¬ ho (nI k).toNatClampNeg = 0 := by rw [ec]; exact hz
      exact ⟨hi, br_f h' hp⟩
    · exact tp_Rhold R ht hk ha h (fun j hj => ⟨rfl, rfl, rfl⟩) (Or.inl ⟨h, rfl, rfl⟩)
    · intro o c hb post hp
      refine tp_xsee ht hk (se k) (fun z => h8.2 ((r6 t ht k hk).mp z).2) (fun z => h8.1 ?_) o c hb post hp
      by_cases y : ch k = 0
      · exact y
      · exact absurd ((r6 t ht k hk).mpr ⟨h, y⟩) z
/-- the reference's get, where it takes the key -/
theorem tp_yget {c : Int32} {nu ho se ch ac ho' se' ch' : Nat → Int32} {t k : Nat} (ht : t < 4) (hk : k < 12) (ha : ¬ ac t = 0)
    (hB : ∀ post : Int32 → Prop, post 0 → wpY_busy post (c, nu, ho, se, ch, ac) (nI t) (nI k))
    (hH : ∀ post : SY → Prop, post (c, nu, ho', se', ch', ac) → wpY_hold post (c, nu, ho, se, ch, ac) (nI t) (nI k))
    {post : Int32 → SY → Prop} (hp : post (se' k) (c, nu, ho', se', ch', ac)) : wpY_get post (c, nu, ho, se, ch, ac) (nI t) (nI k) := by
  have ec : (nI k).toNatClampNeg = k := nI_clamp (by omega)
  have hi : vp_in (nI k) 12 := vp_in_nI hk (by decide)
  unfold wpY_get
  dsimp only
  refine tp_yop1 ht ha (br_f tp_10 (tp_yk1 hk (br_f tp_10 (hB _ (br_t rfl (hH _ ⟨hi, ?_⟩))))))
  rw [ec]
  exact hp
theorem i_vc_get {k : Nat} {u : SX} {v : SY} (I : i_Rel k u v) (hk : k + 4 ≤ 2048) (v1 : Int32) (v2 : Int32) : wpX_get (fun r u' => wpY_get (fun r' v' => r' = r ∧ i_Rel (k + 4) u' v') v v1 v2) u v1 v2 := by
  obtain ⟨o, c, nu, dr, hb, wb, ho, se, ch, ac, rfl, rfl, R⟩ := I
  have J : ∀ n, i_Rel n (o, c, nu, dr, hb, wb) (c, nu, ho, se, ch, ac) := fun n => ⟨o, c, nu, dr, hb, wb, ho, se, ch, ac, rfl, rfl, R⟩
  unfold wpX_get
  dsimp only
  rcases tp_op R v1 with ⟨t, ht, rfl, hx, ha⟩ | ⟨hX, hY⟩
  · refine tp_xop1 ht hx (br_f tp_10 ?_)
    rcases tp_key v2 with ⟨q, hq, rfl⟩ | ⟨kX, kY⟩
    · refine tp_xk1 hq (br_f tp_10 ?_)
      rcases tp_busy R ht hq with ⟨hh, bX, bY⟩ | ⟨bX, bY⟩
      · obtain ⟨ho', se', ch', hH, R', _, _, _, hS⟩ := tp_hold R ht hq ha hh
        have et : (nI t).toNatClampNeg = t := nI_clamp (by omega)
        have hi : vp_in (nI t) 4 := vp_in_nI ht (by decide)
        refine bX c _ (br_t rfl ⟨hi, hi, nm_r (e' := upd hb t (hb t ||| ((1 : Int32) <<< (nI q &&& 31)))) (by rw [et]) ?_⟩)
        refine hS _ _ _ _ ?_
        exact tp_yget ht hq ha (bY c) (hH c) ⟨rfl, _, _, _, _, _, _, _, _, _, _, rfl, rfl, R'⟩
      · refine bX c _ (br_f tp_10 ?_)
        unfold wpY_get
        dsimp only
        exact tp_yop1 ht ha (br_f tp_10 (tp_yk1 hq (br_f tp_10 (bY c _ (br_f tp_10 ⟨rfl, J _⟩)))))
    · refine kX _ (br_t rfl ?_)
      unfold wpY_get
      dsimp only
      exact tp_yop1 ht ha (br_f tp_10 (kY _ _ _ _ _ _ _ (br_t rfl ⟨rfl, J _⟩)))
  · refine hX c _ (br_t rfl ?_)
    unfold wpY_get
    dsimp only
    exact hY c _ (br_t rfl ⟨rfl, J _⟩)
/-- t writes v at k: both walks, and the new relation -/
theorem tp_put {o : Int32} {nu dr hb wb ho se ch ac : Nat → Int32} (R : tp_R o nu dr hb wb ho se ch ac) {t k : Nat} (ht : t < 4) (hk : k < 12) (ha : ¬ ac t = 0) (hh : ho k = 0 ∨ ho k = nI (t + 1)) {x : Int32} (hx : tp_N x) :
    ∃ (s : Int32) (dr' hb' wb' ho' se' ch' : Nat → Int32),
      (∀ (c : Int32) (post : Int32 → Prop), post s → wpX_numberSeen post (o, c, nu, dr, hb, wb) (nI t) (nI k)) ∧
      (∀ (c : Int32) (post : SX → Prop), post (o, c, nu, dr', hb', wb') → wpX_write post (o, c, nu, dr, hb, wb) (nI t) (nI k) x) ∧
      (∀ (c : Int32) (post : Int32 → SY → Prop), post s (c, nu, ho', se', ch', ac) → wpY_put post (c, nu, ho, se, ch, ac) (nI t) (nI k) x) ∧
      tp_R o nu dr' hb' wb' ho' se' ch' ac ∧ (∀ j, ho' j = ho j ∨ ho' j = nI (t + 1)) := by
  obtain ⟨ho', se', ch', hH, R', e1, e2, hN, hS⟩ := tp_hold R ht hk ha hh
  have ec : (nI k).toNatClampNeg = k := nI_clamp (by omega)
  have et : (nI t).toNatClampNeg = t := nI_clamp (by omega)
  have hi : vp_in (nI k) 12 := vp_in_nI hk (by decide)
  have hj : vp_in (nI t) 4 := vp_in_nI ht (by decide)
  refine ⟨se' k, upd dr k x, upd hb t (hb t ||| ((1 : Int32) <<< (nI k &&& 31))), upd wb t (wb t ||| ((1 : Int32) <<< (nI k &&& 31))), ho', upd se' k x, upd ch' k 1, fun c post hp => hS o c hb post hp, fun c post hp => ?_, fun c post hp => ?_, tp_Rwrite R' ht hk hx e1, fun j => ?_⟩
  · unfold wpX_write
    dsimp only
    rw [ec, et]
    exact ⟨hi, nm_e ⟨hj, hj, nm_e ⟨hj, hj, nm_e hp⟩⟩⟩
  · unfold wpY_put
    dsimp only
    have bY : ∀ post : Int32 → Prop, post 0 → wpY_busy post (c, nu, ho, se, ch, ac) (nI t) (nI k) := by
      intro post hp
      rcases hh with h | h
      · have h' : ho (nI k).toNatClampNeg = 0 := by rw [ec]; exact h
        exact ⟨hi, br_t h' hp⟩
      · have h1 : ¬ ho (nI k).toNatClampNeg = 0 := by rw [ec, h]; exact tp_ne0 (by omega)
        have h2 : ho (nI k).toNatClampNeg = nI t + 1 := by rw [ec, h, nI_1]
        exact ⟨hi, br_f h1 ⟨hi, br_t h2 hp⟩⟩
    refine tp_yop1 ht ha (br_f tp_10 (tp_yk1 hk (br_f tp_10 (tp_yn1 hx (br_f tp_10 (tp_yget ht hk ha bY (hH c) ?_))))))
    dsimp only
    rw [ec, tp_vb1]
    exact br_f (tp_nbusy hN) ⟨hi, nm_e ⟨hi, nm_e hp⟩⟩
  · by_cases z : j = k
    · subst z
      exact Or.inr e1
    · exact Or.inl (e2 j z)
theorem i_vc_put {k : Nat} {u : SX} {v : SY} (I : i_Rel k u v) (hk : k + 4 ≤ 2048) (v1 : Int32) (v2 : Int32) (v3 : Int32) : wpX_put (fun r u' => wpY_put (fun r' v' => r' = r ∧ i_Rel (k + 4) u' v') v v1 v2 v3) u v1 v2 v3 := by
  obtain ⟨o, c, nu, dr, hb, wb, ho, se, ch, ac, rfl, rfl, R⟩ := I
  have J : ∀ n, i_Rel n (o, c, nu, dr, hb, wb) (c, nu, ho, se, ch, ac) := fun n => ⟨o, c, nu, dr, hb, wb, ho, se, ch, ac, rfl, rfl, R⟩
  unfold wpX_put
  dsimp only
  rcases tp_op R v1 with ⟨t, ht, rfl, hx, ha⟩ | ⟨hX, hY⟩
  · refine tp_xop1 ht hx (br_f tp_10 ?_)
    rcases tp_key v2 with ⟨q, hq, rfl⟩ | ⟨kX, kY⟩
    · refine tp_xk1 hq (br_f tp_10 ?_)
      rcases tp_num v3 with hN | ⟨nX, nY⟩
      · refine tp_xn1 hN (br_f tp_10 ?_)
        rcases tp_busy R ht hq with ⟨hh, bX, bY⟩ | ⟨bX, bY⟩
        · obtain ⟨s, dr', hb', wb', ho', se', ch', hS, hW, hP, R', _⟩ := tp_put R ht hq ha hh hN
          refine bX c _ (br_t rfl (hS c _ (hW c _ ?_)))
          exact hP c _ ⟨rfl, _, _, _, _, _, _, _, _, _, _, rfl, rfl, R'⟩
        · refine bX c _ (br_f tp_10 ?_)
          unfold wpY_put
          dsimp only
          refine tp_yop1 ht ha (br_f tp_10 (tp_yk1 hq (br_f tp_10 (tp_yn1 hN (br_f tp_10 ?_)))))
          unfold wpY_get
          dsimp only
          exact tp_yop1 ht ha (br_f tp_10 (tp_yk1 hq (br_f tp_10 (bY c _ (br_f tp_10 (br_t rfl ⟨rfl, J _⟩))))))
      · refine nX _ (br_t rfl ?_)
        unfold wpY_put
        dsimp only
        exact tp_yop1 ht ha (br_f tp_10 (tp_yk1 hq (br_f tp_10 (nY _ _ _ _ _ _ _ (br_t rfl ⟨rfl, J _⟩)))))
    · refine kX _ (br_t rfl ?_)
      unfold wpY_put
      dsimp only
      exact tp_yop1 ht ha (br_f tp_10 (kY _ _ _ _ _ _ _ (br_t rfl ⟨rfl, J _⟩)))
  · refine hX c _ (br_t rfl ?_)
    unfold wpY_put
    dsimp only
    exact hY c _ (br_t rfl ⟨rfl, J _⟩)
