/-! the small methods, with a general post -/
theorem tp_xop1 {post : Int32 → Prop} {o c : Int32} {nu dr hb wb : Nat → Int32} {j : Nat} (hj : j < 4) (h : bt o j = true) (hp : post 1) : wpX_isOpen post (o, c, nu, dr, hb, wb) (nI j) :=
  br_f (nI_pos (by omega)) (br_f (nI_ge (b := 4) hj (by decide)) (br_t ((tp_has o j (by omega)).mpr h) hp))
theorem tp_xop0 {post : Int32 → Prop} {o c : Int32} {nu dr hb wb : Nat → Int32} {j : Nat} (hj : j < 4) (h : ¬ bt o j = true) (hp : post 0) : wpX_isOpen post (o, c, nu, dr, hb, wb) (nI j) :=
  br_f (nI_pos (by omega)) (br_f (nI_ge (b := 4) hj (by decide)) (br_f (fun z => h ((tp_has o j (by omega)).mp z)) hp))
theorem tp_yop1 {post : Int32 → Prop} {c : Int32} {nu ho se ch ac : Nat → Int32} {j : Nat} (hj : j < 4) (h : ¬ ac j = 0) (hp : post 1) : wpY_isOpen post (c, nu, ho, se, ch, ac) (nI j) := by
  have h' : ¬ ac (nI j).toNatClampNeg = 0 := by rw [nI_clamp (by omega)]; exact h
  exact br_f (nI_pos (by omega)) (br_f (nI_nlt (b := j) (a := 3) (by omega) (by decide)) ⟨vp_in_nI hj (by decide), br_f h' hp⟩)
theorem tp_yop0 {post : Int32 → Prop} {c : Int32} {nu ho se ch ac : Nat → Int32} {j : Nat} (hj : j < 4) (h : ac j = 0) (hp : post 0) : wpY_isOpen post (c, nu, ho, se, ch, ac) (nI j) := by
  have h' : ac (nI j).toNatClampNeg = 0 := by rw [nI_clamp (by omega)]; exact h
  exact br_f (nI_pos (by omega)) (br_f (nI_nlt (b := j) (a := 3) (by omega) (by decide)) ⟨vp_in_nI hj (by decide), br_t h' hp⟩)
theorem tp_ix (x : Int32) (n : Nat) (hn : n < 2 ^ 31) : (∃ j, j < n ∧ x = nI j) ∨ x < 0 ∨ (¬ x < 0 ∧ nI n ≤ x ∧ ∀ m, m < n → nI m < x) := by
  by_cases h : x < 0
  · exact Or.inr (Or.inl h)
  · obtain ⟨j, hj, rfl⟩ := nI_of h
    by_cases h2 : j < n
    · exact Or.inl ⟨j, h2, rfl⟩
    · exact Or.inr (Or.inr ⟨h, nI_le (by omega) hj, fun m hm => nI_lt (by omega) hj⟩)
/-- is t open? Both sides say the same -/
theorem tp_op {o : Int32} {nu dr hb wb ho se ch ac : Nat → Int32} (R : tp_R o nu dr hb wb ho se ch ac) (t : Int32) :
    (∃ j, j < 4 ∧ t = nI j ∧ bt o j = true ∧ ¬ ac j = 0) ∨ ((∀ (c : Int32) (post : Int32 → Prop), post 0 → wpX_isOpen post (o, c, nu, dr, hb, wb) t) ∧ (∀ (c : Int32) (post : Int32 → Prop), post 0 → wpY_isOpen post (c, nu, ho, se, ch, ac) t)) := by
  rcases tp_ix t 4 (by decide) with ⟨j, hj, rfl⟩ | h | ⟨h0, h4, h3⟩
  · by_cases z : bt o j = true
    · exact Or.inl ⟨j, hj, rfl, z, (R.1 j hj).mp z⟩
    · have y : ac j = 0 := by
        by_cases y : ac j = 0
        · exact y
        · exact absurd ((R.1 j hj).mpr y) z
      exact Or.inr ⟨fun c post hp => tp_xop0 hj z hp, fun c post hp => tp_yop0 hj y hp⟩
  · exact Or.inr ⟨fun c post hp => br_t h hp, fun c post hp => br_t h hp⟩
  · exact Or.inr ⟨fun c post hp => br_f h0 (br_t h4 hp), fun c post hp => br_f h0 (br_t (h3 3 (by decide)) hp)⟩
theorem tp_xk1 {post : Int32 → Prop} {j : Nat} (hj : j < 12) (hp : post 1) : wpX_isKey post (nI j) :=
  br_f (nI_pos (by omega)) (br_f (nI_ge (b := 12) hj (by decide)) hp)
theorem tp_yk1 {post : Int32 → Prop} {c : Int32} {nu ho se ch ac : Nat → Int32} {j : Nat} (hj : j < 12) (hp : post 1) : wpY_key post (c, nu, ho, se, ch, ac) (nI j) :=
  br_f (nI_pos (by omega)) (br_f (nI_nlt (b := j) (a := 11) (by omega) (by decide)) hp)
theorem tp_key (x : Int32) : (∃ j, j < 12 ∧ x = nI j) ∨ ((∀ post : Int32 → Prop, post 0 → wpX_isKey post x) ∧ (∀ (c : Int32) (nu ho se ch ac : Nat → Int32) (post : Int32 → Prop), post 0 → wpY_key post (c, nu, ho, se, ch, ac) x)) := by
  rcases tp_ix x 12 (by decide) with ⟨j, hj, rfl⟩ | h | ⟨h0, h4, h3⟩
  · exact Or.inl ⟨j, hj, rfl⟩
  · exact Or.inr ⟨fun post hp => br_t h hp, fun c nu ho se ch ac post hp => br_t h hp⟩
  · exact Or.inr ⟨fun post hp => br_f h0 (br_t h4 hp), fun c nu ho se ch ac post hp => br_f h0 (br_t (h3 11 (by decide)) hp)⟩
theorem tp_xn1 {post : Int32 → Prop} {x : Int32} (h : tp_N x) (hp : post 1) : wpX_isNumber post x := br_f h.1 (br_f h.2 hp)
theorem tp_yn1 {post : Int32 → Prop} {c : Int32} {nu ho se ch ac : Nat → Int32} {x : Int32} (h : tp_N x) (hp : post 1) : wpY_fits post (c, nu, ho, se, ch, ac) x := br_f h.1 (br_f h.2 hp)
theorem tp_num (x : Int32) : tp_N x ∨ ((∀ post : Int32 → Prop, post 0 → wpX_isNumber post x) ∧ (∀ (c : Int32) (nu ho se ch ac : Nat → Int32) (post : Int32 → Prop), post 0 → wpY_fits post (c, nu, ho, se, ch, ac) x)) := by
  by_cases h : x < (-9999)
  · exact Or.inr ⟨fun post hp => br_t h hp, fun c nu ho se ch ac post hp => br_t h hp⟩
  · by_cases h2 : 9999 < x
    · exact Or.inr ⟨fun post hp => br_f h (br_t h2 hp), fun c nu ho se ch ac post hp => br_f h (br_t h2 hp)⟩
    · exact Or.inl ⟨h, h2⟩
theorem tp_km1 {post : Int32 → Prop} {j : Nat} (hj : j < 3) (hp : post 1) : wpX_isKeyMachine post (nI j) :=
  br_f (nI_pos (by omega)) (br_f (nI_ge (b := 3) hj (by decide)) hp)
theorem tp_km0 {post : Int32 → Prop} {j : Nat} (hj : 3 ≤ j) (hj2 : j < 2 ^ 31) (hp : post 0) : wpX_isKeyMachine post (nI j) :=
  br_f (nI_pos hj2) (br_t (nI_le (a := 3) hj hj2) hp)
theorem tp_hk1 {post : Int32 → Prop} {x : Int32} {k : Nat} (hk : k < 32) (h : bt x k = true) (hp : post 1) : wpX_hasKey post x (nI k) := br_t ((tp_has x k hk).mpr h) hp
theorem tp_hk0 {post : Int32 → Prop} {x : Int32} {k : Nat} (hk : k < 32) (h : ¬ bt x k = true) (hp : post 0) : wpX_hasKey post x (nI k) := br_f (fun z => h ((tp_has x k hk).mp z)) hp
theorem tp_10 : ¬ (1 : Int32) = 0 := by decide
/-! findHolder -/
theorem tp_fhL {post : Int32 → Prop} {o c : Int32} {nu dr hb wb : Nat → Int32} {k e : Nat} (hk : k < 12) (he : e ≤ 4) (hn : ∀ t, t < e → ¬ bt (hb t) k = true)
    (hx : wX_findHolder_2 post (nI k) o c nu dr hb wb 1 (nI e)) : ∀ d j, j + d = e → wX_findHolder_2 post (nI k) o c nu dr hb wb (d + 1) (nI j) := by
  intro d
  induction d with
  | zero =>
    intro j hj
    have : j = e := by omega
    subst this
    exact hx
  | succ d ih =>
    intro j hj
    have hb' : ¬ bt (hb (nI j).toNatClampNeg) k = true := by rw [nI_clamp (by omega)]; exact hn j (by omega)
    refine br_f (nI_ge (b := 4) (by omega) (by decide)) ⟨vp_in_nI (by omega) (by decide), tp_hk0 (by omega) hb' (br_t rfl (nm_r (nI_1 j) (ih (j + 1) (by omega))))⟩
theorem tp_fh0 {post : Int32 → Prop} {o c : Int32} {nu dr hb wb : Nat → Int32} {k : Nat} (hk : k < 12) (hn : ∀ t, t < 4 → ¬ bt (hb t) k = true) (hp : post (-1)) : wpX_findHolder post (o, c, nu, dr, hb, wb) (nI k) :=
  ⟨5, tp_fhL (e := 4) hk (by omega) hn (br_t (nI_le (a := 4) (b := 4) (by omega) (by decide)) hp) 4 0 rfl⟩
theorem tp_fh1 {post : Int32 → Prop} {o c : Int32} {nu dr hb wb : Nat → Int32} {k e : Nat} (hk : k < 12) (he : e < 4) (hn : ∀ t, t < e → ¬ bt (hb t) k = true) (hh : bt (hb e) k = true) (hp : post (nI e)) : wpX_findHolder post (o, c, nu, dr, hb, wb) (nI k) := by
  have hb' : bt (hb (nI e).toNatClampNeg) k = true := by rw [nI_clamp (by omega)]; exact hh
  exact ⟨e + 1, tp_fhL (e := e) hk (by omega) hn (br_f (nI_ge (b := 4) (by omega) (by decide)) ⟨vp_in_nI (by omega) (by decide), tp_hk1 (by omega) hb' (br_f tp_10 hp)⟩) e 0 (by omega)⟩
/-- who holds k: the two sides' answers -/
theorem tp_fh {o : Int32} {nu dr hb wb ho se ch ac : Nat → Int32} (R : tp_R o nu dr hb wb ho se ch ac) {k : Nat} (hk : k < 12) :
    (ho k = 0 ∧ ∀ (c : Int32) (post : Int32 → Prop), post (-1) → wpX_findHolder post (o, c, nu, dr, hb, wb) (nI k)) ∨
    (∃ s, s < 4 ∧ ho k = nI (s + 1) ∧ ∀ (c : Int32) (post : Int32 → Prop), post (nI s) → wpX_findHolder post (o, c, nu, dr, hb, wb) (nI k)) := by
  obtain ⟨r1, r2, r3, r4, _⟩ := R
  obtain ⟨h, h4, he, _⟩ := r3 k hk
  cases h with
  | zero =>
    refine Or.inl ⟨he, fun c post hp => tp_fh0 hk (fun t ht z => ?_) hp⟩
    rw [r4 t ht k hk, he] at z
    have := tp_ni z (by omega) (by omega)
    omega
  | succ s =>
    refine Or.inr ⟨s, by omega, he, fun c post hp => tp_fh1 hk (by omega) (fun t ht z => ?_) ((r4 s (by omega) k hk).mpr he) hp⟩
    rw [r4 t (by omega) k hk, he] at z
    have := tp_ni z (by omega) (by omega)
    omega
theorem tp_m1 {s : Nat} (hs : s < 4) : ¬ nI s = (-1) := by
  intro e
  have h : ¬ nI s < 0 := nI_pos (by omega)
  rw [e] at h
  exact h (by decide)
/-- is k held by another than t? -/
theorem tp_busy {o : Int32} {nu dr hb wb ho se ch ac : Nat → Int32} (R : tp_R o nu dr hb wb ho se ch ac) {t k : Nat} (ht : t < 4) (hk : k < 12) :
    ((ho k = 0 ∨ ho k = nI (t + 1)) ∧ (∀ (c : Int32) (post : Int32 → Prop), post 0 → wpX_isHeldByAnother post (o, c, nu, dr, hb, wb) (nI t) (nI k)) ∧ (∀ (c : Int32) (post : Int32 → Prop), post 0 → wpY_busy post (c, nu, ho, se, ch, ac) (nI t) (nI k))) ∨
    ((∀ (c : Int32) (post : Int32 → Prop), post 1 → wpX_isHeldByAnother post (o, c, nu, dr, hb, wb) (nI t) (nI k)) ∧ (∀ (c : Int32) (post : Int32 → Prop), post 1 → wpY_busy post (c, nu, ho, se, ch, ac) (nI t) (nI k))) := by
  have ec : (nI k).toNatClampNeg = k := nI_clamp (by omega)
  have hi : vp_in (nI k) 12 := vp_in_nI hk (by decide)
  rcases tp_fh R hk with ⟨h0, hX⟩ | ⟨s, hs, h0, hX⟩
  · have h0' : ho (nI k).toNatClampNeg = 0 := by rw [ec]; exact h0
    refine Or.inl ⟨Or.inl h0, fun c post hp => ?_, fun c post hp => ⟨hi, br_t h0' hp⟩⟩
    unfold wpX_isHeldByAnother
    exact hX c _ (br_t rfl hp)
  · have h1 : ¬ ho (nI k).toNatClampNeg = 0 := by rw [ec, h0]; exact tp_ne0 (by omega)
    by_cases z : s = t
    · subst z
      have h2 : ho (nI k).toNatClampNeg = nI s + 1 := by rw [ec, h0, nI_1]
      refine Or.inl ⟨Or.inr h0, fun c post hp => ?_, fun c post hp => ⟨hi, br_f h1 ⟨hi, br_t h2 hp⟩⟩⟩
      unfold wpX_isHeldByAnother
      exact hX c _ (br_f (tp_m1 hs) (br_t rfl hp))
    · have h2 : ¬ ho (nI k).toNatClampNeg = nI t + 1 := by
        rw [ec, h0, nI_1]
        intro e
        have := tp_ni e (by omega) (by omega)
        omega
      have h3 : ¬ nI s = nI t := fun e => z (tp_ni e (by omega) (by omega))
      refine Or.inr ⟨fun c post hp => ?_, fun c post hp => ⟨hi, br_f h1 ⟨hi, br_f h2 hp⟩⟩⟩
      unfold wpX_isHeldByAnother
      exact hX c _ (br_f (tp_m1 hs) (br_f h3 hp))
/-- the number that t sees at k -/
theorem tp_xsee {nu dr wb : Nat → Int32} {t k : Nat} (ht : t < 4) (hk : k < 12) (s : Int32) (h1 : bt (wb t) k = true → s = dr k) (h0 : ¬ bt (wb t) k = true → s = nu k) (o c : Int32) (hb : Nat → Int32) (post : Int32 → Prop) (hp : post s) : wpX_numberSeen post (o, c, nu, dr, hb, wb) (nI t) (nI k) := by
  have ec : (nI k).toNatClampNeg = k := nI_clamp (by omega)
  have et : (nI t).toNatClampNeg = t := nI_clamp (by omega)
  have hi : vp_in (nI k) 12 := vp_in_nI hk (by decide)
  have ht' : vp_in (nI t) 4 := vp_in_nI ht (by decide)
  unfold wpX_numberSeen
  dsimp only
  rw [ec, et]
  by_cases z : bt (wb t) k = true
  · rw [h1 z] at hp
    exact ⟨ht', tp_hk1 (by omega) z (br_f tp_10 ⟨hi, hp⟩)⟩
  · rw [h0 z] at hp
    exact ⟨ht', tp_hk0 (by omega) z (br_t rfl ⟨hi, hp⟩)⟩
theorem tp_see {o : Int32} {nu dr hb wb ho se ch ac : Nat → Int32} (R : tp_R o nu dr hb wb ho se ch ac) {t k : Nat} (ht : t < 4) (hk : k < 12) (hh : ho k = 0 ∨ ho k = nI (t + 1)) :
    ∃ s, (∀ (c : Int32) (post : Int32 → Prop), post s → wpX_numberSeen post (o, c, nu, dr, hb, wb) (nI t) (nI k)) ∧ (∀ (c : Int32) (post : Int32 → Prop), post s → wpY_sees post (c, nu, ho, se, ch, ac) (nI t) (nI k)) := by
  obtain ⟨r1, r2, r3, r4, r5, r6, r7, r8, r9, r10⟩ := R
  have ec : (nI k).toNatClampNeg = k := nI_clamp (by omega)
  have hi : vp_in (nI k) 12 := vp_in_nI hk (by decide)
  rcases hh with h | h
  · have hn : ¬ ho k = nI (t + 1) := by rw [h]; exact fun e => tp_ne0 (a := t) (by omega) e.symm
    have hn' : ¬ ho (nI k).toNatClampNeg = nI t + 1 := by rw [ec, nI_1]; exact hn
    refine ⟨nu k, fun c post hp => tp_xsee ht hk (nu k) (fun z => absurd ((r6 t ht k hk).mp z).1 hn) (fun _ => rfl) o c hb post hp, fun c post hp => ⟨hi, br_f hn' ⟨hi, ?_⟩⟩⟩
    rw [ec]
    exact hp
  · have hn' : ho (nI k).toNatClampNeg = nI t + 1 := by rw [ec, nI_1]; exact h
    have h8 := r8 k hk (by rw [h]; exact tp_ne0 (by omega))
    refine ⟨se k, fun c post hp => tp_xsee ht hk (se k) (fun z => h8.2 ((r6 t ht k hk).mp z).2) (fun z => h8.1 ?_) o c hb post hp, fun c post hp => ⟨hi, br_t hn' ⟨hi, ?_⟩⟩⟩
    · by_cases y : ch k = 0
      · exact y
      · exact absurd ((r6 t ht k hk).mpr ⟨h, y⟩) z
    · rw [ec]
      exact hp
