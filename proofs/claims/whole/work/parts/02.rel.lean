/-! the relation, and what keeps it -/
def tp_N (x : Int32) : Prop := ¬ x < (-9999) ∧ ¬ 9999 < x
def tp_R (o : Int32) (nu dr hb wb ho se ch ac : Nat → Int32) : Prop :=
  (∀ t, t < 4 → (bt o t = true ↔ ¬ ac t = 0)) ∧
  (∀ i, 4 ≤ i → ¬ bt o i = true) ∧
  (∀ k, k < 12 → ∃ h, h ≤ 4 ∧ ho k = nI h ∧ ∀ t, h = t + 1 → ¬ ac t = 0) ∧
  (∀ t, t < 4 → ∀ k, k < 12 → (bt (hb t) k = true ↔ ho k = nI (t + 1))) ∧
  (∀ t, t < 4 → ∀ i, 12 ≤ i → ¬ bt (hb t) i = true) ∧
  (∀ t, t < 4 → ∀ k, k < 12 → (bt (wb t) k = true ↔ (ho k = nI (t + 1) ∧ ¬ ch k = 0))) ∧
  (∀ t, t < 4 → ∀ i, 12 ≤ i → ¬ bt (wb t) i = true) ∧
  (∀ k, k < 12 → ¬ ho k = 0 → (ch k = 0 → se k = nu k) ∧ (¬ ch k = 0 → se k = dr k)) ∧
  (∀ k, k < 12 → tp_N (nu k)) ∧ (∀ k, k < 12 → ¬ ho k = 0 → tp_N (se k))
theorem tp_N0 : tp_N 0 := ⟨by decide, by decide⟩
theorem tp_nbusy {x : Int32} (h : tp_N x) : ¬ x = (-300000) := by
  intro e
  subst e
  exact h.1 (by decide)
theorem tp_R0 : tp_R 0 (fun _ => 0) (fun _ => 0) (fun _ => 0) (fun _ => 0) (fun _ => 0) (fun _ => 0) (fun _ => 0) (fun _ => 0) := by
  refine ⟨fun t _ => ?_, fun i _ => ?_, fun k _ => ⟨0, by omega, rfl, fun t h => by omega⟩, fun t ht k _ => ?_, fun t _ i _ => ?_, fun t ht k _ => ?_, fun t _ i _ => ?_, fun k _ h => absurd rfl h, fun k _ => tp_N0, fun k _ h => absurd rfl h⟩
  · simp [b_0]
  · simp [b_0]
  · have : ¬ (0 : Int32) = nI (t + 1) := fun e => tp_ne0 (a := t) (by omega) e.symm
    simp [b_0, this]
  · simp [b_0]
  · have : ¬ (0 : Int32) = nI (t + 1) := fun e => tp_ne0 (a := t) (by omega) e.symm
    simp [b_0, this]
  · simp [b_0]
/-- transaction t takes key k (get, and the first half of put) -/
theorem tp_Rhold {o : Int32} {nu dr hb wb ho se ch ac ho' se' ch' : Nat → Int32} (R : tp_R o nu dr hb wb ho se ch ac) {t k : Nat} (ht : t < 4) (hk : k < 12) (ha : ¬ ac t = 0)
    (e1 : ho' k = nI (t + 1)) (e2 : ∀ j, j ≠ k → ho' j = ho j ∧ se' j = se j ∧ ch' j = ch j)
    (e3 : (ho k = nI (t + 1) ∧ se' k = se k ∧ ch' k = ch k) ∨ (ho k = 0 ∧ se' k = nu k ∧ ch' k = 0)) :
    tp_R o nu dr (upd hb t (hb t ||| ((1 : Int32) <<< (nI k &&& 31)))) wb ho' se' ch' ac := by
  obtain ⟨r1, r2, r3, r4, r5, r6, r7, r8, r9, r10⟩ := R
  refine ⟨r1, r2, ?_, ?_, ?_, ?_, r7, ?_, r9, ?_⟩
  · intro j hj
    by_cases z : j = k
    · subst z
      exact ⟨t + 1, by omega, e1, fun s hs => by have : s = t := by omega
                                                 rw [this]; exact ha⟩
    · rw [(e2 j z).1]
      exact r3 j hj
  · intro s hs j hj
    by_cases y : s = t
    · subst y
      rw [pk_us, tp_orb _ k (by omega)]
      by_cases z : j = k
      · subst z
        simp [e1]
      · rw [(e2 j z).1, r4 s hs j hj]
        simp [z]
    · rw [pk_un y, r4 s hs j hj]
      by_cases z : j = k
      · subst z
        have n1 : ¬ nI (t + 1) = nI (s + 1) := fun e => by have := tp_ni e (by omega) (by omega); omega
        rw [e1]
        rcases e3 with ⟨e, _⟩ | ⟨e, _⟩
        · rw [e]
        · rw [e]
          have n2 : ¬ (0 : Int32) = nI (s + 1) := fun e => tp_ne0 (a := s) (by omega) e.symm
          simp [n1, n2]
      · rw [(e2 j z).1]
  · intro s hs i hi
    by_cases y : s = t
    · subst y
      rw [pk_us, tp_orb _ k (by omega)]
      intro h
      rcases h with h | h
      · exact r5 s hs i hi h
      · omega
    · rw [pk_un y]
      exact r5 s hs i hi
  · intro s hs j hj
    rw [r6 s hs j hj]
    by_cases z : j = k
    · subst z
      rw [e1]
      rcases e3 with ⟨e, _, f⟩ | ⟨e, _, f⟩
      · rw [e, f]
      · have n2 : ¬ (0 : Int32) = nI (s + 1) := fun e => tp_ne0 (a := s) (by omega) e.symm
        rw [e, f]
        simp [n2]
    · rw [(e2 j z).1, (e2 j z).2.2]
  · intro j hj hz
    by_cases z : j = k
    · subst z
      rcases e3 with ⟨e, f, g⟩ | ⟨e, f, g⟩
      · rw [f, g]
        exact r8 j hj (by rw [e]; exact tp_ne0 (by omega))
      · exact ⟨fun _ => f, fun n => absurd g n⟩
    · rw [(e2 j z).2.1, (e2 j z).2.2]
      rw [(e2 j z).1] at hz
      exact r8 j hj hz
  · intro j hj hz
    by_cases z : j = k
    · subst z
      rcases e3 with ⟨e, f, g⟩ | ⟨e, f, g⟩
      · rw [f]
        exact r10 j hj (by rw [e]; exact tp_ne0 (by omega))
      · rw [f]
        exact r9 j hj
    · rw [(e2 j z).2.1]
      rw [(e2 j z).1] at hz
      exact r10 j hj hz
/-- transaction t, which holds k, writes v there -/
theorem tp_Rwrite {o : Int32} {nu dr hb wb ho se ch ac : Nat → Int32} (R : tp_R o nu dr hb wb ho se ch ac) {t k : Nat} (ht : t < 4) (hk : k < 12) {v : Int32} (hv : tp_N v)
    (e1 : ho k = nI (t + 1)) :
    tp_R o nu (upd dr k v) hb (upd wb t (wb t ||| ((1 : Int32) <<< (nI k &&& 31)))) ho (upd se k v) (upd ch k 1) ac := by
  obtain ⟨r1, r2, r3, r4, r5, r6, r7, r8, r9, r10⟩ := R
  have n1 : ¬ (1 : Int32) = 0 := by decide
  refine ⟨r1, r2, r3, r4, r5, ?_, ?_, ?_, r9, ?_⟩
  · intro s hs j hj
    by_cases y : s = t
    · subst y
      rw [pk_us, tp_orb _ k (by omega)]
      by_cases z : j = k
      · subst z
        rw [pk_us]
        simp [e1, n1]
      · rw [pk_un z, r6 s hs j hj]
        simp [z]
    · rw [pk_un y, r6 s hs j hj]
      by_cases z : j = k
      · subst z
        have n2 : ¬ nI (t + 1) = nI (s + 1) := fun e => by have := tp_ni e (by omega) (by omega); omega
        rw [e1]
        simp [n2]
      · rw [pk_un z]
  · intro s hs i hi
    by_cases y : s = t
    · subst y
      rw [pk_us, tp_orb _ k (by omega)]
      intro h
      rcases h with h | h
      · exact r7 s hs i hi h
      · omega
    · rw [pk_un y]
      exact r7 s hs i hi
  · intro j hj hz
    by_cases z : j = k
    · subst z
      rw [pk_us, pk_us, pk_us]
      exact ⟨fun e => absurd e n1, fun _ => rfl⟩
    · rw [pk_un z, pk_un z, pk_un z]
      exact r8 j hj hz
  · intro j hj hz
    by_cases z : j = k
    · subst z
      rw [pk_us]
      exact hv
    · rw [pk_un z]
      exact r10 j hj hz
/-- transaction t ends; the numbers become nu' -/
theorem tp_Rend {o : Int32} {nu dr hb wb ho se ch ac nu' ho' : Nat → Int32} (R : tp_R o nu dr hb wb ho se ch ac) {t : Nat} (ht : t < 4)
    (e1 : ∀ k, k < 12 → ho k = nI (t + 1) → ho' k = 0 ∧ tp_N (nu' k)) (e2 : ∀ k, k < 12 → ¬ ho k = nI (t + 1) → ho' k = ho k ∧ nu' k = nu k) :
    tp_R (o &&& (((1 : Int32) <<< (nI t &&& 31)) ^^^ (-1))) nu' dr (upd hb t 0) (upd wb t 0) ho' se ch (upd ac t 0) := by
  obtain ⟨r1, r2, r3, r4, r5, r6, r7, r8, r9, r10⟩ := R
  have n0 : ∀ s, s < 4 → ¬ (0 : Int32) = nI (s + 1) := fun s hs e => tp_ne0 (a := s) (by omega) e.symm
  refine ⟨?_, ?_, ?_, ?_, ?_, ?_, ?_, ?_, ?_, ?_⟩
  · intro s hs
    rw [tp_clb _ t (by omega), r1 s hs]
    by_cases y : s = t
    · subst y
      rw [pk_us]
      simp
    · rw [pk_un y]
      simp [y]
  · intro i hi h
    rw [tp_clb _ t (by omega)] at h
    exact r2 i hi h.1
  · intro j hj
    by_cases z : ho j = nI (t + 1)
    · exact ⟨0, by omega, (e1 j hj z).1, fun s hs => by omega⟩
    · obtain ⟨h, h4, he, hh⟩ := r3 j hj
      refine ⟨h, h4, (e2 j hj z).1.trans he, fun s hs => ?_⟩
      by_cases y : s = t
      · subst y
        subst hs
        exact absurd he z
      · rw [pk_un y]
        exact hh s hs
  · intro s hs j hj
    by_cases z : ho j = nI (t + 1)
    · rw [(e1 j hj z).1]
      by_cases y : s = t
      · subst y
        rw [pk_us, b_0]
        simp [n0 s hs]
      · rw [pk_un y, r4 s hs j hj, z]
        have n2 : ¬ nI (t + 1) = nI (s + 1) := fun e => by have := tp_ni e (by omega) (by omega); omega
        simp [n2, n0 s hs]
    · rw [(e2 j hj z).1]
      by_cases y : s = t
      · subst y
        rw [pk_us, b_0]
        simp [z]
      · rw [pk_un y, r4 s hs j hj]
  · intro s hs i hi
    by_cases y : s = t
    · subst y
      rw [pk_us, b_0]
      simp
    · rw [pk_un y]
      exact r5 s hs i hi
  · intro s hs j hj
    by_cases z : ho j = nI (t + 1)
    · rw [(e1 j hj z).1]
      by_cases y : s = t
      · subst y
        rw [pk_us, b_0]
        simp [n0 s hs]
      · rw [pk_un y, r6 s hs j hj, z]
        have n2 : ¬ nI (t + 1) = nI (s + 1) := fun e => by have := tp_ni e (by omega) (by omega); omega
        simp [n2, n0 s hs]
    · rw [(e2 j hj z).1]
      by_cases y : s = t
      · subst y
        rw [pk_us, b_0]
        simp [z]
      · rw [pk_un y, r6 s hs j hj]
  · intro s hs i hi
    by_cases y : s = t
    · subst y
      rw [pk_us, b_0]
      simp
    · rw [pk_un y]
      exact r7 s hs i hi
  · intro j hj hz
    by_cases z : ho j = nI (t + 1)
    · exact absurd (e1 j hj z).1 hz
    · rw [(e2 j hj z).1] at hz
      rw [(e2 j hj z).2]
      exact r8 j hj hz
  · intro j hj
    by_cases z : ho j = nI (t + 1)
    · exact (e1 j hj z).2
    · rw [(e2 j hj z).2]
      exact r9 j hj
  · intro j hj hz
    by_cases z : ho j = nI (t + 1)
    · exact absurd (e1 j hj z).1 hz
    · rw [(e2 j hj z).1] at hz
      exact r10 j hj hz
/-- transaction t begins -/
theorem tp_Rbegin {o : Int32} {nu dr hb wb ho se ch ac : Nat → Int32} (R : tp_R o nu dr hb wb ho se ch ac) {t : Nat} (ht : t < 4) :
    tp_R (o ||| ((1 : Int32) <<< (nI t &&& 31))) nu dr hb wb ho se ch (upd ac t 1) := by
  obtain ⟨r1, r2, r3, r4, r5, r6, r7, r8, r9, r10⟩ := R
  have n1 : ¬ (1 : Int32) = 0 := by decide
  refine ⟨?_, ?_, ?_, r4, r5, r6, r7, r8, r9, r10⟩
  · intro s hs
    rw [tp_orb _ t (by omega), r1 s hs]
    by_cases y : s = t
    · subst y
      rw [pk_us]
      simp [n1]
    · rw [pk_un y]
      simp [y]
  · intro i hi h
    rw [tp_orb _ t (by omega)] at h
    rcases h with h | h
    · exact r2 i hi h
    · omega
  · intro j hj
    obtain ⟨h, h4, he, hh⟩ := r3 j hj
    refine ⟨h, h4, he, fun s hs => ?_⟩
    by_cases y : s = t
    · subst y
      rw [pk_us]
      exact n1
    · rw [pk_un y]
      exact hh s hs
def i_Rel (_ : Nat) (u : SX) (v : SY) : Prop := ∃ (o c : Int32) (nu dr hb wb ho se ch ac : Nat → Int32), u = (o, c, nu, dr, hb, wb) ∧ v = (c, nu, ho, se, ch, ac) ∧ tp_R o nu dr hb wb ho se ch ac
theorem i_up {k : Nat} {u : SX} {v : SY} (h : i_Rel k u v) : i_Rel (k + 4) u v := h
theorem i_vc0 : wpX_init (fun u => wpY_init (fun v => i_Rel 0 u v)) := ⟨0, 0, fun _ => 0, fun _ => 0, fun _ => 0, fun _ => 0, fun _ => 0, fun _ => 0, fun _ => 0, fun _ => 0, rfl, rfl, tp_R0⟩
