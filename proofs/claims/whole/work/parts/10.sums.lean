/-! sum and total -/
def tp_sv (nu : Nat → Int32) (x1 : Int32) : Nat → Int32
  | 0 => 0
  | j + 1 => if nI (j % 3) = x1 then tp_sv nu x1 j + nu j else tp_sv nu x1 j
def tp_tv (nu : Nat → Int32) : Nat → Int32
  | 0 => 0
  | j + 1 => tp_tv nu j + nu j
theorem tp_sv0 (nu : Nat → Int32) : tp_sv nu (nI 0) 12 = 0 + nu 0 + nu 3 + nu 6 + nu 9 := by rfl
theorem tp_sv1 (nu : Nat → Int32) : tp_sv nu (nI 1) 12 = 0 + nu 1 + nu 4 + nu 7 + nu 10 := by rfl
theorem tp_sv2 (nu : Nat → Int32) : tp_sv nu (nI 2) 12 = 0 + nu 2 + nu 5 + nu 8 + nu 11 := by rfl
theorem tp_svm (nu : Nat → Int32) {m : Nat} (hm : m < 3) : tp_sv nu (nI m) 12 = 0 + nu m + nu (m + 3) + nu (m + 6) + nu (m + 9) := by
  have h : m = 0 ∨ m = 1 ∨ m = 2 := by omega
  rcases h with rfl | rfl | rfl
  · exact tp_sv0 nu
  · exact tp_sv1 nu
  · exact tp_sv2 nu
theorem tp_ac (a b c d e f g h i j k l : Int32) : ((0 + a + d + g + j) + (0 + b + e + h + k)) + (0 + c + f + i + l) = 0 + a + b + c + d + e + f + g + h + i + j + k + l := by grind
theorem tp_svt (nu : Nat → Int32) : (tp_sv nu (nI 0) 12 + tp_sv nu (nI 1) 12) + tp_sv nu (nI 2) 12 = tp_tv nu 12 := by
  rw [tp_sv0, tp_sv1, tp_sv2, tp_ac]
  rfl
theorem tp_xsS {post : Int32 → Prop} {o c x : Int32} {nu dr hb wb : Nat → Int32} {n j : Nat} (hj : j < 12) (h : wX_sum_14 post o c nu dr hb wb n (x + nu j) (nI (j + 3))) : wX_sum_14 post o c nu dr hb wb (n + 1) x (nI j) := by
  have ej : (nI j).toNatClampNeg = j := nI_clamp (by omega)
  exact br_f (nI_ge (b := 12) hj (by decide)) ⟨vp_in_nI hj (by decide), nm_r (e' := x + nu j) (by rw [ej]) (nm_r (e' := nI (j + 3)) (nI_add j 3) h)⟩
theorem tp_xsE {post : Int32 → Prop} {o c x : Int32} {nu dr hb wb : Nat → Int32} {n j : Nat} (hj : 12 ≤ j) (hj2 : j < 2 ^ 31) (h : post x) : wX_sum_14 post o c nu dr hb wb (n + 1) x (nI j) :=
  br_t (nI_le (a := 12) hj hj2) h
theorem tp_ysL {post : Int32 → Prop} {c x1 : Int32} {nu ho se ch ac : Nat → Int32} (hp : (x1 < 0 → post (-100000)) ∧ (¬ x1 < 0 → ((2 < x1 → post (-100000)) ∧ (¬ 2 < x1 → post (tp_sv nu x1 12))))) :
    ∀ d j, j + d = 12 → wY_sum_4 post x1 c nu ho se ch ac (d + 1) (tp_sv nu x1 j) (nI j) := by
  intro d
  induction d with
  | zero =>
    intro j hj
    have : j = 12 := by omega
    subst this
    exact br_t (nI_le (a := 12) (b := 12) (by omega) (by decide)) hp
  | succ d ih =>
    intro j hj
    have ej : (nI j).toNatClampNeg = j := nI_clamp (by omega)
    have hi : vp_in (nI j) 12 := vp_in_nI (by omega) (by decide)
    have hn : ¬ (12 : Int32) ≤ nI j := nI_ge (b := 12) (by omega) (by decide)
    have ihj := ih (j + 1) (by omega)
    refine br_f hn ⟨tp_30, ?_⟩
    rw [tp_rem3 (by omega), ej]
    refine br_c (fun z => ⟨hi, nm_r (e' := tp_sv nu x1 (j + 1)) (if_pos z).symm (nm_r (nI_1 j) ihj)⟩) (fun z => nm_r (nI_1 j) ?_)
    rw [show tp_sv nu x1 (j + 1) = tp_sv nu x1 j from if_neg z] at ihj
    exact ihj
theorem tp_ysum {post : Int32 → Prop} {c x1 : Int32} {nu ho se ch ac : Nat → Int32} (hp : (x1 < 0 → post (-100000)) ∧ (¬ x1 < 0 → ((2 < x1 → post (-100000)) ∧ (¬ 2 < x1 → post (tp_sv nu x1 12))))) : wpY_sum post (c, nu, ho, se, ch, ac) x1 :=
  ⟨13, tp_ysL hp 12 0 rfl⟩
theorem i_vc_sum {k : Nat} {u : SX} {v : SY} (I : i_Rel k u v) (hk : k + 4 ≤ 2048) (v1 : Int32) : wpX_sum (fun r => wpY_sum (fun r' => r' = r ∧ i_Rel (k + 4) u v) v v1) u v1 := by
  obtain ⟨o, c, nu, dr, hb, wb, ho, se, ch, ac, rfl, rfl, R⟩ := I
  have J : ∀ n, i_Rel n (o, c, nu, dr, hb, wb) (c, nu, ho, se, ch, ac) := fun n => ⟨o, c, nu, dr, hb, wb, ho, se, ch, ac, rfl, rfl, R⟩
  unfold wpX_sum
  dsimp only
  rcases tp_ix v1 3 (by decide) with ⟨m, hm, rfl⟩ | h | ⟨h0, h4, h3⟩
  · refine tp_km1 hm (br_f tp_10 ⟨5, tp_xsS (by omega) (tp_xsS (by omega) (tp_xsS (by omega) (tp_xsS (by omega) (tp_xsE (by omega) (by omega) ?_))))⟩)
    exact tp_ysum (br_f (nI_pos (by omega)) (br_f (nI_nlt (b := m) (a := 2) (by omega) (by decide)) ⟨tp_svm nu hm, J _⟩))
  · exact br_t h (br_t rfl (tp_ysum (br_t h ⟨rfl, J _⟩)))
  · exact br_f h0 (br_t h4 (br_t rfl (tp_ysum (br_f h0 (br_t (h3 2 (by decide)) ⟨rfl, J _⟩)))))
theorem tp_xtL {post : Int32 → Prop} {o c : Int32} {nu dr hb wb : Nat → Int32} (hp : post (tp_tv nu 12)) :
    ∀ d j, j + d = 12 → wX_total_4 post o c nu dr hb wb (d + 1) (tp_tv nu j) (nI j) := by
  intro d
  induction d with
  | zero =>
    intro j hj
    have : j = 12 := by omega
    subst this
    exact br_t (nI_le (a := 12) (b := 12) (by omega) (by decide)) hp
  | succ d ih =>
    intro j hj
    have ej : (nI j).toNatClampNeg = j := nI_clamp (by omega)
    have hi : vp_in (nI j) 12 := vp_in_nI (by omega) (by decide)
    exact br_f (nI_ge (b := 12) (by omega) (by decide)) ⟨hi, nm_r (e' := tp_tv nu (j + 1)) (by rw [ej]; rfl) (nm_r (nI_1 j) (ih (j + 1) (by omega)))⟩
theorem i_vc_total {k : Nat} {u : SX} {v : SY} (I : i_Rel k u v) (hk : k + 4 ≤ 2048) : wpX_total (fun r => wpY_total (fun r' => r' = r ∧ i_Rel (k + 4) u v) v) u := by
  obtain ⟨o, c, nu, dr, hb, wb, ho, se, ch, ac, rfl, rfl, R⟩ := I
  have J : ∀ n, i_Rel n (o, c, nu, dr, hb, wb) (c, nu, ho, se, ch, ac) := fun n => ⟨o, c, nu, dr, hb, wb, ho, se, ch, ac, rfl, rfl, R⟩
  refine ⟨13, tp_xtL ?_ 12 0 rfl⟩
  unfold wpY_total
  dsimp only
  refine tp_ysum (br_f (by decide) (br_f (by decide) (tp_ysum (br_f (by decide) (br_f (by decide) (tp_ysum (br_f (by decide) (br_f (by decide) ⟨tp_svt nu, J _⟩))))))))
