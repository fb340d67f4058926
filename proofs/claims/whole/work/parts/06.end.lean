/-! how a transaction ends: close and carryOut of the class, end of the reference -/
def tp_en (x2 : Int32) (t : Nat) (nu ho se ch : Nat → Int32) (j : Nat) : Nat → Int32 := fun i => if i < j ∧ ho i = nI (t + 1) ∧ ¬ x2 = 0 ∧ ¬ ch i = 0 then se i else nu i
def tp_eh (t : Nat) (ho : Nat → Int32) (j : Nat) : Nat → Int32 := fun i => if i < j ∧ ho i = nI (t + 1) then 0 else ho i
theorem tp_en0 (x2 : Int32) (t : Nat) (nu ho se ch : Nat → Int32) : tp_en x2 t nu ho se ch 0 = nu := by
  funext i
  exact if_neg (fun h => by omega)
theorem tp_eh0 (t : Nat) (ho : Nat → Int32) : tp_eh t ho 0 = ho := by
  funext i
  exact if_neg (fun h => by omega)
theorem tp_enj (x2 : Int32) (t : Nat) (nu ho se ch : Nat → Int32) (j : Nat) : tp_en x2 t nu ho se ch j j = nu j := if_neg (fun h => by omega)
theorem tp_ehj (t : Nat) (ho : Nat → Int32) (j : Nat) : tp_eh t ho j j = ho j := if_neg (fun h => by omega)
theorem tp_enN {x2 : Int32} {t : Nat} {nu ho se ch : Nat → Int32} {j : Nat} (h : ¬ (ho j = nI (t + 1) ∧ ¬ x2 = 0 ∧ ¬ ch j = 0)) : tp_en x2 t nu ho se ch (j + 1) = tp_en x2 t nu ho se ch j := by
  funext i
  unfold tp_en
  by_cases z : i = j
  · subst z
    rw [if_neg (fun y => h y.2), if_neg (fun y => h y.2)]
  · by_cases y : i < j
    · simp [y, show i < j + 1 by omega]
    · simp [y, show ¬ i < j + 1 by omega]
theorem tp_enS {x2 : Int32} {t : Nat} {nu ho se ch : Nat → Int32} {j : Nat} (h : ¬ (ho j = nI (t + 1) ∧ ¬ x2 = 0 ∧ ¬ ch j = 0)) : upd (tp_en x2 t nu ho se ch j) j (nu j) = tp_en x2 t nu ho se ch (j + 1) := by
  rw [tp_enN h]
  funext i
  by_cases z : i = j
  · subst z
    rw [pk_us, tp_enj]
  · rw [pk_un z]
theorem tp_enU {x2 : Int32} {t : Nat} {nu ho se ch : Nat → Int32} {j : Nat} (h : ho j = nI (t + 1) ∧ ¬ x2 = 0 ∧ ¬ ch j = 0) : upd (tp_en x2 t nu ho se ch j) j (se j) = tp_en x2 t nu ho se ch (j + 1) := by
  funext i
  by_cases z : i = j
  · subst z
    rw [pk_us]
    exact (if_pos ⟨by omega, h⟩).symm
  · rw [pk_un z]
    unfold tp_en
    by_cases y : i < j
    · simp [y, show i < j + 1 by omega]
    · simp [y, show ¬ i < j + 1 by omega]
theorem tp_ehU {t : Nat} {ho : Nat → Int32} {j : Nat} (h : ho j = nI (t + 1)) : upd (tp_eh t ho j) j 0 = tp_eh t ho (j + 1) := by
  funext i
  by_cases z : i = j
  · subst z
    rw [pk_us]
    exact (if_pos ⟨by omega, h⟩).symm
  · rw [pk_un z]
    unfold tp_eh
    by_cases y : i < j
    · simp [y, show i < j + 1 by omega]
    · simp [y, show ¬ i < j + 1 by omega]
theorem tp_ehS {t : Nat} {ho : Nat → Int32} {j : Nat} (h : ¬ ho j = nI (t + 1)) : tp_eh t ho (j + 1) = tp_eh t ho j := by
  funext i
  unfold tp_eh
  by_cases z : i = j
  · subst z
    rw [if_neg (fun y => h y.2), if_neg (fun y => h y.2)]
  · by_cases y : i < j
    · simp [y, show i < j + 1 by omega]
    · simp [y, show ¬ i < j + 1 by omega]
theorem tp_yendL {post : SY → Prop} {t : Nat} (ht : t < 4) (x2 c : Int32) (nu ho se ch ac : Nat → Int32)
    (hp0 : x2 = 0 → post (c, tp_en x2 t nu ho se ch 12, tp_eh t ho 12, se, ch, upd ac t 0)) (hp1 : ¬ x2 = 0 → post (c + 1, tp_en x2 t nu ho se ch 12, tp_eh t ho 12, se, ch, upd ac t 0)) :
    ∀ d j, j + d = 12 → wY_end_2 post (nI t) x2 c (d + 1) (nI j) (tp_en x2 t nu ho se ch j) (tp_eh t ho j) se ch ac := by
  have et : (nI t).toNatClampNeg = t := nI_clamp (by omega)
  have hi4 : vp_in (nI t) 4 := vp_in_nI ht (by decide)
  intro d
  induction d with
  | zero =>
    intro j hj
    have : j = 12 := by omega
    subst this
    exact br_t (nI_le (a := 12) (b := 12) (by omega) (by decide)) ⟨hi4, nm_r (e' := upd ac t 0) (by rw [et, tp_vb0]) (br_c hp0 (fun z => nm_e (hp1 z)))⟩
  | succ d ih =>
    intro j hj
    have ej : (nI j).toNatClampNeg = j := nI_clamp (by omega)
    have hi : vp_in (nI j) 12 := vp_in_nI (by omega) (by decide)
    have ihj := ih (j + 1) (by omega)
    refine br_f (nI_ge (b := 12) (by omega) (by decide)) ⟨hi, ?_⟩
    rw [ej, tp_ehj, nI_1]
    have k47 : ¬ (ho j = nI (t + 1) ∧ ¬ x2 = 0 ∧ ¬ ch j = 0) → ho j = nI (t + 1) → wY_end_47 post (wY_end_2 post (nI t) x2 c (d + 1)) (nI t) x2 (nI j) (nI j) c (tp_en x2 t nu ho se ch j) (tp_eh t ho j) se ch ac := by
      intro hn hh
      refine ⟨hi, hi, nm_r (e' := tp_en x2 t nu ho se ch (j + 1)) (by rw [ej, tp_enj, tp_enS hn]) ⟨hi, nm_r (e' := tp_eh t ho (j + 1)) (by rw [ej, tp_ehU hh]) (nm_r (nI_1 j) ihj)⟩⟩
    refine br_c (fun hh => ?_) (fun hh => ?_)
    · refine br_c (fun z => k47 (fun y => y.2.1 z) hh) (fun z => ⟨hi, br_c (fun y => k47 (fun w => w.2.2 y) hh) (fun y => ⟨hi, ?_⟩)⟩)
      exact ⟨hi, nm_r (e' := tp_en x2 t nu ho se ch (j + 1)) (by rw [ej]; exact tp_enU ⟨hh, z, y⟩) ⟨hi, nm_r (e' := tp_eh t ho (j + 1)) (by rw [ej, tp_ehU hh]) (nm_r (nI_1 j) ihj)⟩⟩
    · rw [tp_enN (fun y => hh y.1), tp_ehS hh] at ihj
      exact nm_r (nI_1 j) ihj
theorem tp_yend {post : SY → Prop} {t : Nat} (ht : t < 4) (x2 c : Int32) (nu ho se ch ac : Nat → Int32)
    (hp0 : x2 = 0 → post (c, tp_en x2 t nu ho se ch 12, tp_eh t ho 12, se, ch, upd ac t 0)) (hp1 : ¬ x2 = 0 → post (c + 1, tp_en x2 t nu ho se ch 12, tp_eh t ho 12, se, ch, upd ac t 0)) :
    wpY_end post (c, nu, ho, se, ch, ac) (nI t) x2 := by
  have h := tp_yendL ht x2 c nu ho se ch ac hp0 hp1 12 0 rfl
  rw [tp_en0, tp_eh0] at h
  exact ⟨13, h⟩
theorem tp_xclose {post : SX → Prop} {t : Nat} (ht : t < 4) (o c : Int32) (nu dr hb wb : Nat → Int32) (hp : post (o &&& (((1 : Int32) <<< (nI t &&& 31)) ^^^ (-1)), c, nu, dr, upd hb t 0, upd wb t 0)) : wpX_close post (o, c, nu, dr, hb, wb) (nI t) := by
  have et : (nI t).toNatClampNeg = t := nI_clamp (by omega)
  have hi4 : vp_in (nI t) 4 := vp_in_nI ht (by decide)
  unfold wpX_close
  dsimp only
  rw [et]
  exact ⟨hi4, nm_e ⟨hi4, nm_e (nm_e hp)⟩⟩
def tp_cn (w : Int32) (nu dr : Nat → Int32) (j : Nat) : Nat → Int32 := fun i => if i < j ∧ bt w i = true then dr i else nu i
theorem tp_cnN {w : Int32} {nu dr : Nat → Int32} {j : Nat} (h : ¬ bt w j = true) : tp_cn w nu dr (j + 1) = tp_cn w nu dr j := by
  funext i
  unfold tp_cn
  by_cases z : i = j
  · subst z
    rw [if_neg (fun y => h y.2), if_neg (fun y => h y.2)]
  · by_cases y : i < j
    · simp [y, show i < j + 1 by omega]
    · simp [y, show ¬ i < j + 1 by omega]
theorem tp_cnU {w : Int32} {nu dr : Nat → Int32} {j : Nat} (h : bt w j = true) : upd (tp_cn w nu dr j) j (dr j) = tp_cn w nu dr (j + 1) := by
  funext i
  by_cases z : i = j
  · subst z
    rw [pk_us]
    exact (if_pos ⟨by omega, h⟩).symm
  · rw [pk_un z]
    unfold tp_cn
    by_cases y : i < j
    · simp [y, show i < j + 1 by omega]
    · simp [y, show ¬ i < j + 1 by omega]
theorem tp_xcarL {post : SX → Prop} {t : Nat} (ht : t < 4) (o c : Int32) (nu dr hb wb : Nat → Int32) (hp : post (o &&& (((1 : Int32) <<< (nI t &&& 31)) ^^^ (-1)), c + 1, tp_cn (wb t) nu dr 12, dr, upd hb t 0, upd wb t 0)) :
    ∀ d j, j + d = 12 → wX_carryOut_2 post (nI t) o c (d + 1) (nI j) (tp_cn (wb t) nu dr j) dr hb wb := by
  have et : (nI t).toNatClampNeg = t := nI_clamp (by omega)
  have hi4 : vp_in (nI t) 4 := vp_in_nI ht (by decide)
  intro d
  induction d with
  | zero =>
    intro j hj
    have : j = 12 := by omega
    subst this
    exact br_t (nI_le (a := 12) (b := 12) (by omega) (by decide)) (nm_e (tp_xclose ht o (c + 1) _ dr hb wb hp))
  | succ d ih =>
    intro j hj
    have ej : (nI j).toNatClampNeg = j := nI_clamp (by omega)
    have hi : vp_in (nI j) 12 := vp_in_nI (by omega) (by decide)
    have ihj := ih (j + 1) (by omega)
    refine br_f (nI_ge (b := 12) (by omega) (by decide)) ⟨hi4, ?_⟩
    rw [et]
    by_cases z : bt (wb t) j = true
    · exact tp_hk1 (by omega) z (br_f tp_10 ⟨hi, hi, nm_r (e' := tp_cn (wb t) nu dr (j + 1)) (by rw [ej, tp_cnU z]) (nm_r (nI_1 j) ihj)⟩)
    · rw [tp_cnN z] at ihj
      exact tp_hk0 (by omega) z (br_t rfl (nm_r (nI_1 j) ihj))
theorem tp_xcar {post : SX → Prop} {t : Nat} (ht : t < 4) (o c : Int32) (nu dr hb wb : Nat → Int32) (hp : post (o &&& (((1 : Int32) <<< (nI t &&& 31)) ^^^ (-1)), c + 1, tp_cn (wb t) nu dr 12, dr, upd hb t 0, upd wb t 0)) :
    wpX_carryOut post (o, c, nu, dr, hb, wb) (nI t) := by
  have h := tp_xcarL ht o c nu dr hb wb hp 12 0 rfl
  have e : tp_cn (wb t) nu dr 0 = nu := by
    funext i
    exact if_neg (fun h => by omega)
  rw [e] at h
  exact ⟨13, h⟩
/-- a transaction is carried out -/
theorem tp_done {o : Int32} {nu dr hb wb ho se ch ac : Nat → Int32} (R : tp_R o nu dr hb wb ho se ch ac) {t : Nat} (ht : t < 4) :
    ∃ (o' : Int32) (nu' hb' wb' ho' ac' : Nat → Int32), (∀ (c : Int32) (post : SX → Prop), post (o', c + 1, nu', dr, hb', wb') → wpX_carryOut post (o, c, nu, dr, hb, wb) (nI t)) ∧
      (∀ (c : Int32) (post : SY → Prop), post (c + 1, nu', ho', se, ch, ac') → wpY_end post (c, nu, ho, se, ch, ac) (nI t) 1) ∧ tp_R o' nu' dr hb' wb' ho' se ch ac' := by
  have R' := R
  obtain ⟨r1, r2, r3, r4, r5, r6, r7, r8, r9, r10⟩ := R'
  have e : tp_cn (wb t) nu dr 12 = tp_en 1 t nu ho se ch 12 := by
    funext i
    unfold tp_cn tp_en
    by_cases z : i < 12
    · by_cases y : bt (wb t) i = true
      · have y' := (r6 t ht i z).mp y
        rw [if_pos ⟨z, y⟩, if_pos ⟨z, y'.1, tp_10, y'.2⟩]
        exact ((r8 i z (by rw [y'.1]; exact tp_ne0 (by omega))).2 y'.2).symm
      · rw [if_neg (fun w => y w.2), if_neg (fun w => y ((r6 t ht i z).mpr ⟨w.2.1, w.2.2.2⟩))]
    · rw [if_neg (fun w => z w.1), if_neg (fun w => z w.1)]
  refine ⟨_, tp_en 1 t nu ho se ch 12, upd hb t 0, upd wb t 0, tp_eh t ho 12, upd ac t 0, fun c post hp => tp_xcar ht o c nu dr hb wb (by rw [e]; exact hp), fun c post hp => tp_yend ht 1 c nu ho se ch ac (fun z => absurd z tp_10) (fun _ => hp), tp_Rend R ht ?_ ?_⟩
  · intro k hk hh
    refine ⟨if_pos ⟨hk, hh⟩, ?_⟩
    unfold tp_en
    by_cases z : ch k = 0
    · rw [if_neg (fun w => w.2.2.2 z)]
      exact r9 k hk
    · rw [if_pos ⟨hk, hh, tp_10, z⟩]
      exact r10 k hk (by rw [hh]; exact tp_ne0 (by omega))
  · intro k hk hh
    exact ⟨if_neg (fun w => hh w.2), if_neg (fun w => hh w.2.1)⟩
/-- a transaction is rolled back -/
theorem tp_back {o : Int32} {nu dr hb wb ho se ch ac : Nat → Int32} (R : tp_R o nu dr hb wb ho se ch ac) {t : Nat} (ht : t < 4) :
    ∃ (o' : Int32) (hb' wb' ho' ac' : Nat → Int32), (∀ (c : Int32) (post : SX → Prop), post (o', c, nu, dr, hb', wb') → wpX_close post (o, c, nu, dr, hb, wb) (nI t)) ∧
      (∀ (c : Int32) (post : SY → Prop), post (c, nu, ho', se, ch, ac') → wpY_end post (c, nu, ho, se, ch, ac) (nI t) 0) ∧ tp_R o' nu dr hb' wb' ho' se ch ac' := by
  have R' := R
  obtain ⟨r1, r2, r3, r4, r5, r6, r7, r8, r9, r10⟩ := R'
  have e : tp_en 0 t nu ho se ch 12 = nu := by
    funext i
    exact if_neg (fun w => w.2.2.1 rfl)
  refine ⟨_, upd hb t 0, upd wb t 0, tp_eh t ho 12, upd ac t 0, fun c post hp => tp_xclose ht o c nu dr hb wb hp, fun c post hp => tp_yend ht 0 c nu ho se ch ac (fun _ => by rw [e]; exact hp) (fun z => absurd rfl z), tp_Rend R ht ?_ ?_⟩
  · intro k hk hh
    exact ⟨if_pos ⟨hk, hh⟩, r9 k hk⟩
  · intro k hk hh
    exact ⟨if_neg (fun w => hh w.2), rfl⟩
