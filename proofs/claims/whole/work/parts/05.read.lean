/-! belongs -/
theorem qd_m255 : ∀ s, s < 256 → nI s &&& 255 = nI s := by decide +kernel
theorem qd_inv : ∀ s, s < 256 → (255 &&& (nI s ^^^ (-1))) &&& 255 = nI (255 - s) := by decide +kernel
theorem qd_sh : ∀ m, m < 8 → (1 : Int32) <<< (nI m &&& 31) = nI (2 ^ m) := by decide +kernel
theorem yb_w (post : Int32 → Prop) (h k s : Nat) (x : Int32) (b : Nat → Int32) (hk : k < h) (hh : h ≤ 10) (hs : s < 256) (ex : x &&& 255 = nI s) (h01 : ∀ j, j < 2560 → qd_01 (b j)) (hp : post (b (256 * (h - 1 - k) + s))) : wpY_belongs post (nI h, b) (nI k) x := by
  have e : 256 * ((nI h - 1) - nI k) + (x &&& 255) = nI (256 * (h - 1 - k) + s) := by rw [qd_row' hk, ex, nI_add]
  refine ⟨pk_in _ 2816 (by omega) e, ?_⟩
  rw [pk_cl _ e (by omega)]
  exact ⟨qd_r01 (h01 _ (by omega)), hp⟩
/-! isLeast -/
def qd_L (a : Nat → Int32) (r s : Nat) : Prop := a (r + s) ≠ 0 ∧ ∀ t, t < 256 → t ≠ s → t &&& s = t → a (r + t) = 0
theorem qd_Lc {a b : Nat → Int32} {r s : Nat} (h : ∀ t, t < 256 → b (r + t) = a (r + t)) (hs : s < 256) : qd_L b r s ↔ qd_L a r s := by
  constructor
  · intro w
    refine ⟨by rw [← h s hs]; exact w.1, fun t ht n e => ?_⟩
    rw [← h t ht]
    exact w.2 t ht n e
  · intro w
    refine ⟨by rw [h s hs]; exact w.1, fun t ht n e => ?_⟩
    rw [h t ht]
    exact w.2 t ht n e
theorem xi_l (post : Int32 → Prop) (r s : Nat) (fh : Int32) (a : Nat → Int32) (hr : r + 256 ≤ 2560) (hs : s < 256) (hU : qd_UC a r) (hn : a (r + s) ≠ 0) (h1 : qd_L a r s → post 1) (h0 : ¬ qd_L a r s → post 0) : ∀ d m : Nat, m + d = 8 → (∀ m', m' < m → s &&& 2 ^ m' ≠ 0 → a (r + (s - 2 ^ m')) = 0) → wX_isLeast_15 post (nI r) (nI s) fh a (d + 1) (nI m) := by
  intro d
  induction d with
  | zero =>
    intro m hm hb
    refine br_t (qd_g8 (by omega)) (h1 ⟨hn, fun t ht hne hsub => Classical.byContradiction fun q => ?_⟩)
    obtain ⟨m', h8, hb1, hs2⟩ := qd_lack hs hsub hne
    exact hU t (s - 2 ^ m') ht (Nat.lt_of_le_of_lt (Nat.sub_le _ _) hs) hs2 q (hb m' (by omega) hb1)
  | succ d ih =>
    intro m hm hb
    have nx : (s &&& 2 ^ m ≠ 0 → a (r + (s - 2 ^ m)) = 0) → ∀ y, y = nI m + 1 → wX_isLeast_15 post (nI r) (nI s) fh a (d + 1) y := by
      intro q y ey
      rw [nI_1] at ey
      subst ey
      refine ih (m + 1) (by omega) ?_
      intro m' h2
      by_cases e : m' = m
      · subst e; exact q
      · exact hb m' (by omega)
    refine br_f (qd_ng8 (by omega)) fun x4 e4 => ?_
    rw [qd_sh m (by omega)] at e4
    subst e4
    rw [nx_and]
    refine pk_eq (s &&& 2 ^ m) 0 (fun q => nx fun w => absurd q w) (fun q => ?_) rfl rfl (Nat.lt_of_le_of_lt Nat.and_le_left (by omega)) (by omega)
    obtain ⟨g1, g2, g3⟩ := qd_b1 s hs m (by omega) q
    have e : (nI r + nI s) - nI (2 ^ m) = nI (r + (s - 2 ^ m)) := by
      rw [nI_add, pk_sub (Nat.le_trans g1 (Nat.le_add_left s r)), Nat.add_sub_assoc g1]
    have hlt : s - 2 ^ m < 256 := Nat.lt_of_le_of_lt (Nat.sub_le _ _) hs
    refine ⟨pk_in _ 2560 (by omega) e, ?_⟩
    rw [pk_cl _ e (by omega)]
    by_cases z : a (r + (s - 2 ^ m)) = 0
    · exact br_t z (nx fun _ => z)
    · exact br_f z (h0 fun w => z (w.2 _ hlt g3 g2))
theorem xi_w (post : Int32 → Prop) (r s : Nat) (fh : Int32) (a : Nat → Int32) (hr : r + 256 ≤ 2560) (hs : s < 256) (hU : qd_UC a r) (h1 : qd_L a r s → post 1) (h0 : ¬ qd_L a r s → post 0) : wpX_isLeast post (fh, a) (nI r) (nI s) := by
  refine ⟨pk_in (r + s) 2560 (by omega) qd_ad, ?_⟩
  rw [pk_cl (r + s) qd_ad (by omega)]
  by_cases z : a (r + s) = 0
  · exact br_t z (h0 fun w => w.1 z)
  · exact br_f z ⟨9, xi_l post r s fh a hr hs hU z h1 h0 8 0 rfl (fun m' h => absurd h (by omega))⟩
theorem yi_l (post : Int32 → Prop) (h k s : Nat) (b : Nat → Int32) (hk : k < h) (hh : h ≤ 10) (hs : s < 256) (h01 : ∀ j, j < 2560 → qd_01 (b j)) (hn : b (256 * (h - 1 - k) + s) ≠ 0) (h1 : qd_L b (256 * (h - 1 - k)) s → post 1) (h0 : ¬ qd_L b (256 * (h - 1 - k)) s → post 0) : ∀ d t : Nat, t + d = 256 → (∀ t', t' < t → t' ≠ s → t' &&& s = t' → b (256 * (h - 1 - k) + t') = 0) → wY_isLeast_13 post (nI k) (nI s) (nI h) b (d + 1) (nI t) := by
  intro d
  induction d with
  | zero =>
    intro t ht hb
    exact br_t (qd_ge (by omega)) (h1 ⟨hn, fun t' ht' => hb t' (by omega)⟩)
  | succ d ih =>
    intro t ht hb
    have nx : (t ≠ s → t &&& s = t → b (256 * (h - 1 - k) + t) = 0) → ∀ y, y = nI t + 1 → wY_isLeast_13 post (nI k) (nI s) (nI h) b (d + 1) y := by
      intro q y ey
      rw [nI_1] at ey
      subst ey
      refine ih (t + 1) (by omega) ?_
      intro t' h2
      by_cases e : t' = t
      · subst e; exact q
      · exact hb t' (by omega)
    refine br_f (qd_ng (by omega)) (pk_eq t s (fun e => nx fun w => absurd e w) (fun ne => ?_))
    rw [nx_and]
    refine pk_eq (t &&& s) t (fun e => ?_) (fun e => nx fun _ w => absurd w e) rfl rfl (Nat.lt_of_le_of_lt Nat.and_le_left (by omega)) (by omega)
    refine yb_w _ h k t (nI t) b hk hh (by omega) (qd_m255 t (by omega)) h01 ?_
    by_cases z : b (256 * (h - 1 - k) + t) = 0
    · exact br_t z (nx fun _ _ => z)
    · exact br_f z (h0 fun w => z (w.2 t (by omega) ne e))
theorem yi_w (post : Int32 → Prop) (h k s : Nat) (b : Nat → Int32) (hk : k < h) (hh : h ≤ 10) (hs : s < 256) (h01 : ∀ j, j < 2560 → qd_01 (b j)) (h1 : qd_L b (256 * (h - 1 - k)) s → post 1) (h0 : ¬ qd_L b (256 * (h - 1 - k)) s → post 0) : wpY_isLeast post (nI h, b) (nI k) (nI s) := by
  unfold wpY_isLeast
  refine yb_w _ h k s (nI s) b hk hh hs (qd_m255 s hs) h01 ?_
  by_cases z : b (256 * (h - 1 - k) + s) = 0
  · exact br_t z (h0 fun w => w.1 z)
  · exact br_f z ⟨257, yi_l post h k s b hk hh hs h01 z h1 h0 256 0 rfl (fun t' h => absurd h (by omega))⟩
/-! leastSets, leastSet: both sides in step -/
theorem ls_l {h k : Nat} {a b : Nat → Int32} (R : qd_R h a b) (hk : k < h) : ∀ d s c : Nat, s + d = 256 → ∃ r : Int32, (∀ post : Int32 → Prop, post r → wX_leastSets_21 post (nI (256 * (h - 1 - k))) (nI h) a (d + 1) (nI c) (nI s)) ∧ (∀ post : Int32 → Prop, post r → wY_leastSets_14 post (nI k) (nI h) b (d + 1) (nI c) (nI s)) := by
  obtain ⟨R1, R2, R3, R4⟩ := R
  have h01 : ∀ j, j < 2560 → qd_01 (b j) := fun j hj => by rw [R2 j hj]; exact R3 j
  have hU := R4 (h - 1 - k) (by omega)
  intro d
  induction d with
  | zero =>
    intro s c hs
    exact ⟨nI c, fun _ hp => br_t (qd_ge (by omega)) hp, fun _ hp => br_t (qd_ge (by omega)) hp⟩
  | succ d ih =>
    intro s c hs
    have hL : qd_L b (256 * (h - 1 - k)) s ↔ qd_L a (256 * (h - 1 - k)) s := qd_Lc (fun t ht => R2 _ (by omega)) (by omega)
    by_cases L : qd_L a (256 * (h - 1 - k)) s
    · obtain ⟨r, hX, hY⟩ := ih (s + 1) (c + 1) (by omega)
      refine ⟨r, fun post hp => br_f (qd_ng (by omega)) (xi_w _ _ s (nI h) a (by omega) (by omega) hU (fun _ => br_f qd_10 fun y ey z ez => ?_) (fun n => absurd L n)), fun post hp => br_f (qd_ng (by omega)) (yi_w _ h k s b hk R1 (by omega) h01 (fun _ => br_f qd_10 fun y ey z ez => ?_) (fun n => absurd (hL.mpr L) n))⟩
      · rw [nI_1] at ey ez
        subst ey ez
        exact hX post hp
      · rw [nI_1] at ey ez
        subst ey ez
        exact hY post hp
    · obtain ⟨r, hX, hY⟩ := ih (s + 1) c (by omega)
      refine ⟨r, fun post hp => br_f (qd_ng (by omega)) (xi_w _ _ s (nI h) a (by omega) (by omega) hU (fun n => absurd n L) (fun _ => br_t rfl fun z ez => ?_)), fun post hp => br_f (qd_ng (by omega)) (yi_w _ h k s b hk R1 (by omega) h01 (fun n => absurd (hL.mp n) L) (fun _ => br_t rfl fun z ez => ?_))⟩
      · rw [nI_1] at ez
        subst ez
        exact hX post hp
      · rw [nI_1] at ez
        subst ez
        exact hY post hp
theorem le_l {h k : Nat} {a b : Nat → Int32} (x : Int32) (R : qd_R h a b) (hk : k < h) : ∀ d s c : Nat, s + d = 256 → ∃ r : Int32, (∀ post : Int32 → Prop, post r → wX_leastSet_26 post x (nI (256 * (h - 1 - k))) (nI h) a (d + 1) (nI c) (nI s)) ∧ (∀ post : Int32 → Prop, post r → wY_leastSet_15 post (nI k) x (nI h) b (d + 1) (nI c) (nI s)) := by
  obtain ⟨R1, R2, R3, R4⟩ := R
  have h01 : ∀ j, j < 2560 → qd_01 (b j) := fun j hj => by rw [R2 j hj]; exact R3 j
  have hU := R4 (h - 1 - k) (by omega)
  intro d
  induction d with
  | zero =>
    intro s c hs
    exact ⟨-1, fun _ hp => br_t (qd_ge (by omega)) hp, fun _ hp => br_t (qd_ge (by omega)) hp⟩
  | succ d ih =>
    intro s c hs
    have hL : qd_L b (256 * (h - 1 - k)) s ↔ qd_L a (256 * (h - 1 - k)) s := qd_Lc (fun t ht => R2 _ (by omega)) (by omega)
    by_cases L : qd_L a (256 * (h - 1 - k)) s
    · by_cases e : nI c = x
      · exact ⟨nI s, fun post hp => br_f (qd_ng (by omega)) (xi_w _ _ s (nI h) a (by omega) (by omega) hU (fun _ => br_f qd_10 (br_t e hp)) (fun n => absurd L n)), fun post hp => br_f (qd_ng (by omega)) (yi_w _ h k s b hk R1 (by omega) h01 (fun _ => br_f qd_10 (br_t e hp)) (fun n => absurd (hL.mpr L) n))⟩
      · obtain ⟨r, hX, hY⟩ := ih (s + 1) (c + 1) (by omega)
        refine ⟨r, fun post hp => br_f (qd_ng (by omega)) (xi_w _ _ s (nI h) a (by omega) (by omega) hU (fun _ => br_f qd_10 (br_f e fun y ey z ez => ?_)) (fun n => absurd L n)), fun post hp => br_f (qd_ng (by omega)) (yi_w _ h k s b hk R1 (by omega) h01 (fun _ => br_f qd_10 (br_f e fun y ey z ez => ?_)) (fun n => absurd (hL.mpr L) n))⟩
        · rw [nI_1] at ey ez
          subst ey ez
          exact hX post hp
        · rw [nI_1] at ey ez
          subst ey ez
          exact hY post hp
    · obtain ⟨r, hX, hY⟩ := ih (s + 1) c (by omega)
      refine ⟨r, fun post hp => br_f (qd_ng (by omega)) (xi_w _ _ s (nI h) a (by omega) (by omega) hU (fun n => absurd n L) (fun _ => br_t rfl fun z ez => ?_)), fun post hp => br_f (qd_ng (by omega)) (yi_w _ h k s b hk R1 (by omega) h01 (fun n => absurd (hL.mp n) L) (fun _ => br_t rfl fun z ez => ?_))⟩
      · rw [nI_1] at ez
        subst ez
        exact hX post hp
      · rw [nI_1] at ez
        subst ez
        exact hY post hp
/-- a negative index is met by no count -/
theorem le_n {h k : Nat} {b : Nat → Int32} (x : Int32) (hx : x < 0) (hk : k < h) (hh : h ≤ 10) (h01 : ∀ j, j < 2560 → qd_01 (b j)) (post : Int32 → Prop) (hp : post (-1)) : ∀ d s c : Nat, s + d = 256 → c ≤ s → wY_leastSet_15 post (nI k) x (nI h) b (d + 1) (nI c) (nI s) := by
  intro d
  induction d with
  | zero =>
    intro s c hs hc
    exact br_t (qd_ge (by omega)) hp
  | succ d ih =>
    intro s c hs hc
    have e : ¬ nI c = x := by
      intro e
      rw [← e] at hx
      exact nI_pos (by omega) hx
    refine br_f (qd_ng (by omega)) (yi_w _ h k s b hk hh (by omega) h01 (fun _ => br_f qd_10 (br_f e fun y ey z ez => ?_)) (fun _ => br_t rfl fun z ez => ?_))
    · rw [nI_1] at ey ez
      subst ey ez
      exact ih (s + 1) (c + 1) (by omega) (by omega)
    · rw [nI_1] at ez
      subst ez
      exact ih (s + 1) c (by omega) (by omega)
/-! meet -/
theorem me_l {h k l : Nat} {a b : Nat → Int32} (R : qd_R h a b) (hk : k < h) (hl : l < h) : ∀ d s : Nat, s + d = 256 → ∃ r : Int32, (∀ post : Int32 → Prop, post r → wX_meet_34 post (nI (256 * (h - 1 - k))) (nI (256 * (h - 1 - l))) (nI h) a (d + 1) (nI s)) ∧ (∀ post : Int32 → Prop, post r → wY_meet_20 post (nI k) (nI l) (nI h) b (d + 1) (nI s)) := by
  obtain ⟨R1, R2, R3, R4⟩ := R
  have h01 : ∀ j, j < 2560 → qd_01 (b j) := fun j hj => by rw [R2 j hj]; exact R3 j
  have hU : qd_UC b (256 * (h - 1 - l)) := qd_UCc (R4 (h - 1 - l) (by omega)) fun s hs => R2 _ (by omega)
  intro d
  induction d with
  | zero =>
    intro s hs
    exact ⟨1, fun _ hp => br_t (qd_ge (by omega)) hp, fun _ hp => br_t (qd_ge (by omega)) hp⟩
  | succ d ih =>
    intro s hs
    have e1 : nI (256 * (h - 1 - k)) + nI s = nI (256 * (h - 1 - k) + s) := qd_ad
    have e2 : (nI (256 * (h - 1 - l)) + 255) - nI s = nI (256 * (h - 1 - l) + (255 - s)) := by
      rw [show nI (256 * (h - 1 - l)) + 255 = nI (256 * (h - 1 - l) + 255) from nI_add _ 255, pk_sub (by omega), Nat.add_sub_assoc (by omega)]
    have b1 : b (256 * (h - 1 - k) + s) = a (256 * (h - 1 - k) + s) := R2 _ (by omega)
    have b2 : b (256 * (h - 1 - l) + (255 - s)) = a (256 * (h - 1 - l) + (255 - s)) := R2 _ (by omega)
    have i1 := pk_in (256 * (h - 1 - k) + s) 2560 (by omega) e1
    have i2 := pk_in (256 * (h - 1 - l) + (255 - s)) 2560 (by omega) e2
    have c1 := pk_cl _ e1 (by omega)
    have c2 := pk_cl _ e2 (by omega)
    have yb : ∀ q : Int32 → Prop, q (a (256 * (h - 1 - k) + s)) → wpY_belongs q (nI h, b) (nI k) (nI s) := by
      intro q hq
      refine yb_w q h k s (nI s) b hk R1 (by omega) (qd_m255 s (by omega)) h01 ?_
      rw [b1]
      exact hq
    have yh : ∀ q : Int32 → Prop, q (qd_nt (a (256 * (h - 1 - l) + (255 - s)))) → wpY_hits q (nI h, b) ((nI h - 1) - nI l) (nI s) := by
      intro q hq
      rw [qd_hk hl]
      refine yh_w q (h - 1 - l) s (nI h) b (by omega) (by omega) hU ?_
      rw [b2]
      exact hq
    by_cases z1 : a (256 * (h - 1 - k) + s) = 0
    · obtain ⟨r, hX, hY⟩ := ih (s + 1) (by omega)
      refine ⟨r, fun post hp => br_f (qd_ng (by omega)) ⟨i1, ?_⟩, fun post hp => br_f (qd_ng (by omega)) (yb _ (br_t z1 fun y ey => ?_))⟩
      · rw [c1]
        refine br_t z1 fun y ey => ?_
        rw [nI_1] at ey
        subst ey
        exact hX post hp
      · rw [nI_1] at ey
        subst ey
        exact hY post hp
    · by_cases z2 : a (256 * (h - 1 - l) + (255 - s)) = 0
      · have n2 : qd_nt (a (256 * (h - 1 - l) + (255 - s))) = 1 := if_pos z2
        rw [n2] at yh
        obtain ⟨r, hX, hY⟩ := ih (s + 1) (by omega)
        refine ⟨r, fun post hp => br_f (qd_ng (by omega)) ⟨i1, ?_⟩, fun post hp => br_f (qd_ng (by omega)) (yb _ (br_f z1 (yh _ (br_f qd_10 fun y ey => ?_))))⟩
        · rw [c1]
          refine br_f z1 ⟨i2, ?_⟩
          rw [c2]
          refine br_t z2 fun y ey => ?_
          rw [nI_1] at ey
          subst ey
          exact hX post hp
        · rw [nI_1] at ey
          subst ey
          exact hY post hp
      · have n2 : qd_nt (a (256 * (h - 1 - l) + (255 - s))) = 0 := if_neg z2
        rw [n2] at yh
        refine ⟨0, fun post hp => br_f (qd_ng (by omega)) ⟨i1, ?_⟩, fun post hp => br_f (qd_ng (by omega)) (yb _ (br_f z1 (yh _ (br_t rfl hp))))⟩
        rw [c1]
        refine br_f z1 ⟨i2, ?_⟩
        rw [c2]
        exact br_f z2 hp
/-! withstand -/
theorem wi_l {h k : Nat} {a b : Nat → Int32} (R : qd_R h a b) (hk : k < h) : ∀ (d s : Nat) (c : Int32), s + d = 256 → ∃ r : Int32, (∀ post : Int32 → Prop, post r → wX_withstand_22 post (nI (256 * (h - 1 - k))) (nI h) a (d + 1) c (nI s)) ∧ (∀ post : Int32 → Prop, post r → wY_withstand_15 post (nI k) (nI h) b (d + 1) c (nI s)) := by
  obtain ⟨R1, R2, R3, R4⟩ := R
  have h01 : ∀ j, j < 2560 → qd_01 (b j) := fun j hj => by rw [R2 j hj]; exact R3 j
  intro d
  induction d with
  | zero =>
    intro s c hs
    exact ⟨c, fun _ hp => br_t (qd_ge (by omega)) hp, fun _ hp => br_t (qd_ge (by omega)) hp⟩
  | succ d ih =>
    intro s c hs
    have e2 : (nI (256 * (h - 1 - k)) + 255) - nI s = nI (256 * (h - 1 - k) + (255 - s)) := by
      rw [show nI (256 * (h - 1 - k)) + 255 = nI (256 * (h - 1 - k) + 255) from nI_add _ 255, pk_sub (by omega), Nat.add_sub_assoc (by omega)]
    have b2 : b (256 * (h - 1 - k) + (255 - s)) = a (256 * (h - 1 - k) + (255 - s)) := R2 _ (by omega)
    have i2 := pk_in (256 * (h - 1 - k) + (255 - s)) 2560 (by omega) e2
    have c2 := pk_cl _ e2 (by omega)
    have yb : ∀ q : Int32 → Prop, q (a (256 * (h - 1 - k) + (255 - s))) → wpY_belongs q (nI h, b) (nI k) (255 &&& (nI s ^^^ (-1))) := by
      intro q hq
      refine yb_w q h k (255 - s) _ b hk R1 (by omega) (qd_inv s (by omega)) h01 ?_
      rw [b2]
      exact hq
    by_cases z : a (256 * (h - 1 - k) + (255 - s)) = 0
    · by_cases w : c ≤ nI (qd_pc (nI s))
      · obtain ⟨r, hX, hY⟩ := ih (s + 1) c (by omega)
        refine ⟨r, fun post hp => br_f (qd_ng (by omega)) (xm_w _ _ ⟨i2, ?_⟩), fun post hp => br_f (qd_ng (by omega)) (ym_w _ _ (yb _ (br_t z (br_t w fun y ey => ?_))))⟩
        · rw [c2]
          refine br_t z (br_t w fun y ey => ?_)
          rw [nI_1] at ey
          subst ey
          exact hX post hp
        · rw [nI_1] at ey
          subst ey
          exact hY post hp
      · obtain ⟨r, hX, hY⟩ := ih (s + 1) (nI (qd_pc (nI s))) (by omega)
        refine ⟨r, fun post hp => br_f (qd_ng (by omega)) (xm_w _ _ ⟨i2, ?_⟩), fun post hp => br_f (qd_ng (by omega)) (ym_w _ _ (yb _ (br_t z (br_f w fun y ey => ?_))))⟩
        · rw [c2]
          refine br_t z (br_f w fun y ey => ?_)
          rw [nI_1] at ey
          subst ey
          exact hX post hp
        · rw [nI_1] at ey
          subst ey
          exact hY post hp
    · obtain ⟨r, hX, hY⟩ := ih (s + 1) c (by omega)
      refine ⟨r, fun post hp => br_f (qd_ng (by omega)) (xm_w _ _ ⟨i2, ?_⟩), fun post hp => br_f (qd_ng (by omega)) (ym_w _ _ (yb _ (br_f z fun y ey => ?_)))⟩
      · rw [c2]
        refine br_f z fun y ey => ?_
        rw [nI_1] at ey
        subst ey
        exact hX post hp
      · rw [nI_1] at ey
        subst ey
        exact hY post hp
