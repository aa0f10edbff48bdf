/-! what is owed -/
def i_Rel (k : Nat) (u : SX) (v : SY) : Prop := ∃ (h : Nat) (a b : Nat → Int32), u = (nI h, a) ∧ v = (nI h, b) ∧ qd_R h a b
theorem i_up {k : Nat} {u : SX} {v : SY} (h : i_Rel k u v) : i_Rel (k + 3) u v := h
theorem i_vc0 : wpX_init (fun u => wpY_init (fun v => i_Rel 0 u v)) := ⟨0, fun _ => 0, fun _ => 0, rfl, rfl, by omega, fun _ _ => rfl, fun _ => Or.inl rfl, fun i hi => absurd hi (by omega)⟩
theorem i_vc_atLeast {k : Nat} {u : SX} {v : SY} (I : i_Rel k u v) (hk : k + 3 ≤ 1536) (v1 : Int32) (v2 : Int32) : wpX_atLeast (fun r u' => wpY_atLeast (fun r' v' => r' = r ∧ i_Rel (k + 3) u' v') v v1 v2) u v1 v2 := by
  obtain ⟨h, a, b, rfl, rfl, R⟩ := I
  have R1 := R.1
  by_cases c0 : v1 < 0
  · exact br_t c0 (br_t c0 ⟨rfl, h, a, b, rfl, rfl, R⟩)
  by_cases c8 : 8 < v1
  · exact br_f c0 (br_t c8 (br_f c0 (br_t c8 ⟨rfl, h, a, b, rfl, rfl, R⟩)))
  obtain ⟨c, hc, rfl⟩ := nI_of2 (M := 8) (n := 8) (by decide) c0 (Int32.not_lt.mp c8)
  by_cases hh : h < 10
  · refine xa_w _ c v2 h a hc hh (ya_w _ c v2 h b hc hh ⟨rfl, h + 1, _, _, rfl, rfl, ?_⟩)
    exact qd_put R (by omega) (fun i' _ _ => by omega) (fun s _ => qd_fa01 c v2 s) (fun s t _ _ e n => qd_faU c v2 s t e n) (fun _ _ => rfl)
  · have e : h = 10 := by omega
    subst e
    exact br_f c0 (br_f c8 (br_f (by decide) (br_f c0 (br_f c8 (br_t rfl ⟨rfl, 10, a, b, rfl, rfl, R⟩)))))
theorem i_vc_join {k : Nat} {u : SX} {v : SY} (I : i_Rel k u v) (hk : k + 3 ≤ 1536) (v1 : Int32) : wpX_join (fun r u' => wpY_join (fun r' v' => r' = r ∧ i_Rel (k + 3) u' v') v (lw_bz v1)) u (lw_bz v1) := by
  obtain ⟨h, a, b, rfl, rfl, R⟩ := I
  generalize lw_bz v1 = z
  have R1 := R.1
  by_cases h2 : 2 ≤ h
  · refine xj_w _ z h a h2 R1 (yj_w _ z h b h2 R1 ⟨rfl, h - 1, _, _, rfl, rfl, ?_⟩)
    refine qd_put R (by omega) (fun i' _ _ => by omega) (fun s _ => qd_j01 _ _ _) (fun s t hs ht e n => qd_fjU (R.2.2.2 _ (by omega)) (R.2.2.2 _ (by omega)) s t hs ht e n) (fun j hj => ?_)
    by_cases w : 256 * (h - 2) ≤ j ∧ j < 256 * (h - 2) + 256
    · obtain ⟨s, rfl⟩ : ∃ s, j = 256 * (h - 2) + s := ⟨j - 256 * (h - 2), by omega⟩
      rw [qd_win (by omega), qd_win (by omega)]
      unfold qd_fj
      rw [R.2.1 _ (by omega), R.2.1 _ (by omega)]
    · rw [qd_wout w, qd_wout w]
  · have n : ¬ 2 ≤ nI h := nI_ge (b := 2) (by omega) (by decide)
    exact br_f n (br_f n ⟨rfl, h, a, b, rfl, rfl, R⟩)
theorem i_vc_dual {k : Nat} {u : SX} {v : SY} (I : i_Rel k u v) (hk : k + 3 ≤ 1536) : wpX_dual (fun r u' => wpY_dual (fun r' v' => r' = r ∧ i_Rel (k + 3) u' v') v) u := by
  obtain ⟨h, a, b, rfl, rfl, R⟩ := I
  have R1 := R.1
  by_cases h0 : 0 < h
  · have hU := R.2.2.2 (h - 1) (by omega)
    refine xd_w _ h a h0 R1 (yd_w _ h b h0 R1 (qd_UCc hU fun s hs => R.2.1 _ (by omega)) ⟨rfl, h, _, _, rfl, rfl, ?_⟩)
    refine qd_put R R1 (fun i' hi _ => hi) (fun s _ => qd_nt01 _) (fun s t hs ht e n => qd_fdU hU s t hs ht e n) (fun j hj => ?_)
    by_cases w : 256 * (h - 1) ≤ j ∧ j < 256 * (h - 1) + 256
    · obtain ⟨s, rfl⟩ : ∃ s, j = 256 * (h - 1) + s := ⟨j - 256 * (h - 1), by omega⟩
      rw [qd_win (by omega), qd_win (by omega)]
      unfold qd_fd
      rw [R.2.1 _ (by omega)]
    · rw [qd_wout w, qd_wout w, qd_wout (by omega)]
  · have e : h = 0 := by omega
    subst e
    exact br_f (by decide) (br_t rfl ⟨rfl, 0, a, b, rfl, rfl, R⟩)
theorem i_vc_given {k : Nat} {u : SX} {v : SY} (I : i_Rel k u v) (hk : k + 3 ≤ 1536) (v1 : Int32) : wpX_given (fun r u' => wpY_given (fun r' v' => r' = r ∧ i_Rel (k + 3) u' v') v v1) u v1 := by
  obtain ⟨h, a, b, rfl, rfl, R⟩ := I
  have R1 := R.1
  have h01 : ∀ j, j < 2560 → qd_01 (b j) := fun j hj => by rw [R.2.1 j hj]; exact R.2.2.1 j
  obtain ⟨m, hm, em⟩ := pk_andE v1 (m := 255) 8 (by decide)
  by_cases h0 : 0 < h
  · have hU := R.2.2.2 (h - 1) (by omega)
    refine xg_w _ h m v1 a h0 R1 hm em (fun j _ => R.2.2.1 j) (yg_w _ h m v1 b h0 R1 hm em h01 ⟨rfl, h, _, _, rfl, rfl, ?_⟩)
    refine qd_put R R1 (fun i' hi _ => hi) (fun s _ => R.2.2.1 _) (fun s t hs ht e n => qd_fgU hm hU s t hs ht e n) (fun j hj => ?_)
    by_cases w : 256 * (h - 1) ≤ j ∧ j < 256 * (h - 1) + 256
    · obtain ⟨s, rfl⟩ : ∃ s, j = 256 * (h - 1) + s := ⟨j - 256 * (h - 1), by omega⟩
      rw [qd_win (by omega), qd_win (by omega)]
      unfold qd_fg
      have := qd_orlt (s := s) (by omega) hm
      rw [R.2.1 _ (by omega)]
    · rw [qd_wout w, qd_wout w, qd_wout (by omega)]
  · have e : h = 0 := by omega
    subst e
    exact br_f (by decide) (br_t rfl ⟨rfl, 0, a, b, rfl, rfl, R⟩)
theorem i_vc_copy {k : Nat} {u : SX} {v : SY} (I : i_Rel k u v) (hk : k + 3 ≤ 1536) (v1 : Int32) : wpX_copy (fun r u' => wpY_copy (fun r' v' => r' = r ∧ i_Rel (k + 3) u' v') v v1) u v1 := by
  obtain ⟨h, a, b, rfl, rfl, R⟩ := I
  have R1 := R.1
  have h01 : ∀ j, j < 2560 → qd_01 (b j) := fun j hj => by rw [R.2.1 j hj]; exact R.2.2.1 j
  rcases pk_ix v1 (n := h) (by omega) with n | n | ⟨k', hk', rfl⟩
  · unfold wpX_copy
    refine xf_0 _ h v1 a (Or.inl n) (br_t rfl ?_)
    unfold wpY_copy
    exact yf_1 _ h v1 b (Or.inl n) (br_f qd_10 ⟨rfl, h, a, b, rfl, rfl, R⟩)
  · unfold wpX_copy
    refine xf_0 _ h v1 a (Or.inr n) (br_t rfl ?_)
    unfold wpY_copy
    exact yf_1 _ h v1 b (Or.inr n) (br_f qd_10 ⟨rfl, h, a, b, rfl, rfl, R⟩)
  · by_cases hh : h < 10
    · refine xc_w _ h k' a hk' hh (fun j _ => R.2.2.1 j) (yc_w _ h k' b hk' hh h01 ⟨rfl, h + 1, _, _, rfl, rfl, ?_⟩)
      refine qd_put R (by omega) (fun i' _ _ => by omega) (fun s _ => R.2.2.1 _) (R.2.2.2 (h - 1 - k') (by omega)) (fun j hj => ?_)
      by_cases w : 256 * h ≤ j ∧ j < 256 * h + 256
      · obtain ⟨s, rfl⟩ : ∃ s, j = 256 * h + s := ⟨j - 256 * h, by omega⟩
        rw [qd_win (by omega), qd_win (by omega)]
        exact R.2.1 _ (by omega)
      · rw [qd_wout w, qd_wout w]
    · have e : h = 10 := by omega
      subst e
      unfold wpX_copy
      refine xf_1 _ 10 k' a hk' R1 (br_f qd_10 (br_f (by decide) ?_))
      unfold wpY_copy
      exact yf_0 _ 10 k' b hk' R1 (br_t rfl (br_t rfl ⟨rfl, 10, a, b, rfl, rfl, R⟩))
theorem i_vc_drop {k : Nat} {u : SX} {v : SY} (I : i_Rel k u v) (hk : k + 3 ≤ 1536) : wpX_drop (fun r u' => wpY_drop (fun r' v' => r' = r ∧ i_Rel (k + 3) u' v') v) u := by
  obtain ⟨h, a, b, rfl, rfl, R⟩ := I
  obtain ⟨R1, R2, R3, R4⟩ := R
  by_cases h0 : 0 < h
  · refine br_t (nI_le (a := 1) h0 (by omega)) fun y ey => ?_
    rw [qd_h1 h0] at ey
    subst ey
    refine br_f (qd_n0 h0 R1) fun y ey => ?_
    rw [qd_h1 h0] at ey
    subst ey
    exact ⟨rfl, h - 1, a, b, rfl, rfl, by omega, R2, R3, fun i hi => R4 i (by omega)⟩
  · have e : h = 0 := by omega
    subst e
    exact br_f (by decide) (br_t rfl ⟨rfl, 0, a, b, rfl, rfl, R1, R2, R3, R4⟩)
theorem i_vc_enough {k : Nat} {u : SX} {v : SY} (I : i_Rel k u v) (hk : k + 3 ≤ 1536) (v1 : Int32) (v2 : Int32) : wpX_enough (fun r => wpY_enough (fun r' => r' = r ∧ i_Rel (k + 3) u v) v v1 v2) u v1 v2 := by
  obtain ⟨h, a, b, rfl, rfl, R⟩ := I
  have R1 := R.1
  have h01 : ∀ j, j < 2560 → qd_01 (b j) := fun j hj => by rw [R.2.1 j hj]; exact R.2.2.1 j
  rcases pk_ix v1 (n := h) (by omega) with n | n | ⟨k', hk', rfl⟩
  · unfold wpX_enough
    refine xf_0 _ h v1 a (Or.inl n) (br_t rfl ?_)
    unfold wpY_enough
    exact yf_1 _ h v1 b (Or.inl n) (br_f qd_10 ⟨rfl, h, a, b, rfl, rfl, R⟩)
  · unfold wpX_enough
    refine xf_0 _ h v1 a (Or.inr n) (br_t rfl ?_)
    unfold wpY_enough
    exact yf_1 _ h v1 b (Or.inr n) (br_f qd_10 ⟨rfl, h, a, b, rfl, rfl, R⟩)
  · obtain ⟨m, hm, em⟩ := pk_andE v2 (m := 255) 8 (by decide)
    have hm : m < 256 := hm
    unfold wpX_enough
    refine xf_1 _ h k' a hk' R1 (br_f qd_10 ?_)
    have e : ((nI h - 1) - nI k') * 256 + (v2 &&& 255) = nI (256 * (h - 1 - k') + m) := by rw [qd_row hk', em, nI_add]
    refine ⟨pk_in _ 2560 (by omega) e, ?_⟩
    rw [pk_cl _ e (by omega)]
    have y : ∀ q : Int32 → Prop, q (if a (256 * (h - 1 - k') + m) = 0 then 0 else 1) → wpY_enough q (nI h, b) (nI k') v2 := by
      intro q hq
      unfold wpY_enough
      refine yf_0 _ h k' b hk' R1 (br_t rfl (yb_w _ h k' m v2 b hk' R1 hm em h01 ?_))
      rw [R.2.1 _ (by omega)]
      by_cases z : a (256 * (h - 1 - k') + m) = 0
      · rw [if_pos z] at hq
        exact br_t z hq
      · rw [if_neg z] at hq
        exact br_f z hq
    by_cases z : a (256 * (h - 1 - k') + m) = 0
    · rw [if_pos z] at y
      exact br_t z (y _ ⟨rfl, h, a, b, rfl, rfl, R⟩)
    · rw [if_neg z] at y
      exact br_f z (y _ ⟨rfl, h, a, b, rfl, rfl, R⟩)
theorem i_vc_leastSets {k : Nat} {u : SX} {v : SY} (I : i_Rel k u v) (hk : k + 3 ≤ 1536) (v1 : Int32) : wpX_leastSets (fun r => wpY_leastSets (fun r' => r' = r ∧ i_Rel (k + 3) u v) v v1) u v1 := by
  obtain ⟨h, a, b, rfl, rfl, R⟩ := I
  have R1 := R.1
  have h01 : ∀ j, j < 2560 → qd_01 (b j) := fun j hj => by rw [R.2.1 j hj]; exact R.2.2.1 j
  rcases pk_ix v1 (n := h) (by omega) with n | n | ⟨k', hk', rfl⟩
  · unfold wpX_leastSets
    refine xf_0 _ h v1 a (Or.inl n) (br_t rfl ?_)
    unfold wpY_leastSets
    exact yf_1 _ h v1 b (Or.inl n) (br_f qd_10 ⟨rfl, h, a, b, rfl, rfl, R⟩)
  · unfold wpX_leastSets
    refine xf_0 _ h v1 a (Or.inr n) (br_t rfl ?_)
    unfold wpY_leastSets
    exact yf_1 _ h v1 b (Or.inr n) (br_f qd_10 ⟨rfl, h, a, b, rfl, rfl, R⟩)
  · obtain ⟨r, hX, hY⟩ := ls_l R hk' 256 0 0 rfl
    unfold wpX_leastSets
    refine xf_1 _ h k' a hk' R1 (br_f qd_10 ?_)
    show ∃ n : Nat, wX_leastSets_21 _ (((nI h - 1) - nI k') * 256) (nI h) a n 0 0
    rw [qd_row hk']
    refine ⟨257, hX _ ?_⟩
    unfold wpY_leastSets
    exact yf_0 _ h k' b hk' R1 (br_t rfl ⟨257, hY _ ⟨rfl, h, a, b, rfl, rfl, R⟩⟩)
theorem i_vc_leastSet {k : Nat} {u : SX} {v : SY} (I : i_Rel k u v) (hk : k + 3 ≤ 1536) (v1 : Int32) (v2 : Int32) : wpX_leastSet (fun r => wpY_leastSet (fun r' => r' = r ∧ i_Rel (k + 3) u v) v v1 v2) u v1 v2 := by
  obtain ⟨h, a, b, rfl, rfl, R⟩ := I
  have R1 := R.1
  have h01 : ∀ j, j < 2560 → qd_01 (b j) := fun j hj => by rw [R.2.1 j hj]; exact R.2.2.1 j
  rcases pk_ix v1 (n := h) (by omega) with n | n | ⟨k', hk', rfl⟩
  · unfold wpX_leastSet
    refine xf_0 _ h v1 a (Or.inl n) (br_t rfl ?_)
    unfold wpY_leastSet
    exact yf_1 _ h v1 b (Or.inl n) (br_f qd_10 ⟨rfl, h, a, b, rfl, rfl, R⟩)
  · unfold wpX_leastSet
    refine xf_0 _ h v1 a (Or.inr n) (br_t rfl ?_)
    unfold wpY_leastSet
    exact yf_1 _ h v1 b (Or.inr n) (br_f qd_10 ⟨rfl, h, a, b, rfl, rfl, R⟩)
  · by_cases i0 : 0 ≤ v2
    · obtain ⟨r, hX, hY⟩ := le_l v2 R hk' 256 0 0 rfl
      unfold wpX_leastSet
      refine xf_1 _ h k' a hk' R1 (br_f qd_10 (br_t i0 ?_))
      show ∃ n : Nat, wX_leastSet_26 _ v2 (((nI h - 1) - nI k') * 256) (nI h) a n 0 0
      rw [qd_row hk']
      refine ⟨257, hX _ ?_⟩
      unfold wpY_leastSet
      exact yf_0 _ h k' b hk' R1 (br_t rfl ⟨257, hY _ ⟨rfl, h, a, b, rfl, rfl, R⟩⟩)
    · unfold wpX_leastSet
      refine xf_1 _ h k' a hk' R1 (br_f qd_10 (br_f i0 ?_))
      unfold wpY_leastSet
      exact yf_0 _ h k' b hk' R1 (br_t rfl ⟨257, le_n v2 (Int32.not_le.mp i0) hk' R1 h01 _ ⟨rfl, h, a, b, rfl, rfl, R⟩ 256 0 0 rfl (Nat.le_refl 0)⟩)
theorem i_vc_meet {k : Nat} {u : SX} {v : SY} (I : i_Rel k u v) (hk : k + 3 ≤ 1536) (v1 : Int32) (v2 : Int32) : wpX_meet (fun r => wpY_meet (fun r' => r' = r ∧ i_Rel (k + 3) u v) v v1 v2) u v1 v2 := by
  obtain ⟨h, a, b, rfl, rfl, R⟩ := I
  have R1 := R.1
  have h01 : ∀ j, j < 2560 → qd_01 (b j) := fun j hj => by rw [R.2.1 j hj]; exact R.2.2.1 j
  rcases pk_ix v1 (n := h) (by omega) with n | n | ⟨k', hk', rfl⟩
  · unfold wpX_meet
    refine xf_0 _ h v1 a (Or.inl n) (br_t rfl ?_)
    unfold wpY_meet
    exact yf_1 _ h v1 b (Or.inl n) (br_f qd_10 ⟨rfl, h, a, b, rfl, rfl, R⟩)
  · unfold wpX_meet
    refine xf_0 _ h v1 a (Or.inr n) (br_t rfl ?_)
    unfold wpY_meet
    exact yf_1 _ h v1 b (Or.inr n) (br_f qd_10 ⟨rfl, h, a, b, rfl, rfl, R⟩)
  · rcases pk_ix v2 (n := h) (by omega) with n | n | ⟨l', hl', rfl⟩
    · unfold wpX_meet
      refine xf_1 _ h k' a hk' R1 (br_f qd_10 (xf_0 _ h v2 a (Or.inl n) (br_t rfl ?_)))
      unfold wpY_meet
      exact yf_0 _ h k' b hk' R1 (br_t rfl (yf_1 _ h v2 b (Or.inl n) (br_f qd_10 ⟨rfl, h, a, b, rfl, rfl, R⟩)))
    · unfold wpX_meet
      refine xf_1 _ h k' a hk' R1 (br_f qd_10 (xf_0 _ h v2 a (Or.inr n) (br_t rfl ?_)))
      unfold wpY_meet
      exact yf_0 _ h k' b hk' R1 (br_t rfl (yf_1 _ h v2 b (Or.inr n) (br_f qd_10 ⟨rfl, h, a, b, rfl, rfl, R⟩)))
    · obtain ⟨r, hX, hY⟩ := me_l R hk' hl' 256 0 rfl
      unfold wpX_meet
      refine xf_1 _ h k' a hk' R1 (br_f qd_10 (xf_1 _ h l' a hl' R1 (br_f qd_10 ?_)))
      show ∃ n : Nat, wX_meet_34 _ (((nI h - 1) - nI k') * 256) (((nI h - 1) - nI l') * 256) (nI h) a n 0
      rw [qd_row hk', qd_row hl']
      refine ⟨257, hX _ ?_⟩
      unfold wpY_meet
      exact yf_0 _ h k' b hk' R1 (br_t rfl (yf_0 _ h l' b hl' R1 (br_t rfl ⟨257, hY _ ⟨rfl, h, a, b, rfl, rfl, R⟩⟩)))
theorem i_vc_withstand {k : Nat} {u : SX} {v : SY} (I : i_Rel k u v) (hk : k + 3 ≤ 1536) (v1 : Int32) : wpX_withstand (fun r => wpY_withstand (fun r' => r' = r ∧ i_Rel (k + 3) u v) v v1) u v1 := by
  obtain ⟨h, a, b, rfl, rfl, R⟩ := I
  have R1 := R.1
  have h01 : ∀ j, j < 2560 → qd_01 (b j) := fun j hj => by rw [R.2.1 j hj]; exact R.2.2.1 j
  rcases pk_ix v1 (n := h) (by omega) with n | n | ⟨k', hk', rfl⟩
  · unfold wpX_withstand
    refine xf_0 _ h v1 a (Or.inl n) (br_t rfl ?_)
    unfold wpY_withstand
    exact yf_1 _ h v1 b (Or.inl n) (br_f qd_10 ⟨rfl, h, a, b, rfl, rfl, R⟩)
  · unfold wpX_withstand
    refine xf_0 _ h v1 a (Or.inr n) (br_t rfl ?_)
    unfold wpY_withstand
    exact yf_1 _ h v1 b (Or.inr n) (br_f qd_10 ⟨rfl, h, a, b, rfl, rfl, R⟩)
  · obtain ⟨r, hX, hY⟩ := wi_l R hk' 256 0 9 rfl
    unfold wpX_withstand
    refine xf_1 _ h k' a hk' R1 (br_f qd_10 ?_)
    show ∃ n : Nat, wX_withstand_22 _ (((nI h - 1) - nI k') * 256) (nI h) a n 9 0
    rw [qd_row hk']
    refine ⟨257, hX _ ?_⟩
    unfold wpY_withstand
    exact yf_0 _ h k' b hk' R1 (br_t rfl ⟨257, hY _ ⟨rfl, h, a, b, rfl, rfl, R⟩⟩)
