/-! numbers as both sides print them -/
theorem qd_256 (h : Nat) : (256 : Int32) * nI h = nI (256 * h) := pk_mul 256 h
theorem qd_256' (h : Nat) : nI h * (256 : Int32) = nI (256 * h) := (pk_mul h 256).trans (congrArg nI (Nat.mul_comm h 256))
theorem qd_h1 {h : Nat} (hh : 0 < h) : nI h - 1 = nI (h - 1) := pk_sub (b := 1) hh
theorem qd_hk {h k : Nat} (hk : k < h) : (nI h - 1) - nI k = nI (h - 1 - k) := by
  rw [qd_h1 (by omega), pk_sub (by omega)]
theorem qd_row {h k : Nat} (hk : k < h) : ((nI h - 1) - nI k) * 256 = nI (256 * (h - 1 - k)) := by
  rw [qd_hk hk, qd_256']
theorem qd_row' {h k : Nat} (hk : k < h) : 256 * ((nI h - 1) - nI k) = nI (256 * (h - 1 - k)) := by
  rw [qd_hk hk, qd_256]
theorem qd_ge {s : Nat} (h : s = 256) : (256 : Int32) ≤ nI s := nI_le (a := 256) (by omega) (by omega)
theorem qd_ng {s : Nat} (h : s < 256) : ¬ (256 : Int32) ≤ nI s := nI_ge (b := 256) h (by decide)
theorem qd_g8 {s : Nat} (h : s = 8) : (8 : Int32) ≤ nI s := nI_le (a := 8) (by omega) (by omega)
theorem qd_ng8 {s : Nat} (h : s < 8) : ¬ (8 : Int32) ≤ nI s := nI_ge (b := 8) h (by decide)
theorem qd_ad {r s : Nat} : nI r + nI s = nI (r + s) := nI_add r s
theorem qd_at {a : Nat → Int32} {i : Int32} {n : Nat} (h : i = nI n) (hn : n < 2 ^ 31) : a i.toNatClampNeg = a n := by rw [h, nI_clamp hn]
/-! machinesIn and ones -/
theorem xm_l (post : Int32 → Prop) (x : Int32) : ∀ d m c : Nat, m + d = 8 → post (nI (c + qd_cn x m d)) → wX_machinesIn_4 post x (d + 1) (nI c) (nI m) := by
  intro d
  induction d with
  | zero => intro m c hm hp; exact br_t (qd_g8 (by omega)) hp
  | succ d ih =>
    intro m c hm hp
    refine br_f (qd_ng8 (by omega)) fun y ey z ez => ?_
    rw [qd_bit x m (by omega), nI_add] at ey
    rw [nI_1] at ez
    subst ey ez
    refine ih (m + 1) _ (by omega) ?_
    rw [Nat.add_assoc]
    exact hp
theorem xm_w (post : Int32 → Prop) (x : Int32) (hp : post (nI (qd_pc x))) : wpX_machinesIn post x := ⟨9, xm_l post x 8 0 0 rfl (by rw [Nat.zero_add]; exact hp)⟩
theorem ym_l (post : Int32 → Prop) (x : Int32) : ∀ d m c : Nat, m + d = 8 → post (nI (c + qd_cn x m d)) → wY_ones_4 post x (d + 1) (nI c) (nI m) := by
  intro d
  induction d with
  | zero => intro m c hm hp; exact br_t (qd_g8 (by omega)) hp
  | succ d ih =>
    intro m c hm hp
    refine br_f (qd_ng8 (by omega)) fun y ey z ez => ?_
    rw [qd_bit x m (by omega), nI_add] at ey
    rw [nI_1] at ez
    subst ey ez
    refine ih (m + 1) _ (by omega) ?_
    rw [Nat.add_assoc]
    exact hp
theorem ym_w (post : Int32 → Prop) (x : Int32) (hp : post (nI (qd_pc x))) : wpY_ones post x := ⟨9, ym_l post x 8 0 0 rfl (by rw [Nat.zero_add]; exact hp)⟩
/-! atLeast -/
def qd_fa (c : Nat) (x : Int32) (s : Nat) : Int32 := if qd_pc (nI s &&& x) < c then 0 else 1
theorem qd_fa01 (c : Nat) (x : Int32) (s : Nat) : qd_01 (qd_fa c x s) := by
  unfold qd_fa
  by_cases z : qd_pc (nI s &&& x) < c
  · exact Or.inl (if_pos z)
  · exact Or.inr (if_neg z)
theorem qd_faU (c : Nat) (x : Int32) (s t : Nat) (h : s &&& t = s) (n : qd_fa c x s ≠ 0) : qd_fa c x t ≠ 0 := by
  have m := qd_pc_mono x h
  have z : ¬ qd_pc (nI s &&& x) < c := fun z => n (if_pos z)
  unfold qd_fa
  rw [if_neg (by omega)]
  decide
theorem xa_l (post : Int32 → SX → Prop) (c : Nat) (x : Int32) (r h : Nat) (a : Nat → Int32) (hc : c ≤ 8) (hr : r + 256 ≤ 2560) (hp : post (nI (h + 1)) (nI (h + 1), qd_w a r (qd_fa c x) 256)) : ∀ d s : Nat, s + d = 256 → wX_atLeast_33 post (nI c) x (nI r) (nI h) (d + 1) (nI s) (qd_w a r (qd_fa c x) s) := by
  intro d
  induction d with
  | zero =>
    intro s hs
    refine br_t (qd_ge (by omega)) fun y ey => ?_
    rw [nI_1] at ey
    subst ey
    rw [show s = 256 by omega]
    exact hp
  | succ d ih =>
    intro s hs
    have hin : vp_in (nI r + nI s) 2560 := pk_in (r + s) 2560 (by omega) qd_ad
    have h8 := qd_pc_le (nI s &&& x)
    have st : ∀ v, vp_nar .boolean v = qd_fa c x s → ∀ a', a' = upd (qd_w a r (qd_fa c x) s) (nI r + nI s).toNatClampNeg (vp_nar .boolean v) → ∀ y, y = nI s + 1 → wX_atLeast_33 post (nI c) x (nI r) (nI h) (d + 1) y a' := by
      intro v hv a' ea y ey
      rw [qd_wst qd_ad (by omega) hv] at ea
      rw [nI_1] at ey
      subst ea ey
      exact ih (s + 1) (by omega)
    refine br_f (qd_ng (by omega)) (xm_w _ _ (pk_lt (qd_pc (nI s &&& x)) c (fun z => ⟨hin, st 0 ?_⟩) (fun z => ⟨hin, st 1 ?_⟩)))
    · exact (if_pos z).symm
    · exact (if_neg (by omega)).symm
theorem xa_w (post : Int32 → SX → Prop) (c : Nat) (x : Int32) (h : Nat) (a : Nat → Int32) (hc : c ≤ 8) (hh : h < 10) (hp : post (nI (h + 1)) (nI (h + 1), qd_w a (256 * h) (qd_fa c x) 256)) : wpX_atLeast post (nI h, a) (nI c) x := by
  refine br_f (nI_pos (by omega)) (br_f (nI_nlt (a := 8) hc (by decide)) (br_t (nI_lt (b := 10) hh (by decide)) fun y ey => ⟨257, ?_⟩))
  rw [qd_256'] at ey
  subst ey
  have := xa_l post c x (256 * h) h a hc (by omega) hp 256 0 rfl
  rw [qd_w0] at this
  exact this
theorem ya_l (post : Int32 → SY → Prop) (c : Nat) (x : Int32) (h : Nat) (a : Nat → Int32) (hc : c ≤ 8) (hr : h < 10) (hp : post (nI (h + 1)) (nI (h + 1), qd_w a (256 * h) (qd_fa c x) 256)) : ∀ d s : Nat, s + d = 256 → wY_atLeast_23 post (nI c) x (nI h) (d + 1) (nI s) (qd_w a (256 * h) (qd_fa c x) s) := by
  intro d
  induction d with
  | zero =>
    intro s hs
    refine br_t (qd_ge (by omega)) fun y ey => ?_
    rw [nI_1] at ey
    subst ey
    rw [show s = 256 by omega]
    exact hp
  | succ d ih =>
    intro s hs
    have hix : 256 * nI h + nI s = nI (256 * h + s) := by rw [qd_256, nI_add]
    have hin : vp_in (256 * nI h + nI s) 2816 := pk_in (256 * h + s) 2816 (by omega) hix
    have h8 := qd_pc_le (nI s &&& x)
    have st : ∀ v, vp_nar .boolean v = qd_fa c x s → ∀ a', a' = upd (qd_w a (256 * h) (qd_fa c x) s) (256 * nI h + nI s).toNatClampNeg (vp_nar .boolean v) → ∀ y, y = nI s + 1 → wY_atLeast_23 post (nI c) x (nI h) (d + 1) y a' := by
      intro v hv a' ea y ey
      rw [qd_wst hix (by omega) hv] at ea
      rw [nI_1] at ey
      subst ea ey
      exact ih (s + 1) (by omega)
    refine br_f (qd_ng (by omega)) (ym_w _ _ (pk_lt (qd_pc (nI s &&& x)) c (fun z => ⟨hin, st 0 ?_⟩) (fun z => ⟨hin, st 1 ?_⟩)))
    · exact (if_pos z).symm
    · exact (if_neg (by omega)).symm
theorem ya_w (post : Int32 → SY → Prop) (c : Nat) (x : Int32) (h : Nat) (a : Nat → Int32) (hc : c ≤ 8) (hh : h < 10) (hp : post (nI (h + 1)) (nI (h + 1), qd_w a (256 * h) (qd_fa c x) 256)) : wpY_atLeast post (nI h, a) (nI c) x := by
  refine br_f (nI_pos (by omega)) (br_f (nI_nlt (a := 8) hc (by decide)) (br_f (fun z => ?_) ⟨257, ?_⟩))
  · have := (nI_eq (b := 10) (by omega) (by decide)).mp z
    omega
  have := ya_l post c x h a hc hh hp 256 0 rfl
  rw [qd_w0] at this
  exact this
/-! join -/
def qd_j (z x y : Int32) : Int32 := if z = 0 then (if x = 0 ∧ y = 0 then 0 else 1) else (if x = 0 ∨ y = 0 then 0 else 1)
theorem qd_j01 (z x y : Int32) : qd_01 (qd_j z x y) := by
  unfold qd_j
  split <;> split <;> first | exact Or.inl rfl | exact Or.inr rfl
def qd_fj (z : Int32) (a : Nat → Int32) (ru rl : Nat) (s : Nat) : Int32 := qd_j z (a (ru + s)) (a (rl + s))
theorem qd_fjU {z : Int32} {a : Nat → Int32} {ru rl : Nat} (hu : qd_UC a ru) (hl : qd_UC a rl) (s t : Nat) (hs : s < 256) (ht : t < 256) (h : s &&& t = s) (n : qd_fj z a ru rl s ≠ 0) : qd_fj z a ru rl t ≠ 0 := by
  have u := hu s t hs ht h
  have l := hl s t hs ht h
  unfold qd_fj qd_j at n
  unfold qd_fj qd_j
  by_cases hz : z = 0
  · rw [if_pos hz] at n
    rw [if_pos hz]
    have n2 : ¬ (a (ru + s) = 0 ∧ a (rl + s) = 0) := fun w => n (if_pos w)
    rw [if_neg]
    · decide
    · intro w
      refine n2 ⟨Classical.byContradiction fun q => u q w.1, Classical.byContradiction fun q => l q w.2⟩
  · rw [if_neg hz] at n
    rw [if_neg hz]
    have n2 : ¬ (a (ru + s) = 0 ∨ a (rl + s) = 0) := fun w => n (if_pos w)
    rw [if_neg]
    · decide
    · intro w
      rcases w with w | w
      · exact u (fun q => n2 (Or.inl q)) w
      · exact l (fun q => n2 (Or.inr q)) w
theorem xj_l (post : Int32 → SX → Prop) (z : Int32) (ru rl h : Nat) (a : Nat → Int32) (hl : ru + 256 ≤ 2560) (hul : rl + 256 = ru) (hh : 0 < h) (hp : post (nI (h - 1)) (nI (h - 1), qd_w a rl (qd_fj z a ru rl) 256)) : ∀ d s : Nat, s + d = 256 → wX_join_25 post z (nI ru) (nI rl) (nI h) (d + 1) (nI s) (qd_w a rl (qd_fj z a ru rl) s) := by
  intro d
  induction d with
  | zero =>
    intro s hs
    refine br_t (qd_ge (by omega)) fun y ey => ?_
    rw [qd_h1 hh] at ey
    subst ey
    rw [show s = 256 by omega]
    exact hp
  | succ d ih =>
    intro s hs
    have hiu : vp_in (nI ru + nI s) 2560 := pk_in (ru + s) 2560 (by omega) qd_ad
    have hil : vp_in (nI rl + nI s) 2560 := pk_in (rl + s) 2560 (by omega) qd_ad
    have st : ∀ v, vp_nar .boolean v = qd_fj z a ru rl s → vp_in (nI rl + nI s) 2560 ∧ ∀ a', a' = upd (qd_w a rl (qd_fj z a ru rl) s) (nI rl + nI s).toNatClampNeg (vp_nar .boolean v) → ∀ y, y = nI s + 1 → wX_join_25 post z (nI ru) (nI rl) (nI h) (d + 1) y a' := by
      intro v hv
      refine ⟨hil, ?_⟩
      intro a' ea y ey
      rw [qd_wst qd_ad (by omega) hv] at ea
      rw [nI_1] at ey
      subst ea ey
      exact ih (s + 1) (by omega)
    refine br_f (qd_ng (by omega)) ⟨hiu, fun x5 e5 => ⟨hil, fun x6 e6 => ?_⟩⟩
    rw [pk_cl (ru + s) qd_ad (by omega), qd_wout (by omega)] at e5
    rw [pk_cl (rl + s) qd_ad (by omega), qd_wout (by omega)] at e6
    have ej : qd_fj z a ru rl s = qd_j z x5 x6 := by rw [e5, e6]; rfl
    rw [ej] at st
    by_cases hz : z = 0
    · refine br_t hz ?_
      by_cases h5 : x5 = 0
      · refine br_t h5 ?_
        by_cases h6 : x6 = 0
        · exact br_t h6 (st 0 (by unfold qd_j; rw [if_pos hz, if_pos ⟨h5, h6⟩]; rfl))
        · exact br_f h6 (st 1 (by unfold qd_j; rw [if_pos hz, if_neg (fun w => h6 w.2)]; rfl))
      · exact br_f h5 (st 1 (by unfold qd_j; rw [if_pos hz, if_neg (fun w => h5 w.1)]; rfl))
    · refine br_f hz ?_
      by_cases h5 : x5 = 0
      · exact br_t h5 (st 0 (by unfold qd_j; rw [if_neg hz, if_pos (Or.inl h5)]; rfl))
      · refine br_f h5 ?_
        by_cases h6 : x6 = 0
        · exact br_t h6 (st 0 (by unfold qd_j; rw [if_neg hz, if_pos (Or.inr h6)]; rfl))
        · exact br_f h6 (st 1 (by unfold qd_j; rw [if_neg hz, if_neg (fun w => w.elim h5 h6)]; rfl))
theorem xj_w (post : Int32 → SX → Prop) (z : Int32) (h : Nat) (a : Nat → Int32) (h2 : 2 ≤ h) (hh : h ≤ 10) (hp : post (nI (h - 1)) (nI (h - 1), qd_w a (256 * (h - 2)) (qd_fj z a (256 * (h - 1)) (256 * (h - 2))) 256)) : wpX_join post (nI h, a) z := by
  have e0 : ((nI h - 1) - 0) * 256 = nI (256 * (h - 1)) := qd_row (k := 0) (by omega)
  have e1 : ((nI h - 1) - 1) * 256 = nI (256 * (h - 2)) := qd_row (k := 1) (by omega)
  refine br_t (nI_le (a := 2) h2 (by omega)) ?_
  show ∃ n25 : Nat, wX_join_25 post z (((nI h - 1) - 0) * 256) (((nI h - 1) - 1) * 256) (nI h) n25 0 a
  rw [e0, e1]
  refine ⟨257, ?_⟩
  have := xj_l post z (256 * (h - 1)) (256 * (h - 2)) h a (by omega) (by omega) (by omega) hp 256 0 rfl
  rw [qd_w0] at this
  exact this
theorem yj_l (post : Int32 → SY → Prop) (z : Int32) (h : Nat) (a : Nat → Int32) (h2 : 2 ≤ h) (hh : h ≤ 10) (hp : post (nI (h - 1)) (nI (h - 1), qd_w a (256 * (h - 2)) (qd_fj z a (256 * (h - 1)) (256 * (h - 2))) 256)) : ∀ d s : Nat, s + d = 256 → wY_join_22 post z (nI (h - 1)) (d + 1) (nI s) (qd_w a (256 * (h - 2)) (qd_fj z a (256 * (h - 1)) (256 * (h - 2))) s) := by
  intro d
  induction d with
  | zero =>
    intro s hs
    refine br_t (qd_ge (by omega)) ?_
    rw [show s = 256 by omega]
    exact hp
  | succ d ih =>
    intro s hs
    have hl : 256 * (nI (h - 1) - 1) + nI s = nI (256 * (h - 2) + s) := by
      rw [qd_h1 (by omega), qd_256, nI_add]
      rfl
    have hu : 256 * nI (h - 1) + nI s = nI (256 * (h - 1) + s) := by rw [qd_256, nI_add]
    have hil : vp_in (256 * (nI (h - 1) - 1) + nI s) 2816 := pk_in (256 * (h - 2) + s) 2816 (by omega) hl
    have hiu : vp_in (256 * nI (h - 1) + nI s) 2816 := pk_in (256 * (h - 1) + s) 2816 (by omega) hu
    have st : ∀ v, vp_nar .boolean v = qd_fj z a (256 * (h - 1)) (256 * (h - 2)) s → vp_in (256 * (nI (h - 1) - 1) + nI s) 2816 ∧ ∀ a', a' = upd (qd_w a (256 * (h - 2)) (qd_fj z a (256 * (h - 1)) (256 * (h - 2))) s) (256 * (nI (h - 1) - 1) + nI s).toNatClampNeg (vp_nar .boolean v) → ∀ y, y = nI s + 1 → wY_join_22 post z (nI (h - 1)) (d + 1) y a' := by
      intro v hv
      refine ⟨hil, ?_⟩
      intro a' ea y ey
      rw [qd_wst hl (by omega) hv] at ea
      rw [nI_1] at ey
      subst ea ey
      exact ih (s + 1) (by omega)
    refine br_f (qd_ng (by omega)) ⟨hil, fun x6 e6 => ⟨hiu, fun x5 e5 => ?_⟩⟩
    rw [pk_cl _ hl (by omega), qd_wout (by omega)] at e6
    rw [pk_cl _ hu (by omega), qd_wout (by omega)] at e5
    have ej : qd_fj z a (256 * (h - 1)) (256 * (h - 2)) s = qd_j z x5 x6 := by rw [e5, e6]; rfl
    rw [ej] at st
    by_cases hz : z = 0
    · refine br_t hz ?_
      by_cases h6 : x6 = 0
      · refine br_t h6 ?_
        by_cases h5 : x5 = 0
        · exact br_t h5 (st 0 (by unfold qd_j; rw [if_pos hz, if_pos ⟨h5, h6⟩]; rfl))
        · exact br_f h5 (st 1 (by unfold qd_j; rw [if_pos hz, if_neg (fun w => h5 w.1)]; rfl))
      · exact br_f h6 (st 1 (by unfold qd_j; rw [if_pos hz, if_neg (fun w => h6 w.2)]; rfl))
    · refine br_f hz ?_
      by_cases h6 : x6 = 0
      · exact br_t h6 (st 0 (by unfold qd_j; rw [if_neg hz, if_pos (Or.inr h6)]; rfl))
      · refine br_f h6 ?_
        by_cases h5 : x5 = 0
        · exact br_t h5 (st 0 (by unfold qd_j; rw [if_neg hz, if_pos (Or.inl h5)]; rfl))
        · exact br_f h5 (st 1 (by unfold qd_j; rw [if_neg hz, if_neg (fun w => w.elim h5 h6)]; rfl))
theorem yj_w (post : Int32 → SY → Prop) (z : Int32) (h : Nat) (a : Nat → Int32) (h2 : 2 ≤ h) (hh : h ≤ 10) (hp : post (nI (h - 1)) (nI (h - 1), qd_w a (256 * (h - 2)) (qd_fj z a (256 * (h - 1)) (256 * (h - 2))) 256)) : wpY_join post (nI h, a) z := by
  refine br_t (nI_le (a := 2) h2 (by omega)) fun y ey => ⟨257, ?_⟩
  rw [qd_h1 (by omega)] at ey
  subst ey
  have := yj_l post z h a h2 hh hp 256 0 rfl
  rw [qd_w0] at this
  exact this
