/-! isFamily, missing -/
theorem xf_1 (post : Int32 → Prop) (h k : Nat) (a : Nat → Int32) (hk : k < h) (hh : h ≤ 10) (hp : post 1) : wpX_isFamily post (nI h, a) (nI k) := br_f (nI_pos (by omega)) (br_f (nI_ge hk (by omega)) hp)
theorem xf_0 (post : Int32 → Prop) (h : Nat) (x : Int32) (a : Nat → Int32) (hx : x < 0 ∨ nI h ≤ x) (hp : post 0) : wpX_isFamily post (nI h, a) x := by
  by_cases z : x < 0
  · exact br_t z hp
  · exact br_f z (br_t (hx.resolve_left z) hp)
theorem yf_0 (post : Int32 → Prop) (h k : Nat) (a : Nat → Int32) (hk : k < h) (hh : h ≤ 10) (hp : post 0) : wpY_missing post (nI h, a) (nI k) := br_f (nI_pos (by omega)) (br_t (nI_lt hk (by omega)) hp)
theorem yf_1 (post : Int32 → Prop) (h : Nat) (x : Int32) (a : Nat → Int32) (hx : x < 0 ∨ nI h ≤ x) (hp : post 1) : wpY_missing post (nI h, a) x := by
  by_cases z : x < 0
  · exact br_t z hp
  · exact br_f z (br_f (Int32.not_lt.mpr (hx.resolve_left z)) hp)
theorem qd_10 : ¬ (1 : Int32) = 0 := by decide
theorem qd_n10 {h : Nat} (hh : h < 10) : ¬ nI h = 10 := by
  intro z
  have := (nI_eq (b := 10) (by omega) (by decide)).mp z
  omega
theorem qd_n0 {h : Nat} (h0 : 0 < h) (hh : h ≤ 10) : ¬ nI h = 0 := nI_ne0 h0 (by omega)
/-! copy -/
theorem xc_l (post : Int32 → SX → Prop) (r h : Nat) (a : Nat → Int32) (hr : r + 256 ≤ 256 * h) (hh : h < 10) (h01 : ∀ j, j < 2560 → qd_01 (a j)) (hp : post (nI (h + 1)) (nI (h + 1), qd_w a (256 * h) (fun s => a (r + s)) 256)) : ∀ d s : Nat, s + d = 256 → wX_copy_37 post (nI r) (nI (256 * h)) (nI h) (d + 1) (nI s) (qd_w a (256 * h) (fun s => a (r + s)) s) := by
  intro d
  induction d with
  | zero =>
    intro s hs
    refine br_t (qd_ge (by omega)) fun y ey => ?_
    rw [nI_1] at ey
    subst ey
    rw [show s = 256 by omega]
    exact hp
  | succ d ih =>
    intro s hs
    have hir : vp_in (nI r + nI s) 2560 := pk_in (r + s) 2560 (by omega) qd_ad
    have hiw : vp_in (nI (256 * h) + nI s) 2560 := pk_in (256 * h + s) 2560 (by omega) qd_ad
    refine br_f (qd_ng (by omega)) ⟨hir, hiw, fun a' ea y ey => ?_⟩
    rw [pk_cl (r + s) qd_ad (by omega), qd_wout (j := r + s) (by omega)] at ea
    replace ea := ea.trans (qd_wst qd_ad (by omega) (qd_n01 (h01 (r + s) (by omega))))
    rw [nI_1] at ey
    subst ea ey
    exact ih (s + 1) (by omega)
theorem xc_w (post : Int32 → SX → Prop) (h k : Nat) (a : Nat → Int32) (hk : k < h) (hh : h < 10) (h01 : ∀ j, j < 2560 → qd_01 (a j)) (hp : post (nI (h + 1)) (nI (h + 1), qd_w a (256 * h) (fun s => a (256 * (h - 1 - k) + s)) 256)) : wpX_copy post (nI h, a) (nI k) := by
  unfold wpX_copy
  refine xf_1 _ h k a hk (by omega) (br_f qd_10 (br_t (nI_lt (b := 10) hh (by decide)) ?_))
  show ∀ x3 : Int32, x3 = nI h * 256 → ∃ n : Nat, wX_copy_37 post (((nI h - 1) - nI k) * 256) x3 (nI h) n 0 a
  intro x3 e3
  rw [qd_256'] at e3
  subst e3
  rw [qd_row hk]
  refine ⟨257, ?_⟩
  have := xc_l post (256 * (h - 1 - k)) h a (by omega) hh h01 hp 256 0 rfl
  rw [qd_w0] at this
  exact this
theorem yc_l (post : Int32 → SY → Prop) (h k : Nat) (a : Nat → Int32) (hk : k < h) (hh : h < 10) (h01 : ∀ j, j < 2560 → qd_01 (a j)) (hp : post (nI (h + 1)) (nI (h + 1), qd_w a (256 * h) (fun s => a (256 * (h - 1 - k) + s)) 256)) : ∀ d s : Nat, s + d = 256 → wY_copy_21 post (nI k) (nI h) (d + 1) (nI s) (qd_w a (256 * h) (fun s => a (256 * (h - 1 - k) + s)) s) := by
  intro d
  induction d with
  | zero =>
    intro s hs
    refine br_t (qd_ge (by omega)) fun y ey => ?_
    rw [nI_1] at ey
    subst ey
    rw [show s = 256 by omega]
    exact hp
  | succ d ih =>
    intro s hs
    have er : 256 * ((nI h - 1) - nI k) + nI s = nI (256 * (h - 1 - k) + s) := by rw [qd_row' hk, nI_add]
    have ew : 256 * nI h + nI s = nI (256 * h + s) := by rw [qd_256, nI_add]
    refine br_f (qd_ng (by omega)) ⟨pk_in _ 2816 (by omega) er, pk_in _ 2816 (by omega) ew, fun a' ea y ey => ?_⟩
    rw [pk_cl _ er (by omega), qd_wout (j := 256 * (h - 1 - k) + s) (by omega)] at ea
    replace ea := ea.trans (qd_wst ew (by omega) (qd_n01 (h01 (256 * (h - 1 - k) + s) (by omega))))
    rw [nI_1] at ey
    subst ea ey
    exact ih (s + 1) (by omega)
theorem yc_w (post : Int32 → SY → Prop) (h k : Nat) (a : Nat → Int32) (hk : k < h) (hh : h < 10) (h01 : ∀ j, j < 2560 → qd_01 (a j)) (hp : post (nI (h + 1)) (nI (h + 1), qd_w a (256 * h) (fun s => a (256 * (h - 1 - k) + s)) 256)) : wpY_copy post (nI h, a) (nI k) := by
  unfold wpY_copy
  refine yf_0 _ h k a hk (by omega) (br_t rfl (br_f (qd_n10 hh) ⟨257, ?_⟩))
  have := yc_l post h k a hk hh h01 hp 256 0 rfl
  rw [qd_w0] at this
  exact this
/-! given -/
def qd_fg (a : Nat → Int32) (r m : Nat) (s : Nat) : Int32 := a (r + (s ||| m))
theorem qd_fgU {a : Nat → Int32} {r m : Nat} (hm : m < 256) (h : qd_UC a r) (s t : Nat) (hs : s < 256) (ht : t < 256) (e : s &&& t = s) (n : qd_fg a r m s ≠ 0) : qd_fg a r m t ≠ 0 :=
  h (s ||| m) (t ||| m) (qd_orlt hs hm) (qd_orlt ht hm) (qd_orm e) n
theorem xg_l (post : Int32 → SX → Prop) (r m h : Nat) (a : Nat → Int32) (hr : r + 256 ≤ 2560) (hm : m < 256) (h01 : ∀ j, j < 2560 → qd_01 (a j)) (hp : post (nI h) (nI h, qd_w a r (qd_fg a r m) 256)) : ∀ d s : Nat, s + d = 256 → wX_given_25 post (nI r) (nI m) (nI h) (d + 1) (nI s) (qd_w a r (qd_fg a r m) s) := by
  intro d
  induction d with
  | zero =>
    intro s hs
    refine br_t (qd_ge (by omega)) ?_
    rw [show s = 256 by omega]
    exact hp
  | succ d ih =>
    intro s hs
    have ho : s ||| m < 256 := qd_orlt (by omega) hm
    have hl : s ≤ s ||| m := Nat.left_le_or
    have er : nI r + (nI s ||| nI m) = nI (r + (s ||| m)) := by rw [qd_or, nI_add]
    refine br_f (qd_ng (by omega)) ⟨pk_in _ 2560 (by omega) er, pk_in (r + s) 2560 (by omega) qd_ad, fun a' ea y ey => ?_⟩
    rw [pk_cl _ er (by omega), qd_wout (j := r + (s ||| m)) (by omega)] at ea
    replace ea := ea.trans (qd_wst (f := qd_fg a r m) qd_ad (by omega) (qd_n01 (h01 (r + (s ||| m)) (by omega))))
    rw [nI_1] at ey
    subst ea ey
    exact ih (s + 1) (by omega)
theorem xg_w (post : Int32 → SX → Prop) (h m : Nat) (x : Int32) (a : Nat → Int32) (h0 : 0 < h) (hh : h ≤ 10) (hm : m < 256) (em : x &&& 255 = nI m) (h01 : ∀ j, j < 2560 → qd_01 (a j)) (hp : post (nI h) (nI h, qd_w a (256 * (h - 1)) (qd_fg a (256 * (h - 1)) m) 256)) : wpX_given post (nI h, a) x := by
  refine br_t (nI_le (a := 1) h0 (by omega)) ?_
  show ∀ x3 : Int32, x3 = x &&& 255 → ∃ n : Nat, wX_given_25 post (((nI h - 1) - 0) * 256) x3 (nI h) n 0 a
  intro x3 e3
  rw [em] at e3
  subst e3
  rw [show ((nI h - 1) - 0) * 256 = nI (256 * (h - 1)) from qd_row (k := 0) h0]
  refine ⟨257, ?_⟩
  have := xg_l post (256 * (h - 1)) m h a (by omega) hm h01 hp 256 0 rfl
  rw [qd_w0] at this
  exact this
/-! takeOver -/
theorem yt_l (post : SY → Prop) (h : Nat) (a f : Nat → Int32) (h0 : 0 < h) (hh : h ≤ 10) (hf : ∀ s, s < 256 → a (2560 + s) = f s) (h01 : ∀ s, s < 256 → qd_01 (f s)) (hp : post (nI h, qd_w a (256 * (h - 1)) f 256)) : ∀ d s : Nat, s + d = 256 → wY_takeOver_2 post (nI h) (d + 1) (nI s) (qd_w a (256 * (h - 1)) f s) := by
  intro d
  induction d with
  | zero =>
    intro s hs
    refine br_t (qd_ge (by omega)) ?_
    rw [show s = 256 by omega]
    exact hp
  | succ d ih =>
    intro s hs
    have er : (2560 : Int32) + nI s = nI (2560 + s) := nI_add 2560 s
    have ew : 256 * (nI h - 1) + nI s = nI (256 * (h - 1) + s) := by rw [qd_h1 h0, qd_256, nI_add]
    refine br_f (qd_ng (by omega)) ⟨pk_in _ 2816 (by omega) er, pk_in _ 2816 (by omega) ew, fun a' ea y ey => ?_⟩
    rw [pk_cl _ er (by omega), qd_wout (j := 2560 + s) (by omega), hf s (by omega)] at ea
    replace ea := ea.trans (qd_wst ew (by omega) (qd_n01 (h01 s (by omega))))
    rw [nI_1] at ey
    subst ea ey
    exact ih (s + 1) (by omega)
theorem yt_w (post : SY → Prop) (h : Nat) (a f : Nat → Int32) (h0 : 0 < h) (hh : h ≤ 10) (hf : ∀ s, s < 256 → a (2560 + s) = f s) (h01 : ∀ s, s < 256 → qd_01 (f s)) (hp : post (nI h, qd_w a (256 * (h - 1)) f 256)) : wpY_takeOver post (nI h, a) := by
  refine ⟨257, ?_⟩
  have := yt_l post h a f h0 hh hf h01 hp 256 0 rfl
  rw [qd_w0] at this
  exact this
theorem yg_l (post : Int32 → SY → Prop) (h m : Nat) (x : Int32) (a : Nat → Int32) (h0 : 0 < h) (hh : h ≤ 10) (hm : m < 256) (em : x &&& 255 = nI m) (h01 : ∀ j, j < 2560 → qd_01 (a j)) (hp : post (nI h) (nI h, qd_w (qd_w a 2560 (qd_fg a (256 * (h - 1)) m) 256) (256 * (h - 1)) (qd_fg a (256 * (h - 1)) m) 256)) : ∀ d s : Nat, s + d = 256 → wY_given_11 post x (nI h) (d + 1) (nI s) (qd_w a 2560 (qd_fg a (256 * (h - 1)) m) s) := by
  have hg : ∀ s, s < 256 → qd_01 (qd_fg a (256 * (h - 1)) m s) := fun s hs => h01 _ (by have := qd_orlt hs hm; omega)
  intro d
  induction d with
  | zero =>
    intro s hs
    refine br_t (qd_ge (by omega)) ?_
    rw [show s = 256 by omega]
    exact yt_w _ h _ (qd_fg a (256 * (h - 1)) m) h0 hh (fun s hs => qd_win hs) hg hp
  | succ d ih =>
    intro s hs
    have ho : s ||| m < 256 := qd_orlt (by omega) hm
    have er : 256 * (nI h - 1) + (nI s ||| (x &&& 255)) = nI (256 * (h - 1) + (s ||| m)) := by rw [em, qd_or, qd_h1 h0, qd_256, nI_add]
    have ew : (2560 : Int32) + nI s = nI (2560 + s) := nI_add 2560 s
    refine br_f (qd_ng (by omega)) ⟨pk_in _ 2816 (by omega) er, pk_in _ 2816 (by omega) ew, fun a' ea y ey => ?_⟩
    rw [pk_cl _ er (by omega), qd_wout (j := 256 * (h - 1) + (s ||| m)) (by omega)] at ea
    replace ea := ea.trans (qd_wst (f := qd_fg a (256 * (h - 1)) m) ew (by omega) (qd_n01 (h01 (256 * (h - 1) + (s ||| m)) (by omega))))
    rw [nI_1] at ey
    subst ea ey
    exact ih (s + 1) (by omega)
theorem yg_w (post : Int32 → SY → Prop) (h m : Nat) (x : Int32) (a : Nat → Int32) (h0 : 0 < h) (hh : h ≤ 10) (hm : m < 256) (em : x &&& 255 = nI m) (h01 : ∀ j, j < 2560 → qd_01 (a j)) (hp : post (nI h) (nI h, qd_w (qd_w a 2560 (qd_fg a (256 * (h - 1)) m) 256) (256 * (h - 1)) (qd_fg a (256 * (h - 1)) m) 256)) : wpY_given post (nI h, a) x := by
  refine br_f (qd_n0 h0 hh) ⟨257, ?_⟩
  have := yg_l post h m x a h0 hh hm em h01 hp 256 0 rfl
  rw [qd_w0] at this
  exact this
/-! hits -/
def qd_nt (x : Int32) : Int32 := if x = 0 then 1 else 0
theorem qd_nt01 (x : Int32) : qd_01 (qd_nt x) := by
  unfold qd_nt
  split
  · exact Or.inr rfl
  · exact Or.inl rfl
theorem yh_l (post : Int32 → Prop) (i s : Nat) (fh : Int32) (a : Nat → Int32) (hi : i < 11) (hs : s < 256) (hU : qd_UC a (256 * i)) (hp : post (qd_nt (a (256 * i + (255 - s))))) : ∀ d t : Nat, t + d = 256 → (∀ t', t' < t → a (256 * i + t') ≠ 0 → t' &&& s ≠ 0) → wY_hits_2 post (nI i) (nI s) fh a (d + 1) (nI t) := by
  intro d
  induction d with
  | zero =>
    intro t ht hb
    refine br_t (qd_ge (by omega)) ?_
    have z : a (256 * i + (255 - s)) = 0 := Classical.byContradiction fun q => hb (255 - s) (by omega) q (qd_c0 s hs)
    rw [z] at hp
    exact hp
  | succ d ih =>
    intro t ht hb
    have er : 256 * nI i + nI t = nI (256 * i + t) := by rw [qd_256, nI_add]
    have nx : (a (256 * i + t) ≠ 0 → t &&& s ≠ 0) → ∀ y, y = nI t + 1 → wY_hits_2 post (nI i) (nI s) fh a (d + 1) y := by
      intro q y ey
      rw [nI_1] at ey
      subst ey
      refine ih (t + 1) (by omega) ?_
      intro t' h1
      by_cases e : t' = t
      · subst e; exact q
      · exact hb t' (by omega)
    refine br_f (qd_ng (by omega)) ⟨pk_in _ 2816 (by omega) er, ?_⟩
    rw [pk_cl _ er (by omega)]
    by_cases z : a (256 * i + t) = 0
    · exact br_t z (nx fun q => absurd z q)
    · refine br_f z ?_
      rw [nx_and]
      refine pk_eq (t &&& s) 0 (fun q => ?_) (fun q => nx fun _ => q) rfl rfl (Nat.lt_of_le_of_lt Nat.and_le_left (by omega)) (by omega)
      have w : a (256 * i + (255 - s)) ≠ 0 := hU t (255 - s) (by omega) (by omega) (qd_csub hs (by omega) q) z
      have e : qd_nt (a (256 * i + (255 - s))) = 0 := if_neg w
      rw [e] at hp
      exact hp
theorem yh_w (post : Int32 → Prop) (i s : Nat) (fh : Int32) (a : Nat → Int32) (hi : i < 11) (hs : s < 256) (hU : qd_UC a (256 * i)) (hp : post (qd_nt (a (256 * i + (255 - s))))) : wpY_hits post (fh, a) (nI i) (nI s) :=
  ⟨257, yh_l post i s fh a hi hs hU hp 256 0 rfl (fun t' h => absurd h (by omega))⟩
/-! dual -/
def qd_fd (a : Nat → Int32) (r : Nat) (s : Nat) : Int32 := qd_nt (a (r + (255 - s)))
theorem qd_fdU {a : Nat → Int32} {r : Nat} (h : qd_UC a r) (s t : Nat) (hs : s < 256) (ht : t < 256) (e : s &&& t = s) (n : qd_fd a r s ≠ 0) : qd_fd a r t ≠ 0 := by
  have z : a (r + (255 - s)) = 0 := Classical.byContradiction fun q => n (if_neg q)
  have w : a (r + (255 - t)) = 0 := Classical.byContradiction fun q => h (255 - t) (255 - s) (by omega) (by omega) (qd_canti hs ht e) q z
  have e2 : qd_fd a r t = 1 := if_pos w
  rw [e2]
  decide
theorem yd_l (post : Int32 → SY → Prop) (h : Nat) (a : Nat → Int32) (h0 : 0 < h) (hh : h ≤ 10) (hU : qd_UC a (256 * (h - 1))) (hp : post (nI h) (nI h, qd_w (qd_w a 2560 (qd_fd a (256 * (h - 1))) 256) (256 * (h - 1)) (qd_fd a (256 * (h - 1))) 256)) : ∀ d s : Nat, s + d = 256 → wY_dual_11 post (nI h) (d + 1) (nI s) (qd_w a 2560 (qd_fd a (256 * (h - 1))) s) := by
  intro d
  induction d with
  | zero =>
    intro s hs
    refine br_t (qd_ge (by omega)) ?_
    rw [show s = 256 by omega]
    exact yt_w _ h _ (qd_fd a (256 * (h - 1))) h0 hh (fun s hs => qd_win hs) (fun s _ => qd_nt01 _) hp
  | succ d ih =>
    intro s hs
    have ew : (2560 : Int32) + nI s = nI (2560 + s) := nI_add 2560 s
    refine br_f (qd_ng (by omega)) ?_
    rw [qd_h1 h0]
    refine yh_w _ (h - 1) s (nI h) _ (by omega) (by omega) (qd_UCc hU fun t ht => qd_wout (by omega)) ⟨pk_in _ 2816 (by omega) ew, fun a' ea y ey => ?_⟩
    rw [qd_wout (j := 256 * (h - 1) + (255 - s)) (by omega)] at ea
    replace ea := ea.trans (qd_wst (f := qd_fd a (256 * (h - 1))) ew (by omega) (qd_n01 (qd_nt01 _)))
    rw [nI_1] at ey
    subst ea ey
    exact ih (s + 1) (by omega)
theorem yd_w (post : Int32 → SY → Prop) (h : Nat) (a : Nat → Int32) (h0 : 0 < h) (hh : h ≤ 10) (hU : qd_UC a (256 * (h - 1))) (hp : post (nI h) (nI h, qd_w (qd_w a 2560 (qd_fd a (256 * (h - 1))) 256) (256 * (h - 1)) (qd_fd a (256 * (h - 1))) 256)) : wpY_dual post (nI h, a) := by
  refine br_f (qd_n0 h0 hh) ⟨257, ?_⟩
  have := yd_l post h a h0 hh hU hp 256 0 rfl
  rw [qd_w0] at this
  exact this
/-- X's dual after n pairs -/
def qd_dd (a : Nat → Int32) (r n : Nat) : Nat → Int32 := fun j => if r ≤ j ∧ j < r + 256 ∧ (j < r + n ∨ r + 256 ≤ j + n) then qd_nt (a (2 * r + 255 - j)) else a j
theorem qd_dd0 (a : Nat → Int32) (r : Nat) : qd_dd a r 0 = a := by
  funext j
  exact if_neg (by omega)
theorem qd_dd128 (a : Nat → Int32) (r : Nat) : qd_dd a r 128 = qd_w a r (qd_fd a r) 256 := by
  funext j
  by_cases z : r ≤ j ∧ j < r + 256
  · obtain ⟨s, rfl⟩ : ∃ s, j = r + s := ⟨j - r, by omega⟩
    rw [qd_win (by omega)]
    show (if _ then _ else _) = _
    rw [if_pos (by omega)]
    show qd_nt _ = qd_nt _
    rw [show 2 * r + 255 - (r + s) = r + (255 - s) by omega]
  · rw [qd_wout z]
    exact if_neg (by omega)
theorem qd_dds {a : Nat → Int32} {r n : Nat} (hn : n < 128) : upd (upd (qd_dd a r n) (r + n) (qd_nt (a (r + (255 - n))))) (r + (255 - n)) (qd_nt (a (r + n))) = qd_dd a r (n + 1) := by
  funext j
  by_cases e : j = r + (255 - n)
  · subst e
    rw [pk_us]
    show _ = (if _ then _ else _)
    rw [if_pos (by omega), show 2 * r + 255 - (r + (255 - n)) = r + n by omega]
  · rw [pk_un e]
    by_cases e2 : j = r + n
    · subst e2
      rw [pk_us]
      show _ = (if _ then _ else _)
      rw [if_pos (by omega), show 2 * r + 255 - (r + n) = r + (255 - n) by omega]
    · rw [pk_un e2]
      by_cases z : r ≤ j ∧ j < r + 256 ∧ (j < r + n ∨ r + 256 ≤ j + n)
      · show (if _ then _ else _) = (if _ then _ else _)
        rw [if_pos z, if_pos (by omega)]
      · show (if _ then _ else _) = (if _ then _ else _)
        rw [if_neg z, if_neg (by omega)]
theorem qd_ddo {a : Nat → Int32} {r n j : Nat} (h : n ≤ j) (h2 : j + n < 256) : qd_dd a r n (r + j) = a (r + j) := if_neg (by omega)
theorem xd_j (post : Int32 → SX → Prop) (J : Int32 → (Nat → Int32) → Prop) (r n : Nat) (x3 x4 z0 z1 fh : Int32) (a : Nat → Int32) (hr : r + 256 ≤ 2560) (hn : n < 128) (e3 : x3 = nI (255 - n)) (e4 : x4 = a (r + n)) (e0 : vp_nar .boolean z0 = qd_nt (a (r + (255 - n)))) (e1 : z1 = nI (r + n)) (hJ : J (nI (n + 1)) (qd_dd a r (n + 1))) : wX_dual_68 post J (nI r) (nI n) x3 x4 z0 z1 fh (qd_dd a r n) := by
  have ew : nI r + x3 = nI (r + (255 - n)) := by rw [e3, nI_add]
  refine ⟨pk_in _ 2560 (by omega) e1, fun a1 ea1 => ?_⟩
  rw [pk_cl _ e1 (by omega), e0] at ea1
  by_cases z : x4 = 0
  · refine br_t z ⟨pk_in _ 2560 (by omega) ew, fun a2 ea2 y ey => ?_⟩
    have q : vp_nar .boolean 1 = qd_nt (a (r + n)) := by rw [← e4, z]; rfl
    rw [pk_cl _ ew (by omega), ea1, q, qd_dds hn] at ea2
    rw [nI_1] at ey
    subst ea2 ey
    exact hJ
  · refine br_f z ⟨pk_in _ 2560 (by omega) ew, fun a2 ea2 y ey => ?_⟩
    have q : vp_nar .boolean 0 = qd_nt (a (r + n)) := by rw [← e4]; exact (if_neg z).symm
    rw [pk_cl _ ew (by omega), ea1, q, qd_dds hn] at ea2
    rw [nI_1] at ey
    subst ea2 ey
    exact hJ
theorem xd_l (post : Int32 → SX → Prop) (r h : Nat) (a : Nat → Int32) (hr : r + 256 ≤ 2560) (hp : post (nI h) (nI h, qd_dd a r 128)) : ∀ d s : Nat, s + d = 128 → wX_dual_18 post (nI r) (nI h) (d + 1) (nI s) (qd_dd a r s) := by
  intro d
  induction d with
  | zero =>
    intro s hs
    refine br_t (nI_le (a := 128) (by omega) (by omega)) ?_
    rw [show s = 128 by omega]
    exact hp
  | succ d ih =>
    intro s hs
    refine br_f (nI_ge (b := 128) (by omega) (by decide)) fun x3 e3 => ?_
    have e3' : x3 = nI (255 - s) := e3.trans (pk_sub (a := 255) (by omega))
    have er : nI r + x3 = nI (r + (255 - s)) := by rw [e3', nI_add]
    refine ⟨pk_in (r + s) 2560 (by omega) qd_ad, fun x4 e4 => ⟨pk_in _ 2560 (by omega) er, fun x5 e5 => ?_⟩⟩
    rw [pk_cl (r + s) qd_ad (by omega), qd_ddo (by omega) (by omega)] at e4
    rw [pk_cl _ er (by omega)] at e5
    have e5' : x5 = a (r + (255 - s)) := by
      rw [e5]
      exact if_neg (by omega)
    by_cases z : x5 = 0
    · exact br_t z (xd_j post _ r s x3 x4 1 _ (nI h) a hr (by omega) e3' e4 (by rw [← e5', z]; rfl) qd_ad (ih (s + 1) (by omega)))
    · exact br_f z (xd_j post _ r s x3 x4 0 _ (nI h) a hr (by omega) e3' e4 (by rw [← e5']; exact (if_neg z).symm) qd_ad (ih (s + 1) (by omega)))
theorem xd_w (post : Int32 → SX → Prop) (h : Nat) (a : Nat → Int32) (h0 : 0 < h) (hh : h ≤ 10) (hp : post (nI h) (nI h, qd_w a (256 * (h - 1)) (qd_fd a (256 * (h - 1))) 256)) : wpX_dual post (nI h, a) := by
  refine br_t (nI_le (a := 1) h0 (by omega)) ?_
  show ∃ n : Nat, wX_dual_18 post (((nI h - 1) - 0) * 256) (nI h) n 0 a
  rw [show ((nI h - 1) - 0) * 256 = nI (256 * (h - 1)) from qd_row (k := 0) h0]
  refine ⟨129, ?_⟩
  rw [← qd_dd128] at hp
  have := xd_l post (256 * (h - 1)) h a (by omega) hp 128 0 rfl
  rw [qd_dd0] at this
  exact this
