/-! sets as naturals below 256, counts of bits, rows of an array -/
theorem qd_or (a b : Nat) : nI a ||| nI b = nI (a ||| b) := by
  apply Int32.toBitVec_inj.1
  show BitVec.ofNat 32 a ||| BitVec.ofNat 32 b = BitVec.ofNat 32 (a ||| b)
  apply BitVec.eq_of_getLsbD_eq
  intro i hi
  simp [hi]
/-- a smaller set's bits -/
theorem qd_sub {s t : Nat} (h : s &&& t = s) (i : Nat) (hs : s.testBit i = true) : t.testBit i = true := by
  have e : (s &&& t).testBit i = true := by rw [h]; exact hs
  rw [Nat.testBit_and, Bool.and_eq_true] at e
  exact e.2
theorem qd_ofsub {s t : Nat} (h : ∀ i, s.testBit i = true → t.testBit i = true) : s &&& t = s := by
  apply Nat.eq_of_testBit_eq
  intro i
  rw [Nat.testBit_and]
  cases e : s.testBit i with
  | false => rfl
  | true => rw [h i e]; rfl
theorem qd_lt8 {s i : Nat} (hs : s < 256) (h : s.testBit i = true) : i < 8 := by
  rcases Nat.lt_or_ge i 8 with z | z
  · exact z
  · have e : s < 2 ^ i := Nat.lt_of_lt_of_le hs (Nat.pow_le_pow_right (n := 2) (by decide) z)
    rw [Nat.testBit_lt_two_pow e] at h
    exact absurd h (by decide)
theorem qd_cx : ∀ s, s < 256 → 255 - s = 255 ^^^ s := by decide +kernel
theorem qd_cb {s : Nat} (hs : s < 256) (i : Nat) : (255 - s).testBit i = (decide (i < 8) ^^ s.testBit i) := by
  rw [qd_cx s hs, Nat.testBit_xor, show (255 : Nat) = 2 ^ 8 - 1 from rfl, Nat.testBit_two_pow_sub_one]
theorem qd_c0 : ∀ s, s < 256 → (255 - s) &&& s = 0 := by decide +kernel
theorem qd_csub {s t : Nat} (hs : s < 256) (ht : t < 256) (h : t &&& s = 0) : t &&& (255 - s) = t := by
  apply qd_ofsub
  intro i hi
  rw [qd_cb hs, decide_eq_true (qd_lt8 ht hi)]
  cases e : s.testBit i with
  | false => rfl
  | true =>
    have z : (t &&& s).testBit i = true := by rw [Nat.testBit_and, hi, e]; rfl
    rw [h, Nat.zero_testBit] at z
    exact absurd z (by decide)
theorem qd_canti {s t : Nat} (hs : s < 256) (ht : t < 256) (h : s &&& t = s) : (255 - t) &&& (255 - s) = 255 - t := by
  apply qd_ofsub
  intro i hi
  rw [qd_cb ht] at hi
  rw [qd_cb hs]
  cases e : s.testBit i with
  | true => rw [qd_sub h i e] at hi; revert hi; rw [decide_eq_true (qd_lt8 hs e)]; exact fun z => absurd z (by decide)
  | false =>
    cases e2 : t.testBit i with
    | false => rw [e2] at hi; exact hi
    | true => rw [decide_eq_true (qd_lt8 ht e2)]; rfl
theorem qd_orm {s t m : Nat} (h : s &&& t = s) : (s ||| m) &&& (t ||| m) = s ||| m := by
  apply qd_ofsub
  intro i hi
  rw [Nat.testBit_or, Bool.or_eq_true] at hi
  rw [Nat.testBit_or, Bool.or_eq_true]
  rcases hi with z | z
  · exact Or.inl (qd_sub h i z)
  · exact Or.inr z
theorem qd_orlt {s m : Nat} (hs : s < 256) (hm : m < 256) : s ||| m < 256 := Nat.or_lt_two_pow (n := 8) hs hm
theorem qd_b1 : ∀ s, s < 256 → ∀ m, m < 8 → s &&& 2 ^ m ≠ 0 → 2 ^ m ≤ s ∧ (s - 2 ^ m) &&& s = s - 2 ^ m ∧ s - 2 ^ m ≠ s := by decide +kernel
theorem qd_b2 : ∀ s, s < 256 → ∀ m, m < 8 → s.testBit m = true → s &&& 2 ^ m ≠ 0 ∧ s - 2 ^ m = s ^^^ 2 ^ m := by decide +kernel
/-- a strictly smaller set lacks a machine -/
theorem qd_lack {s t : Nat} (hs : s < 256) (h : t &&& s = t) (hn : t ≠ s) : ∃ m, m < 8 ∧ s &&& 2 ^ m ≠ 0 ∧ t &&& (s - 2 ^ m) = t := by
  have hx : ∃ i, s.testBit i = true ∧ t.testBit i = false := by
    refine Classical.byContradiction fun hc => hn ?_
    apply Nat.eq_of_testBit_eq
    intro i
    cases e : t.testBit i with
    | true => exact (qd_sub h i e).symm
    | false =>
      cases e2 : s.testBit i with
      | false => rfl
      | true => exact absurd ⟨i, e2, e⟩ hc
  obtain ⟨i, h1, h0⟩ := hx
  have h8 := qd_lt8 hs h1
  obtain ⟨z1, z2⟩ := qd_b2 s hs i h8 h1
  refine ⟨i, h8, z1, ?_⟩
  rw [z2]
  apply qd_ofsub
  intro j hj
  rw [Nat.testBit_xor, Nat.testBit_two_pow, qd_sub h j hj]
  have hij : i ≠ j := by
    intro e
    rw [← e, h0] at hj
    exact absurd hj (by decide)
  rw [decide_eq_false hij]
  rfl
/-! the count of machines -/
def qd_cn (x : Int32) : Nat → Nat → Nat
  | _, 0 => 0
  | m, d + 1 => (bt x m).toNat + qd_cn x (m + 1) d
def qd_pc (x : Int32) : Nat := qd_cn x 0 8
theorem qd_cn_le (x : Int32) : ∀ d m, qd_cn x m d ≤ d := by
  intro d
  induction d with
  | zero => intro m; exact Nat.le_refl 0
  | succ d ih =>
    intro m
    have h1 := ih (m + 1)
    have h2 : (bt x m).toNat ≤ 1 := by cases bt x m <;> decide
    show (bt x m).toNat + qd_cn x (m + 1) d ≤ d + 1
    omega
theorem qd_pc_le (x : Int32) : qd_pc x ≤ 8 := qd_cn_le x 8 0
theorem qd_cn_mono {x y : Int32} (h : ∀ i, bt x i = true → bt y i = true) : ∀ d m, qd_cn x m d ≤ qd_cn y m d := by
  intro d
  induction d with
  | zero => intro m; exact Nat.le_refl 0
  | succ d ih =>
    intro m
    have h1 := ih (m + 1)
    have h2 : (bt x m).toNat ≤ (bt y m).toNat := by
      cases e : bt x m with
      | false => exact Nat.zero_le _
      | true => rw [h m e]; exact Nat.le_refl _
    show (bt x m).toNat + qd_cn x (m + 1) d ≤ (bt y m).toNat + qd_cn y (m + 1) d
    omega
theorem qd_btN {s i : Nat} (hi : i < 32) : bt (nI s) i = s.testBit i := by
  show (BitVec.ofNat 32 s).getLsbD i = _
  rw [BitVec.getLsbD_ofNat]
  simp [hi]
theorem qd_pc_mono {s t : Nat} (x : Int32) (h : s &&& t = s) : qd_pc (nI s &&& x) ≤ qd_pc (nI t &&& x) := by
  apply qd_cn_mono
  intro i hi
  rcases Nat.lt_or_ge i 32 with z | z
  · rw [b_and, Bool.and_eq_true, qd_btN z] at hi
    rw [b_and, Bool.and_eq_true, qd_btN z]
    exact ⟨qd_sub h i hi.1, hi.2⟩
  · rw [b_big z] at hi
    exact absurd hi (by decide)
theorem qd_b1i : ∀ i, i < 32 → bt 1 i = decide (i = 0) := by decide +kernel
theorem qd_bit (x : Int32) (m : Nat) (hm : m < 8) : (x >>> (nI m &&& 31)) &&& 1 = nI (bt x m).toNat := by
  apply b_ext
  intro i hi
  rw [b_and, b_sshr m (by omega) x hi, qd_b1i i hi, qd_btN hi]
  by_cases z : i = 0
  · subst z
    rw [if_pos (by omega), Nat.add_zero]
    cases bt x m <;> decide
  · rw [decide_eq_false z, Bool.and_false]
    cases bt x m
    · exact (Nat.zero_testBit i).symm
    · show false = (1 : Nat).testBit i
      rw [show (1 : Nat) = 2 ^ 0 from rfl, Nat.testBit_two_pow, decide_eq_false (by omega)]
/-! a row of an array, written cell by cell -/
def qd_w (a : Nat → Int32) (r : Nat) (f : Nat → Int32) (n : Nat) : Nat → Int32 := fun j => if r ≤ j ∧ j < r + n then f (j - r) else a j
theorem qd_w0 (a : Nat → Int32) (r : Nat) (f : Nat → Int32) : qd_w a r f 0 = a := by
  funext j
  exact if_neg (by omega)
theorem qd_win {a : Nat → Int32} {r : Nat} {f : Nat → Int32} {n s : Nat} (h : s < n) : qd_w a r f n (r + s) = f s := by
  show (if r ≤ r + s ∧ r + s < r + n then f (r + s - r) else a (r + s)) = f s
  rw [if_pos (by omega), Nat.add_sub_cancel_left]
theorem qd_wout {a : Nat → Int32} {r : Nat} {f : Nat → Int32} {n j : Nat} (h : ¬ (r ≤ j ∧ j < r + n)) : qd_w a r f n j = a j := if_neg h
theorem qd_ws (a : Nat → Int32) (r : Nat) (f : Nat → Int32) (n : Nat) : upd (qd_w a r f n) (r + n) (f n) = qd_w a r f (n + 1) := by
  funext j
  by_cases e : j = r + n
  · subst e
    rw [pk_us, qd_win (by omega)]
  · rw [pk_un e]
    by_cases z : r ≤ j ∧ j < r + n
    · obtain ⟨i, rfl⟩ : ∃ i, j = r + i := ⟨j - r, by omega⟩
      rw [qd_win (by omega), qd_win (by omega)]
    · rw [qd_wout z, qd_wout (by omega)]
theorem qd_wst {a : Nat → Int32} {r : Nat} {f : Nat → Int32} {n : Nat} {i v : Int32} (hi : i = nI (r + n)) (hb : r + n < 2 ^ 31) (hv : vp_nar .boolean v = f n) : upd (qd_w a r f n) i.toNatClampNeg (vp_nar .boolean v) = qd_w a r f (n + 1) := by
  rw [hi, nI_clamp hb, hv, qd_ws]
def qd_01 (x : Int32) : Prop := x = 0 ∨ x = 1
theorem qd_n01 {x : Int32} (h : qd_01 x) : vp_nar .boolean x = x := by
  rcases h with rfl | rfl <;> rfl
theorem qd_r01 {x : Int32} (h : qd_01 x) : narrow .boolean (.int x) = .int x := by
  rcases h with rfl | rfl <;> rfl
/-- the family in row r holds with every set all larger ones -/
def qd_UC (a : Nat → Int32) (r : Nat) : Prop := ∀ s t, s < 256 → t < 256 → s &&& t = s → a (r + s) ≠ 0 → a (r + t) ≠ 0
theorem qd_UCc {a b : Nat → Int32} {r r' : Nat} (h : qd_UC a r) (e : ∀ s, s < 256 → b (r' + s) = a (r + s)) : qd_UC b r' := by
  intro s t hs ht z n
  rw [e s hs] at n
  rw [e t ht]
  exact h s t hs ht z n
/-- the two states: h families, the same cells below 2560 -/
def qd_R (h : Nat) (a b : Nat → Int32) : Prop := h ≤ 10 ∧ (∀ j, j < 2560 → b j = a j) ∧ (∀ j, qd_01 (a j)) ∧ (∀ i, i < h → qd_UC a (256 * i))
/-- a row is written anew -/
theorem qd_put {h h' i : Nat} {a b b' f : Nat → Int32} (R : qd_R h a b) (hh : h' ≤ 10) (hk : ∀ i', i' < h' → i' ≠ i → i' < h) (h01 : ∀ s, s < 256 → qd_01 (f s)) (hf : ∀ s t, s < 256 → t < 256 → s &&& t = s → f s ≠ 0 → f t ≠ 0) (hb : ∀ j, j < 2560 → b' j = qd_w b (256 * i) f 256 j) : qd_R h' (qd_w a (256 * i) f 256) b' := by
  obtain ⟨R1, R2, R3, R4⟩ := R
  refine ⟨hh, ?_, ?_, ?_⟩
  · intro j hj
    rw [hb j hj]
    show (if 256 * i ≤ j ∧ j < 256 * i + 256 then f (j - 256 * i) else b j) = (if 256 * i ≤ j ∧ j < 256 * i + 256 then f (j - 256 * i) else a j)
    rw [R2 j hj]
  · intro j
    by_cases z : 256 * i ≤ j ∧ j < 256 * i + 256
    · obtain ⟨s, rfl⟩ : ∃ s, j = 256 * i + s := ⟨j - 256 * i, by omega⟩
      rw [qd_win (by omega)]
      exact h01 s (by omega)
    · rw [qd_wout z]
      exact R3 j
  · intro i' hi'
    by_cases z : i' = i
    · subst z
      intro s t hs ht e n
      rw [qd_win hs] at n
      rw [qd_win ht]
      exact hf s t hs ht e n
    · exact qd_UCc (R4 i' (hk i' hi' z)) fun s hs => qd_wout (by omega)
