section
/-! rows of kit/rows (PURE-ROWS, BITS), pasted -/
theorem pk_us {f : Nat → Int32} {k : Nat} {x : Int32} : upd f k x k = x := if_pos rfl
theorem pk_un {f : Nat → Int32} {k j : Nat} {x : Int32} (h : j ≠ k) : upd f k x j = f j := if_neg h
theorem pk_sub {a b : Nat} (h : b ≤ a) : nI a - nI b = nI (a - b) := by
  obtain ⟨c, rfl⟩ : ∃ c, a = c + b := ⟨a - b, by omega⟩
  rw [← nI_add, Int32.add_sub_cancel, Nat.add_sub_cancel]
theorem pk_mul (a b : Nat) : nI a * nI b = nI (a * b) := (Int32.ofNat_mul a b).symm
theorem pk_ix (x : Int32) {n : Nat} (hn : n < 2 ^ 31) : x < 0 ∨ nI n ≤ x ∨ ∃ j : Nat, j < n ∧ x = nI j := by
  by_cases h : x < 0
  · exact Or.inl h
  · obtain ⟨j, hj, rfl⟩ := nI_of h
    by_cases h2 : j < n
    · exact Or.inr (Or.inr ⟨j, h2, rfl⟩)
    · exact Or.inr (Or.inl (nI_le (by omega) hj))
theorem pk_le {x y : Int32} {A B : Prop} (a b : Nat) (f : a ≤ b → A) (g : b < a → B) (hx : x = nI a := by rfl) (hy : y = nI b := by rfl) (ha : a < 2 ^ 31 := by omega) (hb : b < 2 ^ 31 := by omega) : (x ≤ y → A) ∧ (¬ x ≤ y → B) := by
  subst hx hy
  rw [nI_leI ha hb]
  exact ⟨f, fun z => g (by omega)⟩
theorem pk_lt {x y : Int32} {A B : Prop} (a b : Nat) (f : a < b → A) (g : b ≤ a → B) (hx : x = nI a := by rfl) (hy : y = nI b := by rfl) (ha : a < 2 ^ 31 := by omega) (hb : b < 2 ^ 31 := by omega) : (x < y → A) ∧ (¬ x < y → B) := by
  subst hx hy
  rw [nI_ltI ha hb]
  exact ⟨f, fun z => g (by omega)⟩
theorem pk_eq {x y : Int32} {A B : Prop} (a b : Nat) (f : a = b → A) (g : a ≠ b → B) (hx : x = nI a := by rfl) (hy : y = nI b := by rfl) (ha : a < 2 ^ 31 := by omega) (hb : b < 2 ^ 31 := by omega) : (x = y → A) ∧ (¬ x = y → B) := by
  subst hx hy
  rw [nI_eq ha hb]
  exact ⟨f, g⟩
theorem pk_in {x : Int32} (n N : Nat) (h : n < N) (hx : x = nI n := by rfl) (hN : N < 2 ^ 31 := by omega) : vp_in x N := by
  subst hx
  exact vp_in_nI h hN
theorem pk_cl {x : Int32} (n : Nat) (hx : x = nI n := by rfl) (h : n < 2 ^ 31 := by omega) : x.toNatClampNeg = n := by
  subst hx
  exact nI_clamp h
theorem pk_tn {n : Nat} (h : n < 2 ^ 32) : (nI n).toBitVec.toNat = n := Nat.mod_eq_of_lt h
theorem pk_and (x : Int32) {m : Int32} (k : Nat) (hm : m.toBitVec.toNat = 2 ^ k - 1) : x &&& m = nI (x.toBitVec.toNat % 2 ^ k) := by
  apply Int32.toBitVec_inj.mp
  apply BitVec.eq_of_toNat_eq
  rw [Int32.toBitVec_and, BitVec.toNat_and, hm, Nat.and_two_pow_sub_one_eq_mod]
  show _ = (BitVec.ofNat 32 _).toNat
  rw [BitVec.toNat_ofNat]
  exact (Nat.mod_eq_of_lt (Nat.lt_of_le_of_lt (Nat.mod_le _ _) x.toBitVec.isLt)).symm
theorem pk_andE (x : Int32) {m : Int32} (k : Nat) (hm : m.toBitVec.toNat = 2 ^ k - 1) : ∃ j : Nat, j < 2 ^ k ∧ x &&& m = nI j := ⟨_, Nat.mod_lt _ (Nat.two_pow_pos k), pk_and x k hm⟩
def bt (x : Int32) (i : Nat) : Bool := x.toBitVec.getLsbD i
theorem b_ext {x y : Int32} (h : ∀ i, i < 32 → bt x i = bt y i) : x = y := Int32.toBitVec_inj.mp (BitVec.eq_of_getLsbD_eq (fun i hi => h i hi))
theorem b_or (x y : Int32) (i : Nat) : bt (x ||| y) i = (bt x i || bt y i) := by unfold bt; rw [Int32.toBitVec_or, BitVec.getLsbD_or]
theorem b_and (x y : Int32) (i : Nat) : bt (x &&& y) i = (bt x i && bt y i) := by unfold bt; rw [Int32.toBitVec_and, BitVec.getLsbD_and]
theorem b_xor (x y : Int32) (i : Nat) : bt (x ^^^ y) i = (bt x i ^^ bt y i) := by unfold bt; rw [Int32.toBitVec_xor, BitVec.getLsbD_xor]
theorem b_big {x : Int32} {i : Nat} (h : 32 ≤ i) : bt x i = false := BitVec.getLsbD_of_ge _ _ h
theorem b_255 (i : Nat) : bt 255 i = decide (i < 8) := by
  rcases Nat.lt_or_ge i 32 with h | h
  · exact (by decide +kernel : ∀ i, i < 32 → bt 255 i = decide (i < 8)) i h
  · rw [b_big h, decide_eq_false (by omega)]
theorem b_0 (i : Nat) : bt 0 i = false := BitVec.getLsbD_zero
theorem s_l : ∀ n, n < 32 → ((nI n &&& 31).toBitVec.smod 32).toNat = n := by decide +kernel
theorem b_sshr (n : Nat) (hn : n < 32) (x : Int32) {i : Nat} (hi : i < 32) : bt (x >>> (nI n &&& 31)) i = if n + i < 32 then bt x (n + i) else bt x 31 := by
  unfold bt
  rw [Int32.toBitVec_shiftRight]
  show (x.toBitVec.sshiftRight ((nI n &&& 31).toBitVec.smod 32).toNat).getLsbD i = _
  rw [s_l n hn, BitVec.getLsbD_sshiftRight, BitVec.msb_eq_getLsbD_last]
  simp [hi]
theorem nx_and (a b : Nat) : nI a &&& nI b = nI (a &&& b) := by
  apply Int32.toBitVec_inj.1
  show BitVec.ofNat 32 a &&& BitVec.ofNat 32 b = BitVec.ofNat 32 (a &&& b)
  apply BitVec.eq_of_getLsbD_eq
  intro i hi
  simp [hi]
end
section
/-! sets as naturals below 256, counts of bits, rows of an array -/
theorem qd_or (a b : Nat) : nI a ||| nI b = nI (a ||| b) := by
  apply Int32.toBitVec_inj.1
  show BitVec.ofNat 32 a ||| BitVec.ofNat 32 b = BitVec.ofNat 32 (a ||| b)
  apply BitVec.eq_of_getLsbD_eq
  intro i hi
  simp [hi]
/-- a smaller set's bits -/
theorem qd_sub {s t : Nat} (h : s &&& t = s) (i : Nat) (hs : s.testBit i = true) : t.testBit i = true := by
  have e : (s &&& t).testBit i = true := by rw [h]; exact hs
  rw [Nat.testBit_and, Bool.and_eq_true] at e
  exact e.2
theorem qd_ofsub {s t : Nat} (h : ∀ i, s.testBit i = true → t.testBit i = true) : s &&& t = s := by
  apply Nat.eq_of_testBit_eq
  intro i
  rw [Nat.testBit_and]
  cases e : s.testBit i with
  | false => rfl
  | true => rw [h i e]; rfl
theorem qd_lt8 {s i : Nat} (hs : s < 256) (h : s.testBit i = true) : i < 8 := by
  rcases Nat.lt_or_ge i 8 with z | z
  · exact z
  · have e : s < 2 ^ i := Nat.lt_of_lt_of_le hs (Nat.pow_le_pow_right (n := 2) (by decide) z)
    rw [Nat.testBit_lt_two_pow e] at h
    exact absurd h (by decide)
theorem qd_cx : ∀ s, s < 256 → 255 - s = 255 ^^^ s := by decide +kernel
theorem qd_cb {s : Nat} (hs : s < 256) (i : Nat) : (255 - s).testBit i = (decide (i < 8) ^^ s.testBit i) := by
  rw [qd_cx s hs, Nat.testBit_xor, show (255 : Nat) = 2 ^ 8 - 1 from rfl, Nat.testBit_two_pow_sub_one]
theorem qd_c0 : ∀ s, s < 256 → (255 - s) &&& s = 0 := by decide +kernel
theorem qd_csub {s t : Nat} (hs : s < 256) (ht : t < 256) (h : t &&& s = 0) : t &&& (255 - s) = t := by
  apply qd_ofsub
  intro i hi
  rw [qd_cb hs, decide_eq_true (qd_lt8 ht hi)]
  cases e : s.testBit i with
  | false => rfl
  | true =>
    have z : (t &&& s).testBit i = true := by rw [Nat.testBit_and, hi, e]; rfl
    rw [h, Nat.zero_testBit] at z
    exact absurd z (by decide)
theorem qd_canti {s t : Nat} (hs : s < 256) (ht : t < 256) (h : s &&& t = s) : (255 - t) &&& (255 - s) = 255 - t := by
  apply qd_ofsub
  intro i hi
  rw [qd_cb ht] at hi
  rw [qd_cb hs]
  cases e : s.testBit i with
  | true => rw [qd_sub h i e] at hi; revert hi; rw [decide_eq_true (qd_lt8 hs e)]; exact fun z => absurd z (by decide)
  | false =>
    cases e2 : t.testBit i with
    | false => rw [e2] at hi; exact hi
    | true => rw [decide_eq_true (qd_lt8 ht e2)]; rfl
theorem qd_orm {s t m : Nat} (h : s &&& t = s) : (s ||| m) &&& (t ||| m) = s ||| m := by
  apply qd_ofsub
  intro i hi
  rw [Nat.testBit_or, Bool.or_eq_true] at hi
  rw [Nat.testBit_or, Bool.or_eq_true]
  rcases hi with z | z
  · exact Or.inl (qd_sub h i z)
  · exact Or.inr z
theorem qd_orlt {s m : Nat} (hs : s < 256) (hm : m < 256) : s ||| m < 256 := Nat.or_lt_two_pow (n := 8) hs hm
theorem qd_b1 : ∀ s, s < 256 → ∀ m, m < 8 → s &&& 2 ^ m ≠ 0 → 2 ^ m ≤ s ∧ (s - 2 ^ m) &&& s = s - 2 ^ m ∧ s - 2 ^ m ≠ s := by decide +kernel
theorem qd_b2 : ∀ s, s < 256 → ∀ m, m < 8 → s.testBit m = true → s &&& 2 ^ m ≠ 0 ∧ s - 2 ^ m = s ^^^ 2 ^ m := by decide +kernel
/-- a strictly smaller set lacks a machine -/
theorem qd_lack {s t : Nat} (hs : s < 256) (h : t &&& s = t) (hn : t ≠ s) : ∃ m, m < 8 ∧ s &&& 2 ^ m ≠ 0 ∧ t &&& (s - 2 ^ m) = t := by
  have hx : ∃ i, s.testBit i = true ∧ t.testBit i = false := by
    refine Classical.byContradiction fun hc => hn ?_
    apply Nat.eq_of_testBit_eq
    intro i
    cases e : t.testBit i with
    | true => exact (qd_sub h i e).symm
    | false =>
      cases e2 : s.testBit i with
      | false => rfl
      | true => exact absurd ⟨i, e2, e⟩ hc
  obtain ⟨i, h1, h0⟩ := hx
  have h8 := qd_lt8 hs h1
  obtain ⟨z1, z2⟩ := qd_b2 s hs i h8 h1
  refine ⟨i, h8, z1, ?_⟩
  rw [z2]
  apply qd_ofsub
  intro j hj
  rw [Nat.testBit_xor, Nat.testBit_two_pow, qd_sub h j hj]
  have hij : i ≠ j := by
    intro e
    rw [← e, h0] at hj
    exact absurd hj (by decide)
  rw [decide_eq_false hij]
  rfl
/-! the count of machines -/
def qd_cn (x : Int32) : Nat → Nat → Nat
  | _, 0 => 0
  | m, d + 1 => (bt x m).toNat + qd_cn x (m + 1) d
def qd_pc (x : Int32) : Nat := qd_cn x 0 8
theorem qd_cn_le (x : Int32) : ∀ d m, qd_cn x m d ≤ d := by
  intro d
  induction d with
  | zero => intro m; exact Nat.le_refl 0
  | succ d ih =>
    intro m
    have h1 := ih (m + 1)
    have h2 : (bt x m).toNat ≤ 1 := by cases bt x m <;> decide
    show (bt x m).toNat + qd_cn x (m + 1) d ≤ d + 1
    omega
theorem qd_pc_le (x : Int32) : qd_pc x ≤ 8 := qd_cn_le x 8 0
theorem qd_cn_mono {x y : Int32} (h : ∀ i, bt x i = true → bt y i = true) : ∀ d m, qd_cn x m d ≤ qd_cn y m d := by
  intro d
  induction d with
  | zero => intro m; exact Nat.le_refl 0
  | succ d ih =>
    intro m
    have h1 := ih (m + 1)
    have h2 : (bt x m).toNat ≤ (bt y m).toNat := by
      cases e : bt x m with
      | false => exact Nat.zero_le _
      | true => rw [h m e]; exact Nat.le_refl _
    show (bt x m).toNat + qd_cn x (m + 1) d ≤ (bt y m).toNat + qd_cn y (m + 1) d
    omega
theorem qd_btN {s i : Nat} (hi : i < 32) : bt (nI s) i = s.testBit i := by
  show (BitVec.ofNat 32 s).getLsbD i = _
  rw [BitVec.getLsbD_ofNat]
  simp [hi]
theorem qd_pc_mono {s t : Nat} (x : Int32) (h : s &&& t = s) : qd_pc (nI s &&& x) ≤ qd_pc (nI t &&& x) := by
  apply qd_cn_mono
  intro i hi
  rcases Nat.lt_or_ge i 32 with z | z
  · rw [b_and, Bool.and_eq_true, qd_btN z] at hi
    rw [b_and, Bool.and_eq_true, qd_btN z]
    exact ⟨qd_sub h i hi.1, hi.2⟩
  · rw [b_big z] at hi
    exact absurd hi (by decide)
theorem qd_b1i : ∀ i, i < 32 → bt 1 i = decide (i = 0) := by decide +kernel
theorem qd_bit (x : Int32) (m : Nat) (hm : m < 8) : (x >>> (nI m &&& 31)) &&& 1 = nI (bt x m).toNat := by
  apply b_ext
  intro i hi
  rw [b_and, b_sshr m (by omega) x hi, qd_b1i i hi, qd_btN hi]
  by_cases z : i = 0
  · subst z
    rw [if_pos (by omega), Nat.add_zero]
    cases bt x m <;> decide
  · rw [decide_eq_false z, Bool.and_false]
    cases bt x m
    · exact (Nat.zero_testBit i).symm
    · show false = (1 : Nat).testBit i
      rw [show (1 : Nat) = 2 ^ 0 from rfl, Nat.testBit_two_pow, decide_eq_false (by omega)]
/-! a row of an array, written cell by cell -/
def qd_w (a : Nat → Int32) (r : Nat) (f : Nat → Int32) (n : Nat) : Nat → Int32 := fun j => if r ≤ j ∧ j < r + n then f (j - r) else a j
theorem qd_w0 (a : Nat → Int32) (r : Nat) (f : Nat → Int32) : qd_w a r f 0 = a := by
  funext j
  exact if_neg (by omega)
theorem qd_win {a : Nat → Int32} {r : Nat} {f : Nat → Int32} {n s : Nat} (h : s < n) : qd_w a r f n (r + s) = f s := by
  show (if r ≤ r + s ∧ r + s < r + n then f (r + s - r) else a (r + s)) = f s
  rw [if_pos (by omega), Nat.add_sub_cancel_left]
theorem qd_wout {a : Nat → Int32} {r : Nat} {f : Nat → Int32} {n j : Nat} (h : ¬ (r ≤ j ∧ j < r + n)) : qd_w a r f n j = a j := if_neg h
theorem qd_ws (a : Nat → Int32) (r : Nat) (f : Nat → Int32) (n : Nat) : upd (qd_w a r f n) (r + n) (f n) = qd_w a r f (n + 1) := by
  funext j
  by_cases e : j = r + n
  · subst e
    rw [pk_us, qd_win (by omega)]
  · rw [pk_un e]
    by_cases z : r ≤ j ∧ j < r + n
    · obtain ⟨i, rfl⟩ : ∃ i, j = r + i := ⟨j - r, by omega⟩
      rw [qd_win (by omega), qd_win (by omega)]
    · rw [qd_wout z, qd_wout (by omega)]
theorem qd_wst {a : Nat → Int32} {r : Nat} {f : Nat → Int32} {n : Nat} {i v : Int32} (hi : i = nI (r + n)) (hb : r + n < 2 ^ 31) (hv : vp_nar .boolean v = f n) : upd (qd_w a r f n) i.toNatClampNeg (vp_nar .boolean v) = qd_w a r f (n + 1) := by
  rw [hi, nI_clamp hb, hv, qd_ws]
def qd_01 (x : Int32) : Prop := x = 0 ∨ x = 1
theorem qd_n01 {x : Int32} (h : qd_01 x) : vp_nar .boolean x = x := by
  rcases h with rfl | rfl <;> rfl
theorem qd_r01 {x : Int32} (h : qd_01 x) : narrow .boolean (.int x) = .int x := by
  rcases h with rfl | rfl <;> rfl
/-- the family in row r holds with every set all larger ones -/
def qd_UC (a : Nat → Int32) (r : Nat) : Prop := ∀ s t, s < 256 → t < 256 → s &&& t = s → a (r + s) ≠ 0 → a (r + t) ≠ 0
theorem qd_UCc {a b : Nat → Int32} {r r' : Nat} (h : qd_UC a r) (e : ∀ s, s < 256 → b (r' + s) = a (r + s)) : qd_UC b r' := by
  intro s t hs ht z n
  rw [e s hs] at n
  rw [e t ht]
  exact h s t hs ht z n
/-- the two states: h families, the same cells below 2560 -/
def qd_R (h : Nat) (a b : Nat → Int32) : Prop := h ≤ 10 ∧ (∀ j, j < 2560 → b j = a j) ∧ (∀ j, qd_01 (a j)) ∧ (∀ i, i < h → qd_UC a (256 * i))
/-- a row is written anew -/
theorem qd_put {h h' i : Nat} {a b b' f : Nat → Int32} (R : qd_R h a b) (hh : h' ≤ 10) (hk : ∀ i', i' < h' → i' ≠ i → i' < h) (h01 : ∀ s, s < 256 → qd_01 (f s)) (hf : ∀ s t, s < 256 → t < 256 → s &&& t = s → f s ≠ 0 → f t ≠ 0) (hb : ∀ j, j < 2560 → b' j = qd_w b (256 * i) f 256 j) : qd_R h' (qd_w a (256 * i) f 256) b' := by
  obtain ⟨R1, R2, R3, R4⟩ := R
  refine ⟨hh, ?_, ?_, ?_⟩
  · intro j hj
    rw [hb j hj]
    show (if 256 * i ≤ j ∧ j < 256 * i + 256 then f (j - 256 * i) else b j) = (if 256 * i ≤ j ∧ j < 256 * i + 256 then f (j - 256 * i) else a j)
    rw [R2 j hj]
  · intro j
    by_cases z : 256 * i ≤ j ∧ j < 256 * i + 256
    · obtain ⟨s, rfl⟩ : ∃ s, j = 256 * i + s := ⟨j - 256 * i, by omega⟩
      rw [qd_win (by omega)]
      exact h01 s (by omega)
    · rw [qd_wout z]
      exact R3 j
  · intro i' hi'
    by_cases z : i' = i
    · subst z
      intro s t hs ht e n
      rw [qd_win hs] at n
      rw [qd_win ht]
      exact hf s t hs ht e n
    · exact qd_UCc (R4 i' (hk i' hi' z)) fun s hs => qd_wout (by omega)
end
section
/-! numbers as both sides print them -/
theorem qd_256 (h : Nat) : (256 : Int32) * nI h = nI (256 * h) := pk_mul 256 h
theorem qd_256' (h : Nat) : nI h * (256 : Int32) = nI (256 * h) := (pk_mul h 256).trans (congrArg nI (Nat.mul_comm h 256))
theorem qd_h1 {h : Nat} (hh : 0 < h) : nI h - 1 = nI (h - 1) := pk_sub (b := 1) hh
theorem qd_hk {h k : Nat} (hk : k < h) : (nI h - 1) - nI k = nI (h - 1 - k) := by
  rw [qd_h1 (by omega), pk_sub (by omega)]
theorem qd_row {h k : Nat} (hk : k < h) : ((nI h - 1) - nI k) * 256 = nI (256 * (h - 1 - k)) := by
  rw [qd_hk hk, qd_256']
theorem qd_row' {h k : Nat} (hk : k < h) : 256 * ((nI h - 1) - nI k) = nI (256 * (h - 1 - k)) := by
  rw [qd_hk hk, qd_256]
theorem qd_ge {s : Nat} (h : s = 256) : (256 : Int32) ≤ nI s := nI_le (a := 256) (by omega) (by omega)
theorem qd_ng {s : Nat} (h : s < 256) : ¬ (256 : Int32) ≤ nI s := nI_ge (b := 256) h (by decide)
theorem qd_g8 {s : Nat} (h : s = 8) : (8 : Int32) ≤ nI s := nI_le (a := 8) (by omega) (by omega)
theorem qd_ng8 {s : Nat} (h : s < 8) : ¬ (8 : Int32) ≤ nI s := nI_ge (b := 8) h (by decide)
theorem qd_ad {r s : Nat} : nI r + nI s = nI (r + s) := nI_add r s
theorem qd_at {a : Nat → Int32} {i : Int32} {n : Nat} (h : i = nI n) (hn : n < 2 ^ 31) : a i.toNatClampNeg = a n := by rw [h, nI_clamp hn]
/-! machinesIn and ones -/
theorem xm_l (post : Int32 → Prop) (x : Int32) : ∀ d m c : Nat, m + d = 8 → post (nI (c + qd_cn x m d)) → wX_machinesIn_4 post x (d + 1) (nI c) (nI m) := by
  intro d
  induction d with
  | zero => intro m c hm hp; exact br_t (qd_g8 (by omega)) hp
  | succ d ih =>
    intro m c hm hp
    refine br_f (qd_ng8 (by omega)) fun y ey z ez => ?_
    rw [qd_bit x m (by omega), nI_add] at ey
    rw [nI_1] at ez
    subst ey ez
    refine ih (m + 1) _ (by omega) ?_
    rw [Nat.add_assoc]
    exact hp
theorem xm_w (post : Int32 → Prop) (x : Int32) (hp : post (nI (qd_pc x))) : wpX_machinesIn post x := ⟨9, xm_l post x 8 0 0 rfl (by rw [Nat.zero_add]; exact hp)⟩
theorem ym_l (post : Int32 → Prop) (x : Int32) : ∀ d m c : Nat, m + d = 8 → post (nI (c + qd_cn x m d)) → wY_ones_4 post x (d + 1) (nI c) (nI m) := by
  intro d
  induction d with
  | zero => intro m c hm hp; exact br_t (qd_g8 (by omega)) hp
  | succ d ih =>
    intro m c hm hp
    refine br_f (qd_ng8 (by omega)) fun y ey z ez => ?_
    rw [qd_bit x m (by omega), nI_add] at ey
    rw [nI_1] at ez
    subst ey ez
    refine ih (m + 1) _ (by omega) ?_
    rw [Nat.add_assoc]
    exact hp
theorem ym_w (post : Int32 → Prop) (x : Int32) (hp : post (nI (qd_pc x))) : wpY_ones post x := ⟨9, ym_l post x 8 0 0 rfl (by rw [Nat.zero_add]; exact hp)⟩
/-! atLeast -/
def qd_fa (c : Nat) (x : Int32) (s : Nat) : Int32 := if qd_pc (nI s &&& x) < c then 0 else 1
theorem qd_fa01 (c : Nat) (x : Int32) (s : Nat) : qd_01 (qd_fa c x s) := by
  unfold qd_fa
  by_cases z : qd_pc (nI s &&& x) < c
  · exact Or.inl (if_pos z)
  · exact Or.inr (if_neg z)
theorem qd_faU (c : Nat) (x : Int32) (s t : Nat) (h : s &&& t = s) (n : qd_fa c x s ≠ 0) : qd_fa c x t ≠ 0 := by
  have m := qd_pc_mono x h
  have z : ¬ qd_pc (nI s &&& x) < c := fun z => n (if_pos z)
  unfold qd_fa
  rw [if_neg (by omega)]
  decide
theorem xa_l (post : Int32 → SX → Prop) (c : Nat) (x : Int32) (r h : Nat) (a : Nat → Int32) (hc : c ≤ 8) (hr : r + 256 ≤ 2560) (hp : post (nI (h + 1)) (nI (h + 1), qd_w a r (qd_fa c x) 256)) : ∀ d s : Nat, s + d = 256 → wX_atLeast_33 post (nI c) x (nI r) (nI h) (d + 1) (nI s) (qd_w a r (qd_fa c x) s) := by
  intro d
  induction d with
  | zero =>
    intro s hs
    refine br_t (qd_ge (by omega)) fun y ey => ?_
    rw [nI_1] at ey
    subst ey
    rw [show s = 256 by omega]
    exact hp
  | succ d ih =>
    intro s hs
    have hin : vp_in (nI r + nI s) 2560 := pk_in (r + s) 2560 (by omega) qd_ad
    have h8 := qd_pc_le (nI s &&& x)
    have st : ∀ v, vp_nar .boolean v = qd_fa c x s → ∀ a', a' = upd (qd_w a r (qd_fa c x) s) (nI r + nI s).toNatClampNeg (vp_nar .boolean v) → ∀ y, y = nI s + 1 → wX_atLeast_33 post (nI c) x (nI r) (nI h) (d + 1) y a' := by
      intro v hv a' ea y ey
      rw [qd_wst qd_ad (by omega) hv] at ea
      rw [nI_1] at ey
      subst ea ey
      exact ih (s + 1) (by omega)
    refine br_f (qd_ng (by omega)) (xm_w _ _ (pk_lt (qd_pc (nI s &&& x)) c (fun z => ⟨hin, st 0 ?_⟩) (fun z => ⟨hin, st 1 ?_⟩)))
    · exact (if_pos z).symm
    · exact (if_neg (by omega)).symm
theorem xa_w (post : Int32 → SX → Prop) (c : Nat) (x : Int32) (h : Nat) (a : Nat → Int32) (hc : c ≤ 8) (hh : h < 10) (hp : post (nI (h + 1)) (nI (h + 1), qd_w a (256 * h) (qd_fa c x) 256)) : wpX_atLeast post (nI h, a) (nI c) x := by
  refine br_f (nI_pos (by omega)) (br_f (nI_nlt (a := 8) hc (by decide)) (br_t (nI_lt (b := 10) hh (by decide)) fun y ey => ⟨257, ?_⟩))
  rw [qd_256'] at ey
  subst ey
  have := xa_l post c x (256 * h) h a hc (by omega) hp 256 0 rfl
  rw [qd_w0] at this
  exact this
theorem ya_l (post : Int32 → SY → Prop) (c : Nat) (x : Int32) (h : Nat) (a : Nat → Int32) (hc : c ≤ 8) (hr : h < 10) (hp : post (nI (h + 1)) (nI (h + 1), qd_w a (256 * h) (qd_fa c x) 256)) : ∀ d s : Nat, s + d = 256 → wY_atLeast_23 post (nI c) x (nI h) (d + 1) (nI s) (qd_w a (256 * h) (qd_fa c x) s) := by
  intro d
  induction d with
  | zero =>
    intro s hs
    refine br_t (qd_ge (by omega)) fun y ey => ?_
    rw [nI_1] at ey
    subst ey
    rw [show s = 256 by omega]
    exact hp
  | succ d ih =>
    intro s hs
    have hix : 256 * nI h + nI s = nI (256 * h + s) := by rw [qd_256, nI_add]
    have hin : vp_in (256 * nI h + nI s) 2816 := pk_in (256 * h + s) 2816 (by omega) hix
    have h8 := qd_pc_le (nI s &&& x)
    have st : ∀ v, vp_nar .boolean v = qd_fa c x s → ∀ a', a' = upd (qd_w a (256 * h) (qd_fa c x) s) (256 * nI h + nI s).toNatClampNeg (vp_nar .boolean v) → ∀ y, y = nI s + 1 → wY_atLeast_23 post (nI c) x (nI h) (d + 1) y a' := by
      intro v hv a' ea y ey
      rw [qd_wst hix (by omega) hv] at ea
      rw [nI_1] at ey
      subst ea ey
      exact ih (s + 1) (by omega)
    refine br_f (qd_ng (by omega)) (ym_w _ _ (pk_lt (qd_pc (nI s &&& x)) c (fun z => ⟨hin, st 0 ?_⟩) (fun z => ⟨hin, st 1 ?_⟩)))
    · exact (if_pos z).symm
    · exact (if_neg (by omega)).symm
theorem ya_w (post : Int32 → SY → Prop) (c : Nat) (x : Int32) (h : Nat) (a : Nat → Int32) (hc : c ≤ 8) (hh : h < 10) (hp : post (nI (h + 1)) (nI (h + 1), qd_w a (256 * h) (qd_fa c x) 256)) : wpY_atLeast post (nI h, a) (nI c) x := by
  refine br_f (nI_pos (by omega)) (br_f (nI_nlt (a := 8) hc (by decide)) (br_f (fun z => ?_) ⟨257, ?_⟩))
  · have := (nI_eq (b := 10) (by omega) (by decide)).mp z
    omega
  have := ya_l post c x h a hc hh hp 256 0 rfl
  rw [qd_w0] at this
  exact this
/-! join -/
def qd_j (z x y : Int32) : Int32 := if z = 0 then (if x = 0 ∧ y = 0 then 0 else 1) else (if x = 0 ∨ y = 0 then 0 else 1)
theorem qd_j01 (z x y : Int32) : qd_01 (qd_j z x y) := by
  unfold qd_j
  split <;> split <;> first | exact Or.inl rfl | exact Or.inr rfl
def qd_fj (z : Int32) (a : Nat → Int32) (ru rl : Nat) (s : Nat) : Int32 := qd_j z (a (ru + s)) (a (rl + s))
theorem qd_fjU {z : Int32} {a : Nat → Int32} {ru rl : Nat} (hu : qd_UC a ru) (hl : qd_UC a rl) (s t : Nat) (hs : s < 256) (ht : t < 256) (h : s &&& t = s) (n : qd_fj z a ru rl s ≠ 0) : qd_fj z a ru rl t ≠ 0 := by
  have u := hu s t hs ht h
  have l := hl s t hs ht h
  unfold qd_fj qd_j at n
  unfold qd_fj qd_j
  by_cases hz : z = 0
  · rw [if_pos hz] at n
    rw [if_pos hz]
    have n2 : ¬ (a (ru + s) = 0 ∧ a (rl + s) = 0) := fun w => n (if_pos w)
    rw [if_neg]
    · decide
    · intro w
      refine n2 ⟨Classical.byContradiction fun q => u q w.1, Classical.byContradiction fun q => l q w.2⟩
  · rw [if_neg hz] at n
    rw [if_neg hz]
    have n2 : ¬ (a (ru + s) = 0 ∨ a (rl + s) = 0) := fun w => n (if_pos w)
    rw [if_neg]
    · decide
    · intro w
      rcases w with w | w
      · exact u (fun q => n2 (Or.inl q)) w
      · exact l (fun q => n2 (Or.inr q)) w
theorem xj_l (post : Int32 → SX → Prop) (z : Int32) (ru rl h : Nat) (a : Nat → Int32) (hl : ru + 256 ≤ 2560) (hul : rl + 256 = ru) (hh : 0 < h) (hp : post (nI (h - 1)) (nI (h - 1), qd_w a rl (qd_fj z a ru rl) 256)) : ∀ d s : Nat, s + d = 256 → wX_join_25 post z (nI ru) (nI rl) (nI h) (d + 1) (nI s) (qd_w a rl (qd_fj z a ru rl) s) := by
  intro d
  induction d with
  | zero =>
    intro s hs
    refine br_t (qd_ge (by omega)) fun y ey => ?_
    rw [qd_h1 hh] at ey
    subst ey
    rw [show s = 256 by omega]
    exact hp
  | succ d ih =>
    intro s hs
    have hiu : vp_in (nI ru + nI s) 2560 := pk_in (ru + s) 2560 (by omega) qd_ad
    have hil : vp_in (nI rl + nI s) 2560 := pk_in (rl + s) 2560 (by omega) qd_ad
    have st : ∀ v, vp_nar .boolean v = qd_fj z a ru rl s → vp_in (nI rl + nI s) 2560 ∧ ∀ a', a' = upd (qd_w a rl (qd_fj z a ru rl) s) (nI rl + nI s).toNatClampNeg (vp_nar .boolean v) → ∀ y, y = nI s + 1 → wX_join_25 post z (nI ru) (nI rl) (nI h) (d + 1) y a' := by
      intro v hv
      refine ⟨hil, ?_⟩
      intro a' ea y ey
      rw [qd_wst qd_ad (by omega) hv] at ea
      rw [nI_1] at ey
      subst ea ey
      exact ih (s + 1) (by omega)
    refine br_f (qd_ng (by omega)) ⟨hiu, fun x5 e5 => ⟨hil, fun x6 e6 => ?_⟩⟩
    rw [pk_cl (ru + s) qd_ad (by omega), qd_wout (by omega)] at e5
    rw [pk_cl (rl + s) qd_ad (by omega), qd_wout (by omega)] at e6
    have ej : qd_fj z a ru rl s = qd_j z x5 x6 := by rw [e5, e6]; rfl
    rw [ej] at st
    by_cases hz : z = 0
    · refine br_t hz ?_
      by_cases h5 : x5 = 0
      · refine br_t h5 ?_
        by_cases h6 : x6 = 0
        · exact br_t h6 (st 0 (by unfold qd_j; rw [if_pos hz, if_pos ⟨h5, h6⟩]; rfl))
        · exact br_f h6 (st 1 (by unfold qd_j; rw [if_pos hz, if_neg (fun w => h6 w.2)]; rfl))
      · exact br_f h5 (st 1 (by unfold qd_j; rw [if_pos hz, if_neg (fun w => h5 w.1)]; rfl))
    · refine br_f hz ?_
      by_cases h5 : x5 = 0
      · exact br_t h5 (st 0 (by unfold qd_j; rw [if_neg hz, if_pos (Or.inl h5)]; rfl))
      · refine br_f h5 ?_
        by_cases h6 : x6 = 0
        · exact br_t h6 (st 0 (by unfold qd_j; rw [if_neg hz, if_pos (Or.inr h6)]; rfl))
        · exact br_f h6 (st 1 (by unfold qd_j; rw [if_neg hz, if_neg (fun w => w.elim h5 h6)]; rfl))
theorem xj_w (post : Int32 → SX → Prop) (z : Int32) (h : Nat) (a : Nat → Int32) (h2 : 2 ≤ h) (hh : h ≤ 10) (hp : post (nI (h - 1)) (nI (h - 1), qd_w a (256 * (h - 2)) (qd_fj z a (256 * (h - 1)) (256 * (h - 2))) 256)) : wpX_join post (nI h, a) z := by
  have e0 : ((nI h - 1) - 0) * 256 = nI (256 * (h - 1)) := qd_row (k := 0) (by omega)
  have e1 : ((nI h - 1) - 1) * 256 = nI (256 * (h - 2)) := qd_row (k := 1) (by omega)
  refine br_t (nI_le (a := 2) h2 (by omega)) ?_
  show ∃ n25 : Nat, wX_join_25 post z (((nI h - 1) - 0) * 256) (((nI h - 1) - 1) * 256) (nI h) n25 0 a
  rw [e0, e1]
  refine ⟨257, ?_⟩
  have := xj_l post z (256 * (h - 1)) (256 * (h - 2)) h a (by omega) (by omega) (by omega) hp 256 0 rfl
  rw [qd_w0] at this
  exact this
theorem yj_l (post : Int32 → SY → Prop) (z : Int32) (h : Nat) (a : Nat → Int32) (h2 : 2 ≤ h) (hh : h ≤ 10) (hp : post (nI (h - 1)) (nI (h - 1), qd_w a (256 * (h - 2)) (qd_fj z a (256 * (h - 1)) (256 * (h - 2))) 256)) : ∀ d s : Nat, s + d = 256 → wY_join_22 post z (nI (h - 1)) (d + 1) (nI s) (qd_w a (256 * (h - 2)) (qd_fj z a (256 * (h - 1)) (256 * (h - 2))) s) := by
  intro d
  induction d with
  | zero =>
    intro s hs
    refine br_t (qd_ge (by omega)) ?_
    rw [show s = 256 by omega]
    exact hp
  | succ d ih =>
    intro s hs
    have hl : 256 * (nI (h - 1) - 1) + nI s = nI (256 * (h - 2) + s) := by
      rw [qd_h1 (by omega), qd_256, nI_add]
      rfl
    have hu : 256 * nI (h - 1) + nI s = nI (256 * (h - 1) + s) := by rw [qd_256, nI_add]
    have hil : vp_in (256 * (nI (h - 1) - 1) + nI s) 2816 := pk_in (256 * (h - 2) + s) 2816 (by omega) hl
    have hiu : vp_in (256 * nI (h - 1) + nI s) 2816 := pk_in (256 * (h - 1) + s) 2816 (by omega) hu
    have st : ∀ v, vp_nar .boolean v = qd_fj z a (256 * (h - 1)) (256 * (h - 2)) s → vp_in (256 * (nI (h - 1) - 1) + nI s) 2816 ∧ ∀ a', a' = upd (qd_w a (256 * (h - 2)) (qd_fj z a (256 * (h - 1)) (256 * (h - 2))) s) (256 * (nI (h - 1) - 1) + nI s).toNatClampNeg (vp_nar .boolean v) → ∀ y, y = nI s + 1 → wY_join_22 post z (nI (h - 1)) (d + 1) y a' := by
      intro v hv
      refine ⟨hil, ?_⟩
      intro a' ea y ey
      rw [qd_wst hl (by omega) hv] at ea
      rw [nI_1] at ey
      subst ea ey
      exact ih (s + 1) (by omega)
    refine br_f (qd_ng (by omega)) ⟨hil, fun x6 e6 => ⟨hiu, fun x5 e5 => ?_⟩⟩
    rw [pk_cl _ hl (by omega), qd_wout (by omega)] at e6
    rw [pk_cl _ hu (by omega), qd_wout (by omega)] at e5
    have ej : qd_fj z a (256 * (h - 1)) (256 * (h - 2)) s = qd_j z x5 x6 := by rw [e5, e6]; rfl
    rw [ej] at st
    by_cases hz : z = 0
    · refine br_t hz ?_
      by_cases h6 : x6 = 0
      · refine br_t h6 ?_
        by_cases h5 : x5 = 0
        · exact br_t h5 (st 0 (by unfold qd_j; rw [if_pos hz, if_pos ⟨h5, h6⟩]; rfl))
        · exact br_f h5 (st 1 (by unfold qd_j; rw [if_pos hz, if_neg (fun w => h5 w.1)]; rfl))
      · exact br_f h6 (st 1 (by unfold qd_j; rw [if_pos hz, if_neg (fun w => h6 w.2)]; rfl))
    · refine br_f hz ?_
      by_cases h6 : x6 = 0
      · exact br_t h6 (st 0 (by unfold qd_j; rw [if_neg hz, if_pos (Or.inr h6)]; rfl))
      · refine br_f h6 ?_
        by_cases h5 : x5 = 0
        · exact br_t h5 (st 0 (by unfold qd_j; rw [if_neg hz, if_pos (Or.inl h5)]; rfl))
        · exact br_f h5 (st 1 (by unfold qd_j; rw [if_neg hz, if_neg (fun w => w.elim h5 h6)]; rfl))
theorem yj_w (post : Int32 → SY → Prop) (z : Int32) (h : Nat) (a : Nat → Int32) (h2 : 2 ≤ h) (hh : h ≤ 10) (hp : post (nI (h - 1)) (nI (h - 1), qd_w a (256 * (h - 2)) (qd_fj z a (256 * (h - 1)) (256 * (h - 2))) 256)) : wpY_join post (nI h, a) z := by
  refine br_t (nI_le (a := 2) h2 (by omega)) fun y ey => ⟨257, ?_⟩
  rw [qd_h1 (by omega)] at ey
  subst ey
  have := yj_l post z h a h2 hh hp 256 0 rfl
  rw [qd_w0] at this
  exact this
end
section
/-! isFamily, missing -/
theorem xf_1 (post : Int32 → Prop) (h k : Nat) (a : Nat → Int32) (hk : k < h) (hh : h ≤ 10) (hp : post 1) : wpX_isFamily post (nI h, a) (nI k) := br_f (nI_pos (by omega)) (br_f (nI_ge hk (by omega)) hp)
theorem xf_0 (post : Int32 → Prop) (h : Nat) (x : Int32) (a : Nat → Int32) (hx : x < 0 ∨ nI h ≤ x) (hp : post 0) : wpX_isFamily post (nI h, a) x := by
  by_cases z : x < 0
  · exact br_t z hp
  · exact br_f z (br_t (hx.resolve_left z) hp)
theorem yf_0 (post : Int32 → Prop) (h k : Nat) (a : Nat → Int32) (hk : k < h) (hh : h ≤ 10) (hp : post 0) : wpY_missing post (nI h, a) (nI k) := br_f (nI_pos (by omega)) (br_t (nI_lt hk (by omega)) hp)
theorem yf_1 (post : Int32 → Prop) (h : Nat) (x : Int32) (a : Nat → Int32) (hx : x < 0 ∨ nI h ≤ x) (hp : post 1) : wpY_missing post (nI h, a) x := by
  by_cases z : x < 0
  · exact br_t z hp
  · exact br_f z (br_f (Int32.not_lt.mpr (hx.resolve_left z)) hp)
theorem qd_10 : ¬ (1 : Int32) = 0 := by decide
theorem qd_n10 {h : Nat} (hh : h < 10) : ¬ nI h = 10 := by
  intro z
  have := (nI_eq (b := 10) (by omega) (by decide)).mp z
  omega
theorem qd_n0 {h : Nat} (h0 : 0 < h) (hh : h ≤ 10) : ¬ nI h = 0 := nI_ne0 h0 (by omega)
/-! copy -/
theorem xc_l (post : Int32 → SX → Prop) (r h : Nat) (a : Nat → Int32) (hr : r + 256 ≤ 256 * h) (hh : h < 10) (h01 : ∀ j, j < 2560 → qd_01 (a j)) (hp : post (nI (h + 1)) (nI (h + 1), qd_w a (256 * h) (fun s => a (r + s)) 256)) : ∀ d s : Nat, s + d = 256 → wX_copy_37 post (nI r) (nI (256 * h)) (nI h) (d + 1) (nI s) (qd_w a (256 * h) (fun s => a (r + s)) s) := by
  intro d
  induction d with
  | zero =>
    intro s hs
    refine br_t (qd_ge (by omega)) fun y ey => ?_
    rw [nI_1] at ey
    subst ey
    rw [show s = 256 by omega]
    exact hp
  | succ d ih =>
    intro s hs
    have hir : vp_in (nI r + nI s) 2560 := pk_in (r + s) 2560 (by omega) qd_ad
    have hiw : vp_in (nI (256 * h) + nI s) 2560 := pk_in (256 * h + s) 2560 (by omega) qd_ad
    refine br_f (qd_ng (by omega)) ⟨hir, hiw, fun a' ea y ey => ?_⟩
    rw [pk_cl (r + s) qd_ad (by omega), qd_wout (j := r + s) (by omega)] at ea
    replace ea := ea.trans (qd_wst qd_ad (by omega) (qd_n01 (h01 (r + s) (by omega))))
    rw [nI_1] at ey
    subst ea ey
    exact ih (s + 1) (by omega)
theorem xc_w (post : Int32 → SX → Prop) (h k : Nat) (a : Nat → Int32) (hk : k < h) (hh : h < 10) (h01 : ∀ j, j < 2560 → qd_01 (a j)) (hp : post (nI (h + 1)) (nI (h + 1), qd_w a (256 * h) (fun s => a (256 * (h - 1 - k) + s)) 256)) : wpX_copy post (nI h, a) (nI k) := by
  unfold wpX_copy
  refine xf_1 _ h k a hk (by omega) (br_f qd_10 (br_t (nI_lt (b := 10) hh (by decide)) ?_))
  show ∀ x3 : Int32, x3 = nI h * 256 → ∃ n : Nat, wX_copy_37 post (((nI h - 1) - nI k) * 256) x3 (nI h) n 0 a
  intro x3 e3
  rw [qd_256'] at e3
  subst e3
  rw [qd_row hk]
  refine ⟨257, ?_⟩
  have := xc_l post (256 * (h - 1 - k)) h a (by omega) hh h01 hp 256 0 rfl
  rw [qd_w0] at this
  exact this
theorem yc_l (post : Int32 → SY → Prop) (h k : Nat) (a : Nat → Int32) (hk : k < h) (hh : h < 10) (h01 : ∀ j, j < 2560 → qd_01 (a j)) (hp : post (nI (h + 1)) (nI (h + 1), qd_w a (256 * h) (fun s => a (256 * (h - 1 - k) + s)) 256)) : ∀ d s : Nat, s + d = 256 → wY_copy_21 post (nI k) (nI h) (d + 1) (nI s) (qd_w a (256 * h) (fun s => a (256 * (h - 1 - k) + s)) s) := by
  intro d
  induction d with
  | zero =>
    intro s hs
    refine br_t (qd_ge (by omega)) fun y ey => ?_
    rw [nI_1] at ey
    subst ey
    rw [show s = 256 by omega]
    exact hp
  | succ d ih =>
    intro s hs
    have er : 256 * ((nI h - 1) - nI k) + nI s = nI (256 * (h - 1 - k) + s) := by rw [qd_row' hk, nI_add]
    have ew : 256 * nI h + nI s = nI (256 * h + s) := by rw [qd_256, nI_add]
    refine br_f (qd_ng (by omega)) ⟨pk_in _ 2816 (by omega) er, pk_in _ 2816 (by omega) ew, fun a' ea y ey => ?_⟩
    rw [pk_cl _ er (by omega), qd_wout (j := 256 * (h - 1 - k) + s) (by omega)] at ea
    replace ea := ea.trans (qd_wst ew (by omega) (qd_n01 (h01 (256 * (h - 1 - k) + s) (by omega))))
    rw [nI_1] at ey
    subst ea ey
    exact ih (s + 1) (by omega)
theorem yc_w (post : Int32 → SY → Prop) (h k : Nat) (a : Nat → Int32) (hk : k < h) (hh : h < 10) (h01 : ∀ j, j < 2560 → qd_01 (a j)) (hp : post (nI (h + 1)) (nI (h + 1), qd_w a (256 * h) (fun s => a (256 * (h - 1 - k) + s)) 256)) : wpY_copy post (nI h, a) (nI k) := by
  unfold wpY_copy
  refine yf_0 _ h k a hk (by omega) (br_t rfl (br_f (qd_n10 hh) ⟨257, ?_⟩))
  have := yc_l post h k a hk hh h01 hp 256 0 rfl
  rw [qd_w0] at this
  exact this
/-! given -/
def qd_fg (a : Nat → Int32) (r m : Nat) (s : Nat) : Int32 := a (r + (s ||| m))
theorem qd_fgU {a : Nat → Int32} {r m : Nat} (hm : m < 256) (h : qd_UC a r) (s t : Nat) (hs : s < 256) (ht : t < 256) (e : s &&& t = s) (n : qd_fg a r m s ≠ 0) : qd_fg a r m t ≠ 0 :=
  h (s ||| m) (t ||| m) (qd_orlt hs hm) (qd_orlt ht hm) (qd_orm e) n
theorem xg_l (post : Int32 → SX → Prop) (r m h : Nat) (a : Nat → Int32) (hr : r + 256 ≤ 2560) (hm : m < 256) (h01 : ∀ j, j < 2560 → qd_01 (a j)) (hp : post (nI h) (nI h, qd_w a r (qd_fg a r m) 256)) : ∀ d s : Nat, s + d = 256 → wX_given_25 post (nI r) (nI m) (nI h) (d + 1) (nI s) (qd_w a r (qd_fg a r m) s) := by
  intro d
  induction d with
  | zero =>
    intro s hs
    refine br_t (qd_ge (by omega)) ?_
    rw [show s = 256 by omega]
    exact hp
  | succ d ih =>
    intro s hs
    have ho : s ||| m < 256 := qd_orlt (by omega) hm
    have hl : s ≤ s ||| m := Nat.left_le_or
    have er : nI r + (nI s ||| nI m) = nI (r + (s ||| m)) := by rw [qd_or, nI_add]
    refine br_f (qd_ng (by omega)) ⟨pk_in _ 2560 (by omega) er, pk_in (r + s) 2560 (by omega) qd_ad, fun a' ea y ey => ?_⟩
    rw [pk_cl _ er (by omega), qd_wout (j := r + (s ||| m)) (by omega)] at ea
    replace ea := ea.trans (qd_wst (f := qd_fg a r m) qd_ad (by omega) (qd_n01 (h01 (r + (s ||| m)) (by omega))))
    rw [nI_1] at ey
    subst ea ey
    exact ih (s + 1) (by omega)
theorem xg_w (post : Int32 → SX → Prop) (h m : Nat) (x : Int32) (a : Nat → Int32) (h0 : 0 < h) (hh : h ≤ 10) (hm : m < 256) (em : x &&& 255 = nI m) (h01 : ∀ j, j < 2560 → qd_01 (a j)) (hp : post (nI h) (nI h, qd_w a (256 * (h - 1)) (qd_fg a (256 * (h - 1)) m) 256)) : wpX_given post (nI h, a) x := by
  refine br_t (nI_le (a := 1) h0 (by omega)) ?_
  show ∀ x3 : Int32, x3 = x &&& 255 → ∃ n : Nat, wX_given_25 post (((nI h - 1) - 0) * 256) x3 (nI h) n 0 a
  intro x3 e3
  rw [em] at e3
  subst e3
  rw [show ((nI h - 1) - 0) * 256 = nI (256 * (h - 1)) from qd_row (k := 0) h0]
  refine ⟨257, ?_⟩
  have := xg_l post (256 * (h - 1)) m h a (by omega) hm h01 hp 256 0 rfl
  rw [qd_w0] at this
  exact this
/-! takeOver -/
theorem yt_l (post : SY → Prop) (h : Nat) (a f : Nat → Int32) (h0 : 0 < h) (hh : h ≤ 10) (hf : ∀ s, s < 256 → a (2560 + s) = f s) (h01 : ∀ s, s < 256 → qd_01 (f s)) (hp : post (nI h, qd_w a (256 * (h - 1)) f 256)) : ∀ d s : Nat, s + d = 256 → wY_takeOver_2 post (nI h) (d + 1) (nI s) (qd_w a (256 * (h - 1)) f s) := by
  intro d
  induction d with
  | zero =>
    intro s hs
    refine br_t (qd_ge (by omega)) ?_
    rw [show s = 256 by omega]
    exact hp
  | succ d ih =>
    intro s hs
    have er : (2560 : Int32) + nI s = nI (2560 + s) := nI_add 2560 s
    have ew : 256 * (nI h - 1) + nI s = nI (256 * (h - 1) + s) := by rw [qd_h1 h0, qd_256, nI_add]
    refine br_f (qd_ng (by omega)) ⟨pk_in _ 2816 (by omega) er, pk_in _ 2816 (by omega) ew, fun a' ea y ey => ?_⟩
    rw [pk_cl _ er (by omega), qd_wout (j := 2560 + s) (by omega), hf s (by omega)] at ea
    replace ea := ea.trans (qd_wst ew (by omega) (qd_n01 (h01 s (by omega))))
    rw [nI_1] at ey
    subst ea ey
    exact ih (s + 1) (by omega)
theorem yt_w (post : SY → Prop) (h : Nat) (a f : Nat → Int32) (h0 : 0 < h) (hh : h ≤ 10) (hf : ∀ s, s < 256 → a (2560 + s) = f s) (h01 : ∀ s, s < 256 → qd_01 (f s)) (hp : post (nI h, qd_w a (256 * (h - 1)) f 256)) : wpY_takeOver post (nI h, a) := by
  refine ⟨257, ?_⟩
  have := yt_l post h a f h0 hh hf h01 hp 256 0 rfl
  rw [qd_w0] at this
  exact this
theorem yg_l (post : Int32 → SY → Prop) (h m : Nat) (x : Int32) (a : Nat → Int32) (h0 : 0 < h) (hh : h ≤ 10) (hm : m < 256) (em : x &&& 255 = nI m) (h01 : ∀ j, j < 2560 → qd_01 (a j)) (hp : post (nI h) (nI h, qd_w (qd_w a 2560 (qd_fg a (256 * (h - 1)) m) 256) (256 * (h - 1)) (qd_fg a (256 * (h - 1)) m) 256)) : ∀ d s : Nat, s + d = 256 → wY_given_11 post x (nI h) (d + 1) (nI s) (qd_w a 2560 (qd_fg a (256 * (h - 1)) m) s) := by
  have hg : ∀ s, s < 256 → qd_01 (qd_fg a (256 * (h - 1)) m s) := fun s hs => h01 _ (by have := qd_orlt hs hm; omega)
  intro d
  induction d with
  | zero =>
    intro s hs
    refine br_t (qd_ge (by omega)) ?_
    rw [show s = 256 by omega]
    exact yt_w _ h _ (qd_fg a (256 * (h - 1)) m) h0 hh (fun s hs => qd_win hs) hg hp
  | succ d ih =>
    intro s hs
    have ho : s ||| m < 256 := qd_orlt (by omega) hm
    have er : 256 * (nI h - 1) + (nI s ||| (x &&& 255)) = nI (256 * (h - 1) + (s ||| m)) := by rw [em, qd_or, qd_h1 h0, qd_256, nI_add]
    have ew : (2560 : Int32) + nI s = nI (2560 + s) := nI_add 2560 s
    refine br_f (qd_ng (by omega)) ⟨pk_in _ 2816 (by omega) er, pk_in _ 2816 (by omega) ew, fun a' ea y ey => ?_⟩
    rw [pk_cl _ er (by omega), qd_wout (j := 256 * (h - 1) + (s ||| m)) (by omega)] at ea
    replace ea := ea.trans (qd_wst (f := qd_fg a (256 * (h - 1)) m) ew (by omega) (qd_n01 (h01 (256 * (h - 1) + (s ||| m)) (by omega))))
    rw [nI_1] at ey
    subst ea ey
    exact ih (s + 1) (by omega)
theorem yg_w (post : Int32 → SY → Prop) (h m : Nat) (x : Int32) (a : Nat → Int32) (h0 : 0 < h) (hh : h ≤ 10) (hm : m < 256) (em : x &&& 255 = nI m) (h01 : ∀ j, j < 2560 → qd_01 (a j)) (hp : post (nI h) (nI h, qd_w (qd_w a 2560 (qd_fg a (256 * (h - 1)) m) 256) (256 * (h - 1)) (qd_fg a (256 * (h - 1)) m) 256)) : wpY_given post (nI h, a) x := by
  refine br_f (qd_n0 h0 hh) ⟨257, ?_⟩
  have := yg_l post h m x a h0 hh hm em h01 hp 256 0 rfl
  rw [qd_w0] at this
  exact this
/-! hits -/
def qd_nt (x : Int32) : Int32 := if x = 0 then 1 else 0
theorem qd_nt01 (x : Int32) : qd_01 (qd_nt x) := by
  unfold qd_nt
  split
  · exact Or.inr rfl
  · exact Or.inl rfl
theorem yh_l (post : Int32 → Prop) (i s : Nat) (fh : Int32) (a : Nat → Int32) (hi : i < 11) (hs : s < 256) (hU : qd_UC a (256 * i)) (hp : post (qd_nt (a (256 * i + (255 - s))))) : ∀ d t : Nat, t + d = 256 → (∀ t', t' < t → a (256 * i + t') ≠ 0 → t' &&& s ≠ 0) → wY_hits_2 post (nI i) (nI s) fh a (d + 1) (nI t) := by
  intro d
  induction d with
  | zero =>
    intro t ht hb
    refine br_t (qd_ge (by omega)) ?_
    have z : a (256 * i + (255 - s)) = 0 := Classical.byContradiction fun q => hb (255 - s) (by omega) q (qd_c0 s hs)
    rw [z] at hp
    exact hp
  | succ d ih =>
    intro t ht hb
    have er : 256 * nI i + nI t = nI (256 * i + t) := by rw [qd_256, nI_add]
    have nx : (a (256 * i + t) ≠ 0 → t &&& s ≠ 0) → ∀ y, y = nI t + 1 → wY_hits_2 post (nI i) (nI s) fh a (d + 1) y := by
      intro q y ey
      rw [nI_1] at ey
      subst ey
      refine ih (t + 1) (by omega) ?_
      intro t' h1
      by_cases e : t' = t
      · subst e; exact q
      · exact hb t' (by omega)
    refine br_f (qd_ng (by omega)) ⟨pk_in _ 2816 (by omega) er, ?_⟩
    rw [pk_cl _ er (by omega)]
    by_cases z : a (256 * i + t) = 0
    · exact br_t z (nx fun q => absurd z q)
    · refine br_f z ?_
      rw [nx_and]
      refine pk_eq (t &&& s) 0 (fun q => ?_) (fun q => nx fun _ => q) rfl rfl (Nat.lt_of_le_of_lt Nat.and_le_left (by omega)) (by omega)
      have w : a (256 * i + (255 - s)) ≠ 0 := hU t (255 - s) (by omega) (by omega) (qd_csub hs (by omega) q) z
      have e : qd_nt (a (256 * i + (255 - s))) = 0 := if_neg w
      rw [e] at hp
      exact hp
theorem yh_w (post : Int32 → Prop) (i s : Nat) (fh : Int32) (a : Nat → Int32) (hi : i < 11) (hs : s < 256) (hU : qd_UC a (256 * i)) (hp : post (qd_nt (a (256 * i + (255 - s))))) : wpY_hits post (fh, a) (nI i) (nI s) :=
  ⟨257, yh_l post i s fh a hi hs hU hp 256 0 rfl (fun t' h => absurd h (by omega))⟩
/-! dual -/
def qd_fd (a : Nat → Int32) (r : Nat) (s : Nat) : Int32 := qd_nt (a (r + (255 - s)))
theorem qd_fdU {a : Nat → Int32} {r : Nat} (h : qd_UC a r) (s t : Nat) (hs : s < 256) (ht : t < 256) (e : s &&& t = s) (n : qd_fd a r s ≠ 0) : qd_fd a r t ≠ 0 := by
  have z : a (r + (255 - s)) = 0 := Classical.byContradiction fun q => n (if_neg q)
  have w : a (r + (255 - t)) = 0 := Classical.byContradiction fun q => h (255 - t) (255 - s) (by omega) (by omega) (qd_canti hs ht e) q z
  have e2 : qd_fd a r t = 1 := if_pos w
  rw [e2]
  decide
theorem yd_l (post : Int32 → SY → Prop) (h : Nat) (a : Nat → Int32) (h0 : 0 < h) (hh : h ≤ 10) (hU : qd_UC a (256 * (h - 1))) (hp : post (nI h) (nI h, qd_w (qd_w a 2560 (qd_fd a (256 * (h - 1))) 256) (256 * (h - 1)) (qd_fd a (256 * (h - 1))) 256)) : ∀ d s : Nat, s + d = 256 → wY_dual_11 post (nI h) (d + 1) (nI s) (qd_w a 2560 (qd_fd a (256 * (h - 1))) s) := by
  intro d
  induction d with
  | zero =>
    intro s hs
    refine br_t (qd_ge (by omega)) ?_
    rw [show s = 256 by omega]
    exact yt_w _ h _ (qd_fd a (256 * (h - 1))) h0 hh (fun s hs => qd_win hs) (fun s _ => qd_nt01 _) hp
  | succ d ih =>
    intro s hs
    have ew : (2560 : Int32) + nI s = nI (2560 + s) := nI_add 2560 s
    refine br_f (qd_ng (by omega)) ?_
    rw [qd_h1 h0]
    refine yh_w _ (h - 1) s (nI h) _ (by omega) (by omega) (qd_UCc hU fun t ht => qd_wout (by omega)) ⟨pk_in _ 2816 (by omega) ew, fun a' ea y ey => ?_⟩
    rw [qd_wout (j := 256 * (h - 1) + (255 - s)) (by omega)] at ea
    replace ea := ea.trans (qd_wst (f := qd_fd a (256 * (h - 1))) ew (by omega) (qd_n01 (qd_nt01 _)))
    rw [nI_1] at ey
    subst ea ey
    exact ih (s + 1) (by omega)
theorem yd_w (post : Int32 → SY → Prop) (h : Nat) (a : Nat → Int32) (h0 : 0 < h) (hh : h ≤ 10) (hU : qd_UC a (256 * (h - 1))) (hp : post (nI h) (nI h, qd_w (qd_w a 2560 (qd_fd a (256 * (h - 1))) 256) (256 * (h - 1)) (qd_fd a (256 * (h - 1))) 256)) : wpY_dual post (nI h, a) := by
  refine br_f (qd_n0 h0 hh) ⟨257, ?_⟩
  have := yd_l post h a h0 hh hU hp 256 0 rfl
  rw [qd_w0] at this
  exact this
/-- X's dual after n pairs -/
def qd_dd (a : Nat → Int32) (r n : Nat) : Nat → Int32 := fun j => if r ≤ j ∧ j < r + 256 ∧ (j < r + n ∨ r + 256 ≤ j + n) then qd_nt (a (2 * r + 255 - j)) else a j
theorem qd_dd0 (a : Nat → Int32) (r : Nat) : qd_dd a r 0 = a := by
  funext j
  exact if_neg (by omega)
theorem qd_dd128 (a : Nat → Int32) (r : Nat) : qd_dd a r 128 = qd_w a r (qd_fd a r) 256 := by
  funext j
  by_cases z : r ≤ j ∧ j < r + 256
  · obtain ⟨s, rfl⟩ : ∃ s, j = r + s := ⟨j - r, by omega⟩
    rw [qd_win (by omega)]
    show (if _ then _ else _) = _
    rw [if_pos (by omega)]
    show qd_nt _ = qd_nt _
    rw [show 2 * r + 255 - (r + s) = r + (255 - s) by omega]
  · rw [qd_wout z]
    exact if_neg (by omega)
theorem qd_dds {a : Nat → Int32} {r n : Nat} (hn : n < 128) : upd (upd (qd_dd a r n) (r + n) (qd_nt (a (r + (255 - n))))) (r + (255 - n)) (qd_nt (a (r + n))) = qd_dd a r (n + 1) := by
  funext j
  by_cases e : j = r + (255 - n)
  · subst e
    rw [pk_us]
    show _ = (if _ then _ else _)
    rw [if_pos (by omega), show 2 * r + 255 - (r + (255 - n)) = r + n by omega]
  · rw [pk_un e]
    by_cases e2 : j = r + n
    · subst e2
      rw [pk_us]
      show _ = (if _ then _ else _)
      rw [if_pos (by omega), show 2 * r + 255 - (r + n) = r + (255 - n) by omega]
    · rw [pk_un e2]
      by_cases z : r ≤ j ∧ j < r + 256 ∧ (j < r + n ∨ r + 256 ≤ j + n)
      · show (if _ then _ else _) = (if _ then _ else _)
        rw [if_pos z, if_pos (by omega)]
      · show (if _ then _ else _) = (if _ then _ else _)
        rw [if_neg z, if_neg (by omega)]
theorem qd_ddo {a : Nat → Int32} {r n j : Nat} (h : n ≤ j) (h2 : j + n < 256) : qd_dd a r n (r + j) = a (r + j) := if_neg (by omega)
theorem xd_j (post : Int32 → SX → Prop) (J : Int32 → (Nat → Int32) → Prop) (r n : Nat) (x3 x4 z0 z1 fh : Int32) (a : Nat → Int32) (hr : r + 256 ≤ 2560) (hn : n < 128) (e3 : x3 = nI (255 - n)) (e4 : x4 = a (r + n)) (e0 : vp_nar .boolean z0 = qd_nt (a (r + (255 - n)))) (e1 : z1 = nI (r + n)) (hJ : J (nI (n + 1)) (qd_dd a r (n + 1))) : wX_dual_68 post J (nI r) (nI n) x3 x4 z0 z1 fh (qd_dd a r n) := by
  have ew : nI r + x3 = nI (r + (255 - n)) := by rw [e3, nI_add]
  refine ⟨pk_in _ 2560 (by omega) e1, fun a1 ea1 => ?_⟩
  rw [pk_cl _ e1 (by omega), e0] at ea1
  by_cases z : x4 = 0
  · refine br_t z ⟨pk_in _ 2560 (by omega) ew, fun a2 ea2 y ey => ?_⟩
    have q : vp_nar .boolean 1 = qd_nt (a (r + n)) := by rw [← e4, z]; rfl
    rw [pk_cl _ ew (by omega), ea1, q, qd_dds hn] at ea2
    rw [nI_1] at ey
    subst ea2 ey
    exact hJ
  · refine br_f z ⟨pk_in _ 2560 (by omega) ew, fun a2 ea2 y ey => ?_⟩
    have q : vp_nar .boolean 0 = qd_nt (a (r + n)) := by rw [← e4]; exact (if_neg z).symm
    rw [pk_cl _ ew (by omega), ea1, q, qd_dds hn] at ea2
    rw [nI_1] at ey
    subst ea2 ey
    exact hJ
theorem xd_l (post : Int32 → SX → Prop) (r h : Nat) (a : Nat → Int32) (hr : r + 256 ≤ 2560) (hp : post (nI h) (nI h, qd_dd a r 128)) : ∀ d s : Nat, s + d = 128 → wX_dual_18 post (nI r) (nI h) (d + 1) (nI s) (qd_dd a r s) := by
  intro d
  induction d with
  | zero =>
    intro s hs
    refine br_t (nI_le (a := 128) (by omega) (by omega)) ?_
    rw [show s = 128 by omega]
    exact hp
  | succ d ih =>
    intro s hs
    refine br_f (nI_ge (b := 128) (by omega) (by decide)) fun x3 e3 => ?_
    have e3' : x3 = nI (255 - s) := e3.trans (pk_sub (a := 255) (by omega))
    have er : nI r + x3 = nI (r + (255 - s)) := by rw [e3', nI_add]
    refine ⟨pk_in (r + s) 2560 (by omega) qd_ad, fun x4 e4 => ⟨pk_in _ 2560 (by omega) er, fun x5 e5 => ?_⟩⟩
    rw [pk_cl (r + s) qd_ad (by omega), qd_ddo (by omega) (by omega)] at e4
    rw [pk_cl _ er (by omega)] at e5
    have e5' : x5 = a (r + (255 - s)) := by
      rw [e5]
      exact if_neg (by omega)
    by_cases z : x5 = 0
    · exact br_t z (xd_j post _ r s x3 x4 1 _ (nI h) a hr (by omega) e3' e4 (by rw [← e5', z]; rfl) qd_ad (ih (s + 1) (by omega)))
    · exact br_f z (xd_j post _ r s x3 x4 0 _ (nI h) a hr (by omega) e3' e4 (by rw [← e5']; exact (if_neg z).symm) qd_ad (ih (s + 1) (by omega)))
theorem xd_w (post : Int32 → SX → Prop) (h : Nat) (a : Nat → Int32) (h0 : 0 < h) (hh : h ≤ 10) (hp : post (nI h) (nI h, qd_w a (256 * (h - 1)) (qd_fd a (256 * (h - 1))) 256)) : wpX_dual post (nI h, a) := by
  refine br_t (nI_le (a := 1) h0 (by omega)) ?_
  show ∃ n : Nat, wX_dual_18 post (((nI h - 1) - 0) * 256) (nI h) n 0 a
  rw [show ((nI h - 1) - 0) * 256 = nI (256 * (h - 1)) from qd_row (k := 0) h0]
  refine ⟨129, ?_⟩
  rw [← qd_dd128] at hp
  have := xd_l post (256 * (h - 1)) h a (by omega) hp 128 0 rfl
  rw [qd_dd0] at this
  exact this
end
section
/-! belongs -/
theorem qd_m255 : ∀ s, s < 256 → nI s &&& 255 = nI s := by decide +kernel
theorem qd_inv : ∀ s, s < 256 → (255 &&& (nI s ^^^ (-1))) &&& 255 = nI (255 - s) := by decide +kernel
theorem qd_sh : ∀ m, m < 8 → (1 : Int32) <<< (nI m &&& 31) = nI (2 ^ m) := by decide +kernel
theorem yb_w (post : Int32 → Prop) (h k s : Nat) (x : Int32) (b : Nat → Int32) (hk : k < h) (hh : h ≤ 10) (hs : s < 256) (ex : x &&& 255 = nI s) (h01 : ∀ j, j < 2560 → qd_01 (b j)) (hp : post (b (256 * (h - 1 - k) + s))) : wpY_belongs post (nI h, b) (nI k) x := by
  have e : 256 * ((nI h - 1) - nI k) + (x &&& 255) = nI (256 * (h - 1 - k) + s) := by rw [qd_row' hk, ex, nI_add]
  refine ⟨pk_in _ 2816 (by omega) e, ?_⟩
  rw [pk_cl _ e (by omega)]
  exact ⟨qd_r01 (h01 _ (by omega)), hp⟩
/-! isLeast -/
def qd_L (a : Nat → Int32) (r s : Nat) : Prop := a (r + s) ≠ 0 ∧ ∀ t, t < 256 → t ≠ s → t &&& s = t → a (r + t) = 0
theorem qd_Lc {a b : Nat → Int32} {r s : Nat} (h : ∀ t, t < 256 → b (r + t) = a (r + t)) (hs : s < 256) : qd_L b r s ↔ qd_L a r s := by
  constructor
  · intro w
    refine ⟨by rw [← h s hs]; exact w.1, fun t ht n e => ?_⟩
    rw [← h t ht]
    exact w.2 t ht n e
  · intro w
    refine ⟨by rw [h s hs]; exact w.1, fun t ht n e => ?_⟩
    rw [h t ht]
    exact w.2 t ht n e
theorem xi_l (post : Int32 → Prop) (r s : Nat) (fh : Int32) (a : Nat → Int32) (hr : r + 256 ≤ 2560) (hs : s < 256) (hU : qd_UC a r) (hn : a (r + s) ≠ 0) (h1 : qd_L a r s → post 1) (h0 : ¬ qd_L a r s → post 0) : ∀ d m : Nat, m + d = 8 → (∀ m', m' < m → s &&& 2 ^ m' ≠ 0 → a (r + (s - 2 ^ m')) = 0) → wX_isLeast_15 post (nI r) (nI s) fh a (d + 1) (nI m) := by
  intro d
  induction d with
  | zero =>
    intro m hm hb
    refine br_t (qd_g8 (by omega)) (h1 ⟨hn, fun t ht hne hsub => Classical.byContradiction fun q => ?_⟩)
    obtain ⟨m', h8, hb1, hs2⟩ := qd_lack hs hsub hne
    exact hU t (s - 2 ^ m') ht (Nat.lt_of_le_of_lt (Nat.sub_le _ _) hs) hs2 q (hb m' (by omega) hb1)
  | succ d ih =>
    intro m hm hb
    have nx : (s &&& 2 ^ m ≠ 0 → a (r + (s - 2 ^ m)) = 0) → ∀ y, y = nI m + 1 → wX_isLeast_15 post (nI r) (nI s) fh a (d + 1) y := by
      intro q y ey
      rw [nI_1] at ey
      subst ey
      refine ih (m + 1) (by omega) ?_
      intro m' h2
      by_cases e : m' = m
      · subst e; exact q
      · exact hb m' (by omega)
    refine br_f (qd_ng8 (by omega)) fun x4 e4 => ?_
    rw [qd_sh m (by omega)] at e4
    subst e4
    rw [nx_and]
    refine pk_eq (s &&& 2 ^ m) 0 (fun q => nx fun w => absurd q w) (fun q => ?_) rfl rfl (Nat.lt_of_le_of_lt Nat.and_le_left (by omega)) (by omega)
    obtain ⟨g1, g2, g3⟩ := qd_b1 s hs m (by omega) q
    have e : (nI r + nI s) - nI (2 ^ m) = nI (r + (s - 2 ^ m)) := by
      rw [nI_add, pk_sub (Nat.le_trans g1 (Nat.le_add_left s r)), Nat.add_sub_assoc g1]
    have hlt : s - 2 ^ m < 256 := Nat.lt_of_le_of_lt (Nat.sub_le _ _) hs
    refine ⟨pk_in _ 2560 (by omega) e, ?_⟩
    rw [pk_cl _ e (by omega)]
    by_cases z : a (r + (s - 2 ^ m)) = 0
    · exact br_t z (nx fun _ => z)
    · exact br_f z (h0 fun w => z (w.2 _ hlt g3 g2))
theorem xi_w (post : Int32 → Prop) (r s : Nat) (fh : Int32) (a : Nat → Int32) (hr : r + 256 ≤ 2560) (hs : s < 256) (hU : qd_UC a r) (h1 : qd_L a r s → post 1) (h0 : ¬ qd_L a r s → post 0) : wpX_isLeast post (fh, a) (nI r) (nI s) := by
  refine ⟨pk_in (r + s) 2560 (by omega) qd_ad, ?_⟩
  rw [pk_cl (r + s) qd_ad (by omega)]
  by_cases z : a (r + s) = 0
  · exact br_t z (h0 fun w => w.1 z)
  · exact br_f z ⟨9, xi_l post r s fh a hr hs hU z h1 h0 8 0 rfl (fun m' h => absurd h (by omega))⟩
theorem yi_l (post : Int32 → Prop) (h k s : Nat) (b : Nat → Int32) (hk : k < h) (hh : h ≤ 10) (hs : s < 256) (h01 : ∀ j, j < 2560 → qd_01 (b j)) (hn : b (256 * (h - 1 - k) + s) ≠ 0) (h1 : qd_L b (256 * (h - 1 - k)) s → post 1) (h0 : ¬ qd_L b (256 * (h - 1 - k)) s → post 0) : ∀ d t : Nat, t + d = 256 → (∀ t', t' < t → t' ≠ s → t' &&& s = t' → b (256 * (h - 1 - k) + t') = 0) → wY_isLeast_13 post (nI k) (nI s) (nI h) b (d + 1) (nI t) := by
  intro d
  induction d with
  | zero =>
    intro t ht hb
    exact br_t (qd_ge (by omega)) (h1 ⟨hn, fun t' ht' => hb t' (by omega)⟩)
  | succ d ih =>
    intro t ht hb
    have nx : (t ≠ s → t &&& s = t → b (256 * (h - 1 - k) + t) = 0) → ∀ y, y = nI t + 1 → wY_isLeast_13 post (nI k) (nI s) (nI h) b (d + 1) y := by
      intro q y ey
      rw [nI_1] at ey
      subst ey
      refine ih (t + 1) (by omega) ?_
      intro t' h2
      by_cases e : t' = t
      · subst e; exact q
      · exact hb t' (by omega)
    refine br_f (qd_ng (by omega)) (pk_eq t s (fun e => nx fun w => absurd e w) (fun ne => ?_))
    rw [nx_and]
    refine pk_eq (t &&& s) t (fun e => ?_) (fun e => nx fun _ w => absurd w e) rfl rfl (Nat.lt_of_le_of_lt Nat.and_le_left (by omega)) (by omega)
    refine yb_w _ h k t (nI t) b hk hh (by omega) (qd_m255 t (by omega)) h01 ?_
    by_cases z : b (256 * (h - 1 - k) + t) = 0
    · exact br_t z (nx fun _ _ => z)
    · exact br_f z (h0 fun w => z (w.2 t (by omega) ne e))
theorem yi_w (post : Int32 → Prop) (h k s : Nat) (b : Nat → Int32) (hk : k < h) (hh : h ≤ 10) (hs : s < 256) (h01 : ∀ j, j < 2560 → qd_01 (b j)) (h1 : qd_L b (256 * (h - 1 - k)) s → post 1) (h0 : ¬ qd_L b (256 * (h - 1 - k)) s → post 0) : wpY_isLeast post (nI h, b) (nI k) (nI s) := by
  unfold wpY_isLeast
  refine yb_w _ h k s (nI s) b hk hh hs (qd_m255 s hs) h01 ?_
  by_cases z : b (256 * (h - 1 - k) + s) = 0
  · exact br_t z (h0 fun w => w.1 z)
  · exact br_f z ⟨257, yi_l post h k s b hk hh hs h01 z h1 h0 256 0 rfl (fun t' h => absurd h (by omega))⟩
/-! leastSets, leastSet: both sides in step -/
theorem ls_l {h k : Nat} {a b : Nat → Int32} (R : qd_R h a b) (hk : k < h) : ∀ d s c : Nat, s + d = 256 → ∃ r : Int32, (∀ post : Int32 → Prop, post r → wX_leastSets_21 post (nI (256 * (h - 1 - k))) (nI h) a (d + 1) (nI c) (nI s)) ∧ (∀ post : Int32 → Prop, post r → wY_leastSets_14 post (nI k) (nI h) b (d + 1) (nI c) (nI s)) := by
  obtain ⟨R1, R2, R3, R4⟩ := R
  have h01 : ∀ j, j < 2560 → qd_01 (b j) := fun j hj => by rw [R2 j hj]; exact R3 j
  have hU := R4 (h - 1 - k) (by omega)
  intro d
  induction d with
  | zero =>
    intro s c hs
    exact ⟨nI c, fun _ hp => br_t (qd_ge (by omega)) hp, fun _ hp => br_t (qd_ge (by omega)) hp⟩
  | succ d ih =>
    intro s c hs
    have hL : qd_L b (256 * (h - 1 - k)) s ↔ qd_L a (256 * (h - 1 - k)) s := qd_Lc (fun t ht => R2 _ (by omega)) (by omega)
    by_cases L : qd_L a (256 * (h - 1 - k)) s
    · obtain ⟨r, hX, hY⟩ := ih (s + 1) (c + 1) (by omega)
      refine ⟨r, fun post hp => br_f (qd_ng (by omega)) (xi_w _ _ s (nI h) a (by omega) (by omega) hU (fun _ => br_f qd_10 fun y ey z ez => ?_) (fun n => absurd L n)), fun post hp => br_f (qd_ng (by omega)) (yi_w _ h k s b hk R1 (by omega) h01 (fun _ => br_f qd_10 fun y ey z ez => ?_) (fun n => absurd (hL.mpr L) n))⟩
      · rw [nI_1] at ey ez
        subst ey ez
        exact hX post hp
      · rw [nI_1] at ey ez
        subst ey ez
        exact hY post hp
    · obtain ⟨r, hX, hY⟩ := ih (s + 1) c (by omega)
      refine ⟨r, fun post hp => br_f (qd_ng (by omega)) (xi_w _ _ s (nI h) a (by omega) (by omega) hU (fun n => absurd n L) (fun _ => br_t rfl fun z ez => ?_)), fun post hp => br_f (qd_ng (by omega)) (yi_w _ h k s b hk R1 (by omega) h01 (fun n => absurd (hL.mp n) L) (fun _ => br_t rfl fun z ez => ?_))⟩
      · rw [nI_1] at ez
        subst ez
        exact hX post hp
      · rw [nI_1] at ez
        subst ez
        exact hY post hp
theorem le_l {h k : Nat} {a b : Nat → Int32} (x : Int32) (R : qd_R h a b) (hk : k < h) : ∀ d s c : Nat, s + d = 256 → ∃ r : Int32, (∀ post : Int32 → Prop, post r → wX_leastSet_26 post x (nI (256 * (h - 1 - k))) (nI h) a (d + 1) (nI c) (nI s)) ∧ (∀ post : Int32 → Prop, post r → wY_leastSet_15 post (nI k) x (nI h) b (d + 1) (nI c) (nI s)) := by
  obtain ⟨R1, R2, R3, R4⟩ := R
  have h01 : ∀ j, j < 2560 → qd_01 (b j) := fun j hj => by rw [R2 j hj]; exact R3 j
  have hU := R4 (h - 1 - k) (by omega)
  intro d
  induction d with
  | zero =>
    intro s c hs
    exact ⟨-1, fun _ hp => br_t (qd_ge (by omega)) hp, fun _ hp => br_t (qd_ge (by omega)) hp⟩
  | succ d ih =>
    intro s c hs
    have hL : qd_L b (256 * (h - 1 - k)) s ↔ qd_L a (256 * (h - 1 - k)) s := qd_Lc (fun t ht => R2 _ (by omega)) (by omega)
    by_cases L : qd_L a (256 * (h - 1 - k)) s
    · by_cases e : nI c = x
      · exact ⟨nI s, fun post hp => br_f (qd_ng (by omega)) (xi_w _ _ s (nI h) a (by omega) (by omega) hU (fun _ => br_f qd_10 (br_t e hp)) (fun n => absurd L n)), fun post hp => br_f (qd_ng (by omega)) (yi_w _ h k s b hk R1 (by omega) h01 (fun _ => br_f qd_10 (br_t e hp)) (fun n => absurd (hL.mpr L) n))⟩
      · obtain ⟨r, hX, hY⟩ := ih (s + 1) (c + 1) (by omega)
        refine ⟨r, fun post hp => br_f (qd_ng (by omega)) (xi_w _ _ s (nI h) a (by omega) (by omega) hU (fun _ => br_f qd_10 (br_f e fun y ey z ez => ?_)) (fun n => absurd L n)), fun post hp => br_f (qd_ng (by omega)) (yi_w _ h k s b hk R1 (by omega) h01 (fun _ => br_f qd_10 (br_f e fun y ey z ez => ?_)) (fun n => absurd (hL.mpr L) n))⟩
        · rw [nI_1] at ey ez
          subst ey ez
          exact hX post hp
        · rw [nI_1] at ey ez
          subst ey ez
          exact hY post hp
    · obtain ⟨r, hX, hY⟩ := ih (s + 1) c (by omega)
      refine ⟨r, fun post hp => br_f (qd_ng (by omega)) (xi_w _ _ s (nI h) a (by omega) (by omega) hU (fun n => absurd n L) (fun _ => br_t rfl fun z ez => ?_)), fun post hp => br_f (qd_ng (by omega)) (yi_w _ h k s b hk R1 (by omega) h01 (fun n => absurd (hL.mp n) L) (fun _ => br_t rfl fun z ez => ?_))⟩
      · rw [nI_1] at ez
        subst ez
        exact hX post hp
      · rw [nI_1] at ez
        subst ez
        exact hY post hp
/-- a negative index is met by no count -/
theorem le_n {h k : Nat} {b : Nat → Int32} (x : Int32) (hx : x < 0) (hk : k < h) (hh : h ≤ 10) (h01 : ∀ j, j < 2560 → qd_01 (b j)) (post : Int32 → Prop) (hp : post (-1)) : ∀ d s c : Nat, s + d = 256 → c ≤ s → wY_leastSet_15 post (nI k) x (nI h) b (d + 1) (nI c) (nI s) := by
  intro d
  induction d with
  | zero =>
    intro s c hs hc
    exact br_t (qd_ge (by omega)) hp
  | succ d ih =>
    intro s c hs hc
    have e : ¬ nI c = x := by
      intro e
      rw [← e] at hx
      exact nI_pos (by omega) hx
    refine br_f (qd_ng (by omega)) (yi_w _ h k s b hk hh (by omega) h01 (fun _ => br_f qd_10 (br_f e fun y ey z ez => ?_)) (fun _ => br_t rfl fun z ez => ?_))
    · rw [nI_1] at ey ez
      subst ey ez
      exact ih (s + 1) (c + 1) (by omega) (by omega)
    · rw [nI_1] at ez
      subst ez
      exact ih (s + 1) c (by omega) (by omega)
/-! meet -/
theorem me_l {h k l : Nat} {a b : Nat → Int32} (R : qd_R h a b) (hk : k < h) (hl : l < h) : ∀ d s : Nat, s + d = 256 → ∃ r : Int32, (∀ post : Int32 → Prop, post r → wX_meet_34 post (nI (256 * (h - 1 - k))) (nI (256 * (h - 1 - l))) (nI h) a (d + 1) (nI s)) ∧ (∀ post : Int32 → Prop, post r → wY_meet_20 post (nI k) (nI l) (nI h) b (d + 1) (nI s)) := by
  obtain ⟨R1, R2, R3, R4⟩ := R
  have h01 : ∀ j, j < 2560 → qd_01 (b j) := fun j hj => by rw [R2 j hj]; exact R3 j
  have hU : qd_UC b (256 * (h - 1 - l)) := qd_UCc (R4 (h - 1 - l) (by omega)) fun s hs => R2 _ (by omega)
  intro d
  induction d with
  | zero =>
    intro s hs
    exact ⟨1, fun _ hp => br_t (qd_ge (by omega)) hp, fun _ hp => br_t (qd_ge (by omega)) hp⟩
  | succ d ih =>
    intro s hs
    have e1 : nI (256 * (h - 1 - k)) + nI s = nI (256 * (h - 1 - k) + s) := qd_ad
    have e2 : (nI (256 * (h - 1 - l)) + 255) - nI s = nI (256 * (h - 1 - l) + (255 - s)) := by
      rw [show nI (256 * (h - 1 - l)) + 255 = nI (256 * (h - 1 - l) + 255) from nI_add _ 255, pk_sub (by omega), Nat.add_sub_assoc (by omega)]
    have b1 : b (256 * (h - 1 - k) + s) = a (256 * (h - 1 - k) + s) := R2 _ (by omega)
    have b2 : b (256 * (h - 1 - l) + (255 - s)) = a (256 * (h - 1 - l) + (255 - s)) := R2 _ (by omega)
    have i1 := pk_in (256 * (h - 1 - k) + s) 2560 (by omega) e1
    have i2 := pk_in (256 * (h - 1 - l) + (255 - s)) 2560 (by omega) e2
    have c1 := pk_cl _ e1 (by omega)
    have c2 := pk_cl _ e2 (by omega)
    have yb : ∀ q : Int32 → Prop, q (a (256 * (h - 1 - k) + s)) → wpY_belongs q (nI h, b) (nI k) (nI s) := by
      intro q hq
      refine yb_w q h k s (nI s) b hk R1 (by omega) (qd_m255 s (by omega)) h01 ?_
      rw [b1]
      exact hq
    have yh : ∀ q : Int32 → Prop, q (qd_nt (a (256 * (h - 1 - l) + (255 - s)))) → wpY_hits q (nI h, b) ((nI h - 1) - nI l) (nI s) := by
      intro q hq
      rw [qd_hk hl]
      refine yh_w q (h - 1 - l) s (nI h) b (by omega) (by omega) hU ?_
      rw [b2]
      exact hq
    by_cases z1 : a (256 * (h - 1 - k) + s) = 0
    · obtain ⟨r, hX, hY⟩ := ih (s + 1) (by omega)
      refine ⟨r, fun post hp => br_f (qd_ng (by omega)) ⟨i1, ?_⟩, fun post hp => br_f (qd_ng (by omega)) (yb _ (br_t z1 fun y ey => ?_))⟩
      · rw [c1]
        refine br_t z1 fun y ey => ?_
        rw [nI_1] at ey
        subst ey
        exact hX post hp
      · rw [nI_1] at ey
        subst ey
        exact hY post hp
    · by_cases z2 : a (256 * (h - 1 - l) + (255 - s)) = 0
      · have n2 : qd_nt (a (256 * (h - 1 - l) + (255 - s))) = 1 := if_pos z2
        rw [n2] at yh
        obtain ⟨r, hX, hY⟩ := ih (s + 1) (by omega)
        refine ⟨r, fun post hp => br_f (qd_ng (by omega)) ⟨i1, ?_⟩, fun post hp => br_f (qd_ng (by omega)) (yb _ (br_f z1 (yh _ (br_f qd_10 fun y ey => ?_))))⟩
        · rw [c1]
          refine br_f z1 ⟨i2, ?_⟩
          rw [c2]
          refine br_t z2 fun y ey => ?_
          rw [nI_1] at ey
          subst ey
          exact hX post hp
        · rw [nI_1] at ey
          subst ey
          exact hY post hp
      · have n2 : qd_nt (a (256 * (h - 1 - l) + (255 - s))) = 0 := if_neg z2
        rw [n2] at yh
        refine ⟨0, fun post hp => br_f (qd_ng (by omega)) ⟨i1, ?_⟩, fun post hp => br_f (qd_ng (by omega)) (yb _ (br_f z1 (yh _ (br_t rfl hp))))⟩
        rw [c1]
        refine br_f z1 ⟨i2, ?_⟩
        rw [c2]
        exact br_f z2 hp
/-! withstand -/
theorem wi_l {h k : Nat} {a b : Nat → Int32} (R : qd_R h a b) (hk : k < h) : ∀ (d s : Nat) (c : Int32), s + d = 256 → ∃ r : Int32, (∀ post : Int32 → Prop, post r → wX_withstand_22 post (nI (256 * (h - 1 - k))) (nI h) a (d + 1) c (nI s)) ∧ (∀ post : Int32 → Prop, post r → wY_withstand_15 post (nI k) (nI h) b (d + 1) c (nI s)) := by
  obtain ⟨R1, R2, R3, R4⟩ := R
  have h01 : ∀ j, j < 2560 → qd_01 (b j) := fun j hj => by rw [R2 j hj]; exact R3 j
  intro d
  induction d with
  | zero =>
    intro s c hs
    exact ⟨c, fun _ hp => br_t (qd_ge (by omega)) hp, fun _ hp => br_t (qd_ge (by omega)) hp⟩
  | succ d ih =>
    intro s c hs
    have e2 : (nI (256 * (h - 1 - k)) + 255) - nI s = nI (256 * (h - 1 - k) + (255 - s)) := by
      rw [show nI (256 * (h - 1 - k)) + 255 = nI (256 * (h - 1 - k) + 255) from nI_add _ 255, pk_sub (by omega), Nat.add_sub_assoc (by omega)]
    have b2 : b (256 * (h - 1 - k) + (255 - s)) = a (256 * (h - 1 - k) + (255 - s)) := R2 _ (by omega)
    have i2 := pk_in (256 * (h - 1 - k) + (255 - s)) 2560 (by omega) e2
    have c2 := pk_cl _ e2 (by omega)
    have yb : ∀ q : Int32 → Prop, q (a (256 * (h - 1 - k) + (255 - s))) → wpY_belongs q (nI h, b) (nI k) (255 &&& (nI s ^^^ (-1))) := by
      intro q hq
      refine yb_w q h k (255 - s) _ b hk R1 (by omega) (qd_inv s (by omega)) h01 ?_
      rw [b2]
      exact hq
    by_cases z : a (256 * (h - 1 - k) + (255 - s)) = 0
    · by_cases w : c ≤ nI (qd_pc (nI s))
      · obtain ⟨r, hX, hY⟩ := ih (s + 1) c (by omega)
        refine ⟨r, fun post hp => br_f (qd_ng (by omega)) (xm_w _ _ ⟨i2, ?_⟩), fun post hp => br_f (qd_ng (by omega)) (ym_w _ _ (yb _ (br_t z (br_t w fun y ey => ?_))))⟩
        · rw [c2]
          refine br_t z (br_t w fun y ey => ?_)
          rw [nI_1] at ey
          subst ey
          exact hX post hp
        · rw [nI_1] at ey
          subst ey
          exact hY post hp
      · obtain ⟨r, hX, hY⟩ := ih (s + 1) (nI (qd_pc (nI s))) (by omega)
        refine ⟨r, fun post hp => br_f (qd_ng (by omega)) (xm_w _ _ ⟨i2, ?_⟩), fun post hp => br_f (qd_ng (by omega)) (ym_w _ _ (yb _ (br_t z (br_f w fun y ey => ?_))))⟩
        · rw [c2]
          refine br_t z (br_f w fun y ey => ?_)
          rw [nI_1] at ey
          subst ey
          exact hX post hp
        · rw [nI_1] at ey
          subst ey
          exact hY post hp
    · obtain ⟨r, hX, hY⟩ := ih (s + 1) c (by omega)
      refine ⟨r, fun post hp => br_f (qd_ng (by omega)) (xm_w _ _ ⟨i2, ?_⟩), fun post hp => br_f (qd_ng (by omega)) (ym_w _ _ (yb _ (br_f z fun y ey => ?_)))⟩
      · rw [c2]
        refine br_f z fun y ey => ?_
        rw [nI_1] at ey
        subst ey
        exact hX post hp
      · rw [nI_1] at ey
        subst ey
        exact hY post hp
end
section
/-! what is owed -/
def i_Rel (k : Nat) (u : SX) (v : SY) : Prop := ∃ (h : Nat) (a b : Nat → Int32), u = (nI h, a) ∧ v = (nI h, b) ∧ qd_R h a b
theorem i_up {k : Nat} {u : SX} {v : SY} (h : i_Rel k u v) : i_Rel (k + 3) u v := h
theorem i_vc0 : wpX_init (fun u => wpY_init (fun v => i_Rel 0 u v)) := ⟨0, fun _ => 0, fun _ => 0, rfl, rfl, by omega, fun _ _ => rfl, fun _ => Or.inl rfl, fun i hi => absurd hi (by omega)⟩
theorem i_vc_atLeast {k : Nat} {u : SX} {v : SY} (I : i_Rel k u v) (hk : k + 3 ≤ 1536) (v1 : Int32) (v2 : Int32) : wpX_atLeast (fun r u' => wpY_atLeast (fun r' v' => r' = r ∧ i_Rel (k + 3) u' v') v v1 v2) u v1 v2 := by
  obtain ⟨h, a, b, rfl, rfl, R⟩ := I
  have R1 := R.1
  by_cases c0 : v1 < 0
  · exact br_t c0 (br_t c0 ⟨rfl, h, a, b, rfl, rfl, R⟩)
  by_cases c8 : 8 < v1
  · exact br_f c0 (br_t c8 (br_f c0 (br_t c8 ⟨rfl, h, a, b, rfl, rfl, R⟩)))
  obtain ⟨c, hc, rfl⟩ := nI_of2 (M := 8) (n := 8) (by decide) c0 (Int32.not_lt.mp c8)
  by_cases hh : h < 10
  · refine xa_w _ c v2 h a hc hh (ya_w _ c v2 h b hc hh ⟨rfl, h + 1, _, _, rfl, rfl, ?_⟩)
    exact qd_put R (by omega) (fun i' _ _ => by omega) (fun s _ => qd_fa01 c v2 s) (fun s t _ _ e n => qd_faU c v2 s t e n) (fun _ _ => rfl)
  · have e : h = 10 := by omega
    subst e
    exact br_f c0 (br_f c8 (br_f (by decide) (br_f c0 (br_f c8 (br_t rfl ⟨rfl, 10, a, b, rfl, rfl, R⟩)))))
theorem i_vc_join {k : Nat} {u : SX} {v : SY} (I : i_Rel k u v) (hk : k + 3 ≤ 1536) (v1 : Int32) : wpX_join (fun r u' => wpY_join (fun r' v' => r' = r ∧ i_Rel (k + 3) u' v') v (lw_bz v1)) u (lw_bz v1) := by
  obtain ⟨h, a, b, rfl, rfl, R⟩ := I
  generalize lw_bz v1 = z
  have R1 := R.1
  by_cases h2 : 2 ≤ h
  · refine xj_w _ z h a h2 R1 (yj_w _ z h b h2 R1 ⟨rfl, h - 1, _, _, rfl, rfl, ?_⟩)
    refine qd_put R (by omega) (fun i' _ _ => by omega) (fun s _ => qd_j01 _ _ _) (fun s t hs ht e n => qd_fjU (R.2.2.2 _ (by omega)) (R.2.2.2 _ (by omega)) s t hs ht e n) (fun j hj => ?_)
    by_cases w : 256 * (h - 2) ≤ j ∧ j < 256 * (h - 2) + 256
    · obtain ⟨s, rfl⟩ : ∃ s, j = 256 * (h - 2) + s := ⟨j - 256 * (h - 2), by omega⟩
      rw [qd_win (by omega), qd_win (by omega)]
      unfold qd_fj
      rw [R.2.1 _ (by omega), R.2.1 _ (by omega)]
    · rw [qd_wout w, qd_wout w]
  · have n : ¬ 2 ≤ nI h := nI_ge (b := 2) (by omega) (by decide)
    exact br_f n (br_f n ⟨rfl, h, a, b, rfl, rfl, R⟩)
theorem i_vc_dual {k : Nat} {u : SX} {v : SY} (I : i_Rel k u v) (hk : k + 3 ≤ 1536) : wpX_dual (fun r u' => wpY_dual (fun r' v' => r' = r ∧ i_Rel (k + 3) u' v') v) u := by
  obtain ⟨h, a, b, rfl, rfl, R⟩ := I
  have R1 := R.1
  by_cases h0 : 0 < h
  · have hU := R.2.2.2 (h - 1) (by omega)
    refine xd_w _ h a h0 R1 (yd_w _ h b h0 R1 (qd_UCc hU fun s hs => R.2.1 _ (by omega)) ⟨rfl, h, _, _, rfl, rfl, ?_⟩)
    refine qd_put R R1 (fun i' hi _ => hi) (fun s _ => qd_nt01 _) (fun s t hs ht e n => qd_fdU hU s t hs ht e n) (fun j hj => ?_)
    by_cases w : 256 * (h - 1) ≤ j ∧ j < 256 * (h - 1) + 256
    · obtain ⟨s, rfl⟩ : ∃ s, j = 256 * (h - 1) + s := ⟨j - 256 * (h - 1), by omega⟩
      rw [qd_win (by omega), qd_win (by omega)]
      unfold qd_fd
      rw [R.2.1 _ (by omega)]
    · rw [qd_wout w, qd_wout w, qd_wout (by omega)]
  · have e : h = 0 := by omega
    subst e
    exact br_f (by decide) (br_t rfl ⟨rfl, 0, a, b, rfl, rfl, R⟩)
theorem i_vc_given {k : Nat} {u : SX} {v : SY} (I : i_Rel k u v) (hk : k + 3 ≤ 1536) (v1 : Int32) : wpX_given (fun r u' => wpY_given (fun r' v' => r' = r ∧ i_Rel (k + 3) u' v') v v1) u v1 := by
  obtain ⟨h, a, b, rfl, rfl, R⟩ := I
  have R1 := R.1
  have h01 : ∀ j, j < 2560 → qd_01 (b j) := fun j hj => by rw [R.2.1 j hj]; exact R.2.2.1 j
  obtain ⟨m, hm, em⟩ := pk_andE v1 (m := 255) 8 (by decide)
  by_cases h0 : 0 < h
  · have hU := R.2.2.2 (h - 1) (by omega)
    refine xg_w _ h m v1 a h0 R1 hm em (fun j _ => R.2.2.1 j) (yg_w _ h m v1 b h0 R1 hm em h01 ⟨rfl, h, _, _, rfl, rfl, ?_⟩)
    refine qd_put R R1 (fun i' hi _ => hi) (fun s _ => R.2.2.1 _) (fun s t hs ht e n => qd_fgU hm hU s t hs ht e n) (fun j hj => ?_)
    by_cases w : 256 * (h - 1) ≤ j ∧ j < 256 * (h - 1) + 256
    · obtain ⟨s, rfl⟩ : ∃ s, j = 256 * (h - 1) + s := ⟨j - 256 * (h - 1), by omega⟩
      rw [qd_win (by omega), qd_win (by omega)]
      unfold qd_fg
      have := qd_orlt (s := s) (by omega) hm
      rw [R.2.1 _ (by omega)]
    · rw [qd_wout w, qd_wout w, qd_wout (by omega)]
  · have e : h = 0 := by omega
    subst e
    exact br_f (by decide) (br_t rfl ⟨rfl, 0, a, b, rfl, rfl, R⟩)
theorem i_vc_copy {k : Nat} {u : SX} {v : SY} (I : i_Rel k u v) (hk : k + 3 ≤ 1536) (v1 : Int32) : wpX_copy (fun r u' => wpY_copy (fun r' v' => r' = r ∧ i_Rel (k + 3) u' v') v v1) u v1 := by
  obtain ⟨h, a, b, rfl, rfl, R⟩ := I
  have R1 := R.1
  have h01 : ∀ j, j < 2560 → qd_01 (b j) := fun j hj => by rw [R.2.1 j hj]; exact R.2.2.1 j
  rcases pk_ix v1 (n := h) (by omega) with n | n | ⟨k', hk', rfl⟩
  · unfold wpX_copy
    refine xf_0 _ h v1 a (Or.inl n) (br_t rfl ?_)
    unfold wpY_copy
    exact yf_1 _ h v1 b (Or.inl n) (br_f qd_10 ⟨rfl, h, a, b, rfl, rfl, R⟩)
  · unfold wpX_copy
    refine xf_0 _ h v1 a (Or.inr n) (br_t rfl ?_)
    unfold wpY_copy
    exact yf_1 _ h v1 b (Or.inr n) (br_f qd_10 ⟨rfl, h, a, b, rfl, rfl, R⟩)
  · by_cases hh : h < 10
    · refine xc_w _ h k' a hk' hh (fun j _ => R.2.2.1 j) (yc_w _ h k' b hk' hh h01 ⟨rfl, h + 1, _, _, rfl, rfl, ?_⟩)
      refine qd_put R (by omega) (fun i' _ _ => by omega) (fun s _ => R.2.2.1 _) (R.2.2.2 (h - 1 - k') (by omega)) (fun j hj => ?_)
      by_cases w : 256 * h ≤ j ∧ j < 256 * h + 256
      · obtain ⟨s, rfl⟩ : ∃ s, j = 256 * h + s := ⟨j - 256 * h, by omega⟩
        rw [qd_win (by omega), qd_win (by omega)]
        exact R.2.1 _ (by omega)
      · rw [qd_wout w, qd_wout w]
    · have e : h = 10 := by omega
      subst e
      unfold wpX_copy
      refine xf_1 _ 10 k' a hk' R1 (br_f qd_10 (br_f (by decide) ?_))
      unfold wpY_copy
      exact yf_0 _ 10 k' b hk' R1 (br_t rfl (br_t rfl ⟨rfl, 10, a, b, rfl, rfl, R⟩))
theorem i_vc_drop {k : Nat} {u : SX} {v : SY} (I : i_Rel k u v) (hk : k + 3 ≤ 1536) : wpX_drop (fun r u' => wpY_drop (fun r' v' => r' = r ∧ i_Rel (k + 3) u' v') v) u := by
  obtain ⟨h, a, b, rfl, rfl, R⟩ := I
  obtain ⟨R1, R2, R3, R4⟩ := R
  by_cases h0 : 0 < h
  · refine br_t (nI_le (a := 1) h0 (by omega)) fun y ey => ?_
    rw [qd_h1 h0] at ey
    subst ey
    refine br_f (qd_n0 h0 R1) fun y ey => ?_
    rw [qd_h1 h0] at ey
    subst ey
    exact ⟨rfl, h - 1, a, b, rfl, rfl, by omega, R2, R3, fun i hi => R4 i (by omega)⟩
  · have e : h = 0 := by omega
    subst e
    exact br_f (by decide) (br_t rfl ⟨rfl, 0, a, b, rfl, rfl, R1, R2, R3, R4⟩)
theorem i_vc_enough {k : Nat} {u : SX} {v : SY} (I : i_Rel k u v) (hk : k + 3 ≤ 1536) (v1 : Int32) (v2 : Int32) : wpX_enough (fun r => wpY_enough (fun r' => r' = r ∧ i_Rel (k + 3) u v) v v1 v2) u v1 v2 := by
  obtain ⟨h, a, b, rfl, rfl, R⟩ := I
  have R1 := R.1
  have h01 : ∀ j, j < 2560 → qd_01 (b j) := fun j hj => by rw [R.2.1 j hj]; exact R.2.2.1 j
  rcases pk_ix v1 (n := h) (by omega) with n | n | ⟨k', hk', rfl⟩
  · unfold wpX_enough
    refine xf_0 _ h v1 a (Or.inl n) (br_t rfl ?_)
    unfold wpY_enough
    exact yf_1 _ h v1 b (Or.inl n) (br_f qd_10 ⟨rfl, h, a, b, rfl, rfl, R⟩)
  · unfold wpX_enough
    refine xf_0 _ h v1 a (Or.inr n) (br_t rfl ?_)
    unfold wpY_enough
    exact yf_1 _ h v1 b (Or.inr n) (br_f qd_10 ⟨rfl, h, a, b, rfl, rfl, R⟩)
  · obtain ⟨m, hm, em⟩ := pk_andE v2 (m := 255) 8 (by decide)
    have hm : m < 256 := hm
    unfold wpX_enough
    refine xf_1 _ h k' a hk' R1 (br_f qd_10 ?_)
    have e : ((nI h - 1) - nI k') * 256 + (v2 &&& 255) = nI (256 * (h - 1 - k') + m) := by rw [qd_row hk', em, nI_add]
    refine ⟨pk_in _ 2560 (by omega) e, ?_⟩
    rw [pk_cl _ e (by omega)]
    have y : ∀ q : Int32 → Prop, q (if a (256 * (h - 1 - k') + m) = 0 then 0 else 1) → wpY_enough q (nI h, b) (nI k') v2 := by
      intro q hq
      unfold wpY_enough
      refine yf_0 _ h k' b hk' R1 (br_t rfl (yb_w _ h k' m v2 b hk' R1 hm em h01 ?_))
      rw [R.2.1 _ (by omega)]
      by_cases z : a (256 * (h - 1 - k') + m) = 0
      · rw [if_pos z] at hq
        exact br_t z hq
      · rw [if_neg z] at hq
        exact br_f z hq
    by_cases z : a (256 * (h - 1 - k') + m) = 0
    · rw [if_pos z] at y
      exact br_t z (y _ ⟨rfl, h, a, b, rfl, rfl, R⟩)
    · rw [if_neg z] at y
      exact br_f z (y _ ⟨rfl, h, a, b, rfl, rfl, R⟩)
theorem i_vc_leastSets {k : Nat} {u : SX} {v : SY} (I : i_Rel k u v) (hk : k + 3 ≤ 1536) (v1 : Int32) : wpX_leastSets (fun r => wpY_leastSets (fun r' => r' = r ∧ i_Rel (k + 3) u v) v v1) u v1 := by
  obtain ⟨h, a, b, rfl, rfl, R⟩ := I
  have R1 := R.1
  have h01 : ∀ j, j < 2560 → qd_01 (b j) := fun j hj => by rw [R.2.1 j hj]; exact R.2.2.1 j
  rcases pk_ix v1 (n := h) (by omega) with n | n | ⟨k', hk', rfl⟩
  · unfold wpX_leastSets
    refine xf_0 _ h v1 a (Or.inl n) (br_t rfl ?_)
    unfold wpY_leastSets
    exact yf_1 _ h v1 b (Or.inl n) (br_f qd_10 ⟨rfl, h, a, b, rfl, rfl, R⟩)
  · unfold wpX_leastSets
    refine xf_0 _ h v1 a (Or.inr n) (br_t rfl ?_)
    unfold wpY_leastSets
    exact yf_1 _ h v1 b (Or.inr n) (br_f qd_10 ⟨rfl, h, a, b, rfl, rfl, R⟩)
  · obtain ⟨r, hX, hY⟩ := ls_l R hk' 256 0 0 rfl
    unfold wpX_leastSets
    refine xf_1 _ h k' a hk' R1 (br_f qd_10 ?_)
    show ∃ n : Nat, wX_leastSets_21 _ (((nI h - 1) - nI k') * 256) (nI h) a n 0 0
    rw [qd_row hk']
    refine ⟨257, hX _ ?_⟩
    unfold wpY_leastSets
    exact yf_0 _ h k' b hk' R1 (br_t rfl ⟨257, hY _ ⟨rfl, h, a, b, rfl, rfl, R⟩⟩)
theorem i_vc_leastSet {k : Nat} {u : SX} {v : SY} (I : i_Rel k u v) (hk : k + 3 ≤ 1536) (v1 : Int32) (v2 : Int32) : wpX_leastSet (fun r => wpY_leastSet (fun r' => r' = r ∧ i_Rel (k + 3) u v) v v1 v2) u v1 v2 := by
  obtain ⟨h, a, b, rfl, rfl, R⟩ := I
  have R1 := R.1
  have h01 : ∀ j, j < 2560 → qd_01 (b j) := fun j hj => by rw [R.2.1 j hj]; exact R.2.2.1 j
  rcases pk_ix v1 (n := h) (by omega) with n | n | ⟨k', hk', rfl⟩
  · unfold wpX_leastSet
    refine xf_0 _ h v1 a (Or.inl n) (br_t rfl ?_)
    unfold wpY_leastSet
    exact yf_1 _ h v1 b (Or.inl n) (br_f qd_10 ⟨rfl, h, a, b, rfl, rfl, R⟩)
  · unfold wpX_leastSet
    refine xf_0 _ h v1 a (Or.inr n) (br_t rfl ?_)
    unfold wpY_leastSet
    exact yf_1 _ h v1 b (Or.inr n) (br_f qd_10 ⟨rfl, h, a, b, rfl, rfl, R⟩)
  · by_cases i0 : 0 ≤ v2
    · obtain ⟨r, hX, hY⟩ := le_l v2 R hk' 256 0 0 rfl
      unfold wpX_leastSet
      refine xf_1 _ h k' a hk' R1 (br_f qd_10 (br_t i0 ?_))
      show ∃ n : Nat, wX_leastSet_26 _ v2 (((nI h - 1) - nI k') * 256) (nI h) a n 0 0
      rw [qd_row hk']
      refine ⟨257, hX _ ?_⟩
      unfold wpY_leastSet
      exact yf_0 _ h k' b hk' R1 (br_t rfl ⟨257, hY _ ⟨rfl, h, a, b, rfl, rfl, R⟩⟩)
    · unfold wpX_leastSet
      refine xf_1 _ h k' a hk' R1 (br_f qd_10 (br_f i0 ?_))
      unfold wpY_leastSet
      exact yf_0 _ h k' b hk' R1 (br_t rfl ⟨257, le_n v2 (Int32.not_le.mp i0) hk' R1 h01 _ ⟨rfl, h, a, b, rfl, rfl, R⟩ 256 0 0 rfl (Nat.le_refl 0)⟩)
theorem i_vc_meet {k : Nat} {u : SX} {v : SY} (I : i_Rel k u v) (hk : k + 3 ≤ 1536) (v1 : Int32) (v2 : Int32) : wpX_meet (fun r => wpY_meet (fun r' => r' = r ∧ i_Rel (k + 3) u v) v v1 v2) u v1 v2 := by
  obtain ⟨h, a, b, rfl, rfl, R⟩ := I
  have R1 := R.1
  have h01 : ∀ j, j < 2560 → qd_01 (b j) := fun j hj => by rw [R.2.1 j hj]; exact R.2.2.1 j
  rcases pk_ix v1 (n := h) (by omega) with n | n | ⟨k', hk', rfl⟩
  · unfold wpX_meet
    refine xf_0 _ h v1 a (Or.inl n) (br_t rfl ?_)
    unfold wpY_meet
    exact yf_1 _ h v1 b (Or.inl n) (br_f qd_10 ⟨rfl, h, a, b, rfl, rfl, R⟩)
  · unfold wpX_meet
    refine xf_0 _ h v1 a (Or.inr n) (br_t rfl ?_)
    unfold wpY_meet
    exact yf_1 _ h v1 b (Or.inr n) (br_f qd_10 ⟨rfl, h, a, b, rfl, rfl, R⟩)
  · rcases pk_ix v2 (n := h) (by omega) with n | n | ⟨l', hl', rfl⟩
    · unfold wpX_meet
      refine xf_1 _ h k' a hk' R1 (br_f qd_10 (xf_0 _ h v2 a (Or.inl n) (br_t rfl ?_)))
      unfold wpY_meet
      exact yf_0 _ h k' b hk' R1 (br_t rfl (yf_1 _ h v2 b (Or.inl n) (br_f qd_10 ⟨rfl, h, a, b, rfl, rfl, R⟩)))
    · unfold wpX_meet
      refine xf_1 _ h k' a hk' R1 (br_f qd_10 (xf_0 _ h v2 a (Or.inr n) (br_t rfl ?_)))
      unfold wpY_meet
      exact yf_0 _ h k' b hk' R1 (br_t rfl (yf_1 _ h v2 b (Or.inr n) (br_f qd_10 ⟨rfl, h, a, b, rfl, rfl, R⟩)))
    · obtain ⟨r, hX, hY⟩ := me_l R hk' hl' 256 0 rfl
      unfold wpX_meet
      refine xf_1 _ h k' a hk' R1 (br_f qd_10 (xf_1 _ h l' a hl' R1 (br_f qd_10 ?_)))
      show ∃ n : Nat, wX_meet_34 _ (((nI h - 1) - nI k') * 256) (((nI h - 1) - nI l') * 256) (nI h) a n 0
      rw [qd_row hk', qd_row hl']
      refine ⟨257, hX _ ?_⟩
      unfold wpY_meet
      exact yf_0 _ h k' b hk' R1 (br_t rfl (yf_0 _ h l' b hl' R1 (br_t rfl ⟨257, hY _ ⟨rfl, h, a, b, rfl, rfl, R⟩⟩)))
theorem i_vc_withstand {k : Nat} {u : SX} {v : SY} (I : i_Rel k u v) (hk : k + 3 ≤ 1536) (v1 : Int32) : wpX_withstand (fun r => wpY_withstand (fun r' => r' = r ∧ i_Rel (k + 3) u v) v v1) u v1 := by
  obtain ⟨h, a, b, rfl, rfl, R⟩ := I
  have R1 := R.1
  have h01 : ∀ j, j < 2560 → qd_01 (b j) := fun j hj => by rw [R.2.1 j hj]; exact R.2.2.1 j
  rcases pk_ix v1 (n := h) (by omega) with n | n | ⟨k', hk', rfl⟩
  · unfold wpX_withstand
    refine xf_0 _ h v1 a (Or.inl n) (br_t rfl ?_)
    unfold wpY_withstand
    exact yf_1 _ h v1 b (Or.inl n) (br_f qd_10 ⟨rfl, h, a, b, rfl, rfl, R⟩)
  · unfold wpX_withstand
    refine xf_0 _ h v1 a (Or.inr n) (br_t rfl ?_)
    unfold wpY_withstand
    exact yf_1 _ h v1 b (Or.inr n) (br_f qd_10 ⟨rfl, h, a, b, rfl, rfl, R⟩)
  · obtain ⟨r, hX, hY⟩ := wi_l R hk' 256 0 9 rfl
    unfold wpX_withstand
    refine xf_1 _ h k' a hk' R1 (br_f qd_10 ?_)
    show ∃ n : Nat, wX_withstand_22 _ (((nI h - 1) - nI k') * 256) (nI h) a n 9 0
    rw [qd_row hk']
    refine ⟨257, hX _ ?_⟩
    unfold wpY_withstand
    exact yf_0 _ h k' b hk' R1 (br_t rfl ⟨257, hY _ ⟨rfl, h, a, b, rfl, rfl, R⟩⟩)
end
