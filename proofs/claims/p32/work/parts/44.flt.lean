/-! floats: whole numbers times powers of two are exact -/
theorem fl_ne {m j : Nat} (hm : m ≠ 0) : m * 2 ^ j ≠ 0 := Nat.mul_ne_zero hm (Nat.ne_of_gt (Nat.two_pow_pos j))
theorem fl_log2 {c n j : Nat} (h1 : 2 ^ n ≤ c) (h2 : c < 2 ^ (n + 1)) : (c * 2 ^ j).log2 = n + j := by
  have h0 : c ≠ 0 := Nat.ne_of_gt (Nat.lt_of_lt_of_le (Nat.two_pow_pos n) h1)
  have a : n + j ≤ (c * 2 ^ j).log2 := (Nat.le_log2 (fl_ne h0)).mpr (by rw [Nat.pow_add]; exact Nat.mul_le_mul_right _ h1)
  have b : (c * 2 ^ j).log2 < n + j + 1 := (Nat.log2_lt (fl_ne h0)).mpr (by
    rw [show n + j + 1 = (n + 1) + j by omega, Nat.pow_add]
    exact Nat.mul_lt_mul_of_pos_right h2 (Nat.two_pow_pos j))
  omega
theorem fl_leading {n : Nat} (h : n ≠ 0) : FP.Core.leading n 1 = (n.log2 : Int) := by
  unfold FP.Core.leading
  have e1 : Nat.log2 1 = 0 := by decide
  dsimp only
  rw [e1]
  have e2 : ((n.log2 : Int) - ((0 : Nat) : Int)) = (n.log2 : Int) := by omega
  rw [e2, if_pos]
  rw [show ((n.log2 : Int)).toNat = n.log2 from rfl, show (-(n.log2 : Int)).toNat = 0 by omega, Nat.pow_zero, Nat.mul_one, Nat.one_mul]
  exact Nat.log2_self_le h
theorem fl_nearest (m j : Nat) : FP.Core.nearest (m * 2 ^ j) (2 ^ j) = m := by
  unfold FP.Core.nearest
  have h := Nat.two_pow_pos j
  rw [Nat.mul_mod_left, if_pos (by omega), Nat.mul_div_cancel _ h]
theorem fl_nearest1 (a : Nat) : FP.Core.nearest a 1 = a := by
  have h := fl_nearest a 0
  rw [Nat.pow_zero, Nat.mul_one] at h
  exact h
/-- m * 2^j * 2^e, where the last digit kept is the one of 2^(e+j) -/
theorem fl_round {f : FP.Core.Fmt} {s : Bool} {m j : Nat} {e : Int} (hm : m ≠ 0) (hm2 : m < 2 ^ f.p) (hq : max f.qmin (((m * 2 ^ j).log2 : Int) + e - ((f.p : Int) - 1)) = e + j) : FP.Core.roundRatio f s (m * 2 ^ j) 1 e = FP.Core.bound f s m (e + j) := by
  unfold FP.Core.roundRatio FP.Core.roundAt FP.Core.quantum
  rw [if_neg (fl_ne hm), fl_leading (fl_ne hm), hq]
  unfold FP.Core.unitsNum FP.Core.unitsDen
  rw [show (e - (e + (j : Int))).toNat = 0 by omega, show (e + (j : Int) - e).toNat = j by omega, Nat.pow_zero, Nat.mul_one, Nat.one_mul, fl_nearest]
  unfold FP.Core.settle
  rw [if_pos hm2]
theorem fl_t64 : FP.Core.Fmt.tails FP.Core.b64 = 4503599627370496 := by decide
theorem fl_e64 : FP.Core.Fmt.exps FP.Core.b64 = 2048 := by decide
theorem fl_n64 : FP.Core.Fmt.qmin FP.Core.b64 = -1074 := by decide
theorem fl_x64 : FP.Core.Fmt.qmax FP.Core.b64 = 971 := by decide
theorem fl_p64 : ((FP.Core.Fmt.p FP.Core.b64 : Nat) : Int) = 53 := rfl
theorem fl_t32 : FP.Core.Fmt.tails FP.Core.b32 = 8388608 := by decide
theorem fl_e32 : FP.Core.Fmt.exps FP.Core.b32 = 256 := by decide
theorem fl_n32 : FP.Core.Fmt.qmin FP.Core.b32 = -149 := by decide
theorem fl_x32 : FP.Core.Fmt.qmax FP.Core.b32 = 104 := by decide
theorem fl_p32 : ((FP.Core.Fmt.p FP.Core.b32 : Nat) : Int) = 24 := rfl
/-- the double of sign s, significand c, last digit 2^q -/
def fl_d (s : Bool) (c : Nat) (q : Int) : Nat := (s.toNat * 2048 + (q + 1075).toNat) * 4503599627370496 + (c - 4503599627370496)
theorem fl_dec {s : Bool} {c : Nat} {q : Int} (h1 : 4503599627370496 ≤ c) (h2 : c < 9007199254740992) (h3 : -1074 ≤ q) (h4 : q ≤ 971) : FP.Core.decode FP.Core.b64 (fl_d s c q) = .fin s c q := by
  unfold FP.Core.decode FP.Core.fieldE FP.Core.fieldT FP.Core.fieldS fl_d
  rw [fl_t64, fl_e64, fl_n64]
  obtain ⟨E, hE⟩ : ∃ E : Nat, E = (q + 1075).toNat := ⟨_, rfl⟩
  obtain ⟨T, hT⟩ : ∃ T : Nat, T = c - 4503599627370496 := ⟨_, rfl⟩
  rw [← hE, ← hT]
  have a1 : ∀ x : Nat, ((x * 2048 + E) * 4503599627370496 + T) / 4503599627370496 % 2048 = E := fun x => by omega
  have a2 : ∀ x : Nat, ((x * 2048 + E) * 4503599627370496 + T) % 4503599627370496 = T := fun x => by omega
  have a3 : ∀ x : Nat, x < 2 → ((x * 2048 + E) * 4503599627370496 + T) / 4503599627370496 / 2048 % 2 = x := fun x hx => by omega
  have a4 : s.toNat < 2 := by cases s <;> decide
  have a5 : (s.toNat == 1) = s := by cases s <;> rfl
  rw [a1, a2, a3 _ a4, a5, if_neg (by omega), if_neg (by omega)]
  rw [show 4503599627370496 + T = c by omega, show (-1074 : Int) + ((E : Int) - 1) = q by omega]
theorem fl_enc {s : Bool} {c : Nat} {q : Int} (h1 : 4503599627370496 ≤ c) (h3 : -1074 ≤ q) : FP.Core.encode FP.Core.b64 (.fin s c q) = fl_d s c q := by
  show (if c < FP.Core.Fmt.tails FP.Core.b64 then FP.Core.assemble FP.Core.b64 s 0 c else FP.Core.assemble FP.Core.b64 s ((q - FP.Core.Fmt.qmin FP.Core.b64).toNat + 1) (c - FP.Core.Fmt.tails FP.Core.b64)) = _
  unfold FP.Core.assemble fl_d
  rw [fl_t64, fl_e64, fl_n64, if_neg (by omega), show (q - -1074).toNat + 1 = (q + 1075).toNat by omega]
theorem fl_lt {s : Bool} {c : Nat} {q : Int} (h1 : 4503599627370496 ≤ c) (h2 : c < 9007199254740992) (h4 : q ≤ 971) : fl_d s c q < 18446744073709551616 := by
  unfold fl_d
  have a4 : s.toNat < 2 := by cases s <;> decide
  omega
theorem fl_ltf {c : Nat} {q : Int} (h1 : 4503599627370496 ≤ c) (h2 : c < 9007199254740992) (h4 : q ≤ 971) : fl_d false c q < 9218868437227405312 := by
  unfold fl_d
  show (0 * 2048 + (q + 1075).toNat) * 4503599627370496 + (c - 4503599627370496) < _
  omega
theorem fl_tn {s : Bool} {c : Nat} {q : Int} (h1 : 4503599627370496 ≤ c) (h2 : c < 9007199254740992) (h4 : q ≤ 971) : (UInt64.ofNat (fl_d s c q)).toNat = fl_d s c q := UInt64.toNat_ofNat_of_lt' (fl_lt h1 h2 h4)
/-- times 2^d -/
theorem fl_mul {c : Nat} {q : Int} (r : UInt64) (d : Int) (hr : FP.Core.decode FP.Core.b64 r.toNat = .fin false 4503599627370496 (d - 52)) (h1 : 4503599627370496 ≤ c) (h2 : c < 9007199254740992) (h3 : -1074 ≤ q) (h4 : q ≤ 971) (h5 : -1074 ≤ q + d) (h6 : q + d ≤ 971) : FP.dmul (UInt64.ofNat (fl_d false c q)) r = UInt64.ofNat (fl_d false c (q + d)) := by
  show UInt64.ofNat (FP.Core.encode FP.Core.b64 (FP.Core.round FP.Core.b64 (FP.Core.exactProduct (FP.Core.decode FP.Core.b64 (UInt64.ofNat (fl_d false c q)).toNat) (FP.Core.decode FP.Core.b64 r.toNat)))) = _
  rw [fl_tn h1 h2 h4, fl_dec h1 h2 h3 h4, hr]
  show UInt64.ofNat (FP.Core.encode FP.Core.b64 (FP.Core.roundRatio FP.Core.b64 false (c * 4503599627370496) 1 (q + (d - 52)))) = _
  have hl : (c * 2 ^ 52).log2 = 52 + 52 := fl_log2 h1 h2
  have e : FP.Core.roundRatio FP.Core.b64 false (c * 2 ^ 52) 1 (q + (d - 52)) = FP.Core.bound FP.Core.b64 false c (q + (d - 52) + ((52 : Nat) : Int)) := fl_round (by omega) h2 (by rw [hl, fl_n64, fl_p64]; omega)
  rw [show c * 4503599627370496 = c * 2 ^ 52 from rfl, e, show q + (d - 52) + ((52 : Nat) : Int) = q + d by omega]
  unfold FP.Core.bound
  rw [fl_x64, if_pos h6, fl_enc h1 h5]
theorem fl_c {m : Nat} (h0 : m ≠ 0) (h : m < 16777216) : m.log2 < 24 ∧ 4503599627370496 ≤ m * 2 ^ (52 - m.log2) ∧ m * 2 ^ (52 - m.log2) < 9007199254740992 ∧ (m * 2 ^ (52 - m.log2)).log2 = 52 := by
  have hl : m.log2 < 24 := (Nat.log2_lt h0).mpr h
  have a := Nat.log2_self_le h0
  have b := Nat.lt_log2_self (n := m)
  have e : 2 ^ m.log2 * 2 ^ (52 - m.log2) = 4503599627370496 := by
    have q : m.log2 + (52 - m.log2) = 52 := by omega
    have q2 : 2 ^ (m.log2 + (52 - m.log2)) = 2 ^ m.log2 * 2 ^ (52 - m.log2) := Nat.pow_add _ _ _
    rw [q] at q2
    exact q2.symm
  refine ⟨hl, ?_, ?_, ?_⟩
  · have q := Nat.mul_le_mul_right (2 ^ (52 - m.log2)) a
    rw [e] at q; exact q
  · have q := Nat.mul_lt_mul_of_pos_right b (Nat.two_pow_pos (52 - m.log2))
    rw [Nat.pow_succ, Nat.mul_right_comm, e] at q; exact q
  · rw [fl_log2 a b]; omega
theorem fl_i2d {m : Nat} (h0 : m ≠ 0) (h : m < 16777216) : FP.i2d (nI m) = UInt64.ofNat (fl_d false (m * 2 ^ (52 - m.log2)) ((m.log2 : Int) - 52)) := by
  obtain ⟨hl, c1, c2, c3⟩ := fl_c h0 h
  show UInt64.ofNat (FP.Core.encode FP.Core.b64 (FP.Core.round FP.Core.b64 (FP.Core.ofInt (nI m).toInt))) = _
  rw [nI_toInt (by omega)]
  have e : FP.Core.ofInt (m : Int) = .fin false m 0 := by
    have a : decide ((m : Int) < 0) = false := decide_eq_false (by omega)
    show FP.Core.Datum.fin (decide ((m : Int) < 0)) m 0 = .fin false m 0
    rw [a]
  rw [e]
  show UInt64.ofNat (FP.Core.encode FP.Core.b64 (FP.Core.roundRatio FP.Core.b64 false m 1 0)) = _
  have hq : FP.Core.quantum FP.Core.b64 m 1 0 = (m.log2 : Int) - 52 := by
    unfold FP.Core.quantum
    rw [fl_leading h0, fl_n64, fl_p64]; omega
  unfold FP.Core.roundRatio FP.Core.roundAt
  rw [if_neg h0, hq]
  unfold FP.Core.unitsNum FP.Core.unitsDen
  rw [show (0 - ((m.log2 : Int) - 52)).toNat = 52 - m.log2 by omega, show ((m.log2 : Int) - 52 - 0).toNat = 0 by omega, Nat.pow_zero, Nat.mul_one, fl_nearest1]
  unfold FP.Core.settle FP.Core.bound
  rw [if_pos (show m * 2 ^ (52 - m.log2) < 2 ^ FP.Core.b64.p from c2), fl_x64, if_pos (by omega), fl_enc c1 (by omega)]
/-- down to a float -/
theorem fl_d2f {s : Bool} {m : Nat} {e : Int} (h0 : m ≠ 0) (h : m < 16777216) (he : -149 ≤ e) (he2 : e ≤ 105) (hn : 8388608 ≤ m ∨ e = -149) : FP.d2f (UInt64.ofNat (fl_d s (m * 2 ^ (52 - m.log2)) (e - ((52 - m.log2 : Nat) : Int)))) = UInt32.ofNat (FP.Core.encode FP.Core.b32 (FP.Core.bound FP.Core.b32 s m e)) := by
  obtain ⟨hl, c1, c2, c3⟩ := fl_c h0 h
  have hd := fl_dec (s := s) (q := e - ((52 - m.log2 : Nat) : Int)) c1 c2 (by omega) (by omega)
  have ht := fl_tn (s := s) (q := e - ((52 - m.log2 : Nat) : Int)) c1 c2 (by omega)
  have hL : 8388608 ≤ m → 23 ≤ m.log2 := fun q => (Nat.le_log2 h0).mpr q
  have hr : FP.Core.roundRatio FP.Core.b32 s (m * 2 ^ (52 - m.log2)) 1 (e - ((52 - m.log2 : Nat) : Int)) = FP.Core.bound FP.Core.b32 s m (e - ((52 - m.log2 : Nat) : Int) + ((52 - m.log2 : Nat) : Int)) := fl_round h0 h (by
    rw [c3, fl_n32, fl_p32]
    rcases hn with q | q
    · have := hL q
      omega
    · omega)
  unfold FP.d2f
  rw [if_neg]
  · show UInt32.ofNat (FP.Core.encode FP.Core.b32 (FP.Core.round FP.Core.b32 (FP.Core.decode FP.Core.b64 (UInt64.ofNat (fl_d s (m * 2 ^ (52 - m.log2)) (e - ((52 - m.log2 : Nat) : Int)))).toNat))) = _
    rw [ht, hd]
    show UInt32.ofNat (FP.Core.encode FP.Core.b32 (FP.Core.roundRatio FP.Core.b32 s (m * 2 ^ (52 - m.log2)) 1 (e - ((52 - m.log2 : Nat) : Int)))) = _
    rw [hr, show e - ((52 - m.log2 : Nat) : Int) + ((52 - m.log2 : Nat) : Int) = e by omega]
  · show ¬ decide (FP.Core.decode FP.Core.b64 (UInt64.ofNat (fl_d s (m * 2 ^ (52 - m.log2)) (e - ((52 - m.log2 : Nat) : Int)))).toNat = .nan) = true
    rw [ht, hd]
    exact fun q => (nomatch (of_decide_eq_true q))
theorem fl_e32b {s : Bool} {m E T : Nat} {e : Int} (hT : T < 8388608) (hE : E ≤ 255) (hm : (E = 0 ∧ m = T ∧ e = -149) ∨ (0 < E ∧ m = T + 8388608 ∧ e = (E : Int) - 150)) (h5 : E = 255 → T = 0) : FP.Core.encode FP.Core.b32 (FP.Core.bound FP.Core.b32 s m e) = (s.toNat * 256 + E) * 8388608 + T := by
  unfold FP.Core.bound
  rw [fl_x32]
  by_cases e1 : E = 255
  · have e2 := h5 e1
    rw [if_neg (by omega)]
    show FP.Core.assemble FP.Core.b32 s (FP.Core.Fmt.exps FP.Core.b32 - 1) 0 = _
    unfold FP.Core.assemble
    rw [fl_e32, fl_t32]
    omega
  · rw [if_pos (by omega)]
    show (if m < FP.Core.Fmt.tails FP.Core.b32 then FP.Core.assemble FP.Core.b32 s 0 m else FP.Core.assemble FP.Core.b32 s ((e - FP.Core.Fmt.qmin FP.Core.b32).toNat + 1) (m - FP.Core.Fmt.tails FP.Core.b32)) = _
    unfold FP.Core.assemble
    rw [fl_t32, fl_e32, fl_n32]
    rcases hm with ⟨a, b, c⟩ | ⟨a, b, c⟩
    · rw [if_pos (by omega), a, b]
    · rw [if_neg (by omega), show (e - -149).toNat + 1 = E by omega, show m - 8388608 = T by omega]
theorem fl_xor {D : Nat} (h : D < 9223372036854775808) : D ^^^ 9223372036854775808 = 9223372036854775808 + D := by
  show D ^^^ 2 ^ 63 = 2 ^ 63 + D
  have h2 : 2 ^ 63 + D < 2 ^ 64 := by omega
  refine Nat.eq_of_testBit_eq (fun i => ?_)
  rw [Nat.testBit_xor, Nat.testBit_two_pow]
  rcases Nat.lt_trichotomy i 63 with e | e | e
  · rw [Nat.testBit_two_pow_add_gt e, decide_eq_false (by omega), Bool.xor_false]
  · subst e
    rw [Nat.testBit_two_pow_add_eq, decide_eq_true rfl, Bool.xor_true]
  · have a1 : 2 ^ 64 ≤ 2 ^ i := Nat.pow_le_pow_right (by omega) (by omega)
    rw [Nat.testBit_lt_two_pow (show D < 2 ^ i by omega), Nat.testBit_lt_two_pow (show 2 ^ 63 + D < 2 ^ i by omega), decide_eq_false (by omega), Bool.xor_false]
theorem fl_neg {c : Nat} {q : Int} (h1 : 4503599627370496 ≤ c) (h2 : c < 9007199254740992) (h4 : q ≤ 971) : FP.dneg (UInt64.ofNat (fl_d false c q)) = UInt64.ofNat (fl_d true c q) := by
  refine UInt64.toNat_inj.mp ?_
  show (UInt64.ofNat (fl_d false c q) ^^^ 0x8000000000000000).toNat = _
  rw [UInt64.toNat_xor, fl_tn h1 h2 h4, fl_tn h1 h2 h4]
  show fl_d false c q ^^^ 9223372036854775808 = _
  rw [fl_xor (Nat.lt_trans (fl_ltf h1 h2 h4) (by decide))]
  unfold fl_d
  show 9223372036854775808 + ((0 * 2048 + (q + 1075).toNat) * 4503599627370496 + (c - 4503599627370496)) = (1 * 2048 + (q + 1075).toNat) * 4503599627370496 + (c - 4503599627370496)
  omega
theorem fl_m64 {r : UInt64} (h : r.toNat % 9223372036854775808 ≤ 9218868437227405312) : n64 r = true := by
  unfold n64
  refine decide_eq_true ?_
  rw [UInt64.le_iff_toNat_le, UInt64.toNat_and, show (0x7fffffffffffffff : UInt64).toNat = 2 ^ 63 - 1 from rfl, Nat.and_two_pow_sub_one_eq_mod]
  exact h
theorem fl_m32 {r : UInt32} (h : r.toNat % 2147483648 ≤ 2139095040) : n32 r = true := by
  unfold n32
  refine decide_eq_true ?_
  rw [UInt32.le_iff_toNat_le, UInt32.toNat_and, show (0x7fffffff : UInt32).toNat = 2 ^ 31 - 1 from rfl, Nat.and_two_pow_sub_one_eq_mod]
  exact h
theorem fl_md {c : Nat} {q : Int} (h1 : 4503599627370496 ≤ c) (h2 : c < 9007199254740992) (h4 : q ≤ 971) : n64 (UInt64.ofNat (fl_d false c q)) = true := by
  have h := fl_ltf h1 h2 h4
  refine fl_m64 ?_
  rw [fl_tn h1 h2 h4, Nat.mod_eq_of_lt (Nat.lt_trans h (by decide))]
  exact Nat.le_of_lt h
theorem i32_s1 {x : Int32} (h1 : -1000 ≤ x.toInt) (h2 : x.toInt ≤ 1000) : (x + 1).toInt = x.toInt + 1 := by
  rw [Int32.toInt_add, show (1 : Int32).toInt = 1 by decide]
  exact Int.bmod_eq_of_le_mul_two (by omega) (by omega)
/-- the two loops of floatOf over numbers V e, that double and halve -/
theorem fl_loop {p0 : Int32} {V : Int → UInt64} {k : Int} {v5 : Int32} {r : UInt32} (k1 : -149 ≤ k) (k2 : k ≤ 105) (hv : v5.toInt = k) (h2 : ∀ e, -149 ≤ e → e ≤ 105 → n64 (V e) = true) (h3 : ∀ e, -149 ≤ e → e < 105 → FP.dmul (V e) 4611686018427387904 = V (e + 1)) (h4 : ∀ e, -149 < e → e ≤ 105 → FP.dmul (V e) 4602678819172646912 = V (e - 1)) (hr1 : 0 ≤ p0 → FP.d2f (V k) = r) (hr2 : ¬ 0 ≤ p0 → FP.d2f (FP.dneg (V k)) = r) (hr3 : n32 r = true) :
    iterK FU (fX7_floatOf_49 p0 v5) (V 0, 0) = some r := by
  refine ok_is ?_
  refine ok_iter (fun n s => ∃ i : Nat, n = 200 - i ∧ i ≤ 105 ∧ i ≤ k.toNat ∧ s = (V (i : Int), nI i)) _ ?_ FU 200 _ ⟨0, rfl, by omega, by omega, rfl⟩ (by unfold FU; omega)
  rintro n s rec ⟨i, hn, hi, hik, rfl⟩ hrec
  unfold fX7_floatOf_49
  dsimp only
  have hci : v5 ≤ nI i ↔ k ≤ (i : Int) := by rw [Int32.le_iff_toInt_le, hv, nI_toInt (by omega)]
  by_cases c : v5 ≤ nI i
  · rw [if_pos c]
    have c' := hci.mp c
    refine ok_iter (fun n s => n = (-s.2.toInt).toNat ∧ s.1 = V (k + (n : Int)) ∧ n ≤ 149 ∧ k + (n : Int) ≤ 105 ∧ s.2.toInt ≤ 105) _ ?_ FU (-v5.toInt).toNat _ ⟨rfl, ?_, by omega, by omega, (by show v5.toInt ≤ 105; omega)⟩ (by unfold FU; omega)
    · rintro n2 ⟨v, w⟩ rec2 ⟨g1, g2, g3, g4, g5⟩ hrec2
      dsimp only at g1 g2 g5
      subst g2
      unfold fX7_floatOf_72
      dsimp only
      have hw : (0 : Int32) ≤ w ↔ 0 ≤ w.toInt := by rw [Int32.le_iff_toInt_le, show (0 : Int32).toInt = 0 by decide]
      by_cases c2 : (0 : Int32) ≤ w
      · have c3 := hw.mp c2
        have e0 : k + (n2 : Int) = k := by omega
        rw [if_pos c2, e0]
        by_cases c4 : 0 ≤ p0
        · rw [if_pos c4, hr1 c4, hr3, chk_r, ok_some]
        · rw [if_neg c4, hr2 c4, hr3, chk_r, ok_some]
      · have c3 : ¬ 0 ≤ w.toInt := fun q => c2 (hw.mpr q)
        rw [if_neg c2, h4 _ (by omega) g4, h2 _ (by omega) (by omega), chk_r, ok_keep]
        have w1 := i32_s1 (x := w) (by omega) (by omega)
        refine hrec2 (n2 - 1) _ (by omega) ⟨?_, ?_, by omega, by omega, ?_⟩
        · show n2 - 1 = (-(w + 1).toInt).toNat
          rw [w1]; omega
        · show V (k + (n2 : Int) - 1) = V (k + ((n2 - 1 : Nat) : Int))
          congr 1; omega
        · show (w + 1).toInt ≤ 105
          rw [w1]; omega
    · show V (i : Int) = V (k + (((-v5.toInt).toNat : Nat) : Int))
      congr 1; omega
  · have c' : ¬ k ≤ (i : Int) := fun q => c (hci.mpr q)
    rw [if_neg c, h3 _ (by omega) (by omega), h2 _ (by omega) (by omega), chk_r, ok_keep, nI_1]
    exact hrec (200 - (i + 1)) _ (by omega) ⟨i + 1, rfl, by omega, by omega, rfl⟩
theorem fl_fields {p0 : Int32} : ∃ n, n = p0.toBitVec.toNat ∧ n < 4294967296 ∧ (p0 &&& 8388607 = nI (n % 8388608)) ∧ (p0 &&& 2147483647 = nI (n % 2147483648)) ∧ ((p0 >>> ((23 : Int32) &&& 31)) &&& 255 = nI (n / 8388608 % 256)) ∧ (0 ≤ p0 ↔ n < 2147483648) := by
  have t1 : p0.toInt = if 2 * p0.toBitVec.toNat < 2 ^ 32 then (p0.toBitVec.toNat : Int) else (p0.toBitVec.toNat : Int) - (2 ^ 32 : Nat) := BitVec.toInt_eq_toNat_cond p0.toBitVec
  have t2 : p0.toBitVec.toNat < 2 ^ 32 := p0.toBitVec.isLt
  obtain ⟨z, hz⟩ : ∃ z, z = p0 >>> ((23 : Int32) &&& 31) := ⟨_, rfl⟩
  have s0 := pk_shr p0 ((23 : Int32) &&& 31) 23 (by decide)
  have s1 : z.toInt = p0.toInt / 8388608 := by
    rw [hz]
    exact s0.trans (Int.shiftRight_eq_div_pow p0.toInt 23)
  have s2 : z.toInt = if 2 * z.toBitVec.toNat < 2 ^ 32 then (z.toBitVec.toNat : Int) else (z.toBitVec.toNat : Int) - (2 ^ 32 : Nat) := BitVec.toInt_eq_toNat_cond z.toBitVec
  refine ⟨_, rfl, t2, pk_and p0 23 (by decide), pk_and p0 31 (by decide), ?_, ?_⟩
  · rw [← hz]
    have e : z &&& 255 = nI (z.toBitVec.toNat % 256) := pk_and z 8 (by decide)
    rw [e]
    congr 1
    split at t1 <;> split at s2 <;> omega
  · rw [Int32.le_iff_toInt_le, show (0 : Int32).toInt = 0 by decide, t1]
    split <;> omega
theorem fl_bits {p0 : Int32} (h : isNum p0) : fX7_floatOf p0 = some p0.toUInt32 ∧ p0.toUInt32.toNat % 2147483648 ≤ 2139095040 := by
  obtain ⟨n, hn, h32, e23, e31, e8, hs⟩ := fl_fields (p0 := p0)
  have hN : n % 2147483648 ≤ 2139095040 := by
    refine Nat.le_of_not_lt (fun q => h ?_)
    rw [e31]
    exact nI_lt q (by omega)
  have hu : p0.toUInt32.toNat = n := hn.symm
  refine ⟨?_, by rw [hu]; exact hN⟩
  have hr3 : n32 p0.toUInt32 = true := fl_m32 (by rw [hu]; exact hN)
  obtain ⟨E, hE⟩ : ∃ E, E = n / 8388608 % 256 := ⟨_, rfl⟩
  obtain ⟨T, hT⟩ : ∃ T, T = n % 8388608 := ⟨_, rfl⟩
  have hE5 : E ≤ 255 := by omega
  have hT2 : T < 8388608 := by omega
  have h5 : E = 255 → T = 0 := fun q => by omega
  have fin0 : ∀ s : Bool, (s = false ↔ 0 ≤ p0) → UInt32.ofNat ((s.toNat * 256 + E) * 8388608 + T) = p0.toUInt32 := fun s q => by
    have e : (s.toNat * 256 + E) * 8388608 + T = n := by
      cases s with
      | false =>
        have := hs.mp (q.mp rfl)
        show (0 * 256 + E) * 8388608 + T = n
        omega
      | true =>
        have : ¬ n < 2147483648 := fun w => by
          have := q.mpr (hs.mpr w)
          cases this
        show (1 * 256 + E) * 8388608 + T = n
        omega
    rw [e, ← hu]
    exact UInt32.ofNat_toNat
  -- the number m, times 2^k
  have go : ∀ (m : Nat) (k : Int) (v5 : Int32), ((E = 0 ∧ m = T ∧ k = -149) ∨ (0 < E ∧ m = T + 8388608 ∧ k = (E : Int) - 150)) → v5.toInt = k → iterK FU (fX7_floatOf_49 p0 v5) (FP.i2d (nI m), 0) = some p0.toUInt32 := fun m k v5 hm hv => by
    have k1 : -149 ≤ k := by omega
    have k2 : k ≤ 105 := by omega
    by_cases hm0 : m = 0
    · have hT0 : T = 0 := by omega
      have hE0 : E = 0 := by omega
      rw [hm0, show FP.i2d (nI 0) = 0 by decide +kernel]
      refine fl_loop (V := fun _ => 0) k1 k2 hv (fun e _ _ => by show n64 0 = true; decide) (fun e _ _ => by show FP.dmul 0 4611686018427387904 = 0; decide +kernel) (fun e _ _ => by show FP.dmul 0 4602678819172646912 = 0; decide +kernel) (fun q => ?_) (fun q => ?_) hr3
      · have := fin0 false ⟨fun _ => q, fun _ => rfl⟩
        rw [hE0, hT0] at this
        show FP.d2f 0 = p0.toUInt32
        rw [← this]; decide +kernel
      · have := fin0 true ⟨fun w => (by cases w), fun w => absurd w q⟩
        rw [hE0, hT0] at this
        show FP.d2f (FP.dneg 0) = p0.toUInt32
        rw [← this]; decide +kernel
    · have hm2 : m < 16777216 := by omega
      obtain ⟨hl, c1, c2, c3⟩ := fl_c hm0 hm2
      have hn' : 8388608 ≤ m ∨ k = -149 := by omega
      rw [fl_i2d hm0 hm2, show (m.log2 : Int) - 52 = 0 - ((52 - m.log2 : Nat) : Int) by omega]
      refine fl_loop (V := fun e => UInt64.ofNat (fl_d false (m * 2 ^ (52 - m.log2)) (e - ((52 - m.log2 : Nat) : Int)))) k1 k2 hv (fun e a b => fl_md c1 c2 (by omega)) (fun e a b => ?_) (fun e a b => ?_) (fun q => ?_) (fun q => ?_) hr3
      · show FP.dmul (UInt64.ofNat (fl_d false (m * 2 ^ (52 - m.log2)) (e - ((52 - m.log2 : Nat) : Int)))) 4611686018427387904 = UInt64.ofNat (fl_d false (m * 2 ^ (52 - m.log2)) (e + 1 - ((52 - m.log2 : Nat) : Int)))
        rw [show e + 1 - ((52 - m.log2 : Nat) : Int) = e - ((52 - m.log2 : Nat) : Int) + 1 by omega]
        exact fl_mul _ 1 (by decide +kernel) c1 c2 (by omega) (by omega) (by omega) (by omega)
      · show FP.dmul (UInt64.ofNat (fl_d false (m * 2 ^ (52 - m.log2)) (e - ((52 - m.log2 : Nat) : Int)))) 4602678819172646912 = UInt64.ofNat (fl_d false (m * 2 ^ (52 - m.log2)) (e - 1 - ((52 - m.log2 : Nat) : Int)))
        rw [show e - 1 - ((52 - m.log2 : Nat) : Int) = e - ((52 - m.log2 : Nat) : Int) + (-1) by omega]
        exact fl_mul _ (-1) (by decide +kernel) c1 c2 (by omega) (by omega) (by omega) (by omega)
      · show FP.d2f (UInt64.ofNat (fl_d false (m * 2 ^ (52 - m.log2)) (k - ((52 - m.log2 : Nat) : Int)))) = _
        rw [fl_d2f hm0 hm2 k1 k2 hn', fl_e32b hT2 hE5 hm h5]
        exact fin0 false ⟨fun _ => q, fun _ => rfl⟩
      · show FP.d2f (FP.dneg (UInt64.ofNat (fl_d false (m * 2 ^ (52 - m.log2)) (k - ((52 - m.log2 : Nat) : Int))))) = _
        rw [fl_neg c1 c2 (by omega), fl_d2f hm0 hm2 k1 k2 hn', fl_e32b hT2 hE5 hm h5]
        exact fin0 true ⟨fun w => (by cases w), fun w => absurd w q⟩
  unfold fX7_floatOf
  rw [keep_r, keep_r, e8, e23, ← hE, ← hT]
  unfold fX7_floatOf_30
  by_cases a : E = 0
  · have b : nI E = 0 := by rw [a]; rfl
    rw [if_pos b, if_pos b, keep_r]
    exact go T (-149) _ (Or.inl ⟨a, rfl, rfl⟩) (by decide)
  · have b : ¬ nI E = 0 := nI_ne0 (by omega) (by omega)
    rw [if_neg b, if_neg b, keep_r, show nI T + 8388608 = nI (T + 8388608) from nI_add T 8388608]
    exact go (T + 8388608) ((E : Int) - 150) _ (Or.inr ⟨by omega, rfl, rfl⟩) (pk_sub_toInt (a := E) (b := 150) (by omega) (by omega))
