/-! points -/
def PtsOk (r : UInt32) : Prop := n64 (FP.f2d r) = true ∧ FP.dcmp (FP.f2d r) (FP.f2d r) = some .eq
theorem fl_encA {s : Bool} {c : Nat} {q : Int} (hc : c < 9007199254740992) (h3 : -1074 ≤ q) (h4 : q ≤ 971) : ∃ E T : Nat, FP.Core.encode FP.Core.b64 (.fin s c q) = (s.toNat * 2048 + E) * 4503599627370496 + T ∧ T < 4503599627370496 ∧ (E < 2047 ∨ (E = 2047 ∧ T = 0)) := by
  have e0 : FP.Core.encode FP.Core.b64 (.fin s c q) = (if c < FP.Core.Fmt.tails FP.Core.b64 then FP.Core.assemble FP.Core.b64 s 0 c else FP.Core.assemble FP.Core.b64 s ((q - FP.Core.Fmt.qmin FP.Core.b64).toNat + 1) (c - FP.Core.Fmt.tails FP.Core.b64)) := rfl
  rw [e0]
  unfold FP.Core.assemble
  rw [fl_t64, fl_e64, fl_n64]
  by_cases e : c < 4503599627370496
  · rw [if_pos e]
    exact ⟨0, c, rfl, e, by omega⟩
  · rw [if_neg e]
    exact ⟨(q - -1074).toNat + 1, c - 4503599627370496, rfl, by omega, by omega⟩
theorem fl_bnd {s : Bool} {c : Nat} {q : Int} (hc : c < 9007199254740992) (h3 : -1074 ≤ q) : ∃ E T : Nat, FP.Core.encode FP.Core.b64 (FP.Core.bound FP.Core.b64 s c q) = (s.toNat * 2048 + E) * 4503599627370496 + T ∧ T < 4503599627370496 ∧ (E < 2047 ∨ (E = 2047 ∧ T = 0)) := by
  unfold FP.Core.bound
  rw [fl_x64]
  by_cases e : q ≤ 971
  · rw [if_pos e]; exact fl_encA hc h3 e
  · rw [if_neg e]
    refine ⟨2047, 0, ?_, by omega, Or.inr ⟨rfl, rfl⟩⟩
    show FP.Core.assemble FP.Core.b64 s (FP.Core.Fmt.exps FP.Core.b64 - 1) 0 = _
    unfold FP.Core.assemble
    rw [fl_t64, fl_e64]
/-- what is no NaN stays none, as a double -/
theorem fl_any {d : FP.Core.Datum} (h : d ≠ .nan) : ∃ (s : Bool) (E T : Nat), FP.Core.encode FP.Core.b64 (FP.Core.round FP.Core.b64 d) = (s.toNat * 2048 + E) * 4503599627370496 + T ∧ T < 4503599627370496 ∧ (E < 2047 ∨ (E = 2047 ∧ T = 0)) := by
  cases d with
  | nan => exact absurd rfl h
  | inf s =>
    refine ⟨s, 2047, 0, ?_, by omega, Or.inr ⟨rfl, rfl⟩⟩
    show FP.Core.assemble FP.Core.b64 s (FP.Core.Fmt.exps FP.Core.b64 - 1) 0 = _
    unfold FP.Core.assemble
    rw [fl_t64, fl_e64]
  | fin s c q =>
    refine ⟨s, ?_⟩
    show ∃ E T : Nat, FP.Core.encode FP.Core.b64 (FP.Core.roundRatio FP.Core.b64 s c 1 q) = _ ∧ _
    unfold FP.Core.roundRatio
    by_cases e : c = 0
    · rw [if_pos e, fl_n64]; exact fl_encA (by omega) (by omega) (by omega)
    · rw [if_neg e]
      have hq : -1074 ≤ FP.Core.quantum FP.Core.b64 c 1 q := by
        unfold FP.Core.quantum
        rw [fl_n64]; omega
      generalize FP.Core.quantum FP.Core.b64 c 1 q = w at hq
      unfold FP.Core.roundAt FP.Core.settle
      by_cases e2 : FP.Core.nearest (FP.Core.unitsNum c q w) (FP.Core.unitsDen 1 q w) < 9007199254740992
      · rw [if_pos (show FP.Core.nearest (FP.Core.unitsNum c q w) (FP.Core.unitsDen 1 q w) < 2 ^ FP.Core.b64.p from e2)]
        exact fl_bnd e2 hq
      · rw [if_neg (show ¬ FP.Core.nearest (FP.Core.unitsNum c q w) (FP.Core.unitsDen 1 q w) < 2 ^ FP.Core.b64.p from e2), fl_t64]
        exact fl_bnd (by omega) (by omega)
theorem fl_nn32 {r : UInt32} (h : r.toNat % 2147483648 ≤ 2139095040) : FP.Core.decode FP.Core.b32 r.toNat ≠ .nan := by
  unfold FP.Core.decode FP.Core.fieldE FP.Core.fieldT
  rw [fl_t32, fl_e32]
  generalize r.toNat = n at h
  by_cases e1 : n / 8388608 % 256 = 256 - 1
  · rw [if_pos e1, if_pos (by omega)]
    exact fun q => (nomatch q)
  · rw [if_neg e1]
    by_cases e2 : n / 8388608 % 256 = 0
    · rw [if_pos e2]; exact fun q => (nomatch q)
    · rw [if_neg e2]; exact fun q => (nomatch q)
theorem fl_cmp (a : Int) : compare a a = .eq := by
  show compareOfLessAndEq a a = .eq
  unfold compareOfLessAndEq
  rw [if_neg (Int.lt_irrefl a), if_pos rfl]
theorem fl_self {d : FP.Core.Datum} (h : d ≠ .nan) : FP.Core.order d d = some .eq := by
  cases d with
  | nan => exact absurd rfl h
  | inf s => exact congrArg some (fl_cmp _)
  | fin s c q => exact congrArg some (fl_cmp _)
theorem fl_f2d {r : UInt32} (h : r.toNat % 2147483648 ≤ 2139095040) : PtsOk r := by
  have e0 := fl_nn32 h
  have e1 : FP.f2d r = UInt64.ofNat (FP.Core.encode FP.Core.b64 (FP.Core.round FP.Core.b64 (FP.Core.decode FP.Core.b32 r.toNat))) := by
    unfold FP.f2d
    rw [if_neg]
    · rfl
    · show ¬ decide (FP.Core.decode FP.Core.b32 r.toNat = .nan) = true
      exact fun q => e0 (of_decide_eq_true q)
  obtain ⟨s, E, T, a1, a2, a3⟩ := fl_any e0
  have a4 : s.toNat < 2 := by cases s <;> decide
  have e2 : (FP.f2d r).toNat = (s.toNat * 2048 + E) * 4503599627370496 + T := by
    rw [e1, a1]
    exact UInt64.toNat_ofNat_of_lt' (show _ < 18446744073709551616 by omega)
  refine ⟨fl_m64 (by rw [e2]; omega), ?_⟩
  show FP.Core.order (FP.Core.decode FP.Core.b64 (FP.f2d r).toNat) (FP.Core.decode FP.Core.b64 (FP.f2d r).toNat) = some .eq
  refine fl_self ?_
  rw [e2]
  unfold FP.Core.decode FP.Core.fieldE FP.Core.fieldT
  rw [fl_t64, fl_e64]
  have b1 : ((s.toNat * 2048 + E) * 4503599627370496 + T) / 4503599627370496 % 2048 = E := by omega
  have b2 : ((s.toNat * 2048 + E) * 4503599627370496 + T) % 4503599627370496 = T := by omega
  rw [b1, b2]
  by_cases c1 : E = 2048 - 1
  · rw [if_pos c1, if_pos (by omega)]
    exact fun q => (nomatch q)
  · rw [if_neg c1]
    by_cases c2 : E = 0
    · rw [if_pos c2]; exact fun q => (nomatch q)
    · rw [if_neg c2]; exact fun q => (nomatch q)
theorem fl_sn {b : Int32} (h : b.toUInt32.toNat % 2147483648 ≤ 2139095040) : vn_sni2f b = false := by
  have h2 : b.toUInt32 &&& 0x7fffffff ≤ 0x7f800000 := of_decide_eq_true (fl_m32 h)
  have h3 : ¬ (b.toUInt32 &&& 0x7fffffff > 0x7f800000) := UInt32.not_lt.mpr h2
  unfold vn_sni2f
  rw [decide_eq_false h3, Bool.false_and]
def SimP (x : SSt) (lim : Nat) (oc : Option (UInt32 ⊕ Nat)) (om : Option (MSt × UInt32)) : Prop := ∃ res z b, oc = some res ∧ om = some (z, b) ∧ IVx x z lim ∧ Agr [0, 1, 2] mpA res z b ∧ ∀ v, res = .inl v → PtsOk v
theorem sp_fail {x : SSt} {m : MSt} {t : Nat} {cc : CC} {ff : Nat → FK} {E : EL} {Mf idf : Nat → Nat} {lvi n : Nat} {oc : Option (UInt32 ⊕ Nat)} {om : Option (MSt × UInt32)} {u : Int32} (h : IV x m t cc ff E Mf idf lvi) (h1 : oc = some (.inr n)) (h2 : om = some (mThrown_s m u, 0)) (hS : n ∈ [0, 1, 2]) (hu : u = mpA n) : SimP x (lvi + 1) oc om :=
  ⟨.inr n, mThrown_s m u, 0, h1, h2, ⟨t, cc, ff, E, Mf, idf, lvi, Nat.le_succ _, iv_seq h seq_Thrown⟩, ⟨fun v q => (by cases q), fun j q => (by cases q; exact ⟨hS, hu⟩)⟩, fun v q => (by cases q)⟩
theorem mod_pt65 {m : MSt} {p1 p2 u : Int32} (h : u ≠ 0) : fX8_points_65 m p1 p2 u = some (mThrown_s m u, 0) := by
  unfold fX8_points_65
  rw [can_eq, Option.bind_some, keep_r]
  dsimp only
  rw [if_neg h, if_pos rfl]
theorem mod_pt32y {m : MSt} {p1 p2 : Int32} (hV : isV p2) : fX8_points_32 m p1 p2 1 = some (mThrown_s m 3, 0) := by
  unfold fX8_points_32 fX8_points_33
  rw [if_neg (show ¬ (1 : Int32) = 0 by decide), (val_in hV).2, Option.bind_some, if_neg (show ¬ (1 : Int32) = 0 by decide), if_pos rfl]
  exact mod_pt65 (by decide)
theorem mod_pt32n {m : MSt} {p1 p2 : Int32} (hV : ¬ isV p2) : fX8_points_32 m p1 p2 1 = some (mThrown_s m 2, 0) := by
  unfold fX8_points_32 fX8_points_33
  rw [if_neg (show ¬ (1 : Int32) = 0 by decide), (val_out hV).2, Option.bind_some, if_pos rfl]
  exact mod_pt65 (by decide)
theorem sim_points {x : SSt} {m : MSt} {t : Nat} {cc : CC} {ff : Nat → FK} {E : EL} {Mf idf : Nat → Nat} {lvi : Nat} (h : IV x m t cc ff E Mf idf lvi) (p1 p2 : Int32) :
    SimP x (lvi + 1) (fX7_points (fk p1) (foc (fk p1) x) p1 p2) (fX8_points m p1 p2) := by
  obtain ⟨⟨h1, h2, h3, h4, h5, h6, h7, h8, h9, h10, h11, h12, h13⟩, hrw⟩ := id h
  have one0 : ¬ (1 : Int32) = 0 := by decide
  by_cases hK : isN p1 16
  · obtain ⟨k1, k2, k3, k4, k5⟩ := key_in hK
    rw [k3]
    generalize cl p1 = k at *
    obtain ⟨b1, b2, b3, b4, b5⟩ := h7 k k5
    have hfc : fClk (foc k x) = nI t := h2
    have hfV : VR (fV (foc k x)) (cc k) (ff k) := b1
    have b2' : MR (mThrown_s m 0) k (cc k) (ff k) := b2.keq seq_Thrown.1
    have ety := mod_typeNow k5 b2
    rw [h4] at ety
    unfold fX7_points fX8_points
    rw [k1, Option.bind_some, thrL, k2, Option.bind_some, if_neg one0, k4, ety, Option.bind_some]
    by_cases e : thC (cc k) (nI t) = true ∧ cT (cc k) = 3
    · obtain ⟨e1, e2⟩ := e
      have hty : tyN (cc k) (nI t) = 3 := by
        unfold tyN
        rw [if_pos e1]; exact e2
      rw [if_pos hty, mod_find k5 (b2.ml (thC_T e1)), Option.bind_some]
      by_cases hV : isV p2
      · obtain ⟨v1, v2⟩ := val_in hV
        rw [v1, Option.bind_some, thrL, c_ty_y k5 hfV (t := 3) (by rw [hfc]; exact hty), Option.bind_some, thrL, c_place k5 hfV hV, Option.bind_some, hfc, if_pos e1]
        cases hf : fnd (cL (cc k)) p2 with
        | false =>
          rw [plc_not hf, if_pos rfl, if_pos rfl]
          refine sp_fail h rfl (u := 3) ?_ (by decide) rfl
          exact mod_pt32y hV
        | true =>
          have hVL := hfV.VL (thC_T e1) rfl
          have h40 := (ok_T b3 (thC_T e1)).2.2.1
          have hsr := ((ok_T b3 (thC_T e1)).2.2.2.2.2.2.1 e2).1
          have hi := fnd_lt hf
          have hne : ¬ nI (fi (cL (cc k)) p2) = -1 := fun q => by
            rw [nI_nm1 (by omega)] at q; exact q
          have hnum := hsr _ (List.getElem_mem hi)
          obtain ⟨g1, g2⟩ := fl_bits hnum
          rw [plc_fnd hf, if_neg hne, if_neg hne, kyk k5, chk_r, val_bits hVL (nI (fi (cL (cc k)) p2)) (fun u => fX7_points_49 k (foc k x) u), bat_nI hi (by omega)]
          unfold fX7_points_49 fX8_points_33
          rw [g1, Option.bind_some, if_neg one0, v2, Option.bind_some, if_neg one0, if_neg one0]
          unfold fX8_points_65
          rw [can_eq, Option.bind_some, keep_r]
          dsimp only
          have hbits : mBits (mThrown_s m 0) (40 * k + fi (cL (cc k)) p2) = ((cL (cc k))[fi (cL (cc k)) p2]'hi).2 := ((b2'.ml (thC_T e1)).e hi).2
          rw [if_pos rfl, if_neg one0, mod_find k5 (b2'.ml (thC_T e1)), Option.bind_some, plc_fnd hf, at40, inb_nI (show 40 * k + fi (cL (cc k)) p2 < 640 by omega) (by omega), chk_r, nI_clamp (show 40 * k + fi (cL (cc k)) p2 < 2 ^ 31 by omega), hbits, decide_eq_true (fl_sn g2), chk_r]
          exact ⟨.inl _, mThrown_s m 0, _, rfl, rfl, ⟨t, cc, ff, E, Mf, idf, lvi, Nat.le_succ _, iv_seq h seq_Thrown⟩, ⟨fun v q => (by cases q; exact ⟨rfl, rfl⟩), fun j q => (by cases q)⟩, fun v q => (by cases q; exact fl_f2d g2)⟩
      · obtain ⟨v1, v2⟩ := val_out hV
        rw [v1, Option.bind_some, thrR]
        refine sp_fail h rfl (u := 2) ?_ (by decide) rfl
        by_cases c : plc (cL (cc k)) p2 = -1
        · rw [if_pos c]; exact mod_pt32n hV
        · rw [if_neg c]
          unfold fX8_points_33
          rw [if_neg one0, v2, Option.bind_some, if_pos rfl]
          exact mod_pt65 (by decide)
    · have hty : ¬ tyN (cc k) (nI t) = 3 := by
        unfold tyN
        by_cases e1 : thC (cc k) (nI t) = true
        · rw [if_pos e1]; exact fun q => e ⟨e1, q⟩
        · rw [if_neg e1]; decide
      rw [if_neg hty]
      by_cases hV : isV p2
      · obtain ⟨v1, v2⟩ := val_in hV
        rw [v1, Option.bind_some, thrL, c_ty_n k5 hfV (t := 3) (by rw [hfc]; exact hty), Option.bind_some, thrR, mod_pt32y hV]
        exact sp_fail h rfl rfl (by decide) rfl
      · obtain ⟨v1, v2⟩ := val_out hV
        rw [v1, Option.bind_some, thrR, mod_pt32n hV]
        exact sp_fail h rfl rfl (by decide) rfl
  · obtain ⟨k1, k2⟩ := key_out hK
    unfold fX7_points fX8_points
    rw [k1, Option.bind_some, thrR, k2, Option.bind_some, if_pos rfl]
    refine sp_fail h rfl (u := 1) ?_ (by decide) rfl
    unfold fX8_points_32 fX8_points_33
    rw [if_pos rfl]
    exact mod_pt65 (by decide)
