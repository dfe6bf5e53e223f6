/-! the reference: pops, adds, takes, rates, appends -/
theorem mod_drops {m : MSt} {k : Nat} (hk : k < 16) {L : LL} (hl : ML m k L) : fX8_dropsEmpty m (nI k) = some (mType_s m (upd (mType m) k (if L.length = 0 then 0 else mType m k))) := by
  unfold fX8_dropsEmpty fX8_dropsEmpty_24
  have h40 := hl.2.1
  rw [inb_nI hk (by omega), chk_r, nI_clamp (by omega), hl.1, chk_r, chk_r, keep_r, keep_r]
  by_cases e : L.length = 0
  · rw [if_pos e, if_pos (by rw [e]; rfl)]
  · rw [if_neg e, if_neg (by rw [nI_eq0 (by omega)]; exact e), chk_r]
theorem mr_drop {y z : MSt} {k : Nat} {c : CK} {f : FK} {L : LL} (h : MR y k c f) (h0 : cT c ≠ 0) (hp : Put k y z) (hl : ML z k L) :
    MR (mType_s z (upd (mType z) k (if L.length = 0 then 0 else mType z k))) k (drpE (setL c L)) f ∧ Fr k y (mType_s z (upd (mType z) k (if L.length = 0 then 0 else mType z k))) ∧ mMadeAt (mType_s z (upd (mType z) k (if L.length = 0 then 0 else mType z k))) k = mMadeAt y k := by
  obtain ⟨h1, h2⟩ := h
  obtain ⟨e1, e2, e3, e4, e5⟩ := h2 h0
  obtain ⟨p1, p2, p3, p4, p5, p6, p7, p8, p9⟩ := hp.fr
  refine ⟨?_, p1.trans (fr_Type _ (fun j hj => upd_o hj)), p6⟩
  unfold drpE
  by_cases e : L.length = 0
  · rw [if_pos e, if_pos (show (cL (setL c L)).length = 0 from e)]
    exact ⟨upd_s, fun q => absurd rfl q⟩
  · rw [if_neg e, if_neg (show ¬ (cL (setL c L)).length = 0 from e)]
    refine ⟨upd_s.trans (p2.trans h1), fun _ => ⟨p3.trans e1, p4.trans e2, p5.trans e3, hl, fun hT => ?_⟩⟩
    obtain ⟨g1, g2⟩ := e5 hT
    refine ⟨fun q hq => ?_, fun i hi => ?_⟩
    · show mPlace z (3 * k + q) = _
      rw [p7]; exact g1 q hq
    · show mWS (mWaits z (120 * k + i)) (mSince z (120 * k + i)) _
      rw [p8, p9]; exact g2 i hi
theorem mod_pops {m : MSt} {k : Nat} {c : CK} {f : FK} (hk : k < 16) (h : MR m k c f) {b : Int32} (hT : cT c = 1) (h0 : 0 < (cL c).length) (hi : popI b c < (cL c).length) :
    ∃ y, fX8_pops m (nI k) b = some (y, (cL c)[popI b c].1) ∧ MoP k m y (popC b c) f false := by
  have hn : cT c ≠ 0 := by rw [hT]; decide
  have hML := h.ml hn
  have h40 := hML.2.1
  obtain ⟨z, z1, z2, z3⟩ := mod_takesOut hk hML hi
  have step : ∃ y, fX8_pops_18 m (nI k) (nI (popI b c)) (nI k) = some (y, (cL c)[popI b c].1) ∧ MoP k m y (popC b c) f false := by
    obtain ⟨w1, w2, w3⟩ := mr_drop h hn z3 z2
    unfold fX8_pops_18
    rw [z1, Option.bind_some, keep_r, keep_r, mod_drops hk z2, Option.bind_some, keep_r]
    exact ⟨_, rfl, w2, w1, w3⟩
  unfold fX8_pops
  by_cases hb : b = 0
  · have g : popI b c = 0 := if_pos hb
    rw [if_pos hb]
    have e : fX8_pops_18 m (nI k) 0 (nI k) = fX8_pops_18 m (nI k) (nI (popI b c)) (nI k) := by rw [g]; rfl
    rw [e]; exact step
  · have g : popI b c = (cL c).length - 1 := if_neg hb
    rw [if_neg hb, inb_nI hk (by omega), chk_r, nI_clamp (by omega), hML.1, nI_s1 h0, ← g]
    exact step
/-- the first place with none below -/
def aix (L : LL) (a : Int32) : Nat := L.findIdx (fun q => !decide (q.1 < a))
theorem aix_rnk {L : LL} (h : ∀ q ∈ L, q.2 = 0) (a : Int32) : rnk L (a, 0) = aix L a := by
  unfold rnk aix
  induction L with
  | nil => rfl
  | cons q t ih =>
    have ha : ahd q (a, 0) = decide (q.1 < a) := by
      unfold ahd; rw [h q List.mem_cons_self]; simp [ilt_irr]
    rw [List.findIdx_cons, List.findIdx_cons, ha, ih (fun s hs => h s (List.mem_cons_of_mem _ hs))]
theorem bup_eq {L : LL} {b : Nat} : nI (2 ^ bup L b) = nI (2 ^ b) * (if 2 ^ b < L.length + 1 then 2 else 1) := by
  unfold bup
  split
  · rw [d2, pk_mul, Nat.pow_succ]
  · rw [d1, pk_mul, Nat.mul_one]
theorem mod_adds {m : MSt} {k : Nat} {c : CK} {f : FK} (hk : k < 16) (h : MR m k c f) (hc : okCK c) (hf : f.2 ≤ 6) {a : Int32} (hok : thC c (mNow m) = true → cT c = 2 ∧ ((cL c).length < 40 ∨ fnd (cL c) a = true)) :
    ∃ y, fX8_adds m (nI k) a = some (y, if fnd (cL (mkC 2 c (mNow m))) a = true then 0 else 1) ∧ MoP k m y (addC a (mNow m) c) (addF a (mNow m) c f) (!thC c (mNow m)) := by
  obtain ⟨y, y1, y2, y3, y4⟩ := mod_makes hk h (t := 2) (by decide)
  have hT := mkC_T (t := 2) (fun q => (hok q).1)
  have hl : (cL (mkC 2 c (mNow m))).length < 40 ∨ fnd (cL (mkC 2 c (mNow m))) a = true := mkC_L (P := fun L => L.length < 40 ∨ fnd L a = true) (fun q => (hok q).2) (Or.inl (by decide))
  have hA := mkC_asc (t := 2) hc (fun q => (hok q).1)
  have h0 : cT (mkC 2 c (mNow m)) ≠ 0 := by rw [hT]; decide
  have hML := y3.ml h0
  have h40 := hML.2.1
  have hf1 : (mkF c f (mNow m)).2 ≤ 6 := by unfold mkF; split; exact hf; show 4 ≤ 6; omega
  unfold fX8_adds addC addF
  rw [y1, Option.bind_some, keep_r, mod_find hk hML, Option.bind_some]
  generalize mkC 2 c (mNow m) = c1 at *
  generalize mkF c f (mNow m) = f1 at *
  by_cases e : fnd (cL c1) a = true
  · rw [plc_fnd e, if_neg (by rw [nI_nm1 (by have := fnd_lt e; omega)]; exact id), if_pos e, if_pos e, if_pos e]
    exact ⟨y, rfl, y2, y3, y4.trans not_mk⟩
  · have e' : fnd (cL c1) a = false := by simpa using e
    have hl' : (cL c1).length < 40 := by
      rcases hl with q | q
      · exact q
      · exact absurd q e
    rw [plc_not e', if_pos rfl, if_neg e, if_neg e, if_neg e]
    obtain ⟨r1, r2⟩ := rnk_asc hA a
    rw [aix_rnk (fun q hq => (hA.1 q hq).2)] at r1 r2
    obtain ⟨z, z1, z2, z3⟩ := mod_putsIn hk hML r2 hl' a 0
    rw [r1] at z2
    have hlen : (sins (cL c1) a).length = (cL c1).length + 1 := by rw [← r1, List.length_insertIdx, if_pos r2]
    -- behind the loop
    have fin : Ok (fX8_adds_51 y (nI k) a (nI (aix (cL c1) a))) (fun w => w.2 = 1 ∧ MoP k m w.1 (setL c1 (sins (cL c1) a)) (if 8 < (cL c1).length + 1 then 2 else f1.1, bup (cL c1) f1.2) (!thC c (mNow m))) := by
      have big : ∀ g : Int32, Ok (fX8_adds_77 z (nI k) g (nI k)) (fun w => w.2 = 1 ∧ MoP k m w.1 (setL c1 (sins (cL c1) a)) (if g = 0 then f1.1 else 2, bup (cL c1) f1.2) (!thC c (mNow m))) := fun g => by
        obtain ⟨w1, w2, w3, w4⟩ := mr_put y3 h0 z3 z2 (if g = 0 then mForm z k else 2)
        unfold fX8_adds_77
        rw [mod_grows hk, Option.bind_some, keep_r]
        rw [w4] at w1 w2 w3 ⊢
        generalize mForm_s z (upd (mForm z) k (if g = 0 then f1.1 else 2)) = x5 at *
        obtain ⟨v1, v2⟩ := w1
        obtain ⟨v3, v4, v5, v6, v7⟩ := v2 h0
        replace v5 : mBuckets x5 k = nI (2 ^ f1.2) := v5
        have hp2 : 2 ^ f1.2 ≤ 64 := Nat.pow_le_pow_right (by omega) hf1
        have v6' : mSize x5 k = nI ((cL c1).length + 1) := by rw [v6.1]; exact congrArg nI hlen
        have fin2 : ∀ u : Int32, u = (if 2 ^ f1.2 < (cL c1).length + 1 then 2 else 1) → Ok (fX8_adds_107 x5 u (mBuckets x5 k) (nI k)) (fun w => w.2 = 1 ∧ MoP k m w.1 (setL c1 (sins (cL c1) a)) (if g = 0 then f1.1 else 2, bup (cL c1) f1.2) (!thC c (mNow m))) := fun u hu => by
          unfold fX8_adds_107
          rw [inb_nI hk (by omega), chk_r, ok_keep, ok_some, nI_clamp (by omega)]
          refine ⟨rfl, (y2.trans w2).trans (fr_Buckets _ (fun j hj => upd_o hj)), ⟨v1, fun _ => ⟨v3, v4, ?_, v6, v7⟩⟩, w3.trans (y4.trans not_mk)⟩
          show upd (mBuckets x5) k (mBuckets x5 k * u) k = nI (2 ^ bup (cL c1) f1.2)
          rw [upd_s, v5, hu, bup_eq]
        rw [inb_nI hk (by omega), chk_r, chk_r, chk_r, nI_clamp (by omega), v6']
        by_cases e2 : 2 ^ f1.2 < (cL c1).length + 1
        · rw [if_neg (by rw [v5]; exact nI_ge e2 (by omega))]
          exact fin2 2 (by rw [if_pos e2])
        · rw [if_pos (by rw [v5]; exact nI_le (by omega) (by omega))]
          exact fin2 1 (by rw [if_neg e2])
      unfold fX8_adds_51
      rw [z1, Option.bind_some, keep_r, inb_nI hk (by omega), chk_r, nI_clamp (by omega), z2.1, hlen, d8]
      by_cases e1 : 8 < (cL c1).length + 1
      · rw [if_neg (nI_ge e1 (by omega)), if_pos e1]
        have := big 1
        rwa [if_neg (by decide)] at this
      · rw [if_pos (nI_le (by omega) (by omega)), if_neg e1]
        have := big 0
        rwa [if_pos rfl] at this
    have key : Ok (iterK FU (fX8_adds_20 y (nI k) a) 0) (fun w => w.2 = 1 ∧ MoP k m w.1 (setL c1 (sins (cL c1) a)) (if 8 < (cL c1).length + 1 then 2 else f1.1, bup (cL c1) f1.2) (!thC c (mNow m))) := by
      refine ok_iter (fun n s => ∃ i, n = (cL c1).length - i ∧ i ≤ (cL c1).length ∧ s = nI i ∧ ∀ j (hj : j < (cL c1).length), j < i → (!decide ((cL c1)[j].1 < a)) = false) _ ?_ FU (cL c1).length 0 ⟨0, rfl, Nat.zero_le _, rfl, fun j _ hj => by omega⟩ (by unfold FU; omega)
      rintro n s rec ⟨i, hn, hi, rfl, hb⟩ hrec
      unfold fX8_adds_20
      rw [inb_nI hk (by omega), chk_r, nI_clamp (show k < 2 ^ 31 by omega), hML.1, at40]
      by_cases e1 : (cL c1).length ≤ i
      · rw [if_pos (nI_le e1 (by omega))]
        have : aix (cL c1) a = i := by
          unfold aix
          rw [fi_none (fun j hj => hb j hj (by omega))]; omega
        rw [← this]; exact fin
      · rw [if_neg (nI_ge (by omega) (by omega)), inb_nI (by omega) (by omega), chk_r, nI_clamp (by omega), (hML.e (by omega : i < (cL c1).length)).1]
        by_cases e2 : a ≤ ((cL c1)[i]'(by omega)).1
        · rw [if_pos e2]
          have : aix (cL c1) a = i := by
            unfold aix
            exact fi_at (by omega) (by rw [decide_eq_false (i32_nlt.mpr e2)]; rfl) hb
          rw [← this]; exact fin
        · rw [if_neg e2, ok_keep, nI_1]
          refine hrec ((cL c1).length - (i + 1)) _ (by omega) ⟨i + 1, rfl, by omega, rfl, fun j hj hji => ?_⟩
          by_cases e3 : j = i
          · subst e3; rw [decide_eq_true (i32_nle.mp e2)]; rfl
          · exact hb j hj (by omega)
    obtain ⟨⟨w, u⟩, k1, k2, k3⟩ := key
    dsimp only at k2 k3
    subst k2
    exact ⟨w, k1, k3⟩
theorem mod_takes {m : MSt} {k : Nat} {c : CK} {f : FK} (hk : k < 16) (h : MR m k c f) (hn : cT c ≠ 0) (a : Int32) :
    ∃ y, fX8_takes m (nI k) a = some (y, if fnd (cL c) a = true then 1 else 0) ∧ MoP k m y (tkeC a c) f false := by
  have hML := h.ml hn
  have h40 := hML.2.1
  unfold fX8_takes tkeC
  rw [mod_find hk hML, Option.bind_some]
  by_cases e : fnd (cL c) a = true
  · obtain ⟨z, z1, z2, z3⟩ := mod_takesOut hk hML (fnd_lt e)
    obtain ⟨w1, w2, w3⟩ := mr_drop h hn z3 z2
    rw [plc_fnd e, if_neg (by rw [nI_nm1 (by have := fnd_lt e; omega)]; exact id), if_pos e, if_pos e, z1, Option.bind_some, keep_r, mod_drops hk z2, Option.bind_some, keep_r]
    exact ⟨_, rfl, w2, w1, w3⟩
  · have e' : fnd (cL c) a = false := by simpa using e
    rw [plc_not e', if_pos rfl, if_neg e, if_neg e]
    exact ⟨m, rfl, Fr.refl k m, h, rfl⟩
