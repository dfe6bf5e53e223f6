/-! the reference: a key -/
def mWS (a s : Int32) (o : Option (Nat × Nat)) : Prop := match o with
  | some (t, r) => a = nI (r + 1) ∧ s = nI t
  | none => a = 0
def MGp (m : MSt) (k : Nat) (pl : Nat → Nat) (w : WF) : Prop := (∀ g, g < 3 → mPlace m (3 * k + g) = nI (pl g)) ∧ ∀ i, i < 120 → mWS (mWaits m (120 * k + i)) (mSince m (120 * k + i)) (w i)
def MR (m : MSt) (k : Nat) (c : CK) (f : FK) : Prop := mType m k = cT c ∧ (cT c ≠ 0 → mEnd m k = cE c ∧ mForm m k = f.1 ∧ mBuckets m k = nI (2 ^ f.2) ∧ ML m k (cL c) ∧ (cT c = 4 → MGp m k (cP c) (cW c)))
def msc (m : MSt) : Int32 × Int32 × Int32 × Int32 × Int32 × IA × Int32 × Int32 × Int32 × Int32 × IA × IA × Int32 := (mClock m, mNow m, mSampled m, mRows m, mWriting m, mLog m, mIsRewriting m, mToWrite m, mBegunAt m, mNewRows m, mFresh m, mFreshAt m, mThrown m)
def in3 (k q : Nat) : Prop := 3 * k ≤ q ∧ q < 3 * k + 3
def in120 (k q : Nat) : Prop := 120 * k ≤ q ∧ q < 120 * k + 120
def Fr (k : Nat) (m y : MSt) : Prop := msc y = msc m ∧ (∀ j, j ≠ k → mType y j = mType m j ∧ mEnd y j = mEnd m j ∧ mForm y j = mForm m j ∧ mSize y j = mSize m j ∧ mBuckets y j = mBuckets m j ∧ mMadeAt y j = mMadeAt m j) ∧
  (∀ q, ¬ inK k q → mValues y q = mValues m q ∧ mBits y q = mBits m q) ∧ (∀ q, ¬ in3 k q → mPlace y q = mPlace m q) ∧ ∀ q, ¬ in120 k q → mWaits y q = mWaits m q ∧ mSince y q = mSince m q
theorem Fr.refl (k : Nat) (m : MSt) : Fr k m m := ⟨rfl, fun _ _ => ⟨rfl, rfl, rfl, rfl, rfl, rfl⟩, fun _ _ => ⟨rfl, rfl⟩, fun _ _ => rfl, fun _ _ => ⟨rfl, rfl⟩⟩
theorem Fr.trans {k : Nat} {m y z : MSt} (h : Fr k m y) (g : Fr k y z) : Fr k m z := by
  obtain ⟨h1, h2, h3, h4, h5⟩ := h
  obtain ⟨g1, g2, g3, g4, g5⟩ := g
  refine ⟨g1.trans h1, fun j hj => ?_, fun q hq => ⟨(g3 q hq).1.trans (h3 q hq).1, (g3 q hq).2.trans (h3 q hq).2⟩, fun q hq => (g4 q hq).trans (h4 q hq), fun q hq => ⟨(g5 q hq).1.trans (h5 q hq).1, (g5 q hq).2.trans (h5 q hq).2⟩⟩
  obtain ⟨a1, a2, a3, a4, a5, a6⟩ := h2 j hj
  obtain ⟨b1, b2, b3, b4, b5, b6⟩ := g2 j hj
  exact ⟨b1.trans a1, b2.trans a2, b3.trans a3, b4.trans a4, b5.trans a5, b6.trans a6⟩
theorem fr_Type {k : Nat} {m : MSt} (T : IA) (h : ∀ j, j ≠ k → T j = mType m j) : Fr k m (mType_s m T) := ⟨rfl, fun j hj => ⟨h j hj, rfl, rfl, rfl, rfl, rfl⟩, fun _ _ => ⟨rfl, rfl⟩, fun _ _ => rfl, fun _ _ => ⟨rfl, rfl⟩⟩
theorem fr_End {k : Nat} {m : MSt} (T : IA) (h : ∀ j, j ≠ k → T j = mEnd m j) : Fr k m (mEnd_s m T) := ⟨rfl, fun j hj => ⟨rfl, h j hj, rfl, rfl, rfl, rfl⟩, fun _ _ => ⟨rfl, rfl⟩, fun _ _ => rfl, fun _ _ => ⟨rfl, rfl⟩⟩
theorem fr_Form {k : Nat} {m : MSt} (T : IA) (h : ∀ j, j ≠ k → T j = mForm m j) : Fr k m (mForm_s m T) := ⟨rfl, fun j hj => ⟨rfl, rfl, h j hj, rfl, rfl, rfl⟩, fun _ _ => ⟨rfl, rfl⟩, fun _ _ => rfl, fun _ _ => ⟨rfl, rfl⟩⟩
theorem fr_Size {k : Nat} {m : MSt} (T : IA) (h : ∀ j, j ≠ k → T j = mSize m j) : Fr k m (mSize_s m T) := ⟨rfl, fun j hj => ⟨rfl, rfl, rfl, h j hj, rfl, rfl⟩, fun _ _ => ⟨rfl, rfl⟩, fun _ _ => rfl, fun _ _ => ⟨rfl, rfl⟩⟩
theorem fr_Buckets {k : Nat} {m : MSt} (T : IA) (h : ∀ j, j ≠ k → T j = mBuckets m j) : Fr k m (mBuckets_s m T) := ⟨rfl, fun j hj => ⟨rfl, rfl, rfl, rfl, h j hj, rfl⟩, fun _ _ => ⟨rfl, rfl⟩, fun _ _ => rfl, fun _ _ => ⟨rfl, rfl⟩⟩
theorem fr_MadeAt {k : Nat} {m : MSt} (T : IA) (h : ∀ j, j ≠ k → T j = mMadeAt m j) : Fr k m (mMadeAt_s m T) := ⟨rfl, fun j hj => ⟨rfl, rfl, rfl, rfl, rfl, h j hj⟩, fun _ _ => ⟨rfl, rfl⟩, fun _ _ => rfl, fun _ _ => ⟨rfl, rfl⟩⟩
theorem fr_Values {k : Nat} {m : MSt} (T : IA) (h : ∀ q, ¬ inK k q → T q = mValues m q) : Fr k m (mValues_s m T) := ⟨rfl, fun _ _ => ⟨rfl, rfl, rfl, rfl, rfl, rfl⟩, fun q hq => ⟨h q hq, rfl⟩, fun _ _ => rfl, fun _ _ => ⟨rfl, rfl⟩⟩
theorem fr_Bits {k : Nat} {m : MSt} (T : IA) (h : ∀ q, ¬ inK k q → T q = mBits m q) : Fr k m (mBits_s m T) := ⟨rfl, fun _ _ => ⟨rfl, rfl, rfl, rfl, rfl, rfl⟩, fun q hq => ⟨rfl, h q hq⟩, fun _ _ => rfl, fun _ _ => ⟨rfl, rfl⟩⟩
theorem fr_Place {k : Nat} {m : MSt} (T : IA) (h : ∀ q, ¬ in3 k q → T q = mPlace m q) : Fr k m (mPlace_s m T) := ⟨rfl, fun _ _ => ⟨rfl, rfl, rfl, rfl, rfl, rfl⟩, fun _ _ => ⟨rfl, rfl⟩, h, fun _ _ => ⟨rfl, rfl⟩⟩
theorem fr_Waits {k : Nat} {m : MSt} (T : IA) (h : ∀ q, ¬ in120 k q → T q = mWaits m q) : Fr k m (mWaits_s m T) := ⟨rfl, fun _ _ => ⟨rfl, rfl, rfl, rfl, rfl, rfl⟩, fun _ _ => ⟨rfl, rfl⟩, fun _ _ => rfl, fun q hq => ⟨h q hq, rfl⟩⟩
theorem fr_Since {k : Nat} {m : MSt} (T : IA) (h : ∀ q, ¬ in120 k q → T q = mSince m q) : Fr k m (mSince_s m T) := ⟨rfl, fun _ _ => ⟨rfl, rfl, rfl, rfl, rfl, rfl⟩, fun _ _ => ⟨rfl, rfl⟩, fun _ _ => rfl, fun q hq => ⟨rfl, h q hq⟩⟩
theorem MR.fr {k j : Nat} {m y : MSt} {c : CK} {f : FK} (h : MR m j c f) (g : Fr k m y) (hj : j ≠ k) : MR y j c f := by
  obtain ⟨g1, g2, g3, g4, g5⟩ := g
  obtain ⟨b1, b2, b3, b4, b5, b6⟩ := g2 j hj
  obtain ⟨h1, h2⟩ := h
  refine ⟨b1.trans h1, fun h0 => ?_⟩
  obtain ⟨e1, e2, e3, ⟨e4, e5, e6⟩, e7⟩ := h2 h0
  refine ⟨b2.trans e1, b3.trans e2, b5.trans e3, ⟨b4.trans e4, e5, fun i hi => ?_⟩, fun hT => ?_⟩
  · have := g3 (40 * j + i) (by unfold inK; omega)
    rw [this.1, this.2]; exact e6 i hi
  · obtain ⟨e8, e9⟩ := e7 hT
    refine ⟨fun q hq => (g4 (3 * j + q) (by unfold in3; omega)).trans (e8 q hq), fun i hi => ?_⟩
    have := g5 (120 * j + i) (by unfold in120; omega)
    rw [this.1, this.2]; exact e9 i hi
/-- what a change of a key's list leaves as it is -/
def Sam (k : Nat) (m y : MSt) : Prop := mType y k = mType m k ∧ mEnd y k = mEnd m k ∧ mForm y k = mForm m k ∧ mBuckets y k = mBuckets m k ∧ mMadeAt y k = mMadeAt m k ∧ mPlace y = mPlace m ∧ mWaits y = mWaits m ∧ mSince y = mSince m
theorem Sam.trans {k : Nat} {m y z : MSt} (h : Sam k m y) (g : Sam k y z) : Sam k m z := by
  obtain ⟨h1, h2, h3, h4, h5, h6, h7, h8⟩ := h
  obtain ⟨g1, g2, g3, g4, g5, g6, g7, g8⟩ := g
  exact ⟨g1.trans h1, g2.trans h2, g3.trans h3, g4.trans h4, g5.trans h5, g6.trans h6, g7.trans h7, g8.trans h8⟩
theorem sam_V {k : Nat} {m : MSt} {T : IA} : Sam k m (mValues_s m T) := ⟨rfl, rfl, rfl, rfl, rfl, rfl, rfl, rfl⟩
theorem sam_B {k : Nat} {m : MSt} {T : IA} : Sam k m (mBits_s m T) := ⟨rfl, rfl, rfl, rfl, rfl, rfl, rfl, rfl⟩
theorem sam_S {k : Nat} {m : MSt} {T : IA} : Sam k m (mSize_s m T) := ⟨rfl, rfl, rfl, rfl, rfl, rfl, rfl, rfl⟩
theorem g1_BV {m : MSt} {V : IA} : mBits (mValues_s m V) = mBits m := rfl
theorem g1_SB {m : MSt} {V : IA} : mSize (mBits_s m V) = mSize m := rfl
theorem g1_SV {m : MSt} {V : IA} : mSize (mValues_s m V) = mSize m := rfl
theorem Put.fr {k : Nat} {m y : MSt} (h : Put k m y) : Fr k m y ∧ Sam k m y := by
  obtain ⟨V, B, S, rfl, h1, h2⟩ := h
  have a := fr_Values (m := m) (k := k) V (fun q hq => (h1 q hq).1)
  have b := fr_Bits (m := mValues_s m V) (k := k) B (fun q hq => by rw [g1_BV]; exact (h1 q hq).2)
  have c := fr_Size (m := mBits_s (mValues_s m V) B) (k := k) S (fun j hj => by rw [g1_SB, g1_SV]; exact h2 j hj)
  exact ⟨(a.trans b).trans c, (sam_V.trans sam_B).trans sam_S⟩
theorem mod_isThere {m : MSt} {k : Nat} {c : CK} {f : FK} (hk : k < 16) (h : MR m k c f) : fX8_isThere m (nI k) = some (b2i (thC c (mNow m))) := by
  obtain ⟨h1, h2⟩ := h
  unfold fX8_isThere thC
  rw [inb_nI hk (by omega), chk_r, nI_clamp (by omega), h1, chk_r]
  by_cases h0 : cT c = 0
  · rw [if_pos h0, decide_eq_false (fun q => q h0)]; rfl
  · obtain ⟨h5, -⟩ := h2 h0
    rw [if_neg h0, h5, decide_eq_true h0, chk_r]
    by_cases h6 : cE c = -1
    · rw [if_pos h6, decide_eq_true h6]; rfl
    · rw [if_neg h6, decide_eq_false h6]
      by_cases h7 : cE c ≤ mNow m
      · rw [if_pos h7, decide_eq_false (fun q => absurd h7 (i32_nle.mpr q))]; rfl
      · rw [if_neg h7, decide_eq_true (i32_nle.mp h7)]; rfl
def tyN (c : CK) (now : Int32) : Int32 := if thC c now = true then cT c else 0
theorem mod_typeNow {m : MSt} {k : Nat} {c : CK} {f : FK} (hk : k < 16) (h : MR m k c f) : fX8_typeNow m (nI k) = some (tyN c (mNow m)) := by
  unfold fX8_typeNow tyN
  rw [mod_isThere hk h, Option.bind_some, inb_nI hk (by omega), chk_r, nI_clamp (by omega), h.1]
  cases thC c (mNow m)
  · rw [if_pos (by decide), if_neg (by decide)]
  · rw [if_neg (by decide), if_pos rfl]
theorem mod_makes {m : MSt} {k : Nat} {c : CK} {f : FK} {t : Int32} (hk : k < 16) (h : MR m k c f) (ht : t ≠ 0) :
    ∃ y, fX8_makes m (nI k) t = some y ∧ Fr k m y ∧ MR y k (mkC t c (mNow m)) (mkF c f (mNow m)) ∧ mMadeAt y k = if thC c (mNow m) = true then mMadeAt m k else mWriting m := by
  unfold fX8_makes mkC mkF
  rw [mod_isThere hk h, Option.bind_some]
  by_cases e : thC c (mNow m) = true
  · rw [e, if_neg (by decide)]
    exact ⟨m, rfl, Fr.refl k m, h, rfl⟩
  · have e' : thC c (mNow m) = false := by simpa using e
    rw [e', if_pos (by decide)]
    have hin : inb (nI k) 16 = true := inb_nI hk (by omega)
    have hcl : (nI k).toNatClampNeg = k := nI_clamp (by omega)
    rw [hin, hcl, chk_r, keep_r, chk_r]
    obtain ⟨z1, q1⟩ : ∃ z, z = mType_s m (upd (mType m) k t) := ⟨_, rfl⟩
    rw [← q1, keep_r, chk_r]
    have r1 : Fr k m z1 := by rw [q1]; exact fr_Type _ (fun j hj => upd_o hj)
    have t1 : mType z1 k = t := by rw [q1]; exact upd_s
    have w1 : mWriting z1 = mWriting m := by rw [q1]; rfl
    clear q1
    obtain ⟨z2, q2⟩ : ∃ z, z = mEnd_s z1 (upd (mEnd z1) k (-1)) := ⟨_, rfl⟩
    rw [← q2, keep_r, chk_r]
    have r2 : Fr k m z2 := by rw [q2]; exact r1.trans (fr_End _ (fun j hj => upd_o hj))
    have t2 : mType z2 k = t := by rw [q2]; exact t1
    have e2 : mEnd z2 k = -1 := by rw [q2]; exact upd_s
    have w2 : mWriting z2 = mWriting m := by rw [q2]; exact w1
    clear q2 t1 w1 r1
    obtain ⟨z3, q3⟩ : ∃ z, z = mForm_s z2 (upd (mForm z2) k 1) := ⟨_, rfl⟩
    rw [← q3, keep_r, chk_r]
    have r3 : Fr k m z3 := by rw [q3]; exact r2.trans (fr_Form _ (fun j hj => upd_o hj))
    have t3 : mType z3 k = t := by rw [q3]; exact t2
    have e3 : mEnd z3 k = -1 := by rw [q3]; exact e2
    have f3 : mForm z3 k = 1 := by rw [q3]; exact upd_s
    have w3 : mWriting z3 = mWriting m := by rw [q3]; exact w2
    clear q3 t2 w2 r2 e2
    obtain ⟨z4, q4⟩ : ∃ z, z = mSize_s z3 (upd (mSize z3) k 0) := ⟨_, rfl⟩
    rw [← q4, keep_r, chk_r]
    have r4 : Fr k m z4 := by rw [q4]; exact r3.trans (fr_Size _ (fun j hj => upd_o hj))
    have t4 : mType z4 k = t := by rw [q4]; exact t3
    have e4 : mEnd z4 k = -1 := by rw [q4]; exact e3
    have f4 : mForm z4 k = 1 := by rw [q4]; exact f3
    have s4 : mSize z4 k = 0 := by rw [q4]; exact upd_s
    have w4 : mWriting z4 = mWriting m := by rw [q4]; exact w3
    clear q4 t3 w3 r3 e3 f3
    obtain ⟨z5, q5⟩ : ∃ z, z = mBuckets_s z4 (upd (mBuckets z4) k 16) := ⟨_, rfl⟩
    rw [← q5]
    simp only [keep_r, chk_r]
    have r5 : Fr k m z5 := by rw [q5]; exact r4.trans (fr_Buckets _ (fun j hj => upd_o hj))
    have t5 : mType z5 k = t := by rw [q5]; exact t4
    have e5 : mEnd z5 k = -1 := by rw [q5]; exact e4
    have f5 : mForm z5 k = 1 := by rw [q5]; exact f4
    have s5 : mSize z5 k = 0 := by rw [q5]; exact s4
    have b5 : mBuckets z5 k = 16 := by rw [q5]; exact upd_s
    have w5 : mWriting z5 = mWriting m := by rw [q5]; exact w4
    clear q5 t4 w4 r4 e4 f4 s4
    obtain ⟨m1, q6⟩ : ∃ z, z = mMadeAt_s z5 (upd (mMadeAt z5) k (mWriting z5)) := ⟨_, rfl⟩
    rw [← q6]
    have hfr : Fr k m m1 := by rw [q6]; exact r5.trans (fr_MadeAt _ (fun j hj => upd_o hj))
    have f1 : mType m1 k = t := by rw [q6]; exact t5
    have f2 : mEnd m1 k = -1 := by rw [q6]; exact e5
    have f3 : mForm m1 k = 1 := by rw [q6]; exact f5
    have f4 : mSize m1 k = 0 := by rw [q6]; exact s5
    have f5 : mBuckets m1 k = 16 := by rw [q6]; exact b5
    have f6 : mMadeAt m1 k = mWriting m := by rw [q6, ← w5]; exact upd_s
    clear q6 t5 w5 r5 e5 s5 b5
    show Ok _ _
    refine ok_iter (fun n s => ∃ i P, n = 3 - i ∧ i ≤ 3 ∧ s = (mPlace_s m1 P, nI i) ∧ (∀ q, ¬ in3 k q → P q = mPlace m1 q) ∧ ∀ g, g < i → P (3 * k + g) = 0) _ ?_ FU 3 _ ⟨0, mPlace m1, rfl, by omega, rfl, fun _ _ => rfl, fun g hg => by omega⟩ (by unfold FU; omega)
    rintro n s rec ⟨i, P, hn, hi, rfl, hP1, hP2⟩ hrec
    unfold fX8_makes_56
    dsimp only
    rw [d3, pk_mul, nI_add]
    by_cases hi3 : 3 ≤ i
    · rw [if_pos (nI_le hi3 (by omega)), ok_keep, d120, pk_mul]
      have : i = 3 := by omega
      subst this
      refine ok_iter (fun n s => ∃ i W, n = 120 - i ∧ i ≤ 120 ∧ s = (mWaits_s (mPlace_s m1 P) W, nI (120 * k + i)) ∧ (∀ q, ¬ in120 k q → W q = mWaits m1 q) ∧ ∀ g, g < i → W (120 * k + g) = 0) _ ?_ FU 120 _ ⟨0, mWaits m1, rfl, by omega, rfl, fun _ _ => rfl, fun g hg => by omega⟩ (by unfold FU; omega)
      rintro n s rec ⟨i, W, hn, hi, rfl, hW1, hW2⟩ hrec
      unfold fX8_makes_83
      dsimp only
      rw [nI_1, d120, pk_mul]
      by_cases hi120 : 120 ≤ i
      · rw [if_pos (nI_le (by omega) (by omega)), ok_some]
        refine ⟨?_, ⟨f1, fun _ => ⟨f2, f3, f5, ⟨f4, Nat.zero_le _, fun i hi => absurd hi (Nat.not_lt_zero i)⟩, fun _ => ⟨fun g hg => hP2 g hg, fun i hi => hW2 i (by omega)⟩⟩⟩, f6⟩
        exact (hfr.trans (fr_Place P hP1)).trans (fr_Waits W hW1)
      · rw [if_neg (nI_ge (by omega) (by omega)), inb_nI (by omega) (by omega), chk_r, ok_keep, ok_keep, nI_clamp (by omega), nI_1]
        refine hrec (120 - (i + 1)) _ (by omega) ⟨i + 1, upd W (120 * k + i) 0, rfl, by omega, rfl, fun q hq => ?_, fun g hg => ?_⟩
        · unfold in120 at hq
          rw [upd_o (by omega)]; exact hW1 q (by unfold in120; omega)
        · by_cases e : g = i
          · subst e; exact upd_s
          · rw [upd_o (by omega)]; exact hW2 g (by omega)
    · rw [if_neg (nI_ge (by omega) (by omega)), inb_nI (by omega) (by omega), chk_r, ok_keep, ok_keep, nI_clamp (by omega), nI_1]
      refine hrec (3 - (i + 1)) _ (by omega) ⟨i + 1, upd P (3 * k + i) 0, rfl, by omega, rfl, fun q hq => ?_, fun g hg => ?_⟩
      · unfold in3 at hq
        rw [upd_o (by omega)]; exact hP1 q (by unfold in3; omega)
      · by_cases e : g = i
        · subst e; exact upd_s
        · rw [upd_o (by omega)]; exact hP2 g (by omega)
theorem mod_grows {m : MSt} {k : Nat} (hk : k < 16) (b : Int32) : fX8_grows m (nI k) b = some (mForm_s m (upd (mForm m) k (if b = 0 then mForm m k else 2))) := by
  unfold fX8_grows fX8_grows_19
  rw [inb_nI hk (by omega), chk_r, chk_r, keep_r, keep_r, nI_clamp (by omega)]
  split <;> rfl
theorem mr_put {y z : MSt} {k : Nat} {c : CK} {f : FK} {L : LL} (h : MR y k c f) (h0 : cT c ≠ 0) (hp : Put k y z) (hl : ML z k L) (g : Int32) :
    MR (mForm_s z (upd (mForm z) k g)) k (setL c L) (g, f.2) ∧ Fr k y (mForm_s z (upd (mForm z) k g)) ∧ mMadeAt (mForm_s z (upd (mForm z) k g)) k = mMadeAt y k ∧ mForm z k = f.1 := by
  obtain ⟨h1, h2⟩ := h
  obtain ⟨e1, e2, e3, e4, e5⟩ := h2 h0
  obtain ⟨p1, p2, p3, p4, p5, p6, p7, p8, p9⟩ := hp.fr
  refine ⟨⟨p2.trans h1, fun _ => ⟨p3.trans e1, upd_s, p5.trans e3, hl, fun hT => ?_⟩⟩, p1.trans (fr_Form _ (fun j hj => upd_o hj)), p6, p4.trans e2⟩
  obtain ⟨g1, g2⟩ := e5 hT
  refine ⟨fun q hq => ?_, fun i hi => ?_⟩
  · show mPlace z (3 * k + q) = _
    rw [p7]; exact g1 q hq
  · show mWS (mWaits z (120 * k + i)) (mSince z (120 * k + i)) _
    rw [p8, p9]; exact g2 i hi
/-- what a command does to the reference -/
def MoP (k : Nat) (m y : MSt) (c : CK) (f : FK) (mk : Bool) : Prop := Fr k m y ∧ MR y k c f ∧ mMadeAt y k = if mk = true then mWriting m else mMadeAt m k
theorem not_mk {α : Type} {b : Bool} {x y : α} : (if b = true then x else y) = if (!b) = true then y else x := by cases b <;> rfl
theorem MR.ml {m : MSt} {k : Nat} {c : CK} {f : FK} (h : MR m k c f) (h0 : cT c ≠ 0) : ML m k (cL c) := (h.2 h0).2.2.2.1
theorem mod_pushes {m : MSt} {k : Nat} {c : CK} {f : FK} (hk : k < 16) (h : MR m k c f) {a b : Int32} (hok : thC c (mNow m) = true → cT c = 1 ∧ (cL c).length < 40) :
    ∃ y, fX8_pushes m (nI k) a b = some (y, nI (cL (pshC a b (mNow m) c)).length) ∧ MoP k m y (pshC a b (mNow m) c) (pshF a (mNow m) c f) (!thC c (mNow m)) := by
  obtain ⟨y, y1, y2, y3, y4⟩ := mod_makes hk h (t := 1) (by decide)
  have hT := mkC_T (t := 1) (fun q => (hok q).1)
  have hl : (cL (mkC 1 c (mNow m))).length < 40 := mkC_L (P := fun L => L.length < 40) (fun q => (hok q).2) (by decide)
  have h0 : cT (mkC 1 c (mNow m)) ≠ 0 := by rw [hT]; decide
  have hML := y3.ml h0
  unfold fX8_pushes pshC pshF
  rw [y1, Option.bind_some, keep_r, inb_nI hk (by omega), chk_r, nI_clamp (by omega), hML.1]
  generalize mkC 1 c (mNow m) = c1 at *
  generalize mkF c f (mNow m) = f1 at *
  have step : ∀ i, i ≤ (cL c1).length → ∃ z, fX8_pushes_22 y (nI k) a (nI i) (nI k) = some (z, nI ((cL c1).length + 1)) ∧ MoP k m z (setL c1 ((cL c1).insertIdx i (a, 0))) (if 8 < (cL c1).length + 1 ∨ 255 < a then 2 else f1.1, f1.2) (!thC c (mNow m)) := fun i hi => by
    obtain ⟨z, z1, z2, z3⟩ := mod_putsIn hk hML hi hl a 0
    have hlen : ((cL c1).insertIdx i (a, 0)).length = (cL c1).length + 1 := by rw [List.length_insertIdx, if_pos hi]
    have fin : ∀ g : Int32, ∃ w, fX8_pushes_52 z (nI k) g (nI k) = some (w, nI ((cL c1).length + 1)) ∧ MoP k m w (setL c1 ((cL c1).insertIdx i (a, 0))) (if g = 0 then f1.1 else 2, f1.2) (!thC c (mNow m)) := fun g => by
      obtain ⟨w1, w2, w3, w4⟩ := mr_put y3 h0 z3 z2 (if g = 0 then mForm z k else 2)
      unfold fX8_pushes_52
      rw [mod_grows hk, Option.bind_some, keep_r, inb_nI hk (by omega), chk_r, nI_clamp (by omega), show mSize (mForm_s z (upd (mForm z) k (if g = 0 then mForm z k else 2))) k = mSize z k from rfl, z2.1, hlen]
      rw [w4] at w1 w2 w3 ⊢
      refine ⟨_, rfl, y2.trans w2, w1, w3.trans (y4.trans not_mk)⟩
    have c1n : ¬ (1 : Int32) = 0 := by decide
    unfold fX8_pushes_22 fX8_pushes_47
    rw [z1, Option.bind_some, keep_r, inb_nI hk (by omega), chk_r, nI_clamp (by omega), z2.1, hlen, d8]
    by_cases e1 : 8 < (cL c1).length + 1
    · rw [if_pos (nI_lt e1 (by omega)), if_pos (Or.inl e1)]
      have := fin 1
      rwa [if_neg c1n] at this
    · rw [if_neg (nI_nlt (by omega) (by omega))]
      by_cases e2 : a ≤ 255
      · rw [if_pos e2, if_neg (by
          intro q
          rcases q with q | q
          · exact e1 q
          · exact absurd e2 (i32_nle.mpr q))]
        have := fin 0
        rwa [if_pos rfl] at this
      · rw [if_neg e2, if_pos (Or.inr (i32_nle.mp e2))]
        have := fin 1
        rwa [if_neg c1n] at this
  have hlen : ∀ i, i ≤ (cL c1).length → (cL (setL c1 ((cL c1).insertIdx i (a, 0)))).length = (cL c1).length + 1 := fun i hi => by
    show ((cL c1).insertIdx i (a, 0)).length = _
    rw [List.length_insertIdx, if_pos hi]
  by_cases hb : b = 0
  · rw [if_pos hb, if_pos hb, hlen 0 (Nat.zero_le _)]
    exact step 0 (Nat.zero_le _)
  · rw [if_neg hb, if_neg hb, hlen _ (Nat.le_refl _)]
    exact step _ (Nat.le_refl _)
