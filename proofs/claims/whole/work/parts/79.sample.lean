/-! sample -/
abbrev SmT : Type := CC × Nat × Nat × Nat
def smp (now : Int32) (many start : Nat) : Nat → SmT → SmT
  | 0, st => st
  | n + 1, (cc, ls, s, d) => if many ≤ s then (cc, ls, s, d) else
    if cT (cc ((start + (15 - n)) % 16)) = 0 ∨ cE (cc ((start + (15 - n)) % 16)) = -1 then smp now many start n (cc, ls, s, d) else
    if thC (cc ((start + (15 - n)) % 16)) now = true then smp now many start n (cc, (start + (15 - n)) % 16, s + 1, d) else smp now many start n (upN cc ((start + (15 - n)) % 16) (rmC (cc ((start + (15 - n)) % 16))), (start + (15 - n)) % 16, s + 1, d + 1)
def SmA (now : Int32) (c0 c1 : CC) : Prop := ∀ k, c1 k = c0 k ∨ (c1 k = rmC (c0 k) ∧ thC (c0 k) now = false)
theorem vw_rm {now : Int32} {c : CK} (h : thC c now = false) : vw now (rmC c) = vw now c := by
  unfold vw
  rw [if_neg (th_T0 rfl), if_neg (by rw [h]; decide)]
theorem SmA.view {now : Int32} {c0 c1 : CC} (h : SmA now c0 c1) (k : Nat) : vw now (c0 k) = vw now (c1 k) := by
  rcases h k with e | ⟨e, g⟩
  · rw [e]
  · rw [e, vw_rm g]
/-- the class, some keys no more held -/
def ClS (x y : SSt) (cc : CC) (ff : Nat → FK) (ls : Nat) : Prop := sRar y = sRar x ∧ sKtw y = sKtw x ∧ sClk y = sClk x ∧ sLvi y = sLvi x ∧ sLog y = sLog x ∧ sNew y = sNew x ∧ sLs y = nI ls ∧ (∀ k, k < 16 → VR (sV y k) (cc k) (ff k) ∧ vlId (sV y k) = vlId (sV x k))
theorem cls_sample {x : SSt} {cc : CC} {ff : Nat → FK} {t ls many : Nat} (hK : ∀ k, k < 16 → VR (sV x k) (cc k) (ff k)) (hclk : sClk x = nI t) (hls : sLs x = nI ls) (hl16 : ls < 16) (hm : many ≤ 16) {cc' : CC} {ls' s' d' : Nat} (hR : smp (nI t) many (ls + 1) 16 (cc, ls, 0, 0) = (cc', ls', s', d')) :
    ∃ y, iterK FU (fX7_sample_22 (nI many) (nI (ls + 1))) (x, 0, 0, 0) = some (y, .inl (nI d')) ∧ ClS x y cc' ff ls' := by
  have key : Ok (iterK FU (fX7_sample_22 (nI many) (nI (ls + 1))) (x, 0, 0, 0)) (fun r => r.2 = .inl (nI d') ∧ ClS x r.1 cc' ff ls') := by
    refine ok_iter (fun n st => ∃ c1 l1 s1 d1, n ≤ 16 ∧ st.2 = (nI s1, nI d1, nI (16 - n)) ∧ s1 ≤ 16 - n ∧ d1 ≤ 16 - n ∧ ClS x st.1 c1 ff l1 ∧ smp (nI t) many (ls + 1) n (c1, l1, s1, d1) = (cc', ls', s', d')) _ ?_ FU 16 _ ⟨cc, ls, 0, 0, Nat.le_refl _, rfl, by omega, by omega, ⟨rfl, rfl, rfl, rfl, rfl, rfl, hls, fun k hk => ⟨hK k hk, rfl⟩⟩, hR⟩ (by unfold FU; omega)
    rintro n ⟨z, st⟩ rec ⟨c1, l1, s1, d1, hn, he, hs, hd, hz, hsm⟩ hrec
    dsimp only at he hz
    subst he
    obtain ⟨a1, a2, a3, a4, a5, a6, a7, a8⟩ := id hz
    unfold fX7_sample_22
    dsimp only
    rw [d16]
    cases n with
    | zero =>
      rw [if_pos (nI_le (by omega) (by omega)), ok_some]
      have e := hsm
      unfold smp at e
      cases e
      exact ⟨rfl, hz⟩
    | succ n =>
      rw [if_neg (nI_ge (by omega) (by omega))]
      unfold smp at hsm
      by_cases e1 : many ≤ s1
      · rw [if_pos e1] at hsm
        cases hsm
        rw [if_pos (nI_le e1 (by omega)), ok_some]
        exact ⟨rfl, hz⟩
      · rw [if_neg e1] at hsm
        rw [if_neg (nI_ge (by omega) (by omega)), nI_add, pk_rem (by omega) (by omega) (by omega), keep_r, show ls + 1 + (16 - (n + 1)) = ls + 1 + (15 - n) by omega]
        have hkey : (ls + 1 + (15 - n)) % 16 < 16 := Nat.mod_lt _ (by omega)
        generalize (ls + 1 + (15 - n)) % 16 = key at *
        rw [inb_nI hkey (by omega), chk_r, nI_clamp (show key < 2 ^ 31 by omega)]
        obtain ⟨v1, v2⟩ := a8 key hkey
        obtain ⟨w1, w2, w3, w4⟩ := id v1
        have nx : nI (16 - (n + 1)) + 1 = nI (16 - n) := by rw [nI_1]; congr 1; omega
        rw [nx]
        by_cases e2 : cT (c1 key) = 0
        · rw [if_pos (Or.inl e2)] at hsm
          rw [if_pos (w3.mp e2), ok_keep]
          exact hrec n _ (by omega) ⟨c1, l1, s1, d1, by omega, rfl, by omega, by omega, hz, hsm⟩
        · rw [if_neg (fun q => e2 (w3.mpr q))]
          obtain ⟨u1, u2, u3⟩ := w4 e2
          rw [u1]
          by_cases e3 : cE (c1 key) = -1
          · rw [if_pos (Or.inr e3)] at hsm
            rw [if_pos e3, ok_keep]
            exact hrec n _ (by omega) ⟨c1, l1, s1, d1, by omega, rfl, by omega, by omega, hz, hsm⟩
          · rw [if_neg (by rintro (q | q); exact e2 q; exact e3 q)] at hsm
            rw [if_neg e3, ok_keep, ok_keep, show sV (sLs_s z (nI key)) = sV z from rfl, show sClk (sLs_s z (nI key)) = sClk z from rfl, a3, hclk, val_isThere v1, Option.bind_some]
            by_cases e4 : thC (c1 key) (nI t) = true
            · rw [if_pos e4] at hsm
              rw [e4, if_neg (show ¬ b2i true = 0 by decide), ok_keep]
              exact hrec n _ (by omega) ⟨c1, key, s1 + 1, d1, by omega, (by show (nI s1 + 1, nI d1, nI (16 - n)) = _; rw [nI_1]), by omega, by omega, ⟨a1, a2, a3, a4, a5, a6, rfl, a8⟩, hsm⟩
            · have e4' : thC (c1 key) (nI t) = false := by simpa using e4
              rw [if_neg e4] at hsm
              rw [e4', if_pos (show b2i false = 0 by decide), ok_keep, ok_keep, ok_keep]
              refine hrec n _ (by omega) ⟨_, key, s1 + 1, d1 + 1, by omega, (by show (nI s1 + 1, nI d1 + 1, nI (16 - n)) = _; rw [nI_1, nI_1]), by omega, by omega, ⟨a1, a2, a3, a4, a5, a6, rfl, fun k hk => ?_⟩, hsm⟩
              show VR (vup (sV z) key (vlHeld_s (sV z key) 0) k) _ _ ∧ vlId (vup (sV z) key (vlHeld_s (sV z key) 0) k) = _
              by_cases e5 : k = key
              · subst e5
                rw [vup_s, upN_s]
                exact ⟨⟨w1, Or.inl rfl, ⟨fun _ => rfl, fun _ => rfl⟩, fun q => absurd rfl q⟩, v2⟩
              · rw [vup_o e5, upN_o e5]; exact a8 k hk
  obtain ⟨⟨y, r⟩, y1, y2, y3⟩ := key
  dsimp only at y2 y3
  subst y2
  exact ⟨y, y1, y3⟩
/-- the reference, all but the types and which key was sampled -/
def MSq (m y : MSt) : Prop := (mEnd y = mEnd m ∧ mForm y = mForm m ∧ mSize y = mSize m ∧ mBuckets y = mBuckets m ∧ mValues y = mValues m ∧ mBits y = mBits m ∧ mMadeAt y = mMadeAt m ∧ mPlace y = mPlace m ∧ mWaits y = mWaits m ∧ mSince y = mSince m) ∧ mClock y = mClock m ∧ mNow y = mNow m ∧ mRows y = mRows m ∧ mLog y = mLog m ∧ mIsRewriting y = mIsRewriting m ∧ mToWrite y = mToWrite m ∧ mBegunAt y = mBegunAt m ∧ mNewRows y = mNewRows m ∧ mFresh y = mFresh m ∧ mFreshAt y = mFreshAt m ∧ mThrown y = mThrown m
theorem MSq.refl (m : MSt) : MSq m m := ⟨⟨rfl, rfl, rfl, rfl, rfl, rfl, rfl, rfl, rfl, rfl⟩, rfl, rfl, rfl, rfl, rfl, rfl, rfl, rfl, rfl, rfl, rfl⟩
theorem mq_S {m : MSt} {v : Int32} : MSq m (mSampled_s m v) := ⟨⟨rfl, rfl, rfl, rfl, rfl, rfl, rfl, rfl, rfl, rfl⟩, rfl, rfl, rfl, rfl, rfl, rfl, rfl, rfl, rfl, rfl, rfl⟩
theorem mq_T {m : MSt} {v : IA} : MSq m (mType_s m v) := ⟨⟨rfl, rfl, rfl, rfl, rfl, rfl, rfl, rfl, rfl, rfl⟩, rfl, rfl, rfl, rfl, rfl, rfl, rfl, rfl, rfl, rfl, rfl⟩
theorem MSq.trans {m y z : MSt} (h : MSq m y) (g : MSq y z) : MSq m z := by
  obtain ⟨⟨h2, h3, h4, h5, h6, h7, h8, h9, h10, h11⟩, a1, a2, a3, a4, a5, a6, a7, a8, a9, a10, a11⟩ := h
  obtain ⟨⟨g2, g3, g4, g5, g6, g7, g8, g9, g10, g11⟩, b1, b2, b3, b4, b5, b6, b7, b8, b9, b10, b11⟩ := g
  exact ⟨⟨g2.trans h2, g3.trans h3, g4.trans h4, g5.trans h5, g6.trans h6, g7.trans h7, g8.trans h8, g9.trans h9, g10.trans h10, g11.trans h11⟩, b1.trans a1, b2.trans a2, b3.trans a3, b4.trans a4, b5.trans a5, b6.trans a6, b7.trans a7, b8.trans a8, b9.trans a9, b10.trans a10, b11.trans a11⟩
def MoS (m y : MSt) (cc : CC) (ff : Nat → FK) (ls : Nat) : Prop := MSq m y ∧ mSampled y = nI ls ∧ ∀ k, k < 16 → MR y k (cc k) (ff k)
theorem mod_sample {m : MSt} {cc : CC} {ff : Nat → FK} {t ls many : Nat} (hK : ∀ k, k < 16 → MR m k (cc k) (ff k)) (hnow : mNow m = nI t) (hls : mSampled m = nI ls) (hl16 : ls < 16) (hm : many ≤ 16) {cc' : CC} {ls' s' d' : Nat} (hR : smp (nI t) many (ls + 1) 16 (cc, ls, 0, 0) = (cc', ls', s', d')) :
    ∃ y, iterK FU (fX8_sample_39 (nI (ls + 1))) (m, 0, nI many, 0) = some (y, nI d') ∧ MoS m y cc' ff ls' := by
  have key : Ok (iterK FU (fX8_sample_39 (nI (ls + 1))) (m, 0, nI many, 0)) (fun r => r.2 = nI d' ∧ MoS m r.1 cc' ff ls') := by
    refine ok_iter (fun n st => ∃ c1 l1 s1 d1, n ≤ 16 ∧ st.2 = (nI d1, nI (many - s1), nI (16 - n)) ∧ s1 ≤ 16 - n ∧ s1 ≤ many ∧ d1 ≤ 16 - n ∧ MoS m st.1 c1 ff l1 ∧ smp (nI t) many (ls + 1) n (c1, l1, s1, d1) = (cc', ls', s', d')) _ ?_ FU 16 _ ⟨cc, ls, 0, 0, Nat.le_refl _, rfl, by omega, by omega, by omega, ⟨MSq.refl m, hls, hK⟩, hR⟩ (by unfold FU; omega)
    rintro n ⟨z, st⟩ rec ⟨c1, l1, s1, d1, hn, he, hs, hsm1, hd, hz, hsm⟩ hrec
    dsimp only at he hz
    subst he
    obtain ⟨a1, a2, a3⟩ := id hz
    have anow : mNow z = nI t := a1.2.2.1.trans hnow
    unfold fX8_sample_39
    dsimp only
    rw [d16]
    cases n with
    | zero =>
      rw [if_pos (nI_le (by omega) (by omega)), ok_some]
      have e := hsm
      unfold smp at e
      cases e
      exact ⟨rfl, hz⟩
    | succ n =>
      rw [if_neg (nI_ge (by omega) (by omega))]
      unfold smp at hsm
      by_cases e1 : many ≤ s1
      · rw [if_pos e1] at hsm
        have hz0 : many - s1 = 0 := by omega
        cases hsm
        rw [if_pos (by rw [hz0]; decide), ok_some]
        exact ⟨rfl, hz⟩
      · rw [if_neg e1] at hsm
        rw [if_neg (nI_nle (by omega) (by omega)), nI_add, pk_rem (by omega) (by omega) (by omega), keep_r, show ls + 1 + (16 - (n + 1)) = ls + 1 + (15 - n) by omega]
        have hkey : (ls + 1 + (15 - n)) % 16 < 16 := Nat.mod_lt _ (by omega)
        generalize (ls + 1 + (15 - n)) % 16 = key at *
        have hin : inb (nI key) 16 = true := inb_nI hkey (by omega)
        have hcl : (nI key).toNatClampNeg = key := nI_clamp (by omega)
        rw [hin, chk_r, chk_r, hcl]
        obtain ⟨w1, w2⟩ := id (a3 key hkey)
        have nx : nI (16 - (n + 1)) + 1 = nI (16 - n) := by rw [nI_1]; congr 1; omega
        rw [nx, w1]
        by_cases e2 : cT (c1 key) = 0
        · rw [if_pos (Or.inl e2)] at hsm
          rw [if_pos e2, ok_keep]
          exact hrec n _ (by omega) ⟨c1, l1, s1, d1, by omega, rfl, by omega, by omega, by omega, hz, hsm⟩
        · obtain ⟨u1, u2⟩ := w2 e2
          rw [if_neg e2, u1]
          by_cases e3 : cE (c1 key) = -1
          · rw [if_pos (Or.inr e3)] at hsm
            rw [if_pos e3, ok_keep]
            exact hrec n _ (by omega) ⟨c1, l1, s1, d1, by omega, rfl, by omega, by omega, by omega, hz, hsm⟩
          · rw [if_neg (by rintro (q | q); exact e2 q; exact e3 q)] at hsm
            obtain ⟨y1, hy1⟩ : ∃ y, y = mSampled_s z (nI key) := ⟨_, rfl⟩
            have b0 : KEq z y1 := by rw [hy1]; exact ⟨rfl, rfl, rfl, rfl, rfl, rfl, rfl, rfl, rfl, rfl, rfl⟩
            have b1 : mSampled y1 = nI key := by rw [hy1]; rfl
            have b2 : mNow y1 = nI t := by rw [hy1]; exact anow
            have b4 : MSq m y1 := by rw [hy1]; exact a1.trans mq_S
            rw [if_neg e3, ← hy1, ok_keep, ok_keep, nI_a1 (by omega)]
            have hMy : ∀ k, k < 16 → MR y1 k (c1 k) (ff k) := fun k hk => (a3 k hk).keq b0
            clear hy1
            have hth := mod_isThere hkey (hMy key hkey)
            rw [b2] at hth
            -- the last steps: the type is written
            have fin : ∀ (T : Int32) (c2 : CC) (d2 : Nat), d2 ≤ 16 - n → (∀ k, k < 16 → MR (mType_s y1 (upd (mType y1) key T)) k (c2 k) (ff k)) → smp (nI t) many (ls + 1) n (c2, key, s1 + 1, d2) = (cc', ls', s', d') → Ok (fX8_sample_133 rec y1 (nI d2) (nI (many - s1 - 1)) (nI (ls + 1)) (nI (16 - (n + 1))) T (nI key)) (fun r => r.2 = nI d' ∧ MoS m r.1 cc' ff ls') := fun T c2 d2 hd2 hM hsm2 => by
              unfold fX8_sample_133
              rw [hin, chk_r, ok_keep, ok_keep, hcl, nx]
              refine hrec n _ (by omega) ⟨c2, key, s1 + 1, d2, by omega, ?_, by omega, by omega, hd2, ⟨b4.trans mq_T, b1, hM⟩, hsm2⟩
              show (nI d2, nI (many - s1 - 1), nI (16 - n)) = _
              rw [show many - s1 - 1 = many - (s1 + 1) by omega]
            rw [hth, Option.bind_some]
            unfold fX8_sample_105
            by_cases e4 : thC (c1 key) (nI t) = true
            · rw [if_pos e4] at hsm
              rw [e4, if_neg (show ¬ b2i true = 0 by decide), ok_keep, hth, e4, Option.bind_some, if_neg (show ¬ b2i true = 0 by decide), hin, chk_r, hcl, show (0 : Int32) = nI 0 from rfl, nI_add]
              refine fin _ c1 (d1 + 0) (by omega) (fun k hk => ?_) hsm
              have : upd (mType y1) key (mType y1 key) = mType y1 := by
                funext j
                by_cases e5 : j = key
                · rw [e5, upd_s]
                · exact upd_o e5
              rw [this]
              exact hMy k hk
            · have e4' : thC (c1 key) (nI t) = false := by simpa using e4
              rw [if_neg e4] at hsm
              rw [e4', if_pos (show b2i false = 0 by decide), ok_keep, hth, e4', Option.bind_some, if_pos (show b2i false = 0 by decide), nI_1]
              refine fin 0 _ (d1 + 1) (by omega) (fun k hk => ?_) hsm
              by_cases e5 : k = key
              · subst e5
                rw [upN_s]
                exact ⟨upd_s, fun q => absurd rfl q⟩
              · rw [upN_o e5]
                exact (hMy k hk).fr (fr_Type _ (fun j hj => upd_o hj)) e5
  obtain ⟨⟨y, r⟩, y1, y2, y3⟩ := key
  dsimp only at y2 y3
  subst y2
  exact ⟨y, y1, y3⟩
theorem smp_al {now : Int32} {many start : Nat} : ∀ (n : Nat) (cc : CC) (ls s d : Nat) (cc' : CC) (ls' s' d' : Nat), ls < 16 → smp now many start n (cc, ls, s, d) = (cc', ls', s', d') → SmA now cc cc' ∧ ls' < 16 := by
  intro n
  induction n with
  | zero =>
    intro cc ls s d cc' ls' s' d' hl h
    unfold smp at h
    cases h
    exact ⟨fun k => Or.inl rfl, hl⟩
  | succ n ih =>
    intro cc ls s d cc' ls' s' d' hl h
    unfold smp at h
    have hkey : (start + (15 - n)) % 16 < 16 := Nat.mod_lt _ (by omega)
    generalize (start + (15 - n)) % 16 = key at *
    split at h
    · cases h; exact ⟨fun k => Or.inl rfl, hl⟩
    · split at h
      · exact ih _ _ _ _ _ _ _ _ hl h
      · split at h
        · exact ih _ _ _ _ _ _ _ _ hkey h
        · rename_i e1 e2 e3
          obtain ⟨g1, g2⟩ := ih _ _ _ _ _ _ _ _ hkey h
          refine ⟨fun k => ?_, g2⟩
          by_cases e5 : k = key
          · subst e5
            have ht : thC (cc k) now = false := by simpa using e3
            rcases g1 k with q | ⟨q, -⟩
            · rw [upN_s] at q; exact Or.inr ⟨q, ht⟩
            · rw [upN_s] at q; exact Or.inr ⟨q.trans rfl, ht⟩
          · have := g1 k
            rw [upN_o e5] at this
            exact this
theorem mod_sa16 {m : MSt} {p1 u : Int32} (h : u ≠ 0) : fX8_sample_16 m p1 u = some (mThrown_s m u, 0) := by
  unfold fX8_sample_16
  rw [can_eq, Option.bind_some, keep_r]
  dsimp only
  rw [if_neg h, if_pos rfl]
theorem sim_sample {x : SSt} {m : MSt} {t : Nat} {cc : CC} {ff : Nat → FK} {E : EL} {Mf idf : Nat → Nat} {lvi : Nat} (h : IV x m t cc ff E Mf idf lvi) (p1 : Int32) :
    ∃ y res z b, fX7_sample x p1 = some (y, res) ∧ fX8_sample m p1 = some (z, b) ∧ IVx y z (lvi + 1) ∧ Agr [1] mpC res z b := by
  obtain ⟨⟨h1, h2, h3, h4, h5, h6, h7, h8, h9, h10, h11, h12, h13⟩, hrw⟩ := id h
  unfold fX7_sample fX8_sample
  by_cases hW : p1 < 1 ∨ (16 : Int32) < p1
  · rw [(within_out hW).1, Option.bind_some, thrR, (within_out hW).2, Option.bind_some, if_pos rfl, mod_sa16 (by decide)]
    exact ⟨x, .inr 1, mThrown_s m 1, 0, rfl, rfl, ⟨t, cc, ff, E, Mf, idf, lvi, Nat.le_succ _, iv_seq h seq_Thrown⟩, fun v q => (by cases q), fun j q => by cases q; exact ⟨by decide, rfl⟩⟩
  · rw [(within_in hW).1, Option.bind_some, thrL, (within_in hW).2, Option.bind_some, if_neg (show ¬ (1 : Int32) = 0 by decide), keep_r]
    obtain ⟨many, hm, rfl⟩ : ∃ n, n < 17 ∧ p1 = nI n := by
      have h0 : ¬ p1 < 0 := fun q => hW (Or.inl (Int32.lt_trans q (by decide)))
      exact (wi_N (b := 16) (by omega)).mp (fun q => by
        rcases q with q | q
        · exact h0 q
        · exact hW (Or.inr q))
    obtain ⟨l1, l2⟩ := isN_cl h6 (by omega)
    generalize cl (sLs x) = ls at *
    obtain ⟨m0, hm0⟩ : ∃ z, z = mThrown_s m 0 := ⟨_, rfl⟩
    have hI0 : IV x m0 t cc ff E Mf idf lvi := by rw [hm0]; exact iv_seq h seq_Thrown
    have hth : mThrown m0 = 0 := by rw [hm0]; rfl
    obtain ⟨⟨i1, i2, i3, i4, i5, i6, i7, i8, i9, i10, i11, i12, i13⟩, irw⟩ := hI0
    obtain ⟨cc', ls', s', d', hR⟩ : ∃ cc' ls' s' d', smp (nI t) many (ls + 1) 16 (cc, ls, 0, 0) = (cc', ls', s', d') := ⟨_, _, _, _, rfl⟩
    obtain ⟨hAL, hl'⟩ := smp_al 16 cc ls 0 0 cc' ls' s' d' l2 hR
    obtain ⟨y, y1, y2, y3, y4, y5, y6, y7, y8, y9⟩ := cls_sample (fun k hk => (i7 k hk).1) i2 l1 l2 (by omega) hR
    obtain ⟨z, z1, z2, z3, z4⟩ := mod_sample (fun k hk => (i7 k hk).2.1) i4 (i5.trans l1) l2 (by omega) hR
    unfold fX8_sample_16
    rw [can_eq, Option.bind_some, keep_r]
    dsimp only
    rw [if_pos rfl, if_neg (by decide), ← hm0, i5, l1, nI_1, y1, keep_r, z1]
    obtain ⟨⟨e2, e3, e4, e5, e6, e7, e8, e9, e10, e11⟩, f1, f2, f4, f5, f6, f7, f8, f9, f10, f11, z5⟩ := z2
    have ql : ∀ {E' : EL} {M' : Nat → Nat}, LI E' M' idf (nI t) cc lvi → LI E' M' idf (nI t) cc' lvi := fun q => ⟨fun k hk => (q.1 k hk).view (hAL.view k), q.2⟩
    have str : ∀ k, thC (cc' k) (nI t) = true → cc' k = cc k := fun k a => by
      rcases hAL k with e | ⟨e, g⟩
      · exact e
      · rw [e] at a; exact absurd a (th_T0 rfl)
    refine ⟨y, .inl (nI d'), z, nI d', rfl, rfl, ⟨t, cc', ff, E, Mf, idf, lvi, Nat.le_succ _, ⟨i1, y4.trans i2, f1.trans i3, f2.trans i4, by rw [z3, y8], by rw [y8]; exact ⟨ls', hl', rfl⟩, fun k hk => ?_, by rw [y6]; exact i8, ?_, ql i10, fun k hk => ?_, y5.trans i12, fun k hk a b => ?_⟩, ?_⟩, fun v q => ?_, fun j q => by cases q⟩
    · obtain ⟨a1, a2, a3, a4, a5⟩ := i7 k hk
      refine ⟨(y9 k hk).1, z4 k hk, ?_, a4, ?_⟩
      · rcases hAL k with e | ⟨e, -⟩
        · rw [e]; exact a3
        · rw [e]; exact Or.inl rfl
      · rcases hAL k with e | ⟨e, -⟩
        · rw [e]; exact a5
        · rw [e]; intro q; exact absurd (show (0 : Int32) = 1 from q) (by decide)
    · rw [show mLog z = mLog m0 from f5, show mRows z = mRows m0 from f4]; exact i9
    · rw [(y9 k hk).2]; exact i11 k hk
    · rw [show mMadeAt z k = mMadeAt m0 k from congrFun e8 k]
      have e0 := str k a
      rw [e0] at a b
      exact i13 k hk a b
    · rcases irw with ⟨b1, b2⟩ | ⟨F, B, w, FA, M2, b1, b2, b3, b4, b5, b6, b7, b8, b9, b10, b11, b12⟩
      · exact Or.inl ⟨y3.trans b1, (show mIsRewriting z = mIsRewriting m0 from f6).trans b2⟩
      · refine Or.inr ⟨F, B, w, FA, M2, y3.trans b1, b2, (show mToWrite z = mToWrite m0 from f7).trans b3, (show mIsRewriting z = mIsRewriting m0 from f6).trans b4, y2.trans b5, (show mBegunAt z = mBegunAt m0 from f8).trans b6, b7, b8, by rw [y7]; exact b9, ?_, ql b11, fun k hk a b => ?_⟩
        · rw [show mFresh z = mFresh m0 from f10, show mNewRows z = mNewRows m0 from f9]; exact b10
        · rw [show mFreshAt z = mFreshAt m0 from f11]
          have e0 := str k a
          rw [e0] at a b
          exact b12 k hk a b
    · cases q; exact ⟨z5.trans hth, rfl⟩
