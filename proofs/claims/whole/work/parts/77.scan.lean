/-! scans; tick, rows, held -/
def mbF (B n : Int32) (rec5 : Int32 × Int32 → Option Int32) (s : Int32 × Int32) : Option Int32 := match s with
  | (v3, v4) => if B ≤ v4 then some v3 else if (n &&& v4) = 0 then keep ((2 * v3) + 0) (fun y6 => keep (v4 * 2) (fun y7 => rec5 (y6, y7))) else keep ((2 * v3) + 1) (fun y4 => keep (v4 * 2) (fun y5 => rec5 (y4, y5)))
theorem mb_all : ∀ b, b < 7 → 4 ≤ b → ∀ n, n < 2 ^ b → iterK 12 (mbF (nI (2 ^ b)) (nI n)) (0, 1) = some (nI (rvb b n 0)) := by decide +kernel
theorem mbF_mono (B n : Int32) (g g' : Int32 × Int32 → Option Int32) (h : ∀ s r, g s = some r → g' s = some r) (s : Int32 × Int32) (r : Int32) (hs : mbF B n g s = some r) : mbF B n g' s = some r := by
  obtain ⟨a, c⟩ := s
  unfold mbF at hs ⊢
  simp only [keep_r] at hs ⊢
  split at hs
  · rw [if_pos (by assumption)]; exact hs
  · rw [if_neg (by assumption)]
    split at hs
    · rw [if_pos (by assumption)]; exact h _ _ hs
    · rw [if_neg (by assumption)]; exact h _ _ hs
theorem mod_backwards {m : MSt} {k b n : Nat} (hk : k < 16) (hb4 : 4 ≤ b ∧ b ≤ 6) (h1 : mBuckets m k = nI (2 ^ b)) (hn : n < 2 ^ b) : fX8_backwards m (nI k) (nI n) = some (nI (rvb b n 0)) := by
  have e : fX8_backwards_5 m (nI k) (nI n) = mbF (nI (2 ^ b)) (nI n) := by
    funext rec s
    obtain ⟨a, c⟩ := s
    unfold fX8_backwards_5 mbF
    dsimp only
    rw [inb_nI hk (by omega), chk_r, nI_clamp (by omega), h1]
  unfold fX8_backwards
  rw [e]
  exact iter_more (mbF_mono _ _) 12 (FU - 12) _ _ (mb_all b (by omega) hb4.1 n hn)
theorem scan_y {m : MSt} {k : Nat} {c : CK} {f : FK} {p2 : Int32} (hk : k < 16) (h : MR m k c f) (hkey : fX8_isKey (nI k) = some 1) (hW : ¬ (p2 < 0 ∨ (1023 : Int32) < p2)) : fX8_scanFault m (nI k) p2 = some (if tyN c (mNow m) = 2 then 0 else 3) := by
  unfold fX8_scanFault
  rw [hkey, Option.bind_some, if_neg (by decide), (within_in hW).2, Option.bind_some, if_neg (by decide), mod_typeNow hk h, Option.bind_some]
  split <;> rfl
theorem scan_w {m : MSt} {k : Nat} {p2 : Int32} (hkey : fX8_isKey (nI k) = some 1) (hW : p2 < 0 ∨ (1023 : Int32) < p2) : fX8_scanFault m (nI k) p2 = some 2 := by
  unfold fX8_scanFault
  rw [hkey, Option.bind_some, if_neg (by decide), (within_out hW).2, Option.bind_some, if_pos rfl]
theorem scan_k {m : MSt} {p1 p2 : Int32} (hkey : fX8_isKey p1 = some 0) : fX8_scanFault m p1 p2 = some 1 := by
  unfold fX8_scanFault
  rw [hkey, Option.bind_some, if_pos rfl]
theorem vat_snoc {l : LL} {q : Int32 × Int32} {i : Nat} (hi : i < 2 ^ 31) : vat (l ++ [q]) (nI i) = if i = l.length then q.1 else vat l (nI i) := by
  unfold vat
  rw [if_neg (nI_pos hi), if_neg (nI_pos hi), nI_clamp hi]
  by_cases e : i = l.length
  · rw [if_pos e, e, List.getElem?_append_right (Nat.le_refl _), Nat.sub_self]; rfl
  · rw [if_neg e]
    by_cases e2 : i < l.length
    · rw [List.getElem?_append_left e2]
    · rw [List.getElem?_append_right (by omega), List.getElem?_eq_none (show ([q] : LL).length ≤ i - l.length by simp; omega), List.getElem?_eq_none (by omega)]
/-- what the reference's scan gives -/
def gvs (f : FK) (c : Nat) (q : Int32 × Int32) : Bool := decide (f.1 = 1) || decide (hb f.2 q.1 = c % 2 ^ f.2)
theorem sub_0 {a b : Int32} : a - b = 0 ↔ a = b := by
  constructor
  · intro h
    have := congrArg (fun z => z + b) h
    rw [Int32.sub_add_cancel] at this
    rw [this, show (0 : Int32) = nI 0 from rfl]
    exact Int32.zero_add b
  · intro h; rw [h]; exact Int32.sub_self b
theorem mod_scan {m : MSt} {k c : Nat} {ck : CK} {f : FK} {p3 : Int32} (hk : k < 16) (h : MR m k ck f) (hc : okCK ck) (h0 : cT ck ≠ 0) (hf : okF f) (hcu : c < 1024) :
    iterK FU (fX8_scanned_27 m (nI k) (nI c) p3) (p3, -1, nI (40 * k)) = some (m, vat ((cL ck).filter (gvs f c)) p3) := by
  obtain ⟨e0, e1⟩ := h
  obtain ⟨e2, e3, e4, e5, -⟩ := e1 h0
  have h40 := e5.2.1
  have hp2 := p2_lt hf
  have hV := (ok_T hc h0).2.2.2.2.1
  apply ok_is
  by_cases hneg : p3 < 0
  · rw [vat_neg hneg]
    refine ok_iter (fun n s => n = 0 ∧ s = (p3, -1, nI (40 * k))) _ ?_ FU 0 _ ⟨rfl, rfl⟩ (by unfold FU; omega)
    rintro n s rec ⟨hn, rfl⟩ hrec
    unfold fX8_scanned_27
    dsimp only
    rw [inb_nI hk (by omega), chk_r]
    by_cases z : (40 : Int32) * nI k + mSize m (nI k).toNatClampNeg ≤ nI (40 * k)
    · rw [if_pos z, ok_some]
    · rw [if_neg z, if_pos hneg, ok_some]
  · obtain ⟨i, hi, rfl⟩ := nI_of hneg
    refine ok_iter (fun n s => ∃ j, n = (cL ck).length - j ∧ j ≤ (cL ck).length ∧ s = (nI i - nI ((((cL ck).take j).filter (gvs f c)).length), vat (((cL ck).take j).filter (gvs f c)) (nI i), nI (40 * k + j))) _ ?_ FU (cL ck).length _ ⟨0, rfl, Nat.zero_le _, by
      rw [List.take_zero]
      show _ = (nI i - nI 0, vat [] (nI i), _)
      rw [show nI i - nI 0 = nI i from pk_sub (Nat.zero_le _), vat_out (Nat.zero_le _) hi]; rfl⟩ (by unfold FU; omega)
    rintro n s rec ⟨j, hn, hj, rfl⟩ hrec
    have hin : inb (nI k) 16 = true := inb_nI hk (by omega)
    have hcl : (nI k).toNatClampNeg = k := nI_clamp (by omega)
    unfold fX8_scanned_27
    dsimp only
    rw [hin, chk_r, hcl, e5.1, at40]
    by_cases z : (cL ck).length ≤ j
    · rw [if_pos (nI_le (by omega) (by omega)), ok_some, List.take_of_length_le z]
    · have hjl : j < (cL ck).length := by omega
      have hlen := List.length_filter_le (gvs f c) ((cL ck).take j)
      rw [List.length_take] at hlen
      have hst : (cL ck).take (j + 1) = (cL ck).take j ++ [(cL ck)[j]] := List.take_succ_eq_append_getElem hjl
      obtain ⟨v, hv, hvn⟩ : ∃ v, v < 10000 ∧ (cL ck)[j].1 = nI v := hV _ (List.getElem_mem hjl)
      rw [if_neg (nI_ge (by omega) (by omega)), if_neg (nI_pos hi), inb_nI (by omega) (by omega)]
      simp only [chk_r, keep_r]
      rw [nI_clamp (show 40 * k + j < 2 ^ 31 by omega), (e5.e hjl).1, e3, e4]
      have hb0 : decide (¬ nI (2 ^ f.2) = 0) = true := decide_eq_true (by rw [nI_eq0 (by omega)]; omega)
      rw [hb0, chk_r, chk_r]
      have hhash : (193 * (cL ck)[j].1 + (cL ck)[j].1 / 32) = nI (hsh v) := by
        rw [hvn, d193, pk_mul, d32, pk_div (by omega) (by omega) (by omega), nI_add]; rfl
      have hhb : hb f.2 (cL ck)[j].1 = hsh v % 2 ^ f.2 := by unfold hb; rw [hvn, nI_clamp (by omega)]
      have hh : hsh v < 2 ^ 31 := by unfold hsh; omega
      rw [hhash, pk_rem hh (by omega) (by omega), pk_rem (show c < 2 ^ 31 by omega) (by omega) (by omega)]
      -- one more that it gives, or not
      have yes : gvs f c (cL ck)[j] = true → Ok (fX8_scanned_106 rec m (nI k) (nI c) (nI i) (nI i - nI ((((cL ck).take j).filter (gvs f c)).length)) (vat (((cL ck).take j).filter (gvs f c)) (nI i)) (nI (40 * k + j)) 1) (fun u => u = (m, vat ((cL ck).filter (gvs f c)) (nI i))) := fun g => by
        have hfl : ((cL ck).take (j + 1)).filter (gvs f c) = ((cL ck).take j).filter (gvs f c) ++ [(cL ck)[j]] := by rw [hst, List.filter_append, List.filter_cons_of_pos g, List.filter_nil]
        have nx : ∀ w, w = vat (((cL ck).take (j + 1)).filter (gvs f c)) (nI i) → Ok (fX8_scanned_130 rec m (nI k) (nI c) (nI i) (nI i - nI ((((cL ck).take j).filter (gvs f c)).length)) (nI (40 * k + j)) 1 w) (fun u => u = (m, vat ((cL ck).filter (gvs f c)) (nI i))) := fun w hw => by
          unfold fX8_scanned_130
          rw [if_neg (by decide), ok_keep, ok_keep, nI_1]
          refine hrec ((cL ck).length - (j + 1)) _ (by omega) ⟨j + 1, rfl, by omega, ?_⟩
          rw [hw, hfl, List.length_append]
          have : nI i - nI ((((cL ck).take j).filter (gvs f c)).length) - 1 = nI i - nI ((((cL ck).take j).filter (gvs f c)).length + ([(cL ck)[j]] : LL).length) := by
            show _ = nI i - nI ((((cL ck).take j).filter (gvs f c)).length + 1)
            rw [← nI_1, Int32.sub_sub]
          rw [this]; rfl
        unfold fX8_scanned_106 fX8_scanned_128
        rw [if_neg (by decide), inb_nI (by omega) (by omega), chk_r, nI_clamp (show 40 * k + j < 2 ^ 31 by omega), (e5.e hjl).1]
        by_cases w : nI i - nI ((((cL ck).take j).filter (gvs f c)).length) = 0
        · rw [if_pos w]
          have hw := (nI_eqE hi (by omega)).mp (sub_0.mp w)
          refine nx _ ?_
          rw [hfl, vat_snoc hi, if_pos hw]
        · rw [if_neg w]
          refine nx _ ?_
          rw [hfl, vat_snoc hi, if_neg (fun q => w (sub_0.mpr (by rw [q])))]
      have no : gvs f c (cL ck)[j] = false → Ok (fX8_scanned_106 rec m (nI k) (nI c) (nI i) (nI i - nI ((((cL ck).take j).filter (gvs f c)).length)) (vat (((cL ck).take j).filter (gvs f c)) (nI i)) (nI (40 * k + j)) 0) (fun u => u = (m, vat ((cL ck).filter (gvs f c)) (nI i))) := fun g => by
        have hfl : ((cL ck).take (j + 1)).filter (gvs f c) = ((cL ck).take j).filter (gvs f c) := by rw [hst, List.filter_append, List.filter_cons_of_neg (by rw [g]; decide), List.filter_nil, List.append_nil]
        unfold fX8_scanned_106 fX8_scanned_128 fX8_scanned_130
        rw [if_pos rfl, if_pos rfl, ok_keep, ok_keep, nI_1]
        refine hrec ((cL ck).length - (j + 1)) _ (by omega) ⟨j + 1, rfl, by omega, ?_⟩
        rw [hfl]
        have : nI i - nI ((((cL ck).take j).filter (gvs f c)).length) - 0 = nI i - nI ((((cL ck).take j).filter (gvs f c)).length) := Int32.sub_zero _
        rw [this, Nat.add_assoc]
      unfold fX8_scanned_101
      by_cases q1 : f.1 = 1
      · rw [if_pos q1]
        exact yes (by unfold gvs; rw [decide_eq_true q1]; rfl)
      · rw [if_neg q1]
        have hm1 : hsh v % 2 ^ f.2 < 2 ^ f.2 := Nat.mod_lt _ (by omega)
        have hm2 : c % 2 ^ f.2 < 2 ^ f.2 := Nat.mod_lt _ (by omega)
        by_cases q2 : hsh v % 2 ^ f.2 = c % 2 ^ f.2
        · rw [if_pos (by rw [q2])]
          exact yes (by unfold gvs; rw [hhb, decide_eq_true q2, Bool.or_true])
        · rw [if_neg (by rw [nI_eqE (by omega) (by omega)]; exact q2)]
          exact no (by unfold gvs; rw [hhb, decide_eq_false q1, decide_eq_false q2]; rfl)
theorem sim_next {x : SSt} {m : MSt} {t : Nat} {cc : CC} {ff : Nat → FK} {E : EL} {Mf idf : Nat → Nat} {lvi : Nat} (h : IV x m t cc ff E Mf idf lvi) (p1 p2 : Int32) :
    Sim2 [0, 1, 2] mpA x (lvi + 1) (fX7_next (fk p1) (foc (fk p1) x) p1 p2) (fX8_next m p1 p2) := by
  obtain ⟨⟨h1, h2, h3, h4, h5, h6, h7, h8, h9, h10, h11, h12, h13⟩, hrw⟩ := id h
  by_cases hK : isN p1 16
  · obtain ⟨k1, k2, k3, k4, k5⟩ := key_in hK
    rw [k3]
    generalize cl p1 = k at *
    obtain ⟨b1, b2, b3, b4, b5⟩ := h7 k k5
    have hfc : fClk (foc k x) = nI t := h2
    have hfV : VR (fV (foc k x)) (cc k) (ff k) := b1
    have b2' : MR (mThrown_s m 0) k (cc k) (ff k) := b2.keq seq_Thrown.1
    have hnow' : mNow (mThrown_s m 0) = nI t := h4
    have hth := mod_isThere k5 b2'
    rw [hnow'] at hth
    rw [k4] at k2
    unfold fX7_next fX8_next
    rw [k1, Option.bind_some, thrL, k4]
    by_cases hW : p2 < 0 ∨ (1023 : Int32) < p2
    · rw [(within_out hW).1, Option.bind_some, thrR, scan_w k2 hW, Option.bind_some, can_eq, Option.bind_some, keep_r]
      dsimp only
      rw [if_neg (show ¬ (2 : Int32) = 0 by decide), if_pos rfl]
      exact q_fail h rfl (u := 2) rfl (by decide) rfl
    · rw [(within_in hW).1, Option.bind_some, thrL, scan_y k5 b2 k2 hW, Option.bind_some, h4]
      obtain ⟨c, hc, rfl⟩ : ∃ c, c < 1024 ∧ p2 = nI c := (wi_N (b := 1023) (by omega)).mp hW
      by_cases hA : tyN (cc k) (nI t) = 2
      · obtain ⟨q1, q2⟩ := tyN_is (by decide) hA
        have h0 := thC_T q1
        obtain ⟨s1, s2⟩ := val_isSmall hfV h0
        have hVL := hfV.VL h0 rfl
        obtain ⟨w1, w2, w3, w4, w5⟩ := b2'.2 h0
        have hp2 := p2_lt b4
        rw [c_ty_y k5 hfV (by rw [hfc]; exact hA), Option.bind_some, thrL, kyk k5, chk_r, s1, Option.bind_some, if_pos hA, can_eq, Option.bind_some, keep_r]
        dsimp only
        rw [if_pos rfl, if_neg (show ¬ (1 : Int32) = 0 by decide)]
        rw [inb_nI k5 (by omega), chk_r, nI_clamp (show k < 2 ^ 31 by omega), w2]
        rcases s2 with s2 | s2
        · rw [s2, if_pos rfl, if_neg (show ¬ (1 : Int32) = 0 by decide), if_pos rfl]
          exact q_ok h rfl rfl rfl
        · have hT : TabR (vlTb (fV (foc k x))) (cL (cc k)) (ff k).2 := by
            rcases hVL.2.2 with ⟨g, -⟩ | ⟨g, g2, -⟩ | ⟨g, g2, g3, g4⟩
            · rw [s2] at g; exact absurd g (by decide)
            · exact absurd q2 g2
            · exact g4
          have hb0 : decide (¬ nI (2 ^ (ff k).2) = 0) = true := decide_eq_true (by rw [nI_eq0 (by omega)]; omega)
          have hj : c % 2 ^ (ff k).2 < 2 ^ (ff k).2 := Nat.mod_lt _ (by omega)
          have hr := rvb_lt (ff k).2 (by have := b4.2; omega) _ hj
          rw [s2, if_neg (show ¬ (2 : Int32) = 1 by decide), if_pos rfl, if_neg (show ¬ (2 : Int32) = 1 by decide), chk_r, tab_cursor hT hc, Option.bind_some, chk_r, w3, hb0, chk_r, pk_rem (show c < 2 ^ 31 by omega) (by omega) (by omega), mod_backwards k5 b4 w3 hj, Option.bind_some, chk_r, chk_r, nI_1, pk_rem (by omega) (by omega) (by omega), mod_backwards k5 b4 w3 (Nat.mod_lt _ (by omega)), Option.bind_some]
          exact q_ok h rfl rfl rfl
      · rw [c_ty_n k5 hfV (by rw [hfc]; exact hA), Option.bind_some, thrR, if_neg hA, can_eq, Option.bind_some, keep_r]
        dsimp only
        rw [if_neg (show ¬ (3 : Int32) = 0 by decide), if_pos rfl]
        exact q_fail h rfl (u := 3) rfl (by decide) rfl
  · obtain ⟨k1, k2⟩ := key_out hK
    unfold fX7_next fX8_next
    rw [k1, Option.bind_some, thrR, scan_k k2, Option.bind_some, can_eq, Option.bind_some, keep_r]
    dsimp only
    rw [if_neg (show ¬ (1 : Int32) = 0 by decide), if_pos rfl]
    exact q_fail h rfl (u := 1) rfl (by decide) rfl
theorem sim_scanned {x : SSt} {m : MSt} {t : Nat} {cc : CC} {ff : Nat → FK} {E : EL} {Mf idf : Nat → Nat} {lvi : Nat} (h : IV x m t cc ff E Mf idf lvi) (p1 p2 p3 : Int32) :
    Sim2 [0, 1, 2] mpA x (lvi + 1) (fX7_scanned (fk p1) (foc (fk p1) x) p1 p2 p3) (fX8_scanned m p1 p2 p3) := by
  obtain ⟨⟨h1, h2, h3, h4, h5, h6, h7, h8, h9, h10, h11, h12, h13⟩, hrw⟩ := id h
  by_cases hK : isN p1 16
  · obtain ⟨k1, k2, k3, k4, k5⟩ := key_in hK
    rw [k3]
    generalize cl p1 = k at *
    obtain ⟨b1, b2, b3, b4, b5⟩ := h7 k k5
    have hfc : fClk (foc k x) = nI t := h2
    have hfV : VR (fV (foc k x)) (cc k) (ff k) := b1
    have b2' : MR (mThrown_s m 0) k (cc k) (ff k) := b2.keq seq_Thrown.1
    have hnow' : mNow (mThrown_s m 0) = nI t := h4
    have hth := mod_isThere k5 b2'
    rw [hnow'] at hth
    rw [k4] at k2
    unfold fX7_scanned fX8_scanned
    rw [k1, Option.bind_some, thrL, k4]
    by_cases hW : p2 < 0 ∨ (1023 : Int32) < p2
    · rw [(within_out hW).1, Option.bind_some, thrR, scan_w k2 hW, Option.bind_some, can_eq, Option.bind_some, keep_r]
      dsimp only
      rw [if_neg (show ¬ (2 : Int32) = 0 by decide), if_pos rfl]
      exact q_fail h rfl (u := 2) rfl (by decide) rfl
    · rw [(within_in hW).1, Option.bind_some, thrL, scan_y k5 b2 k2 hW, Option.bind_some, h4]
      obtain ⟨c, hc, rfl⟩ : ∃ c, c < 1024 ∧ p2 = nI c := (wi_N (b := 1023) (by omega)).mp hW
      by_cases hA : tyN (cc k) (nI t) = 2
      · obtain ⟨q1, q2⟩ := tyN_is (by decide) hA
        have h0 := thC_T q1
        obtain ⟨s1, s2⟩ := val_isSmall hfV h0
        have hVL := hfV.VL h0 rfl
        obtain ⟨w1, w2, w3, w4, w5⟩ := b2'.2 h0
        have hp2 := p2_lt b4
        rw [c_ty_y k5 hfV (by rw [hfc]; exact hA), Option.bind_some, thrL, kyk k5, chk_r, s1, Option.bind_some, if_pos hA, can_eq, Option.bind_some, keep_r]
        dsimp only
        rw [if_pos rfl, if_neg (show ¬ (1 : Int32) = 0 by decide)]
        rw [keep_r, d40, pk_mul, mod_scan k5 b2' b3 h0 b4 hc]
        rcases s2 with s2 | s2
        · have hfl : (cL (cc k)).filter (gvs (ff k) c) = cL (cc k) := List.filter_eq_self.mpr (fun q _ => by unfold gvs; rw [decide_eq_true s2]; rfl)
          rw [s2, if_pos rfl, if_neg (show ¬ (1 : Int32) = 0 by decide), val_at hVL p3 (fun u => some (Sum.inl u : Int32 ⊕ Nat)), hfl]
          exact q_ok h rfl rfl rfl
        · have hT : TabR (vlTb (fV (foc k x))) (cL (cc k)) (ff k).2 := by
            rcases hVL.2.2 with ⟨g, -⟩ | ⟨g, g2, -⟩ | ⟨g, g2, g3, g4⟩
            · rw [s2] at g; exact absurd g (by decide)
            · exact absurd q2 g2
            · exact g4
          have hfl : (cL (cc k)).filter (gvs (ff k) c) = scn (cL (cc k)) (ff k).2 c := List.filter_congr (fun q _ => by unfold gvs; rw [s2, decide_eq_false (show ¬ (2 : Int32) = 1 by decide)]; rfl)
          rw [s2, if_neg (show ¬ (2 : Int32) = 1 by decide), if_pos rfl, tab_member hT hc, Option.bind_some, hfl]
          exact q_ok h rfl rfl rfl
      · rw [c_ty_n k5 hfV (by rw [hfc]; exact hA), Option.bind_some, thrR, if_neg hA, can_eq, Option.bind_some, keep_r]
        dsimp only
        rw [if_neg (show ¬ (3 : Int32) = 0 by decide), if_pos rfl]
        exact q_fail h rfl (u := 3) rfl (by decide) rfl
  · obtain ⟨k1, k2⟩ := key_out hK
    unfold fX7_scanned fX8_scanned
    rw [k1, Option.bind_some, thrR, scan_k k2, Option.bind_some, can_eq, Option.bind_some, keep_r]
    dsimp only
    rw [if_neg (show ¬ (1 : Int32) = 0 by decide), if_pos rfl]
    exact q_fail h rfl (u := 1) rfl (by decide) rfl
