/-! questions -/
def Sim2 (S : List Nat) (mp : Nat → Int32) (x : SSt) (lim : Nat) (oc : Option (Int32 ⊕ Nat)) (om : Option (MSt × Int32)) : Prop := ∃ res z b, oc = some res ∧ om = some (z, b) ∧ IVx x z lim ∧ Agr S mp res z b
theorem q_fail {S : List Nat} {mp : Nat → Int32} {x : SSt} {m : MSt} {t : Nat} {cc : CC} {ff : Nat → FK} {E : EL} {Mf idf : Nat → Nat} {lvi n : Nat} {oc : Option (Int32 ⊕ Nat)} {om : Option (MSt × Int32)} {u b : Int32} (h : IV x m t cc ff E Mf idf lvi) (h1 : oc = some (.inr n)) (h2 : om = some (mThrown_s m u, b)) (hS : n ∈ S) (hu : u = mp n) : Sim2 S mp x (lvi + 1) oc om :=
  ⟨.inr n, mThrown_s m u, b, h1, h2, ⟨t, cc, ff, E, Mf, idf, lvi, Nat.le_succ _, iv_seq h seq_Thrown⟩, fun v q => (by cases q), fun j q => by cases q; exact ⟨hS, hu⟩⟩
theorem q_ok {S : List Nat} {mp : Nat → Int32} {x : SSt} {m : MSt} {t : Nat} {cc : CC} {ff : Nat → FK} {E : EL} {Mf idf : Nat → Nat} {lvi : Nat} {oc : Option (Int32 ⊕ Nat)} {om : Option (MSt × Int32)} {v b : Int32} (h : IV x m t cc ff E Mf idf lvi) (h1 : oc = some (.inl v)) (h2 : om = some (mThrown_s m 0, b)) (hv : b = v) : Sim2 S mp x (lvi + 1) oc om :=
  ⟨.inl v, mThrown_s m 0, b, h1, h2, ⟨t, cc, ff, E, Mf, idf, lvi, Nat.le_succ _, iv_seq h seq_Thrown⟩, fun v q => (by cases q; exact ⟨rfl, hv⟩), fun j q => (by cases q)⟩
theorem sim_typeOf {x : SSt} {m : MSt} {t : Nat} {cc : CC} {ff : Nat → FK} {E : EL} {Mf idf : Nat → Nat} {lvi : Nat} (h : IV x m t cc ff E Mf idf lvi) (p1 : Int32) :
    Sim2 [0] mpA x (lvi + 1) (fX7_typeOf (fk p1) (foc (fk p1) x) p1) (fX8_typeOf m p1) := by
  obtain ⟨⟨h1, h2, h3, h4, h5, h6, h7, h8, h9, h10, h11, h12, h13⟩, hrw⟩ := id h
  by_cases hK : isN p1 16
  · obtain ⟨k1, k2, k3, k4, k5⟩ := key_in hK
    rw [k3]
    generalize cl p1 = k at *
    obtain ⟨b1, b2, b3, b4, b5⟩ := h7 k k5
    have hfc : fClk (foc k x) = nI t := h2
    have hfV : VR (fV (foc k x)) (cc k) (ff k) := b1
    have b2' : MR (mThrown_s m 0) k (cc k) (ff k) := b2.keq seq_Thrown.1
    have hnow' : mNow (mThrown_s m 0) = nI t := h4
    have hth := mod_isThere k5 b2'
    rw [hnow'] at hth
    unfold fX7_typeOf fX8_typeOf fX8_typeOf_13
    rw [k1, Option.bind_some, thrL, k2, Option.bind_some, if_neg (show ¬ (1 : Int32) = 0 by decide), can_eq, Option.bind_some, keep_r, k4, c_type k5 hfV, Option.bind_some, hfc]
    dsimp only
    rw [if_pos rfl, if_neg (show ¬ (1 : Int32) = 0 by decide), mod_typeNow k5 b2', Option.bind_some, hnow']
    exact q_ok h rfl rfl rfl
  · obtain ⟨k1, k2⟩ := key_out hK
    unfold fX7_typeOf fX8_typeOf
    rw [k1, Option.bind_some, thrR, k2, Option.bind_some, if_pos rfl]
    refine q_fail h rfl (u := 1) (b := 0) ?_ (by decide) rfl
    unfold fX8_typeOf_13
    rw [can_eq, Option.bind_some, keep_r]
    rfl
theorem sim_size {x : SSt} {m : MSt} {t : Nat} {cc : CC} {ff : Nat → FK} {E : EL} {Mf idf : Nat → Nat} {lvi : Nat} (h : IV x m t cc ff E Mf idf lvi) (p1 : Int32) :
    Sim2 [0] mpA x (lvi + 1) (fX7_size (fk p1) (foc (fk p1) x) p1) (fX8_size m p1) := by
  obtain ⟨⟨h1, h2, h3, h4, h5, h6, h7, h8, h9, h10, h11, h12, h13⟩, hrw⟩ := id h
  by_cases hK : isN p1 16
  · obtain ⟨k1, k2, k3, k4, k5⟩ := key_in hK
    rw [k3]
    generalize cl p1 = k at *
    obtain ⟨b1, b2, b3, b4, b5⟩ := h7 k k5
    have hfc : fClk (foc k x) = nI t := h2
    have hfV : VR (fV (foc k x)) (cc k) (ff k) := b1
    have b2' : MR (mThrown_s m 0) k (cc k) (ff k) := b2.keq seq_Thrown.1
    have hnow' : mNow (mThrown_s m 0) = nI t := h4
    have hth := mod_isThere k5 b2'
    rw [hnow'] at hth
    unfold fX7_size fX8_size fX8_size_13
    rw [k1, Option.bind_some, thrL, k2, Option.bind_some, if_neg (show ¬ (1 : Int32) = 0 by decide), can_eq, Option.bind_some, keep_r, k4, c_size k5 hfV, Option.bind_some, hfc]
    dsimp only
    rw [if_pos rfl, if_neg (show ¬ (1 : Int32) = 0 by decide), hth, Option.bind_some]
    by_cases e : thC (cc k) (nI t) = true
    · rw [e, if_neg (show ¬ b2i true = 0 by decide), inb_nI k5 (by omega), chk_r, nI_clamp (by omega), (b2'.ml (thC_T e)).1, if_pos rfl]
      exact q_ok h rfl rfl rfl
    · have e' : thC (cc k) (nI t) = false := by simpa using e
      rw [e', if_pos (show b2i false = 0 by decide), if_neg (by decide)]
      exact q_ok h rfl rfl rfl
  · obtain ⟨k1, k2⟩ := key_out hK
    unfold fX7_size fX8_size
    rw [k1, Option.bind_some, thrR, k2, Option.bind_some, if_pos rfl]
    refine q_fail h rfl (u := 1) (b := 0) ?_ (by decide) rfl
    unfold fX8_size_13
    rw [can_eq, Option.bind_some, keep_r]
    rfl
theorem sim_left {x : SSt} {m : MSt} {t : Nat} {cc : CC} {ff : Nat → FK} {E : EL} {Mf idf : Nat → Nat} {lvi : Nat} (h : IV x m t cc ff E Mf idf lvi) (p1 : Int32) :
    Sim2 [0] mpA x (lvi + 1) (fX7_left (fk p1) (foc (fk p1) x) p1) (fX8_left m p1) := by
  obtain ⟨⟨h1, h2, h3, h4, h5, h6, h7, h8, h9, h10, h11, h12, h13⟩, hrw⟩ := id h
  by_cases hK : isN p1 16
  · obtain ⟨k1, k2, k3, k4, k5⟩ := key_in hK
    rw [k3]
    generalize cl p1 = k at *
    obtain ⟨b1, b2, b3, b4, b5⟩ := h7 k k5
    have hfc : fClk (foc k x) = nI t := h2
    have hfV : VR (fV (foc k x)) (cc k) (ff k) := b1
    have b2' : MR (mThrown_s m 0) k (cc k) (ff k) := b2.keq seq_Thrown.1
    have hnow' : mNow (mThrown_s m 0) = nI t := h4
    have hth := mod_isThere k5 b2'
    rw [hnow'] at hth
    unfold fX7_left fX8_left fX8_left_13
    rw [k1, Option.bind_some, thrL, k2, Option.bind_some, if_neg (show ¬ (1 : Int32) = 0 by decide), can_eq, Option.bind_some, keep_r, keep_r, k4, c_there k5 hfV, Option.bind_some, hfc]
    dsimp only
    rw [if_pos rfl, if_neg (show ¬ (1 : Int32) = 0 by decide), hth, Option.bind_some]
    by_cases e : thC (cc k) (nI t) = true
    · have hE := (b1.2.2.2 (thC_T e)).1
      have hE' := (b2'.2 (thC_T e)).1
      rw [e, if_neg (show ¬ b2i true = 0 by decide), if_neg (show ¬ b2i true = 0 by decide), kyk k5, chk_r, inb_nI k5 (by omega), chk_r, chk_r, nI_clamp (by omega), hE', show vlEnd (fV (foc k x)) = cE (cc k) from hE]
      by_cases e2 : cE (cc k) = -1
      · rw [if_pos e2, if_pos e2]
        exact q_ok h rfl rfl rfl
      · rw [if_neg e2, if_neg e2]
        refine q_ok h rfl rfl ?_
        rw [show mClock (mThrown_s m 0) = nI t from h3]
    · have e' : thC (cc k) (nI t) = false := by simpa using e
      rw [e', if_pos (show b2i false = 0 by decide), if_pos (show b2i false = 0 by decide)]
      exact q_ok h rfl rfl rfl
  · obtain ⟨k1, k2⟩ := key_out hK
    unfold fX7_left fX8_left
    rw [k1, Option.bind_some, thrR, k2, Option.bind_some, if_pos rfl]
    refine q_fail h rfl (u := 1) (b := 0) ?_ (by decide) rfl
    unfold fX8_left_13
    rw [can_eq, Option.bind_some, keep_r]
    rfl
theorem val_isSmall {v : VSt} {c : CK} {f : FK} (h : VR v c f) (h0 : cT c ≠ 0) : fX6_isSmall v = some (if f.1 = 1 then 1 else 0) ∧ (f.1 = 1 ∨ f.1 = 2) := by
  unfold fX6_isSmall
  rcases (h.2.2.2 h0).2.1.2.2 with ⟨h4, h5, -⟩ | ⟨h4, h5, h6, -⟩ | ⟨h4, h5, h6, -⟩
  · rw [h5, h4]; exact ⟨rfl, Or.inl rfl⟩
  · rw [h6, h4]; exact ⟨rfl, Or.inr rfl⟩
  · rw [h6, h4]; exact ⟨rfl, Or.inr rfl⟩
theorem sim_formOf {x : SSt} {m : MSt} {t : Nat} {cc : CC} {ff : Nat → FK} {E : EL} {Mf idf : Nat → Nat} {lvi : Nat} (h : IV x m t cc ff E Mf idf lvi) (p1 : Int32) :
    Sim2 [0] mpA x (lvi + 1) (fX7_formOf (fk p1) (foc (fk p1) x) p1) (fX8_formOf m p1) := by
  obtain ⟨⟨h1, h2, h3, h4, h5, h6, h7, h8, h9, h10, h11, h12, h13⟩, hrw⟩ := id h
  by_cases hK : isN p1 16
  · obtain ⟨k1, k2, k3, k4, k5⟩ := key_in hK
    rw [k3]
    generalize cl p1 = k at *
    obtain ⟨b1, b2, b3, b4, b5⟩ := h7 k k5
    have hfc : fClk (foc k x) = nI t := h2
    have hfV : VR (fV (foc k x)) (cc k) (ff k) := b1
    have b2' : MR (mThrown_s m 0) k (cc k) (ff k) := b2.keq seq_Thrown.1
    have hnow' : mNow (mThrown_s m 0) = nI t := h4
    have hth := mod_isThere k5 b2'
    rw [hnow'] at hth
    unfold fX7_formOf fX8_formOf fX8_formOf_13
    rw [k1, Option.bind_some, thrL, k2, Option.bind_some, if_neg (show ¬ (1 : Int32) = 0 by decide), can_eq, Option.bind_some, keep_r, k4, c_there k5 hfV, Option.bind_some, hfc]
    dsimp only
    rw [if_pos rfl, if_neg (show ¬ (1 : Int32) = 0 by decide), hth, Option.bind_some]
    by_cases e : thC (cc k) (nI t) = true
    · have hE' := (b2'.2 (thC_T e)).2.1
      obtain ⟨s1, s2⟩ := val_isSmall hfV (thC_T e)
      rw [e, if_neg (show ¬ b2i true = 0 by decide), if_neg (show ¬ b2i true = 0 by decide), kyk k5, chk_r, s1, Option.bind_some, inb_nI k5 (by omega), chk_r, nI_clamp (by omega), hE']
      rcases s2 with s2 | s2
      · rw [s2, if_pos rfl, if_neg (show ¬ (1 : Int32) = 0 by decide)]
        exact q_ok h rfl rfl rfl
      · rw [s2, if_neg (show ¬ (2 : Int32) = 1 by decide), if_pos rfl]
        exact q_ok h rfl rfl rfl
    · have e' : thC (cc k) (nI t) = false := by simpa using e
      rw [e', if_pos (show b2i false = 0 by decide), if_pos (show b2i false = 0 by decide)]
      exact q_ok h rfl rfl rfl
  · obtain ⟨k1, k2⟩ := key_out hK
    unfold fX7_formOf fX8_formOf
    rw [k1, Option.bind_some, thrR, k2, Option.bind_some, if_pos rfl]
    refine q_fail h rfl (u := 1) (b := 0) ?_ (by decide) rfl
    unfold fX8_formOf_13
    rw [can_eq, Option.bind_some, keep_r]
    rfl
theorem mod_v47 {m : MSt} {p1 p2 u : Int32} (h : u ≠ 0) : fX8_valueAt_47 m p1 p2 u = some (mThrown_s m u, 0) := by
  unfold fX8_valueAt_47
  rw [can_eq, Option.bind_some, keep_r]
  dsimp only
  rw [if_neg h, if_pos rfl]
theorem mod_v35 {m : MSt} {p1 p2 : Int32} : fX8_valueAt_35 m p1 p2 = some (mThrown_s m 1, 0) := by
  unfold fX8_valueAt_35 fX8_valueAt_36
  rw [if_pos rfl]
  exact mod_v47 (by decide)
theorem mod_vAt {m : MSt} {k : Nat} {c : CK} {f : FK} {p2 : Int32} (hk : k < 16) (h : MR m k c f) (hkey : fX8_isKey (nI k) = some 1) :
    (∀ i (hi : i < (cL c).length), thC c (mNow m) = true → p2 = nI i → fX8_valueAt m (nI k) p2 = some (mThrown_s m 0, (cL c)[i].1)) ∧ ((¬ ∃ i, i < (cL c).length ∧ thC c (mNow m) = true ∧ p2 = nI i) → fX8_valueAt m (nI k) p2 = some (mThrown_s m 1, 0)) := by
  unfold fX8_valueAt
  rw [hkey, Option.bind_some, if_neg (by decide), mod_isThere hk h, Option.bind_some]
  constructor
  · rintro i hi ht rfl
    have hML := h.ml (thC_T ht)
    have h40 := hML.2.1
    rw [ht, if_neg (show ¬ b2i true = 0 by decide), inb_nI hk (by omega), chk_r, nI_clamp (by omega), hML.1, nI_s1 (by omega), isIn_nI, Option.bind_some, if_neg (show ¬ (nI i < 0 ∨ nI ((cL c).length - 1) < nI i) by rw [nI_ltE (by omega) (by omega), nI_lt0 (by omega)]; rintro (q | q); exact q; omega), if_neg (by decide)]
    unfold fX8_valueAt_36 fX8_valueAt_47
    rw [if_neg (by decide), can_eq, Option.bind_some, keep_r]
    dsimp only
    rw [if_pos rfl, if_neg (by decide), at40, inb_nI (by omega) (by omega), chk_r, nI_clamp (by omega), show mValues (mThrown_s m 0) = mValues m from rfl, (hML.e hi).1]
  · intro hn
    by_cases ht : thC c (mNow m) = true
    · have hML := h.ml (thC_T ht)
      have h40 := hML.2.1
      rw [ht, if_neg (show ¬ b2i true = 0 by decide), inb_nI hk (by omega), chk_r, nI_clamp (by omega), hML.1, isIn_nI, Option.bind_some]
      have hin : p2 < 0 ∨ nI (cL c).length - 1 < p2 := by
        by_cases e : p2 < 0
        · exact Or.inl e
        · obtain ⟨i, hi, rfl⟩ := nI_of e
          right
          have hil : (cL c).length ≤ i := Classical.byContradiction (fun q => hn ⟨i, by omega, ht, rfl⟩)
          by_cases z : (cL c).length = 0
          · rw [z]
            rw [Int32.lt_iff_toInt_lt, nI_toInt hi, show (nI 0 - 1).toInt = -1 by decide]
            omega
          · rw [nI_s1 (by omega)]; exact nI_lt (by omega) hi
      rw [if_pos hin, if_pos rfl]
      exact mod_v35
    · have e' : thC c (mNow m) = false := by simpa using ht
      rw [e', if_pos (show b2i false = 0 by decide)]
      exact mod_v35
theorem c_index {F : FSt} {c : CK} {f : FK} {k : Nat} {p2 : Int32} (hk : k < 16) (h : VR (fV F) c f) (hc : okCK c) :
    (∀ i, i < (cL c).length → thC c (fClk F) = true → p2 = nI i → fX7_needIndex k F (nI k) p2 = some (.inl 0)) ∧ ((¬ ∃ i, i < (cL c).length ∧ thC c (fClk F) = true ∧ p2 = nI i) → fX7_needIndex k F (nI k) p2 = some (.inr 0)) := by
  unfold fX7_needIndex
  rw [c_size hk h, Option.bind_some]
  constructor
  · rintro i hi ht rfl
    have h40 := (ok_T hc (thC_T ht)).2.2.1
    have w : fX7_isWithin (nI i) 0 (nI ((cL c).length - 1)) = some 1 := wit_N (a := 0) (by omega) (by omega) (by omega)
    rw [if_pos ht, nI_s1 (by omega), w, Option.bind_some, if_neg one_ne0]
  · intro hn
    by_cases e : p2 < 0
    · rw [wit_f (Or.inl e), Option.bind_some, if_pos rfl]
    · obtain ⟨i, hi, rfl⟩ := nI_of e
      by_cases ht : thC c (fClk F) = true
      · have hil : (cL c).length ≤ i := Classical.byContradiction (fun q => hn ⟨i, by omega, ht, rfl⟩)
        have w : fX7_isWithin (nI i) 0 (nI (cL c).length - 1) = some 0 := by
          refine wit_f (Or.inr ?_)
          by_cases z : (cL c).length = 0
          · rw [z, Int32.lt_iff_toInt_lt, nI_toInt hi, show (nI 0 - 1).toInt = -1 by decide]
            omega
          · rw [nI_s1 (by omega)]; exact nI_lt (by omega) hi
        rw [if_pos ht, w, Option.bind_some, if_pos rfl]
      · have w : fX7_isWithin (nI i) 0 (0 - 1) = some 0 := by
          refine wit_f (Or.inr ?_)
          rw [Int32.lt_iff_toInt_lt, nI_toInt hi, show ((0 : Int32) - 1).toInt = -1 by decide]
          omega
        rw [if_neg ht, w, Option.bind_some, if_pos rfl]
theorem sim_at {x : SSt} {m : MSt} {t : Nat} {cc : CC} {ff : Nat → FK} {E : EL} {Mf idf : Nat → Nat} {lvi : Nat} (h : IV x m t cc ff E Mf idf lvi) (p1 p2 : Int32) :
    Sim2 [0] mpA x (lvi + 1) (fX7_at (fk p1) (foc (fk p1) x) p1 p2) (fX8_at m p1 p2) := by
  obtain ⟨⟨h1, h2, h3, h4, h5, h6, h7, h8, h9, h10, h11, h12, h13⟩, hrw⟩ := id h
  by_cases hK : isN p1 16
  · obtain ⟨k1, k2, k3, k4, k5⟩ := key_in hK
    rw [k3]
    generalize cl p1 = k at *
    obtain ⟨b1, b2, b3, b4, b5⟩ := h7 k k5
    have hfc : fClk (foc k x) = nI t := h2
    have hfV : VR (fV (foc k x)) (cc k) (ff k) := b1
    have b2' : MR (mThrown_s m 0) k (cc k) (ff k) := b2.keq seq_Thrown.1
    have hnow' : mNow (mThrown_s m 0) = nI t := h4
    have hth := mod_isThere k5 b2'
    rw [hnow'] at hth
    obtain ⟨va, vb⟩ := mod_vAt (p2 := p2) k5 b2 (by rw [← k4]; exact k2)
    obtain ⟨ia, ib⟩ := c_index (p2 := p2) k5 hfV b3
    rw [h4] at va vb
    rw [hfc] at ia ib
    unfold fX7_at fX8_at
    rw [k1, Option.bind_some, thrL, k4]
    by_cases hI : ∃ i, i < (cL (cc k)).length ∧ thC (cc k) (nI t) = true ∧ p2 = nI i
    · obtain ⟨i, hi, ht, rfl⟩ := hI
      have hVL := hfV.VL (thC_T ht) rfl
      have h40 := (ok_T b3 (thC_T ht)).2.2.1
      rw [ia i hi ht rfl, Option.bind_some, thrL, kyk k5, chk_r, va i hi ht rfl, Option.bind_some, keep_r]
      rw [val_at hVL (nI i) (fun u => some (Sum.inl u : Int32 ⊕ Nat)), vat_nI hi (by omega)]
      exact q_ok h rfl rfl rfl
    · rw [ib hI, Option.bind_some, thrR, vb hI, Option.bind_some, keep_r]
      exact q_fail h rfl rfl (by decide) rfl
  · obtain ⟨k1, k2⟩ := key_out hK
    unfold fX7_at fX8_at fX8_valueAt
    rw [k1, Option.bind_some, thrR, k2, Option.bind_some, if_pos rfl, mod_v35, Option.bind_some, keep_r]
    exact q_fail h rfl rfl (by decide) rfl
theorem sim_atByPlain {x : SSt} {m : MSt} {t : Nat} {cc : CC} {ff : Nat → FK} {E : EL} {Mf idf : Nat → Nat} {lvi : Nat} (h : IV x m t cc ff E Mf idf lvi) (p1 p2 : Int32) :
    Sim2 [0] mpA x (lvi + 1) (fX7_atByPlain (fk p1) (foc (fk p1) x) p1 p2) (fX8_atByPlain m p1 p2) := by
  obtain ⟨⟨h1, h2, h3, h4, h5, h6, h7, h8, h9, h10, h11, h12, h13⟩, hrw⟩ := id h
  by_cases hK : isN p1 16
  · obtain ⟨k1, k2, k3, k4, k5⟩ := key_in hK
    rw [k3]
    generalize cl p1 = k at *
    obtain ⟨b1, b2, b3, b4, b5⟩ := h7 k k5
    have hfc : fClk (foc k x) = nI t := h2
    have hfV : VR (fV (foc k x)) (cc k) (ff k) := b1
    have b2' : MR (mThrown_s m 0) k (cc k) (ff k) := b2.keq seq_Thrown.1
    have hnow' : mNow (mThrown_s m 0) = nI t := h4
    have hth := mod_isThere k5 b2'
    rw [hnow'] at hth
    obtain ⟨va, vb⟩ := mod_vAt (p2 := p2) k5 b2 (by rw [← k4]; exact k2)
    obtain ⟨ia, ib⟩ := c_index (p2 := p2) k5 hfV b3
    rw [h4] at va vb
    rw [hfc] at ia ib
    unfold fX7_atByPlain fX8_atByPlain
    rw [k1, Option.bind_some, thrL, k4]
    by_cases hI : ∃ i, i < (cL (cc k)).length ∧ thC (cc k) (nI t) = true ∧ p2 = nI i
    · obtain ⟨i, hi, ht, rfl⟩ := hI
      have hVL := hfV.VL (thC_T ht) rfl
      have h40 := (ok_T b3 (thC_T ht)).2.2.1
      rw [ia i hi ht rfl, Option.bind_some, thrL, kyk k5, chk_r, va i hi ht rfl, Option.bind_some, keep_r]
      rw [row_valueAt hVL.2.1, Option.bind_some, vat_nI hi (by omega)]
      exact q_ok h rfl rfl rfl
    · rw [ib hI, Option.bind_some, thrR, vb hI, Option.bind_some, keep_r]
      exact q_fail h rfl rfl (by decide) rfl
  · obtain ⟨k1, k2⟩ := key_out hK
    unfold fX7_atByPlain fX8_atByPlain fX8_valueAt
    rw [k1, Option.bind_some, thrR, k2, Option.bind_some, if_pos rfl, mod_v35, Option.bind_some, keep_r]
    exact q_fail h rfl rfl (by decide) rfl
theorem sim_indexOf {x : SSt} {m : MSt} {t : Nat} {cc : CC} {ff : Nat → FK} {E : EL} {Mf idf : Nat → Nat} {lvi : Nat} (h : IV x m t cc ff E Mf idf lvi) (p1 p2 : Int32) :
    Sim2 [0, 1] mpA x (lvi + 1) (fX7_indexOf (fk p1) (foc (fk p1) x) p1 p2) (fX8_indexOf m p1 p2) := by
  obtain ⟨⟨h1, h2, h3, h4, h5, h6, h7, h8, h9, h10, h11, h12, h13⟩, hrw⟩ := id h
  by_cases hK : isN p1 16
  · obtain ⟨k1, k2, k3, k4, k5⟩ := key_in hK
    rw [k3]
    generalize cl p1 = k at *
    obtain ⟨b1, b2, b3, b4, b5⟩ := h7 k k5
    have hfc : fClk (foc k x) = nI t := h2
    have hfV : VR (fV (foc k x)) (cc k) (ff k) := b1
    have b2' : MR (mThrown_s m 0) k (cc k) (ff k) := b2.keq seq_Thrown.1
    have hnow' : mNow (mThrown_s m 0) = nI t := h4
    have hth := mod_isThere k5 b2'
    rw [hnow'] at hth
    unfold fX7_indexOf fX8_indexOf
    rw [k1, Option.bind_some, thrL, k2, Option.bind_some, if_neg (show ¬ (1 : Int32) = 0 by decide), k4]
    by_cases hV : isV p2
    · obtain ⟨v1, v2⟩ := val_in hV
      rw [v1, Option.bind_some, thrL, v2, Option.bind_some, if_neg (show ¬ (1 : Int32) = 0 by decide), c_place k5 hfV hV, Option.bind_some, hfc]
      unfold fX8_indexOf_24
      rw [can_eq, Option.bind_some, keep_r]
      dsimp only
      rw [if_pos rfl, if_neg (show ¬ (1 : Int32) = 0 by decide), hth, Option.bind_some]
      by_cases e : thC (cc k) (nI t) = true
      · rw [e, if_neg (show ¬ b2i true = 0 by decide), if_pos rfl, mod_find k5 (b2'.ml (thC_T e)), Option.bind_some]
        exact q_ok h rfl rfl rfl
      · have e' : thC (cc k) (nI t) = false := by simpa using e
        rw [e', if_pos (show b2i false = 0 by decide), if_neg (by decide)]
        exact q_ok h rfl rfl rfl
    · obtain ⟨v1, v2⟩ := val_out hV
      rw [v1, Option.bind_some, thrR, v2, Option.bind_some, if_pos rfl]
      refine q_fail h rfl (u := 2) (b := 0) ?_ (by decide) rfl
      unfold fX8_indexOf_24
      rw [can_eq, Option.bind_some, keep_r]
      rfl
  · obtain ⟨k1, k2⟩ := key_out hK
    unfold fX7_indexOf fX8_indexOf
    rw [k1, Option.bind_some, thrR, k2, Option.bind_some, if_pos rfl]
    refine q_fail h rfl (u := 1) (b := 0) ?_ (by decide) rfl
    unfold fX8_indexOf_24
    rw [can_eq, Option.bind_some, keep_r]
    rfl
theorem mod_wait82 {m : MSt} {v5 u : Int32} : fX8_waiting_82 m v5 u = some (mThrown_s m u, if u = 0 then v5 else 0) := by
  unfold fX8_waiting_82
  rw [can_eq, Option.bind_some, keep_r]
  dsimp only
  by_cases e : u = 0
  · rw [if_pos e, if_neg (by decide), if_pos e]
  · rw [if_neg e, if_pos rfl, if_neg e]
theorem mod_wait0 {m : MSt} {p1 p2 p3 : Int32} (h : fX8_isReader p1 p2 p3 = some 0) : fX8_waiting m p1 p2 p3 = some (mThrown_s m 1, 0) := by
  apply ok_is
  unfold fX8_waiting
  rw [h, Option.bind_some]
  refine ok_iter (fun n s => n = 0 ∧ s = (0, 0)) _ ?_ FU 0 _ ⟨rfl, rfl⟩ (by unfold FU; omega)
  rintro n s rec ⟨hn, rfl⟩ hrec
  unfold fX8_waiting_14 fX8_waiting_71
  dsimp only
  rw [if_neg (by decide), if_pos rfl, if_pos rfl, mod_wait82, ok_some, if_neg (by decide)]
theorem mod_wait {m : MSt} {k g r : Nat} {c : CK} {f : FK} (hk : k < 16) (h : MR m k c f) (hc : okCK c) (hg : g < 3) (hr : r < 4) (hread : fX8_isReader (nI k) (nI g) (nI r) = some 1) :
    fX8_waiting m (nI k) (nI g) (nI r) = some (mThrown_s m 0, if tyN c (mNow m) = 4 then nI (wtn (cW c) g r 40) else 0) := by
  apply ok_is
  unfold fX8_waiting
  rw [hread, Option.bind_some]
  have fin : ∀ v, fX8_waiting_71 m 1 v = some (mThrown_s m 0, v) := fun v => by
    unfold fX8_waiting_71
    rw [if_neg (by decide), mod_wait82, if_pos rfl]
  by_cases hA : tyN c (mNow m) = 4
  · obtain ⟨q1, q2⟩ := tyN_is (by decide) hA
    obtain ⟨hG, h40⟩ := ok_grp hc q2
    obtain ⟨m1, m2⟩ := (h.2 (thC_T q1)).2.2.2.2 q2
    rw [if_pos hA]
    refine ok_iter (fun n s => ∃ i, n = 40 - i ∧ i ≤ 40 ∧ s = (nI (wtn (cW c) g r i), nI i)) _ ?_ FU 40 _ ⟨0, rfl, by omega, rfl⟩ (by unfold FU; omega)
    rintro n s rec ⟨i, hn, hi, rfl⟩ hrec
    unfold fX8_waiting_14
    dsimp only
    rw [d40]
    by_cases e : 40 ≤ i
    · rw [if_pos (nI_le e (by omega)), fin, ok_some, show i = 40 by omega]
    · rw [if_neg (nI_ge (by omega) (by omega)), if_neg (show ¬ (1 : Int32) = 0 by decide), mod_typeNow hk h, Option.bind_some, if_pos hA, nI_1, spot_eq (by omega), Option.bind_some, show i + 1 - 1 = i by omega, inb_nI (by omega) (by omega), chk_r, nI_clamp (by omega), nI_1]
      obtain ⟨u1, u2⟩ := mWS_up (m2 (40 * g + i) (by omega)) (fun t r q => (hG.1 _ t r q).1)
      by_cases e2 : mWaits m (120 * k + (40 * g + i)) = nI (r + 1)
      · rw [if_pos e2, ok_keep, ok_keep, nI_1]
        refine hrec (40 - (i + 1)) _ (by omega) ⟨i + 1, rfl, by omega, ?_⟩
        obtain ⟨t, ht⟩ := (u2 r hr).mp e2
        rw [wtn_s, ht, if_pos (show wtq r (some (t, r)) = true from decide_eq_true rfl)]
      · rw [if_neg e2, ok_keep, ok_keep, show (0 : Int32) = nI 0 from rfl, nI_add]
        refine hrec (40 - (i + 1)) _ (by omega) ⟨i + 1, rfl, by omega, ?_⟩
        rw [wtn_s, if_neg (fun w => ?_)]
        refine e2 ((u2 r hr).mpr ?_)
        cases q : cW c (40 * g + i) with
        | none => rw [q] at w; cases w
        | some p =>
          obtain ⟨a, b⟩ := p
          rw [q] at w
          have : b = r := of_decide_eq_true w
          exact ⟨a, by rw [this]⟩
  · rw [if_neg hA]
    refine ok_iter (fun n s => n = 0 ∧ s = (0, 0)) _ ?_ FU 0 _ ⟨rfl, rfl⟩ (by unfold FU; omega)
    rintro n s rec ⟨hn, rfl⟩ hrec
    unfold fX8_waiting_14
    dsimp only
    rw [if_neg (show ¬ (40 : Int32) ≤ 0 by decide), if_neg (show ¬ (1 : Int32) = 0 by decide), mod_typeNow hk h, Option.bind_some, if_neg hA, fin, ok_some]
theorem sim_waiting {x : SSt} {m : MSt} {t : Nat} {cc : CC} {ff : Nat → FK} {E : EL} {Mf idf : Nat → Nat} {lvi : Nat} (h : IV x m t cc ff E Mf idf lvi) (p1 p2 p3 : Int32) :
    Sim2 [0] mpA x (lvi + 1) (fX7_waiting (fk p1) (foc (fk p1) x) p1 p2 p3) (fX8_waiting m p1 p2 p3) := by
  obtain ⟨⟨h1, h2, h3, h4, h5, h6, h7, h8, h9, h10, h11, h12, h13⟩, hrw⟩ := id h
  by_cases hK : isN p1 16
  · obtain ⟨k1, k2, k3, k4, k5⟩ := key_in hK
    rw [k3]
    generalize cl p1 = k at *
    obtain ⟨b1, b2, b3, b4, b5⟩ := h7 k k5
    have hfc : fClk (foc k x) = nI t := h2
    have hfV : VR (fV (foc k x)) (cc k) (ff k) := b1
    have b2' : MR (mThrown_s m 0) k (cc k) (ff k) := b2.keq seq_Thrown.1
    have hnow' : mNow (mThrown_s m 0) = nI t := h4
    have hth := mod_isThere k5 b2'
    rw [hnow'] at hth
    unfold fX7_waiting
    rw [k1, Option.bind_some, thrL, k4]
    rw [k4] at k2
    by_cases hG : isN p2 3
    · obtain ⟨g1, g2, g3, g4⟩ := grp_in hG
      rw [g1, Option.bind_some, thrL]
      by_cases hD : isN p3 4
      · obtain ⟨d1', d2', d3', d4'⟩ := rdr_in hD
        have hread := isRdr_e (isGrp_e k2 g2 (Or.inr rfl)) d2' (Or.inr rfl)
        rw [g3, d3'] at hread
        have hw := mod_wait k5 b2 b3 g4 d4' hread
        rw [← g3, ← d3', h4] at hw
        rw [d1', Option.bind_some, thrL, hw, c_type k5 hfV, Option.bind_some, hfc]
        by_cases hA : tyN (cc k) (nI t) = 4
        · obtain ⟨q1, q2⟩ := tyN_is (by decide) hA
          obtain ⟨hGo, h40⟩ := ok_grp b3 q2
          have hc := grp_count ((b1.2.2.2 (thC_T q1)).2.2 q2) hGo.1 g4 d4'
          rw [← g3, ← d3'] at hc
          rw [if_pos hA, if_pos hA, kyk k5, chk_r, show vlGr (fV (foc k x)) = vlGr (sV x k) from rfl, hc, Option.bind_some]
          exact q_ok h rfl rfl rfl
        · rw [if_neg hA, if_neg hA]
          exact q_ok h rfl rfl rfl
      · obtain ⟨d1', d2'⟩ := rdr_out hD
        rw [d1', Option.bind_some, thrR, mod_wait0 (isRdr_e (isGrp_e k2 g2 (Or.inr rfl)) d2' (Or.inl rfl))]
        exact q_fail h rfl rfl (by decide) rfl
    · obtain ⟨g1, g2⟩ := grp_out hG
      rw [g1, Option.bind_some, thrR, mod_wait0 (isRdr_0 (isGrp_e k2 g2 (Or.inl rfl)))]
      exact q_fail h rfl rfl (by decide) rfl
  · obtain ⟨k1, k2⟩ := key_out hK
    unfold fX7_waiting
    rw [k1, Option.bind_some, thrR, mod_wait0 (isRdr_0 (isGrp_k k2))]
    exact q_fail h rfl rfl (by decide) rfl
