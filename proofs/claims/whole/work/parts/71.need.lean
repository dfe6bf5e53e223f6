/-! what calls need, on both sides -/
theorem wi_N {p : Int32} {b : Nat} (hb : b + 1 < 2 ^ 31) : ¬ (p < 0 ∨ nI b < p) ↔ isN p (b + 1) := by
  constructor
  · intro h
    obtain ⟨n, hn, rfl⟩ := nI_of (x := p) (fun q => h (Or.inl q))
    have h2 : ¬ nI b < nI n := fun q => h (Or.inr q)
    rw [nI_ltE (by omega) hn] at h2
    exact ⟨n, by omega, rfl⟩
  · rintro ⟨n, hn, rfl⟩
    rw [nI_ltE (by omega) (by omega), nI_lt0 (by omega)]
    rintro (q | q)
    · exact q
    · omega
theorem key_in {p : Int32} (h : isN p 16) : fX7_needKey p = some (.inl 0) ∧ fX8_isKey p = some 1 ∧ fk p = cl p ∧ p = nI (cl p) ∧ cl p < 16 := by
  obtain ⟨h1, h2⟩ := isN_cl h (by omega)
  refine ⟨?_, ?_, ?_, h1, h2⟩
  · unfold fX7_needKey
    rw [h1, isk_N h2, Option.bind_some, if_neg one_ne0]
  · unfold fX8_isKey
    rw [isIn_nI, d15, if_neg ((wi_N (by omega)).mpr h), Option.bind_some]; rfl
  · unfold fk
    rw [h1, if_pos (inb_nI h2 (by omega)), cl_nI (by omega), nI_clamp (by omega)]
theorem key_out {p : Int32} (h : ¬ isN p 16) : fX7_needKey p = some (.inr 0) ∧ fX8_isKey p = some 0 := by
  have h2 : p < 0 ∨ nI 15 < p := Classical.byContradiction (fun q => h ((wi_N (by omega)).mp q))
  constructor
  · unfold fX7_needKey
    rw [isk_f h2, Option.bind_some, if_pos rfl]
  · unfold fX8_isKey
    rw [isIn_nI, d15, if_pos h2, Option.bind_some]; rfl
theorem within_in {p a b : Int32} (h : ¬ (p < a ∨ b < p)) : fX7_needWithin p a b = some (.inl 0) ∧ fX8_isIn p a b = some 1 := by
  constructor
  · unfold fX7_needWithin
    rw [wit_t (fun q => h (Or.inl q)) (fun q => h (Or.inr q)), Option.bind_some, if_neg one_ne0]
  · rw [isIn_nI, if_neg h]
theorem within_out {p a b : Int32} (h : p < a ∨ b < p) : fX7_needWithin p a b = some (.inr 1) ∧ fX8_isIn p a b = some 0 := by
  constructor
  · unfold fX7_needWithin
    rw [wit_f h, Option.bind_some, if_pos rfl]
  · rw [isIn_nI, if_pos h]
theorem val_in {p : Int32} (h : isV p) : fX7_needValue p = some (.inl 0) ∧ fX8_isValue p = some 1 := by
  have h2 : ¬ (p < 0 ∨ (9999 : Int32) < p) := (wi_N (b := 9999) (by omega)).mpr h
  constructor
  · unfold fX7_needValue
    rw [(within_in h2).1, Option.bind_some]; rfl
  · unfold fX8_isValue
    rw [(within_in h2).2, Option.bind_some]; rfl
theorem val_out {p : Int32} (h : ¬ isV p) : fX7_needValue p = some (.inr 1) ∧ fX8_isValue p = some 0 := by
  have h2 : p < 0 ∨ (9999 : Int32) < p := Classical.byContradiction (fun q => h ((wi_N (b := 9999) (by omega)).mp q))
  constructor
  · unfold fX7_needValue
    rw [(within_out h2).1, Option.bind_some]; rfl
  · unfold fX8_isValue
    rw [(within_out h2).2, Option.bind_some]; rfl
section NEED
variable {F : FSt} {c : CK} {f : FK} {k : Nat}
theorem c_there (hk : k < 16) (h : VR (fV F) c f) : fX7_isThere k F (nI k) = some (b2i (thC c (fClk F))) := by
  unfold fX7_isThere
  rw [kyk hk, chk_r, val_isThere h, Option.bind_some, isB_b2i, chk_r]
theorem c_type (hk : k < 16) (h : VR (fV F) c f) : fX7_typeNow k F (nI k) = some (tyN c (fClk F)) := by
  unfold fX7_typeNow tyN
  rw [c_there hk h, Option.bind_some]
  by_cases e : thC c (fClk F) = true
  · rw [e, if_neg (by decide), kyk hk, chk_r, if_pos rfl, (h.2.2.2 (thC_T e)).2.1.1]
  · have e' : thC c (fClk F) = false := by simpa using e
    rw [e', if_pos (by decide), if_neg (by decide)]
theorem c_ty_y (hk : k < 16) (h : VR (fV F) c f) {t : Int32} (e : tyN c (fClk F) = t) : fX7_needType k F (nI k) t = some (.inl 0) := by
  unfold fX7_needType
  rw [c_type hk h, Option.bind_some, if_pos e]
theorem c_ty_n (hk : k < 16) (h : VR (fV F) c f) {t : Int32} (e : ¬ tyN c (fClk F) = t) : fX7_needType k F (nI k) t = some (.inr 2) := by
  unfold fX7_needType
  rw [c_type hk h, Option.bind_some, if_neg e]
theorem c_ta_y (hk : k < 16) (h : VR (fV F) c f) {t : Int32} (e : tyN c (fClk F) = 0 ∨ tyN c (fClk F) = t) : fX7_needTypeOrAbsent k F (nI k) t = some (.inl 0) := by
  unfold fX7_needTypeOrAbsent
  rw [c_type hk h, Option.bind_some]
  by_cases e0 : tyN c (fClk F) = 0
  · rw [if_pos e0]
  · rw [if_neg e0, c_ty_y hk h (by rcases e with q | q; exact absurd q e0; exact q), Option.bind_some]; rfl
theorem c_ta_n (hk : k < 16) (h : VR (fV F) c f) {t : Int32} (e : ¬ (tyN c (fClk F) = 0 ∨ tyN c (fClk F) = t)) : fX7_needTypeOrAbsent k F (nI k) t = some (.inr 2) := by
  unfold fX7_needTypeOrAbsent
  rw [c_type hk h, Option.bind_some, if_neg (fun q => e (Or.inl q)), c_ty_n hk h (fun q => e (Or.inr q)), Option.bind_some]; rfl
theorem c_size (hk : k < 16) (h : VR (fV F) c f) : fX7_sizeNow k F (nI k) = some (if thC c (fClk F) = true then nI (cL c).length else 0) := by
  unfold fX7_sizeNow
  rw [c_there hk h, Option.bind_some]
  by_cases e : thC c (fClk F) = true
  · rw [e, if_neg (by decide), kyk hk, chk_r, val_count (h.VL (thC_T e) rfl), Option.bind_some]; rfl
  · have e' : thC c (fClk F) = false := by simpa using e
    rw [e', if_pos (by decide), if_neg (by decide)]
theorem c_room_y (hk : k < 16) (h : VR (fV F) c f) (e : thC c (fClk F) = true → (cL c).length < 40) : fX7_needRoom k F (nI k) = some (.inl 0) := by
  unfold fX7_needRoom
  rw [c_size hk h, Option.bind_some]
  by_cases q : thC c (fClk F) = true
  · rw [if_pos q, d40, if_pos (nI_lt (e q) (by omega))]
  · rw [if_neg q, if_pos (by decide)]
theorem c_room_n (hk : k < 16) (h : VR (fV F) c f) (hc : okCK c) (e : ¬ (thC c (fClk F) = true → (cL c).length < 40)) : fX7_needRoom k F (nI k) = some (.inr 2) := by
  obtain ⟨q, w⟩ := Classical.not_imp.mp e
  have := (ok_T hc (thC_T q)).2.2.1
  unfold fX7_needRoom
  rw [c_size hk h, Option.bind_some, if_pos q, d40, if_neg (nI_nlt (by omega) (by omega))]
theorem c_row_y {E : EL} (h : LogC (fLog F) E) (e : E.length < 300) : fX7_needRowLeft k F = some (.inl 0) := by
  unfold fX7_needRowLeft
  rw [h.1, d300, if_pos (nI_lt e (by omega))]
theorem c_row_n {E : EL} (h : LogC (fLog F) E) (e : ¬ E.length < 300) : fX7_needRowLeft k F = some (.inr 2) := by
  have := h.2.1
  unfold fX7_needRowLeft
  rw [h.1, d300, if_neg (nI_nlt (by omega) (by omega))]
theorem c_place (hk : k < 16) (h : VR (fV F) c f) {v : Int32} (hv : isV v) : fX7_placeIn k F (nI k) v = some (if thC c (fClk F) = true then plc (cL c) v else -1) := by
  unfold fX7_placeIn
  rw [c_there hk h, Option.bind_some]
  by_cases e : thC c (fClk F) = true
  · rw [e, if_neg (by decide), kyk hk, chk_r, val_place (h.VL (thC_T e) rfl) hv (fun u => some u)]; rfl
  · have e' : thC c (fClk F) = false := by simpa using e
    rw [e', if_pos (by decide), if_neg (by decide)]
end NEED
theorem can_eq (m : MSt) (p : Int32) : fX8_can m p = some (mThrown_s m p, if p = 0 then 1 else 0) := by
  unfold fX8_can
  rw [keep_r]
  split <;> rfl
theorem full_eq {m : MSt} {E : EL} (h : LogM (mLog m) (mRows m) (rws E)) (h300 : E.length ≤ 300) : fX8_isFull m = some (if E.length < 300 then 0 else 1) := by
  have hl : (rws E).length = E.length := List.length_map _
  unfold fX8_isFull
  rw [h.1, hl, d300]
  by_cases e : E.length < 300
  · rw [if_pos e, if_neg (by rw [nI_eqE (by omega) (by omega)]; omega)]
  · rw [if_neg e, if_pos (by rw [nI_eqE (by omega) (by omega)]; omega)]
theorem unf_foc (k : Nat) (x : SSt) : unf k x (foc k x) = x := by
  have : vup (sV x) k (sV x k) = sV x := by
    funext j
    by_cases e : j = k
    · rw [e, vup_s]
    · exact vup_o e
  show (sRar x, sKtw x, sClk x, sLs x, sLvi x, sLog x, sNew x, vup (sV x) k (sV x k)) = x
  rw [this]; rfl
def IVx (x : SSt) (m : MSt) (lim : Nat) : Prop := ∃ t cc ff E Mf idf lvi, lvi ≤ lim ∧ IV x m t cc ff E Mf idf lvi
/-- answers agree: S: which exceptions there are, mp: how the reference numbers them -/
def Agr {α : Type} (S : List Nat) (mp : Nat → Int32) (res : α ⊕ Nat) (z : MSt) (b : α) : Prop := (∀ v, res = .inl v → mThrown z = 0 ∧ b = v) ∧ ∀ n, res = .inr n → n ∈ S ∧ mThrown z = mp n
def mpA (n : Nat) : Int32 := if n = 0 then 1 else if n = 1 then 2 else 3
def mpB (n : Nat) : Int32 := if n = 0 then 1 else 2
def mpC (n : Nat) : Int32 := if n = 1 then 1 else 2
def Sim1 (S : List Nat) (mp : Nat → Int32) (k : Nat) (x : SSt) (lim : Nat) (oc : Option (FSt × (Int32 ⊕ Nat))) (om : Option (MSt × Int32)) : Prop := ∃ y res z b, oc = some (y, res) ∧ om = some (z, b) ∧ IVx (unf k x y) z lim ∧ Agr S mp res z b
theorem sim_fail {S : List Nat} {mp : Nat → Int32} {x : SSt} {m : MSt} {t : Nat} {cc : CC} {ff : Nat → FK} {E : EL} {Mf idf : Nat → Nat} {lvi k n : Nat} {oc : Option (FSt × (Int32 ⊕ Nat))} {om : Option (MSt × Int32)} {u b : Int32} (h : IV x m t cc ff E Mf idf lvi) (h1 : oc = some (foc k x, .inr n)) (h2 : om = some (mThrown_s m u, b)) (hS : n ∈ S) (hu : u = mp n) : Sim1 S mp k x (lvi + 1) oc om :=
  ⟨foc k x, .inr n, mThrown_s m u, b, h1, h2, by rw [unf_foc]; exact ⟨t, cc, ff, E, Mf, idf, lvi, Nat.le_succ _, iv_seq h seq_Thrown⟩, fun v q => (by cases q), fun j q => by cases q; exact ⟨hS, hu⟩⟩
theorem cls_23 {y : FSt} {E : EL} {id k : Nat} {r : RW} (hk : k < 16) (hL : LogC (fLog y) E) (h300 : E.length < 300) (hid : vlId (fV y) = nI id) (hclk : fClk y = wT r) (hy : wY r = nI k) (v : Int32) :
    ∃ lo, fX7_call_23 k y (kcl (wK r)) (nI k) (fst1 r) (wB r) (wC r) v = some (fLog_s y lo, v) ∧ LogC lo (E ++ [(r, id)]) := by
  obtain ⟨a, a1, b, b1, b2⟩ := log_add hL h300 r id
  unfold fX7_call_23
  rw [hy] at a1
  rw [a1, Option.bind_some, keep_r, kyk hk, chk_r, show fLog (fLog_s y a) = a from rfl, show fClk (fLog_s y a) = fClk y from rfl, show fV (fLog_s y a) = fV y from rfl, hclk, hid, b1, Option.bind_some, keep_r]
  exact ⟨b, rfl, b2⟩
/-- the end of a call that is written: the class's row, the reference's -/
theorem commit {x : SSt} {m z : MSt} {t : Nat} {cc : CC} {ff : Nat → FK} {E : EL} {Mf idf : Nat → Nat} {lvi k : Nat} {r : RW} {y : FSt} (hk : k < 16) (h : IV x m t cc ff E Mf idf lvi) (hth : mThrown m = 0) (hr : okR r (cc k)) (hy : wY r = nI k) (ht : wT r = nI t) (hL : E.length < 300)
    (hp : PerR (foc k x) y (opC r (cc k)) (opF r (cc k) (ff k)) (mkB r (cc k))) (hm : MoP k m z (opC r (cc k)) (opF r (cc k) (ff k)) (mkB r (cc k))) (hw : wK r = 6 → mWriting m = nI E.length) (v : Int32) :
    ∃ lo z', fX7_call_23 k y (kcl (wK r)) (nI k) (fst1 r) (wB r) (wC r) v = some (fLog_s y lo, v) ∧ fX8_writes z (wK r) (nI k) (wA r) (wB r) (wC r) = some z' ∧ IVx (unf k x (fLog_s y lo)) z' (lvi + 1) ∧ mThrown z' = 0 := by
  obtain ⟨⟨h1, h2, h3, h4, h5, h6, h7, h8, h9, h10, h11, h12, h13⟩, hrw⟩ := id h
  have hid : vlId (fV y) = nI (if mkB r (cc k) = true then lvi + 1 else idf k) := by
    rw [hp.2.2.1]
    split
    · show sLvi x + 1 = _; rw [h12, nI_1]
    · exact (h11 k hk).1
  have hclk : fClk y = wT r := by rw [hp.1.2.2.1, ht]; exact h2
  obtain ⟨lo, lo1, lo2⟩ := cls_23 (y := y) (r := r) hk (by rw [hp.1.2.2.2.2.1]; exact h8) hL hid hclk hy v
  have e := msc_e hm.1.1
  have hlz : LogM (mLog z) (mRows z) (rws E) := by rw [e.2.2.2.2.2.1, e.2.2.2.1]; exact h9
  have hcz : mClock z = nI t := e.1.trans h3
  have hl3 : (rws E).length < 300 := by rw [show (rws E).length = E.length from List.length_map _]; exact hL
  obtain ⟨L, l1, l2⟩ := mod_writes hlz hl3 (wK r) (nI k) (wA r) (wB r) (wC r)
  have hre : (wK r, nI k, wA r, wB r, wC r, mClock z) = r := by rw [hcz, ← ht, ← hy]; rfl
  rw [hre] at l2
  refine ⟨lo, _, lo1, l1, ⟨t, _, _, _, _, _, _, ?_, iv_row hk h hr hy ht hp lo2 hm hw rfl l2⟩, ?_⟩
  · split <;> omega
  · show mThrown z = 0
    exact e.2.2.2.2.2.2.2.2.2.2.2.2.trans hth
/-- the end of a call that is not written -/
theorem quiet {x : SSt} {m z : MSt} {t : Nat} {cc : CC} {ff : Nat → FK} {E : EL} {Mf idf : Nat → Nat} {lvi k : Nat} {y : FSt} (hk : k < 16) (h : IV x m t cc ff E Mf idf lvi) (hth : mThrown m = 0) (hp : PerR (foc k x) y (cc k) (ff k) false) (hm : MoP k m z (cc k) (ff k) false) : IVx (unf k x y) z (lvi + 1) ∧ mThrown z = 0 :=
  ⟨⟨t, cc, ff, E, Mf, idf, lvi, Nat.le_succ _, iv_none hk h hp hm⟩, (msc_e hm.1.1).2.2.2.2.2.2.2.2.2.2.2.2.trans hth⟩
