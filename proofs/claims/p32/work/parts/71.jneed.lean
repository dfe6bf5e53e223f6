/-! what calls need -/
theorem wi_N {p : Int32} {b : Nat} (hb : b + 1 < 2 ^ 31) : ¬ (p < 0 ∨ nI b < p) ↔ isN p (b + 1) := by
  constructor
  · intro h
    obtain ⟨n, hn, rfl⟩ := nI_of (x := p) (fun q => h (Or.inl q))
    have h2 : ¬ nI b < nI n := fun q => h (Or.inr q)
    rw [nI_ltE (by omega) hn] at h2
    exact ⟨n, by omega, rfl⟩
  · rintro ⟨n, hn, rfl⟩
    rw [nI_ltE (by omega) (by omega), nI_lt0 (by omega)]
    rintro (q | q)
    · exact q
    · omega
theorem key_ok {k : Nat} (hk : k < 16) : fX7_needKey (nI k) = some (.inl 0) := by
  unfold fX7_needKey
  rw [isk_N hk, Option.bind_some, if_neg one_ne0]
theorem within_in {p a b : Int32} (h : ¬ (p < a ∨ b < p)) : fX7_needWithin p a b = some (.inl 0) := by
  unfold fX7_needWithin
  rw [wit_t (fun q => h (Or.inl q)) (fun q => h (Or.inr q)), Option.bind_some, if_neg one_ne0]
theorem within_out {p a b : Int32} (h : p < a ∨ b < p) : fX7_needWithin p a b = some (.inr 1) := by
  unfold fX7_needWithin
  rw [wit_f h, Option.bind_some, if_pos rfl]
theorem val_in {p : Int32} (h : isV p) : fX7_needValue p = some (.inl 0) := by
  have h2 : ¬ (p < 0 ∨ (9999 : Int32) < p) := (wi_N (b := 9999) (by omega)).mpr h
  unfold fX7_needValue
  rw [within_in h2, Option.bind_some]; rfl
theorem val_out {p : Int32} (h : ¬ isV p) : fX7_needValue p = some (.inr 1) := by
  have h2 : p < 0 ∨ (9999 : Int32) < p := Classical.byContradiction (fun q => h ((wi_N (b := 9999) (by omega)).mp q))
  unfold fX7_needValue
  rw [within_out h2, Option.bind_some]; rfl
theorem grp_ok {g : Nat} (hg : g < 3) : fX7_needGroup (nI g) = some (.inl 0) := by
  unfold fX7_needGroup
  rw [isg_N hg, Option.bind_some, if_neg one_ne0]
theorem rdr_ok {r : Nat} (hr : r < 4) : fX7_needReader (nI r) = some (.inl 0) := by
  have w : fX7_isWithin (nI r) 0 3 = some 1 := wit_N (a := 0) (b := 3) (by omega) (by omega) (by omega)
  unfold fX7_needReader
  rw [w, Option.bind_some, if_neg one_ne0]
def tyN (c : CK) (now : Int32) : Int32 := if thC c now = true then cT c else 0
section NEED
variable {F : FSt} {c : CK} {f : FK} {k : Nat}
theorem c_there (hk : k < 16) (h : VR (fV F) c f) : fX7_isThere k F (nI k) = some (b2i (thC c (fClk F))) := by
  unfold fX7_isThere
  rw [kyk hk, chk_r, val_isThere h, Option.bind_some, isB_b2i, chk_r]
theorem c_type (hk : k < 16) (h : VR (fV F) c f) : fX7_typeNow k F (nI k) = some (tyN c (fClk F)) := by
  unfold fX7_typeNow tyN
  rw [c_there hk h, Option.bind_some]
  by_cases e : thC c (fClk F) = true
  · rw [e, if_neg (by decide), kyk hk, chk_r, if_pos rfl, (h.2.2.2 (thC_T e)).2.1.1]
  · have e' : thC c (fClk F) = false := by simpa using e
    rw [e', if_pos (by decide), if_neg (by decide)]
theorem c_ty_y (hk : k < 16) (h : VR (fV F) c f) {t : Int32} (e : tyN c (fClk F) = t) : fX7_needType k F (nI k) t = some (.inl 0) := by
  unfold fX7_needType
  rw [c_type hk h, Option.bind_some, if_pos e]
theorem c_ty_n (hk : k < 16) (h : VR (fV F) c f) {t : Int32} (e : ¬ tyN c (fClk F) = t) : fX7_needType k F (nI k) t = some (.inr 2) := by
  unfold fX7_needType
  rw [c_type hk h, Option.bind_some, if_neg e]
theorem c_ta_y (hk : k < 16) (h : VR (fV F) c f) {t : Int32} (e : tyN c (fClk F) = 0 ∨ tyN c (fClk F) = t) : fX7_needTypeOrAbsent k F (nI k) t = some (.inl 0) := by
  unfold fX7_needTypeOrAbsent
  rw [c_type hk h, Option.bind_some]
  by_cases e0 : tyN c (fClk F) = 0
  · rw [if_pos e0]
  · rw [if_neg e0, c_ty_y hk h (by rcases e with q | q; exact absurd q e0; exact q), Option.bind_some]; rfl
theorem c_ta_n (hk : k < 16) (h : VR (fV F) c f) {t : Int32} (e : ¬ (tyN c (fClk F) = 0 ∨ tyN c (fClk F) = t)) : fX7_needTypeOrAbsent k F (nI k) t = some (.inr 2) := by
  unfold fX7_needTypeOrAbsent
  rw [c_type hk h, Option.bind_some, if_neg (fun q => e (Or.inl q)), c_ty_n hk h (fun q => e (Or.inr q)), Option.bind_some]; rfl
theorem c_size (hk : k < 16) (h : VR (fV F) c f) : fX7_sizeNow k F (nI k) = some (if thC c (fClk F) = true then nI (cL c).length else 0) := by
  unfold fX7_sizeNow
  rw [c_there hk h, Option.bind_some]
  by_cases e : thC c (fClk F) = true
  · rw [e, if_neg (by decide), kyk hk, chk_r, val_count (h.VL (thC_T e) rfl), Option.bind_some]; rfl
  · have e' : thC c (fClk F) = false := by simpa using e
    rw [e', if_pos (by decide), if_neg (by decide)]
theorem c_room_y (hk : k < 16) (h : VR (fV F) c f) (e : thC c (fClk F) = true → (cL c).length < 40) : fX7_needRoom k F (nI k) = some (.inl 0) := by
  unfold fX7_needRoom
  rw [c_size hk h, Option.bind_some]
  by_cases q : thC c (fClk F) = true
  · rw [if_pos q, d40, if_pos (nI_lt (e q) (by omega))]
  · rw [if_neg q, if_pos (by decide)]
theorem c_room_n (hk : k < 16) (h : VR (fV F) c f) (hc : okCK c) (e : ¬ (thC c (fClk F) = true → (cL c).length < 40)) : fX7_needRoom k F (nI k) = some (.inr 2) := by
  obtain ⟨q, w⟩ := Classical.not_imp.mp e
  have := (ok_T hc (thC_T q)).2.2.1
  unfold fX7_needRoom
  rw [c_size hk h, Option.bind_some, if_pos q, d40, if_neg (nI_nlt (by omega) (by omega))]
theorem c_row_y {E : EL} (h : LogC (fLog F) E) (e : E.length < 300) : fX7_needRowLeft k F = some (.inl 0) := by
  unfold fX7_needRowLeft
  rw [h.1, d300, if_pos (nI_lt e (by omega))]
theorem c_row_n {E : EL} (h : LogC (fLog F) E) (e : ¬ E.length < 300) : fX7_needRowLeft k F = some (.inr 2) := by
  have := h.2.1
  unfold fX7_needRowLeft
  rw [h.1, d300, if_neg (nI_nlt (by omega) (by omega))]
theorem c_place (hk : k < 16) (h : VR (fV F) c f) {v : Int32} (hv : isV v) : fX7_placeIn k F (nI k) v = some (if thC c (fClk F) = true then plc (cL c) v else -1) := by
  unfold fX7_placeIn
  rw [c_there hk h, Option.bind_some]
  by_cases e : thC c (fClk F) = true
  · rw [e, if_neg (by decide), kyk hk, chk_r, val_place (h.VL (thC_T e) rfl) hv (fun u => some u)]; rfl
  · have e' : thC c (fClk F) = false := by simpa using e
    rw [e', if_pos (by decide), if_neg (by decide)]
end NEED
theorem tyN_or {c : CK} {now t : Int32} (e : tyN c now = 0 ∨ tyN c now = t) : thC c now = true → cT c = t := fun q => by
  unfold tyN at e
  rw [if_pos q] at e
  rcases e with w | w
  · exact absurd w (thC_T q)
  · exact w
theorem tyN_is {c : CK} {now t : Int32} (h0 : t ≠ 0) (e : tyN c now = t) : thC c now = true ∧ cT c = t := by
  unfold tyN at e
  split at e
  · exact ⟨by assumption, e⟩
  · exact absurd e.symm h0
theorem tyN_t {c : CK} {now : Int32} (h : thC c now = true) : tyN c now = cT c := if_pos h
theorem tyN_f {c : CK} {now : Int32} (h : thC c now = false) : tyN c now = 0 := if_neg (by rw [h]; decide)
theorem tyN_0 {c : CK} {now : Int32} : tyN c now = 0 ↔ thC c now = false := by
  constructor
  · intro h
    cases e : thC c now with
    | false => rfl
    | true => rw [tyN_t e] at h; exact absurd h (thC_T e)
  · exact tyN_f
/-- what waits, told in numbers: counted, its end, its entries -/
def szN (c : CK) (now : Int32) : Nat := if thC c now = true then (cL c).length else 0
def lfN (c : CK) (now : Int32) : Int32 := if thC c now = true then (if cE c = -1 then -1 else cE c - now) else 0
def ixN (c : CK) (now v : Int32) : Int32 := if thC c now = true then plc (cL c) v else -1
def wtN (c : CK) (now : Int32) (g r : Nat) : Nat := if tyN c now = 4 then wtn (cW c) g r 40 else 0
theorem val_isSmall {v : VSt} {c : CK} {f : FK} (h : VR v c f) (h0 : cT c ≠ 0) : fX6_isSmall v = some (if f.1 = 1 then 1 else 0) ∧ (f.1 = 1 ∨ f.1 = 2) := by
  unfold fX6_isSmall
  rcases (h.2.2.2 h0).2.1.2.2 with ⟨h4, h5, -⟩ | ⟨h4, h5, h6, -⟩ | ⟨h4, h5, h6, -⟩
  · rw [h5, h4]; exact ⟨rfl, Or.inl rfl⟩
  · rw [h6, h4]; exact ⟨rfl, Or.inr rfl⟩
  · rw [h6, h4]; exact ⟨rfl, Or.inr rfl⟩
section QUERY
variable {F : FSt} {c : CK} {f : FK} {k : Nat}
theorem q_type (hk : k < 16) (h : VR (fV F) c f) : fX7_typeOf k F (nI k) = some (.inl (tyN c (fClk F))) := by
  unfold fX7_typeOf
  rw [key_ok hk, Option.bind_some, thrL, c_type hk h, Option.bind_some]
theorem q_size (hk : k < 16) (h : VR (fV F) c f) : fX7_size k F (nI k) = some (.inl (nI (szN c (fClk F)))) := by
  unfold fX7_size szN
  rw [key_ok hk, Option.bind_some, thrL, c_size hk h, Option.bind_some]
  by_cases e : thC c (fClk F) = true
  · rw [if_pos e, if_pos e]
  · rw [if_neg e, if_neg e]; rfl
theorem q_left (hk : k < 16) (h : VR (fV F) c f) : fX7_left k F (nI k) = some (.inl (lfN c (fClk F))) := by
  unfold fX7_left lfN
  rw [key_ok hk, Option.bind_some, thrL, c_there hk h, Option.bind_some]
  by_cases e : thC c (fClk F) = true
  · rw [e, if_neg (by decide), if_pos rfl, kyk hk, chk_r, keep_r, (h.2.2.2 (thC_T e)).1]
    by_cases e2 : cE c = -1
    · rw [if_pos e2, if_pos e2]
    · rw [if_neg e2, if_neg e2]
  · have e' : thC c (fClk F) = false := by simpa using e
    rw [e', if_pos (by decide), if_neg (by decide)]
theorem q_form (hk : k < 16) (h : VR (fV F) c f) : fX7_formOf k F (nI k) = some (.inl (if thC c (fClk F) = true then f.1 else 0)) := by
  unfold fX7_formOf
  rw [key_ok hk, Option.bind_some, thrL, c_there hk h, Option.bind_some]
  by_cases e : thC c (fClk F) = true
  · obtain ⟨s1, s2⟩ := val_isSmall h (thC_T e)
    rw [e, if_neg (by decide), if_pos rfl, kyk hk, chk_r, s1, Option.bind_some]
    rcases s2 with s2 | s2
    · rw [s2]; rfl
    · rw [s2]; rfl
  · have e' : thC c (fClk F) = false := by simpa using e
    rw [e', if_pos (by decide), if_neg (by decide)]
theorem c_index (hk : k < 16) (h : VR (fV F) c f) (hc : okCK c) {p2 : Int32} :
    (∀ i, i < (cL c).length → thC c (fClk F) = true → p2 = nI i → fX7_needIndex k F (nI k) p2 = some (.inl 0)) ∧ ((¬ ∃ i, i < (cL c).length ∧ thC c (fClk F) = true ∧ p2 = nI i) → fX7_needIndex k F (nI k) p2 = some (.inr 0)) := by
  unfold fX7_needIndex
  rw [c_size hk h, Option.bind_some]
  constructor
  · rintro i hi ht rfl
    have h40 := (ok_T hc (thC_T ht)).2.2.1
    have w : fX7_isWithin (nI i) 0 (nI ((cL c).length - 1)) = some 1 := wit_N (a := 0) (by omega) (by omega) (by omega)
    rw [if_pos ht, nI_s1 (by omega), w, Option.bind_some, if_neg one_ne0]
  · intro hn
    by_cases e : p2 < 0
    · rw [wit_f (Or.inl e), Option.bind_some, if_pos rfl]
    · obtain ⟨i, hi, rfl⟩ := nI_of e
      by_cases ht : thC c (fClk F) = true
      · have hil : (cL c).length ≤ i := Classical.byContradiction (fun q => hn ⟨i, by omega, ht, rfl⟩)
        have w : fX7_isWithin (nI i) 0 (nI (cL c).length - 1) = some 0 := by
          refine wit_f (Or.inr ?_)
          by_cases z : (cL c).length = 0
          · rw [z, Int32.lt_iff_toInt_lt, nI_toInt hi, show (nI 0 - 1).toInt = -1 by decide]
            omega
          · rw [nI_s1 (by omega)]; exact nI_lt (by omega) hi
        rw [if_pos ht, w, Option.bind_some, if_pos rfl]
      · have w : fX7_isWithin (nI i) 0 (0 - 1) = some 0 := by
          refine wit_f (Or.inr ?_)
          rw [Int32.lt_iff_toInt_lt, nI_toInt hi, show ((0 : Int32) - 1).toInt = -1 by decide]
          omega
        rw [if_neg ht, w, Option.bind_some, if_pos rfl]
theorem q_at (hk : k < 16) (h : VR (fV F) c f) (hc : okCK c) {i : Nat} (hi : i < szN c (fClk F)) : ∃ hl : i < (cL c).length, fX7_at k F (nI k) (nI i) = some (.inl ((cL c)[i]'hl).1) ∧ fX7_atByPlain k F (nI k) (nI i) = some (.inl ((cL c)[i]'hl).1) := by
  unfold szN at hi
  split at hi
  · rename_i ht
    have h40 := (ok_T hc (thC_T ht)).2.2.1
    have hVL := h.VL (thC_T ht) rfl
    refine ⟨hi, ?_, ?_⟩
    · unfold fX7_at
      rw [key_ok hk, Option.bind_some, thrL, (c_index hk h hc).1 i hi ht rfl, Option.bind_some, thrL, kyk hk, chk_r, val_at hVL (nI i) (fun u => some (Sum.inl u : Int32 ⊕ Nat)), vat_nI hi (by omega)]
    · unfold fX7_atByPlain
      rw [key_ok hk, Option.bind_some, thrL, (c_index hk h hc).1 i hi ht rfl, Option.bind_some, thrL, kyk hk, chk_r, row_valueAt hVL.2.1, Option.bind_some, vat_nI hi (by omega)]
  · omega
theorem q_at_out (hk : k < 16) (h : VR (fV F) c f) (hc : okCK c) {p : Int32} (hp : p < 0 ∨ ∃ i, i < 2 ^ 31 ∧ szN c (fClk F) ≤ i ∧ p = nI i) : fX7_at k F (nI k) p = some (.inr 0) := by
  have hn : ¬ ∃ i, i < (cL c).length ∧ thC c (fClk F) = true ∧ p = nI i := by
    rintro ⟨i, h1, h2, rfl⟩
    have h40 := (ok_T hc (thC_T h2)).2.2.1
    rcases hp with q | ⟨j, q0, q1, q2⟩
    · exact nI_pos (by omega) q
    · rw [nI_eqE (by omega) q0] at q2
      unfold szN at q1
      rw [if_pos h2] at q1
      omega
  unfold fX7_at
  rw [key_ok hk, Option.bind_some, thrL, (c_index hk h hc).2 hn, Option.bind_some, thrR]
theorem q_index (hk : k < 16) (h : VR (fV F) c f) {v : Int32} (hv : isV v) : fX7_indexOf k F (nI k) v = some (.inl (ixN c (fClk F) v)) := by
  unfold fX7_indexOf ixN
  rw [key_ok hk, Option.bind_some, thrL, val_in hv, Option.bind_some, thrL, c_place hk h hv, Option.bind_some]
theorem q_points (hk : k < 16) (h : VR (fV F) c f) (hc : okCK c) {v : Int32} (hv : isV v) (hT : tyN c (fClk F) = 3) (hf : fnd (cL c) v = true) : fX7_points k F (nI k) v = some (.inl ((cL c)[fi (cL c) v]'(fnd_lt hf)).2.toUInt32) := by
  obtain ⟨e1, e2⟩ := tyN_is (by decide) hT
  have hVL := h.VL (thC_T e1) rfl
  have h40 := (ok_T hc (thC_T e1)).2.2.1
  have hsr := ((ok_T hc (thC_T e1)).2.2.2.2.2.2.1 e2).1
  have hi := fnd_lt hf
  have hne : ¬ nI (fi (cL c) v) = -1 := fun q => by
    rw [nI_nm1 (by omega)] at q; exact q
  obtain ⟨g1, g2⟩ := fl_bits (hsr _ (List.getElem_mem hi))
  unfold fX7_points
  rw [key_ok hk, Option.bind_some, thrL, val_in hv, Option.bind_some, thrL, c_ty_y hk h hT, Option.bind_some, thrL, c_place hk h hv, Option.bind_some, if_pos e1, plc_fnd hf, if_neg hne, kyk hk, chk_r, val_bits hVL (nI (fi (cL c) v)) (fun u => fX7_points_49 k F u), bat_nI hi (by omega)]
  unfold fX7_points_49
  rw [g1, Option.bind_some]
theorem q_wait (hk : k < 16) (h : VR (fV F) c f) (hc : okCK c) {g r : Nat} (hg : g < 3) (hr : r < 4) : fX7_waiting k F (nI k) (nI g) (nI r) = some (.inl (nI (wtN c (fClk F) g r))) := by
  unfold fX7_waiting wtN
  rw [key_ok hk, Option.bind_some, thrL, grp_ok hg, Option.bind_some, thrL, rdr_ok hr, Option.bind_some, thrL, c_type hk h, Option.bind_some]
  by_cases hA : tyN c (fClk F) = 4
  · obtain ⟨q1, q2⟩ := tyN_is (by decide) hA
    rw [if_pos hA, if_pos hA, kyk hk, chk_r, grp_count ((h.2.2.2 (thC_T q1)).2.2 q2) (ok_grp hc q2).1.1 hg hr, Option.bind_some]
  · rw [if_neg hA, if_neg hA]; rfl
theorem tab_of {v : VSt} (h : VR v c f) (h2 : cT c = 2) (hf : f.1 = 2) : TabR (vlTb v) (cL c) f.2 := by
  rcases (h.VL (by rw [h2]; decide) rfl).2.2 with ⟨g, -⟩ | ⟨g, g2, -⟩ | ⟨g, g2, g3, g4⟩
  · rw [hf] at g; exact absurd g (by decide)
  · exact absurd h2 g2
  · exact g4
theorem cur_in {p : Nat} (hp : p < 1024) : fX7_needWithin (nI p) 0 1023 = some (.inl 0) := within_in (fun q => by
  rcases q with q | q
  · exact nI_pos (by omega) q
  · exact nI_nlt (a := 1023) (b := p) (by omega) (by omega) q)
theorem q_next (hk : k < 16) (h : VR (fV F) c f) {p : Nat} (hp : p < 1024) (hA : tyN c (fClk F) = 2) : fX7_next k F (nI k) (nI p) = some (.inl (if f.1 = 1 then 0 else nI (rvb f.2 ((rvb f.2 (p % 2 ^ f.2) 0 + 1) % 2 ^ f.2) 0))) := by
  obtain ⟨q1, q2⟩ := tyN_is (by decide) hA
  obtain ⟨s1, s2⟩ := val_isSmall h (thC_T q1)
  unfold fX7_next
  rw [key_ok hk, Option.bind_some, thrL, cur_in hp, Option.bind_some, thrL, c_ty_y hk h hA, Option.bind_some, thrL, kyk hk, chk_r, s1, Option.bind_some]
  rcases s2 with s2 | s2
  · rw [s2, if_pos rfl, if_neg one_ne0, if_pos rfl]
  · rw [s2, if_neg (show ¬ (2 : Int32) = 1 by decide), if_pos rfl, if_neg (show ¬ (2 : Int32) = 1 by decide), chk_r, tab_cursor (tab_of h q2 s2) hp, Option.bind_some]
theorem q_next_n (hk : k < 16) (h : VR (fV F) c f) {p : Nat} (hp : p < 1024) (hA : ¬ tyN c (fClk F) = 2) : fX7_next k F (nI k) (nI p) = some (.inr 2) := by
  unfold fX7_next
  rw [key_ok hk, Option.bind_some, thrL, cur_in hp, Option.bind_some, thrL, c_ty_n hk h hA, Option.bind_some, thrR]
/-- what a scan gives -/
def gvL (c : CK) (f : FK) (p : Nat) : LL := if f.1 = 1 then cL c else scn (cL c) f.2 p
theorem q_scanned (hk : k < 16) (h : VR (fV F) c f) {p : Nat} (hp : p < 1024) (hA : tyN c (fClk F) = 2) (i : Int32) : fX7_scanned k F (nI k) (nI p) i = some (.inl (vat (gvL c f p) i)) := by
  obtain ⟨q1, q2⟩ := tyN_is (by decide) hA
  obtain ⟨s1, s2⟩ := val_isSmall h (thC_T q1)
  have hVL := h.VL (thC_T q1) rfl
  unfold fX7_scanned gvL
  rw [key_ok hk, Option.bind_some, thrL, cur_in hp, Option.bind_some, thrL, c_ty_y hk h hA, Option.bind_some, thrL, kyk hk, chk_r, s1, Option.bind_some]
  rcases s2 with s2 | s2
  · rw [s2, if_pos rfl, if_neg one_ne0, if_pos rfl, val_at hVL i (fun u => some (Sum.inl u : Int32 ⊕ Nat))]
  · rw [s2, if_neg (show ¬ (2 : Int32) = 1 by decide), if_pos rfl, if_neg (show ¬ (2 : Int32) = 1 by decide), tab_member (tab_of h q2 s2) hp, Option.bind_some]
theorem q_scanned_n (hk : k < 16) (h : VR (fV F) c f) {p : Nat} (hp : p < 1024) (hA : ¬ tyN c (fClk F) = 2) (i : Int32) : fX7_scanned k F (nI k) (nI p) i = some (.inr 2) := by
  unfold fX7_scanned
  rw [key_ok hk, Option.bind_some, thrL, cur_in hp, Option.bind_some, thrL, c_ty_n hk h hA, Option.bind_some, thrR]
end QUERY
