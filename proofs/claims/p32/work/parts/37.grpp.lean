/-! groups -/
abbrev WF : Type := Nat → Option (Nat × Nat)
def upN {α : Type} (f : Nat → α) (k : Nat) (v : α) : Nat → α := fun j => if j = k then v else f j
theorem upN_s {α : Type} {f : Nat → α} {k : Nat} {v : α} : upN f k v k = v := if_pos rfl
theorem upN_o {α : Type} {f : Nat → α} {k j : Nat} {v : α} (h : j ≠ k) : upN f k v j = f j := if_neg h
def wEnc (o : Option (Nat × Nat)) : Int32 := match o with
  | some (s, r) => nI (s * 4 + r)
  | none => -1
def wOk (w : WF) : Prop := ∀ i s r, w i = some (s, r) → r < 4 ∧ s ≤ 1000000
def GrpR (x : GSt) (pl : Nat → Nat) (w : WF) : Prop := (∀ g, g < 3 → gsP x g = nI (pl g)) ∧ (∀ i, i < 120 → gsW x i = wEnc (w i))
theorem wEnc_none {w : WF} (h : wOk w) {i : Nat} : wEnc (w i) = -1 ↔ w i = none := by
  cases e : w i with
  | none => exact ⟨fun _ => rfl, fun _ => rfl⟩
  | some q =>
    obtain ⟨s, r⟩ := q
    have := h i s r e
    refine ⟨fun q => ?_, fun q => (nomatch q)⟩
    unfold wEnc at q
    dsimp only at q
    rw [nI_nm1 (by omega)] at q
    exact q.elim
theorem grp_empty (x : GSt) : ∃ y, fX2_makeEmpty x = some y ∧ GrpR y (fun _ => 0) (fun _ => none) := by
  unfold fX2_makeEmpty
  show Ok _ _
  rw [ok_bind]
  refine ok_mono (ok_fill (by omega) _ 0) (fun P hP => ?_)
  rw [ok_keep, ok_bind]
  refine ok_mono (ok_fill (by omega) _ (-1)) (fun W hW => ?_)
  rw [ok_keep, ok_some]
  exact ⟨fun g hg => hP g hg, fun i hi => hW i hi⟩
theorem grp_give {x : GSt} {pl : Nat → Nat} {w : WF} (h : GrpR x pl w) {g r n now : Nat} (hg : g < 3) (hr : r < 4) (hn : n ≤ 40) (hnow : now ≤ 1000000) (hp : pl g ≤ 40) :
    ∃ y, fX2_giveNext x (nI g) (nI r) (nI n) (nI now) = some (y, if pl g + 1 ≤ n then nI (pl g + 1) else -1) ∧ (pl g + 1 ≤ n → GrpR y (upN pl g (pl g + 1)) (upN w (40 * g + pl g) (some (now, r)))) ∧ (¬ pl g + 1 ≤ n → y = x) := by
  obtain ⟨h1, h2⟩ := h
  unfold fX2_giveNext
  rw [isg_N hg, Option.bind_some, if_neg one_ne0, inb_nI hg (by omega), chk_r, keep_r, nI_clamp (by omega), h1 g hg, nI_1]
  by_cases hc : pl g + 1 ≤ n
  · have hi : (nI g * 40 + nI (pl g + 1)) - 1 = nI (40 * g + pl g) := by
      rw [d40, pk_mul, nI_add, nI_s1 (by omega)]
      congr 1; omega
    have wi : fX7_isWithin (nI (pl g + 1)) 1 40 = some 1 := wit_N (a := 1) (b := 40) (by omega) (by omega) (by omega)
    rw [if_neg (nI_nlt hc (by omega)), wi, Option.bind_some, if_neg one_ne0, chk_r, keep_r, hi, inb_nI (by omega) (by omega), chk_r, keep_r, if_pos hc, d4, pk_mul, nI_add, nI_clamp (by omega)]
    refine ⟨_, rfl, fun _ => ⟨fun g' hg' => ?_, fun i hi => ?_⟩, fun q => absurd hc q⟩
    · simp only [gsP, gsW_s, gsP_s]
      by_cases e : g' = g
      · subst e; rw [upd_s, upN_s]
      · rw [upd_o e, upN_o e]; exact h1 g' hg'
    · simp only [gsW, gsW_s, gsP_s]
      by_cases e : i = 40 * g + pl g
      · subst e; rw [upd_s, upN_s]; rfl
      · rw [upd_o e, upN_o e]; exact h2 i hi
  · rw [if_pos (nI_lt (by omega) (by omega)), if_neg hc]
    exact ⟨x, rfl, fun q => absurd q hc, fun _ => rfl⟩
/-- the slot of an entry's number, if it can have one -/
def eno (e : Int32) : Option Nat := if e < 1 then none else if 40 < e then none else some (e.toNatClampNeg - 1)
theorem eno_some {e : Int32} {j : Nat} (h : eno e = some j) : j < 40 ∧ e = nI (j + 1) := by
  unfold eno at h
  split at h
  · cases h
  · split at h
    · cases h
    · rename_i h1 h2
      have hp : ¬ e < 0 := fun q => h1 (Int32.lt_trans q (by decide))
      obtain ⟨n, hn, rfl⟩ := nI_of hp
      rw [nI_clamp hn] at h
      cases h
      rw [d1, nI_ltE hn (by omega)] at h1
      rw [d40, nI_ltE (by omega) hn] at h2
      exact ⟨by omega, by congr 1; omega⟩
theorem grp_finish {x : GSt} {pl : Nat → Nat} {w : WF} (h : GrpR x pl w) (hw : wOk w) {g : Nat} (hg : g < 3) (e : Int32) :
    ∃ y, fX2_finish x (nI g) e = some (y, match eno e with | some j => if w (40 * g + j) = none then 0 else 1 | none => 0) ∧ (match eno e with | some j => GrpR y pl (upN w (40 * g + j) none) | none => y = x) := by
  obtain ⟨h1, h2⟩ := h
  unfold fX2_finish
  rw [isg_N hg, Option.bind_some, if_neg one_ne0]
  by_cases e1 : e < 1
  · rw [wit_f (Or.inl e1), Option.bind_some, if_pos rfl]
    have : eno e = none := if_pos e1
    rw [this]
    exact ⟨x, rfl, rfl⟩
  · by_cases e2 : 40 < e
    · rw [wit_f (Or.inr e2), Option.bind_some, if_pos rfl]
      have : eno e = none := by unfold eno; rw [if_neg e1, if_pos e2]
      rw [this]
      exact ⟨x, rfl, rfl⟩
    · obtain ⟨j, hj⟩ : ∃ j, eno e = some j := by unfold eno; rw [if_neg e1, if_neg e2]; exact ⟨_, rfl⟩
      obtain ⟨hj1, rfl⟩ := eno_some hj
      rw [hj, wit_t e1 e2, Option.bind_some, if_neg one_ne0]
      have hi : (nI g * 40 + nI (j + 1)) - 1 = nI (40 * g + j) := by
        rw [d40, pk_mul, nI_add, nI_s1 (by omega)]
        congr 1; omega
      rw [keep_r, hi, inb_nI (by omega) (by omega), chk_r, nI_clamp (by omega), h2 _ (by omega)]
      dsimp only
      by_cases hn : w (40 * g + j) = none
      · rw [if_pos ((wEnc_none hw).mpr hn), if_pos hn]
        unfold fX2_finish_43
        rw [inb_nI (by omega) (by omega), chk_r, keep_r, if_pos rfl, nI_clamp (by omega)]
        refine ⟨_, rfl, h1, fun i hi => ?_⟩
        simp only [gsW, gsW_s]
        by_cases e : i = 40 * g + j
        · subst e; rw [upd_s, upN_s]; rfl
        · rw [upd_o e, upN_o e]; exact h2 i hi
      · rw [if_neg (fun q => hn ((wEnc_none hw).mp q)), if_neg hn]
        unfold fX2_finish_43
        rw [inb_nI (by omega) (by omega), chk_r, keep_r, if_neg one_ne0, nI_clamp (by omega)]
        refine ⟨_, rfl, h1, fun i hi => ?_⟩
        simp only [gsW, gsW_s]
        by_cases e : i = 40 * g + j
        · subst e; rw [upd_s, upN_s]; rfl
        · rw [upd_o e, upN_o e]; exact h2 i hi
/-- whether what waits is moved by a claim -/
def mvq (r ticks now : Nat) (o : Option (Nat × Nat)) : Bool := match o with
  | some (s, r') => decide (r' ≠ r) && decide (ticks + s ≤ now)
  | none => false
def mvw (w : WF) (g r ticks now : Nat) : WF := fun i => if 40 * g ≤ i ∧ i < 40 * g + 40 ∧ mvq r ticks now (w i) = true then some (now, r) else w i
def mvn (w : WF) (g r ticks now n : Nat) : Nat := (List.range n).countP (fun j => mvq r ticks now (w (40 * g + j)))
theorem mvn_s {w : WF} {g r ticks now n : Nat} : mvn w g r ticks now (n + 1) = mvn w g r ticks now n + if mvq r ticks now (w (40 * g + n)) = true then 1 else 0 := by
  unfold mvn
  rw [List.range_succ, List.countP_append, List.countP_cons, List.countP_nil, Nat.zero_add]
theorem mvn_le {w : WF} {g r ticks now n : Nat} : mvn w g r ticks now n ≤ n := by
  unfold mvn
  exact Nat.le_trans List.countP_le_length (by rw [List.length_range]; exact Nat.le_refl _)
theorem grp_move {x : GSt} {pl : Nat → Nat} {w : WF} (h : GrpR x pl w) (hw : wOk w) {g r ticks now : Nat} (hg : g < 3) (hr : r < 4) (ht : ticks ≤ 1000) (hnow : now ≤ 1000000) :
    ∃ y, fX2_moveTo x (nI g) (nI r) (nI ticks) (nI now) = some (y, nI (mvn w g r ticks now 40)) ∧ GrpR y pl (mvw w g r ticks now) := by
  obtain ⟨h1, h2⟩ := h
  have key : Ok (fX2_moveTo x (nI g) (nI r) (nI ticks) (nI now)) (fun u => u.2 = nI (mvn w g r ticks now 40) ∧ GrpR u.1 pl (mvw w g r ticks now)) := by
    unfold fX2_moveTo
    rw [isg_N hg, Option.bind_some, if_neg one_ne0, ok_keep, d40, pk_mul]
    refine ok_iter (fun m st => ∃ i, m = 40 - i ∧ i ≤ 40 ∧ st.2.2 = nI (g * 40 + i) ∧ st.2.1 = nI (mvn w g r ticks now i) ∧ (∀ g', g' < 3 → gsP st.1 g' = nI (pl g')) ∧ ∀ k, k < 120 → gsW st.1 k = if k < g * 40 + i then wEnc (mvw w g r ticks now k) else wEnc (w k)) _ ?_ FU 40 _ ⟨0, rfl, by omega, rfl, rfl, h1, fun k hk => ?_⟩ (by unfold FU; omega)
    · rintro m ⟨x, v5, v6⟩ rec ⟨i, hm, hi, e6, e5, h1, h2⟩ hrec
      dsimp only at e5 e6 h1 h2
      subst e5; subst e6
      have e40 : (nI g + 1) * 40 = nI (g * 40 + 40) := by rw [nI_1, d40, pk_mul]; congr 1; omega
      unfold fX2_moveTo_18 fX2_moveTo_57 fX2_moveTo_58
      rw [e40]
      simp (disch := omega) only [ok_if, ok_chk, ok_keep, ok_some, nI_leE, nI_1, nI_clamp]
      refine ⟨fun q => ?_, fun q => ?_⟩
      · have : i = 40 := by omega
        subst this
        refine ⟨rfl, h1, fun k hk => ?_⟩
        rw [h2 k hk]
        by_cases e : k < g * 40 + 40
        · rw [if_pos e]
        · rw [if_neg e]; unfold mvw; rw [if_neg (by omega)]
      have hW := h2 (g * 40 + i) (by omega)
      rw [if_neg (by omega)] at hW
      have hin : inb (nI (g * 40 + i)) 120 = true := inb_nI (by omega) (by omega)
      have ei : g * 40 + i = 40 * g + i := by omega
      have skip : mvq r ticks now (w (g * 40 + i)) = false → Ok (rec (x, nI (mvn w g r ticks now i), nI (g * 40 + i + 1))) (fun u => u.2 = nI (mvn w g r ticks now 40) ∧ GrpR u.1 pl (mvw w g r ticks now)) := fun hq => by
        refine hrec (40 - (i + 1)) _ (by omega) ⟨i + 1, rfl, by omega, rfl, ?_, h1, fun k hk => ?_⟩
        · rw [mvn_s, ← ei, hq]; rfl
        · rw [h2 k hk]
          by_cases e : k = g * 40 + i
          · subst e
            rw [if_neg (by omega), if_pos (by omega)]
            unfold mvw
            rw [hq, if_neg (fun q => by simp at q)]
          · by_cases e2 : k < g * 40 + i
            · rw [if_pos e2, if_pos (by omega)]
            · rw [if_neg e2, if_neg (by omega)]
      rw [hW]
      refine ⟨hin, fun q1 => ?_, fun q1 => ⟨hin, ?_⟩⟩
      · have := (wEnc_none hw).mp q1
        refine ⟨fun _ => skip (by rw [this]; rfl), fun q => absurd trivial q⟩
      · obtain ⟨⟨s, r'⟩, hs⟩ : ∃ q, w (g * 40 + i) = some q := by
          cases e : w (g * 40 + i) with
          | none => exact absurd ((wEnc_none hw).mpr e) q1
          | some q => exact ⟨q, rfl⟩
        obtain ⟨hr', hs'⟩ := hw _ s r' hs
        rw [hs]
        unfold wEnc
        dsimp only
        rw [d4, pk_rem (by omega) (by omega) (by omega), pk_div (by omega) (by omega) (by omega), show (s * 4 + r') % 4 = r' by omega, show (s * 4 + r') / 4 = s by omega, nI_eqE (by omega) (by omega)]
        have c01 : ¬ (1 : Int32) = 0 := by decide
        refine ⟨fun q2 => ⟨fun _ => skip ?_, fun q => absurd trivial q⟩, fun q2 => ⟨fun q => absurd q c01, fun _ => ⟨hin, fun q3 => skip ?_, fun q3 => ⟨hin, ?_⟩⟩⟩⟩
        · rw [hs]; unfold mvq; simp [q2]
        · rw [hs]
          rw [Int32.lt_iff_toInt_lt, pk_sub_toInt (by omega) (by omega), nI_toInt (by omega)] at q3
          show (decide (r' ≠ r) && decide (ticks + s ≤ now)) = false
          rw [decide_eq_false (show ¬ ticks + s ≤ now by omega), Bool.and_false]
        · rw [Int32.lt_iff_toInt_lt, pk_sub_toInt (by omega) (by omega), nI_toInt (by omega)] at q3
          have hq : mvq r ticks now (w (g * 40 + i)) = true := by
            rw [hs]; show (decide (r' ≠ r) && decide (ticks + s ≤ now)) = true
            rw [decide_eq_true (show ticks + s ≤ now by omega), decide_eq_true q2]; rfl
          refine hrec (40 - (i + 1)) _ (by omega) ⟨i + 1, rfl, by omega, rfl, ?_, h1, fun k hk => ?_⟩
          · rw [mvn_s, ← ei, hq]; rfl
          · simp only [gsW, gsW_s]
            by_cases e : k = g * 40 + i
            · subst e
              rw [upd_s, if_pos (by omega)]
              unfold mvw
              rw [if_pos ⟨by omega, by omega, hq⟩, pk_mul, nI_add]; rfl
            · rw [upd_o e]
              have := h2 k hk
              simp only [gsW] at this
              rw [this]
              by_cases e2 : k < g * 40 + i
              · rw [if_pos e2, if_pos (by omega)]
              · rw [if_neg e2, if_neg (by omega)]
    · rw [h2 k hk]
      by_cases e : k < g * 40 + 0
      · rw [if_pos e]; unfold mvw; rw [if_neg (by omega)]
      · rw [if_neg e]
  obtain ⟨⟨y, a⟩, e1, e2, e3⟩ := key
  exact ⟨y, by rw [e1]; dsimp only at e2; rw [e2], e3⟩
def wtq (r : Nat) (o : Option (Nat × Nat)) : Bool := match o with
  | some (_, r') => decide (r' = r)
  | none => false
def wtn (w : WF) (g r n : Nat) : Nat := (List.range n).countP (fun j => wtq r (w (40 * g + j)))
theorem wtn_s {w : WF} {g r n : Nat} : wtn w g r (n + 1) = wtn w g r n + if wtq r (w (40 * g + n)) = true then 1 else 0 := by
  unfold wtn
  rw [List.range_succ, List.countP_append, List.countP_cons, List.countP_nil, Nat.zero_add]
theorem grp_count {x : GSt} {pl : Nat → Nat} {w : WF} (h : GrpR x pl w) (hw : wOk w) {g r : Nat} (hg : g < 3) (hr : r < 4) : fX2_countWaiting x (nI g) (nI r) = some (nI (wtn w g r 40)) := by
  obtain ⟨h1, h2⟩ := h
  apply ok_is
  unfold fX2_countWaiting
  rw [isg_N hg, Option.bind_some, if_neg one_ne0, ok_keep, d40, pk_mul]
  refine ok_iter (fun m st => ∃ i, m = 40 - i ∧ i ≤ 40 ∧ st = (nI (wtn w g r i), nI (g * 40 + i))) _ ?_ FU 40 _ ⟨0, rfl, by omega, rfl⟩ (by unfold FU; omega)
  rintro m st rec ⟨i, hm, hi, rfl⟩ hrec
  have e40 : (nI g + 1) * 40 = nI (g * 40 + 40) := by rw [nI_1, d40, pk_mul]; congr 1; omega
  unfold fX2_countWaiting_17
  rw [e40]
  simp (disch := omega) only [ok_if, ok_chk, ok_keep, ok_some, nI_leE, nI_1, nI_clamp]
  refine ⟨fun q => by rw [show i = 40 by omega], fun q => ?_⟩
  have hW := h2 (g * 40 + i) (by omega)
  have hin : inb (nI (g * 40 + i)) 120 = true := inb_nI (by omega) (by omega)
  have ei : g * 40 + i = 40 * g + i := by omega
  rw [hW]
  refine ⟨hin, fun q1 => ?_, fun q1 => ⟨hin, ?_⟩⟩
  · have := (wEnc_none hw).mp q1
    refine hrec (40 - (i + 1)) _ (by omega) ⟨i + 1, rfl, by omega, ?_⟩
    rw [wtn_s, ← ei, this]; rfl
  · obtain ⟨⟨s, r'⟩, hs⟩ : ∃ q, w (g * 40 + i) = some q := by
      cases e : w (g * 40 + i) with
      | none => exact absurd ((wEnc_none hw).mpr e) q1
      | some q => exact ⟨q, rfl⟩
    obtain ⟨hr', hs'⟩ := hw _ s r' hs
    rw [hs]
    unfold wEnc
    dsimp only
    rw [d4, pk_rem (by omega) (by omega) (by omega), show (s * 4 + r') % 4 = r' by omega, nI_eqE (by omega) (by omega)]
    refine ⟨fun q2 => hrec (40 - (i + 1)) _ (by omega) ⟨i + 1, rfl, by omega, ?_⟩, fun q2 => hrec (40 - (i + 1)) _ (by omega) ⟨i + 1, rfl, by omega, ?_⟩⟩
    · rw [wtn_s, ← ei, hs]; simp [wtq, q2, Nat.add_assoc]
    · rw [wtn_s, ← ei, hs]; simp [wtq, q2, Nat.add_assoc]
