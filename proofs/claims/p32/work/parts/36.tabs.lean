/-! tables: taking out, scans -/
theorem tab_dropOut {x : TSt} {L : LL} {b : Nat} (h : TabR x L b) {i : Nat} (hi : i < L.length) (p : Int32) : ∃ y, fX5_dropOut x p L[i].1 = some y ∧ TabR y (L.eraseIdx i) b := by
  obtain ⟨l, hb4, h1, h2, h3, rfl, h5⟩ := h
  have hB := p2_lt hb4
  rw [List.length_map] at hi
  rw [List.getElem_map, show (tbF (tbM x) l[i]).1 = tbM x l[i] from rfl]
  obtain ⟨l1, n, l2, hl, hk, hni⟩ := spl1 hi
  rw [← hni]
  have hnl : n ∈ l := by rw [hl]; simp
  have hnv := h3.2.2.1 n hnl
  obtain ⟨g1, g2, g3, g4, g5⟩ := id h3
  have hd1 := List.nodup_append.mp (hl ▸ g1)
  have hd2 := List.nodup_cons.mp hd1.2.1
  have hn1 : n ∉ l1 := fun w => (hd1.2.2 n w n List.mem_cons_self) rfl
  have hlen : l.length = l1.length + l2.length + 1 := by rw [hl]; simp; omega
  have hLe : (l.map (tbF (tbM x))).eraseIdx i = (l1 ++ l2).map (tbF (tbM x)) := by
    rw [hl, List.map_append, List.map_cons, ← show (l1.map (tbF (tbM x))).length = i by rw [List.length_map]; exact hk, del_app, List.map_append]
  have hsub : ∀ s, s ∈ l1 ++ l2 → s ∈ l ∧ s ≠ n := fun s hs => by
    rw [hl]
    rcases List.mem_append.mp hs with w | w
    · exact ⟨by simp [w], fun e => hn1 (e ▸ w)⟩
    · exact ⟨by simp [w], fun e => hd2.1 (e ▸ w)⟩
  have hj := hb_lt (b := b) (tbM x n)
  unfold fX5_dropOut
  rw [if_pos (isV_ge hnv.2), tab_bucketOf hb4 h1 hnv.2, Option.bind_some, inb_nI (show hb b (tbM x n) < 64 by omega) (by omega), chk_r, keep_r, nI_clamp (by omega)]
  have hs := h5 _ hj
  have hp1 : inB (tbM x) b (hb b (tbM x n)) n = true := decide_eq_true rfl
  have hc : l.filter (inB (tbM x) b (hb b (tbM x n))) = l1.filter (inB (tbM x) b (hb b (tbM x n))) ++ n :: l2.filter (inB (tbM x) b (hb b (tbM x n))) := by
    rw [hl, List.filter_append, List.filter_cons_of_pos hp1]
  have hcd : (l.filter (inB (tbM x) b (hb b (tbM x n)))).Nodup := ndf _ g1
  have hcl : (l.filter (inB (tbM x) b (hb b (tbM x n)))).length ≤ 40 := Nat.le_trans (List.length_filter_le _ _) g2
  rw [hc] at hs hcd hcl
  have hno : ∀ s, s ∈ l1.filter (inB (tbM x) b (hb b (tbM x n))) → tbM x s ≠ tbM x n := fun s hs e => by
    have := h3.inj (hsub s (List.mem_append.mpr (Or.inl (List.mem_filter.mp hs).1))).1 hnl e
    exact hn1 (this ▸ (List.mem_filter.mp hs).1)
  generalize hc1 : l1.filter (inB (tbM x) b (hb b (tbM x n))) = c1 at hs hcd hcl hno hc
  generalize hc2 : l2.filter (inB (tbM x) b (hb b (tbM x n))) = c2 at hs hcd hcl hc
  rw [seg_0 hs]
  -- what the end does
  have tail : ∀ H X : IA, (∀ j, j < 2 ^ b → seg X (H j) ((l1 ++ l2).filter (inB (tbM x) b j)) (-1)) → TabR (H, upd (tbM x) n (-1), X, tbB x, tbC x - 1) ((l.map (tbF (tbM x))).eraseIdx i) b := fun H X hX => by
    have e0 : ∀ s ∈ l1 ++ l2, upd (tbM x) n (-1) s = tbM x s := fun s hs => upd_o (hsub s hs).2
    have hpw : (l1 ++ l2).Pairwise (fun s t => tbM x s < tbM x t) := by
      have a := List.pairwise_append.mp (hl ▸ g5)
      exact List.pairwise_append.mpr ⟨a.1, (List.pairwise_cons.mp a.2.1).2, fun s hs t ht => a.2.2 s hs t (List.mem_cons_of_mem _ ht)⟩
    refine ⟨l1 ++ l2, hb4, h1, ?_, ⟨?_, ?_, ?_, ?_, ?_⟩, ?_, ?_⟩
    · show tbC x - 1 = nI (l1 ++ l2).length
      rw [h2, nI_s1 (by omega), List.length_append]
      congr 1; omega
    · exact List.nodup_append.mpr ⟨hd1.1, hd2.2, fun a ha c hc => hd1.2.2 a ha c (List.mem_cons_of_mem _ hc)⟩
    · rw [List.length_append]; omega
    · intro s hs
      show s < 40 ∧ isV (upd (tbM x) n (-1) s)
      rw [e0 s hs]; exact g3 s (hsub s hs).1
    · intro s hs40 hsn
      show upd (tbM x) n (-1) s = -1
      by_cases e : s = n
      · rw [e]; exact upd_s
      · rw [upd_o e]
        refine g4 s hs40 (fun w => hsn ?_)
        rw [hl] at w
        rcases List.mem_append.mp w with w | w
        · exact List.mem_append.mpr (Or.inl w)
        · rcases List.mem_cons.mp w with w | w
          · exact absurd w e
          · exact List.mem_append.mpr (Or.inr w)
    · show (l1 ++ l2).Pairwise (fun s t => upd (tbM x) n (-1) s < upd (tbM x) n (-1) t)
      rw [List.pairwise_iff_getElem] at hpw ⊢
      intro i j hi hj hij
      rw [e0 _ (List.getElem_mem hi), e0 _ (List.getElem_mem hj)]
      exact hpw i j hi hj hij
    · rw [hLe]
      exact List.map_congr_left (fun s hs => by show (tbM x s, (0 : Int32)) = (upd (tbM x) n (-1) s, 0); rw [e0 s hs])
    · intro j hj
      show seg X (H j) ((l1 ++ l2).filter (inB (upd (tbM x) n (-1)) b j)) (-1)
      rw [List.filter_congr (q := inB (tbM x) b j) (fun s hs => by unfold inB; rw [e0 s hs])]
      exact hX j hj
  have fcat : ∀ j, (l1 ++ l2).filter (inB (tbM x) b j) = if j = hb b (tbM x n) then c1 ++ c2 else l.filter (inB (tbM x) b j) := fun j => by
    by_cases e : j = hb b (tbM x n)
    · rw [if_pos e, e, List.filter_append, hc1, hc2]
    · rw [if_neg e, List.filter_append, hl, List.filter_append, List.filter_cons_of_neg (by unfold inB; intro w; exact e (of_decide_eq_true w).symm)]
  have dis : ∀ j s, j ≠ hb b (tbM x n) → s ∈ l.filter (inB (tbM x) b j) → s ∉ c1 ++ n :: c2 := fun j s hj hs w => by
    rw [← hc] at w
    have a1 := (List.mem_filter.mp hs).2
    have a2 := (List.mem_filter.mp w).2
    unfold inB at a1 a2
    exact hj ((of_decide_eq_true a1).symm.trans (of_decide_eq_true a2))
  have fin : ∀ v4, (c1 = [] ∧ v4 = -1 ∨ ∃ c0 a, c1 = c0 ++ [a] ∧ v4 = nI a) → Ok (fX5_dropOut_68 x (nI (hb b (tbM x n))) v4 (nI n)) (fun y => TabR y ((l.map (tbF (tbM x))).eraseIdx i) b) := fun v4 hv4 => by
    unfold fX5_dropOut_68 fX5_dropOut_111
    rw [if_neg (by rw [nI_nm1 (by omega)]; exact id)]
    rcases hv4 with ⟨e1, rfl⟩ | ⟨c0, a, e1, rfl⟩
    · rw [if_pos rfl, inb_nI hnv.1 (by omega), chk_r, inb_nI (show hb b (tbM x n) < 64 by omega) (by omega), chk_r, keep_r, chk_r, keep_r, keep_r, ok_some, nI_clamp (by omega), nI_clamp (by omega)]
      refine tail (upd (tbH x) (hb b (tbM x n)) (tbX x n)) (tbX x) (fun j hj => ?_)
      rw [fcat j]
      by_cases e : j = hb b (tbM x n)
      · rw [if_pos e, e, e1, List.nil_append, upd_s]
        rw [e1, List.nil_append] at hs
        exact hs.2.2
      · rw [if_neg e, upd_o e]; exact h5 j hj
    · subst e1
      have ha : a < 40 := seg_lt hs a (by simp)
      rw [if_neg (by rw [nI_nm1 (by omega)]; exact id), inb_nI hnv.1 (by omega), chk_r, inb_nI ha (by omega), chk_r, keep_r, chk_r, keep_r, keep_r, ok_some, nI_clamp (by omega), nI_clamp (by omega)]
      refine tail (tbH x) (upd (tbX x) a (tbX x n)) (fun j hj => ?_)
      rw [fcat j]
      have eb : (c0 ++ [a]) ++ n :: c2 = c0 ++ a :: n :: c2 := by simp
      by_cases e : j = hb b (tbM x n)
      · rw [if_pos e, e]
        rw [eb] at hs hcd
        have := seg_del hs hcd
        simpa using this
      · rw [if_neg e]
        exact seg_upd (fun w => dis j a e w (by simp)) (h5 j hj)
  refine ok_iter (fun m st => ∃ t, m = c1.length - t ∧ t ≤ c1.length ∧ st = ((if t = 0 then -1 else nd (c1 ++ n :: c2) (t - 1)), nd (c1 ++ n :: c2) t, nI t)) _ ?_ FU c1.length _ ⟨0, rfl, by omega, rfl⟩ (by rw [List.length_append, List.length_cons] at hcl; unfold FU; omega)
  rintro m st rec ⟨t, hm, ht, rfl⟩ hrec
  have htl : t < (c1 ++ n :: c2).length := by rw [List.length_append, List.length_cons]; omega
  have hct := seg_lt hs _ (List.getElem_mem htl)
  have ein : inb (nd (c1 ++ n :: c2) t) 40 = true := by rw [nd_lt htl]; exact inb_nI hct (by omega)
  have ecl : (nd (c1 ++ n :: c2) t).toNatClampNeg = (c1 ++ n :: c2)[t] := by rw [nd_lt htl, nI_clamp (by omega)]
  have ene : ¬ nd (c1 ++ n :: c2) t = -1 := by rw [nd_lt htl, nI_nm1 (by omega)]; exact id
  have ht40 : t < 40 := by omega
  unfold fX5_dropOut_25
  simp (disch := omega) only [ok_if, ok_chk, ok_keep, nI_leE, nI_1, d40, nI_clamp]
  refine ⟨fun q => absurd q (by omega), fun _ => ⟨fun q => absurd q ene, fun _ => ?_⟩⟩
  rw [ecl]
  refine ⟨ein, fun e => ?_, fun e => ⟨ein, ?_⟩⟩
  · have htc : t = c1.length := by
      by_cases w : t < c1.length
      · rw [List.getElem_append_left w] at e
        exact absurd e (hno _ (List.getElem_mem w))
      · omega
    have en : nd (c1 ++ n :: c2) t = nI n := by
      rw [nd_lt htl]; subst htc; simp
    rw [en]
    refine fin _ ?_
    by_cases h0 : t = 0
    · left
      exact ⟨List.eq_nil_of_length_eq_zero (by omega), if_pos h0⟩
    · right
      refine ⟨c1.dropLast, c1.getLast (fun w => h0 (by rw [htc, w]; rfl)), (List.dropLast_concat_getLast _).symm, ?_⟩
      rw [if_neg h0, nd_lt (by omega), List.getElem_append_left (by omega), List.getLast_eq_getElem]
      congr 2; omega
  · have htc : t < c1.length := by
      by_cases w : t < c1.length
      · exact w
      · have : t = c1.length := by omega
        subst this
        exact absurd (by simp) e
    rw [seg_s hs t htl]
    refine hrec (c1.length - (t + 1)) _ (by omega) ⟨t + 1, rfl, by omega, ?_⟩
    rw [if_neg (by omega)]
    rfl
theorem tab_dropNeg {x : TSt} (p : Int32) : fX5_dropOut x p (-1) = some x := by
  unfold fX5_dropOut
  rw [if_neg (by decide)]
/-- the members that a scan gives -/
def scn (L : LL) (b c : Nat) : LL := L.filter (fun q => decide (hb b q.1 = c % 2 ^ b))
theorem tab_member {x : TSt} {L : LL} {b : Nat} (h : TabR x L b) {c : Nat} (hc : c < 1024) (p : Int32) : fX5_memberOfBucket x (nI c) p = some (vat (scn L b c) p) := by
  obtain ⟨l, hb4, h1, h2, h3, rfl, h5⟩ := h
  have hB := p2_lt hb4
  have hj : c % 2 ^ b < 2 ^ b := Nat.mod_lt _ (Nat.two_pow_pos b)
  have hL : scn (l.map (tbF (tbM x))) b c = (l.filter (inB (tbM x) b (c % 2 ^ b))).map (tbF (tbM x)) := by
    unfold scn
    rw [List.filter_map]; rfl
  have hs := h5 _ hj
  have hcl : (l.filter (inB (tbM x) b (c % 2 ^ b))).length ≤ 40 := Nat.le_trans (List.length_filter_le _ _) h3.2.1
  rw [hL]
  generalize l.filter (inB (tbM x) b (c % 2 ^ b)) = d at hs hcl
  apply ok_is
  unfold fX5_memberOfBucket
  rw [h1, msk hb4 (by omega)]
  have fin : ∀ j, Ok (fX5_memberOfBucket_49 x (nd d j)) (fun u => u = match d[j]? with | some s => tbM x s | none => -1) := fun j => by
    unfold fX5_memberOfBucket_49
    by_cases hjl : j < d.length
    · have hn := seg_lt hs _ (List.getElem_mem hjl)
      rw [nd_lt hjl, if_neg (by rw [nI_nm1 (by omega)]; exact id), inb_nI hn (by omega), chk_r, ok_some, nI_clamp (by omega), List.getElem?_eq_getElem hjl]
    · rw [nd_ge (by omega), if_pos rfl, ok_some, List.getElem?_eq_none (by omega)]
  by_cases hp : p < 0
  · rw [if_neg (by rw [Int32.le_iff_toInt_le]; rw [Int32.lt_iff_toInt_lt] at hp; omega), vat_neg hp]
    refine ok_iter (fun m s => m = 0 ∧ s = (-1, 0)) _ ?_ FU 0 _ ⟨rfl, rfl⟩ (by unfold FU; omega)
    rintro m s rec ⟨hm, rfl⟩ hrec
    unfold fX5_memberOfBucket_25 fX5_memberOfBucket_49
    simp only [ok_if, ok_some]
    exact ⟨fun _ => ⟨fun _ => trivial, fun e => absurd trivial e⟩, fun _ => ⟨fun _ => ⟨fun _ => trivial, fun e => absurd trivial e⟩, fun e => absurd trivial e⟩⟩
  · obtain ⟨i, hi, rfl⟩ := nI_of hp
    have hr : vat (d.map (tbF (tbM x))) (nI i) = match d[i]? with | some s => tbM x s | none => -1 := by
      by_cases hl : i < d.length
      · rw [vat_nI (by rw [List.length_map]; exact hl) (by rw [List.length_map]; omega), List.getElem_map, List.getElem?_eq_getElem hl]; rfl
      · rw [vat_out (by rw [List.length_map]; omega) hi, List.getElem?_eq_none (by omega)]
    rw [if_pos (nI_pos' hi), inb_nI (show c % 2 ^ b < 64 by omega) (by omega), chk_r, ok_keep, nI_clamp (by omega), seg_0 hs, hr]
    refine ok_iter (fun m s => ∃ j, m = d.length - j ∧ j ≤ i ∧ j ≤ d.length ∧ s = (nd d j, nI j)) _ ?_ FU d.length _ ⟨0, rfl, Nat.zero_le _, Nat.zero_le _, rfl⟩ (by unfold FU; omega)
    rintro m s rec ⟨j, hm, hji, hjd, rfl⟩ hrec
    unfold fX5_memberOfBucket_25
    simp (disch := omega) only [ok_if, ok_chk, ok_keep, nI_leE, nI_1]
    refine ⟨fun q => ?_, fun q => ⟨fun e => ?_, fun e => ?_⟩⟩
    · have : j = i := by omega
      subst this; exact fin j
    · by_cases hjl : j < d.length
      · rw [nd_lt hjl] at e
        rw [nI_nm1 (by have := seg_lt hs _ (List.getElem_mem hjl); omega)] at e
        exact e.elim
      · refine ok_mono (fin j) (fun r hr => ?_)
        rw [hr, List.getElem?_eq_none (by omega), List.getElem?_eq_none (by omega)]
    · by_cases hjl : j < d.length
      · have hn := seg_lt hs _ (List.getElem_mem hjl)
        rw [nd_lt hjl, nI_clamp (by omega), seg_s hs j hjl]
        exact ⟨inb_nI hn (by omega), hrec (d.length - (j + 1)) _ (by omega) ⟨j + 1, rfl, by omega, by omega, rfl⟩⟩
      · exact absurd (nd_ge (by omega)) e
/-- a number's lowest bits, read backwards -/
def rvb : Nat → Nat → Nat → Nat
  | 0, _, acc => acc
  | b + 1, n, acc => rvb b (n / 2) (2 * acc + n % 2)
def rbF (B : Int32) (rec7 : Int32 × Int32 × Int32 → Option Int32) (s : Int32 × Int32 × Int32) : Option Int32 := match s with
  | (v2, v3, v4) => if B ≤ v4 then some v3 else keep ((v3 * 2) + (v2 &&& 1)) (fun y2 => keep (v2 >>> (1 &&& 31)) (fun y3 => keep (v4 * 2) (fun y4 => rec7 (y3, y2, y4))))
theorem rb_all : ∀ b, b < 7 → 4 ≤ b → ∀ n, n < 2 ^ b → iterK 12 (rbF (nI (2 ^ b))) (nI n, 0, 1) = some (nI (rvb b n 0)) := by decide +kernel
theorem rvb_lt : ∀ b, b < 7 → ∀ n, n < 2 ^ b → rvb b n 0 < 2 ^ b := by decide +kernel
theorem iter_more {σ ρ : Type} {F : (σ → Option ρ) → σ → Option ρ} (hF : ∀ (g g' : σ → Option ρ), (∀ s r, g s = some r → g' s = some r) → ∀ s r, F g s = some r → F g' s = some r) : ∀ (n k : Nat) (s : σ) (r : ρ), iterK n F s = some r → iterK (n + k) F s = some r := by
  intro n
  induction n with
  | zero => intro k s r h; cases h
  | succ n ih =>
    intro k s r h
    rw [Nat.succ_add, iterK_s]
    rw [iterK_s] at h
    exact hF _ _ (fun s' r' => ih k s' r') s r h
theorem rbF_mono (B : Int32) (g g' : Int32 × Int32 × Int32 → Option Int32) (h : ∀ s r, g s = some r → g' s = some r) (s : Int32 × Int32 × Int32) (r : Int32) (hs : rbF B g s = some r) : rbF B g' s = some r := by
  obtain ⟨a, c, d⟩ := s
  unfold rbF at hs ⊢
  simp only [keep_r] at hs ⊢
  split at hs
  · rw [if_pos (by assumption)]; exact hs
  · rw [if_neg (by assumption)]; exact h _ _ hs
theorem tab_rb {x : TSt} {b n : Nat} (hb4 : 4 ≤ b ∧ b ≤ 6) (h1 : tbB x = nI (2 ^ b)) (hn : n < 2 ^ b) : fX5_readBackwards x (nI n) = some (nI (rvb b n 0)) := by
  have e : fX5_readBackwards_7 x = rbF (nI (2 ^ b)) := by
    funext rec s
    obtain ⟨a, c, d⟩ := s
    unfold fX5_readBackwards_7 rbF
    rw [h1]
    dsimp only
    by_cases q : (64 : Int32) ≤ d
    · have h64 : (2 : Nat) ^ b ≤ 64 := Nat.le_trans (Nat.pow_le_pow_right (by omega) hb4.2) (by decide)
      rw [if_pos q, if_pos (Int32.le_trans (show nI (2 ^ b) ≤ 64 from nI_le (b := 64) h64 (by omega)) q)]
    · rw [if_neg q]
  unfold fX5_readBackwards
  rw [e]
  exact iter_more (rbF_mono _) 12 (FU - 12) _ _ (rb_all b (by omega) hb4.1 n hn)
theorem tab_cursor {x : TSt} {L : LL} {b : Nat} (h : TabR x L b) {c : Nat} (hc : c < 1024) : fX5_cursorBehind x (nI c) = some (nI (rvb b ((rvb b (c % 2 ^ b) 0 + 1) % 2 ^ b) 0)) := by
  obtain ⟨l, hb4, h1, -⟩ := h
  have hB := p2_lt hb4
  have hj : c % 2 ^ b < 2 ^ b := Nat.mod_lt _ (Nat.two_pow_pos b)
  unfold fX5_cursorBehind
  rw [h1, msk hb4 (by omega), tab_rb hb4 h1 hj, Option.bind_some, nI_1, msk hb4 (by have := rvb_lt b (by omega) _ hj; omega), tab_rb hb4 h1 (Nat.mod_lt _ (Nat.two_pow_pos b)), Option.bind_some]
theorem tab_empty (x : TSt) : ∃ y, fX5_makeEmpty x = some y ∧ TabR y [] 4 := by
  unfold fX5_makeEmpty
  rw [keep_r, keep_r]
  show Ok _ _
  rw [ok_bind]
  refine ok_mono (ok_fill (by omega) _ (-1)) (fun H hH => ?_)
  rw [ok_keep, ok_bind]
  refine ok_mono (ok_fill (by omega) _ (-1)) (fun M hM => ?_)
  rw [ok_keep, ok_some]
  refine ⟨[], by omega, rfl, rfl, ⟨List.nodup_nil, by simp, fun s hs => (nomatch hs), fun s hs _ => hM s hs, List.Pairwise.nil⟩, rfl, fun j hj => hH j ?_⟩
  have : (2 : Nat) ^ 4 = 16 := by decide
  omega
