/-! isScanned: a scan from 0 on gives each member once -/
theorem rvb_inv : ∀ b, b < 7 → 4 ≤ b → ∀ n, n < 2 ^ b → rvb b (rvb b n 0) 0 = n := by decide +kernel
theorem rvb_0 : ∀ b, b < 7 → 4 ≤ b → rvb b 0 0 = 0 := by decide +kernel
theorem g_bits : ∀ n, n < 41 → ∀ i, i < 64 → ((1 <<< (((nI n) : Int32).toInt64 &&& 63)) - 1 : Int64).toBitVec.getLsbD i = decide (i < n) := by decide +kernel
theorem g_one : ∀ n, n < 41 → ∀ i, i < 64 → (1 <<< (((nI n) : Int32).toInt64 &&& 63) : Int64).toBitVec.getLsbD i = decide (i = n) := by decide +kernel
theorem g_sh : ∀ n, n < 41 → ((((nI n) : Int32).toInt64 &&& 63) : Int64).toBitVec.smod 64#64 = BitVec.ofNat 64 n := by decide +kernel
theorem g_test {G : Int64} {n : Nat} (hn : n < 41) (h : G.toBitVec.getLsbD n = false) : (G >>> (((nI n) : Int32).toInt64 &&& 63)) &&& 1 = 0 := by
  apply Int64.toBitVec_inj.mp
  apply BitVec.eq_of_getLsbD_eq
  intro i hi
  show ((G.toBitVec.sshiftRight' ((((nI n) : Int32).toInt64 &&& 63).toBitVec.smod 64#64)) &&& 1#64).getLsbD i = (0#64).getLsbD i
  rw [g_sh n hn, BitVec.getLsbD_and, BitVec.getLsbD_zero]
  by_cases e : i = 0
  · subst e
    have : (G.toBitVec.sshiftRight' (BitVec.ofNat 64 n)).getLsbD 0 = G.toBitVec.getLsbD n := by
      show (G.toBitVec.sshiftRight (BitVec.ofNat 64 n).toNat).getLsbD 0 = _
      rw [BitVec.getLsbD_sshiftRight, BitVec.toNat_ofNat, Nat.mod_eq_of_lt (by omega : n < 2 ^ 64)]
      simp
      omega
    rw [this, h, Bool.false_and]
  · have : (1#64).getLsbD i = false := by
      rw [BitVec.getLsbD_one]
      simp [e]
    rw [this, Bool.and_false]
theorem lcmpv_e {x y : Int64} (h : x = y) : lcmpv x y = 0 := by
  subst h
  unfold lcmpv
  rw [if_neg (fun q => Int64.lt_irrefl q), if_pos (beq_self_eq_true x)]
theorem g_or {G : Int64} {n i : Nat} (hn : n < 41) (hi : i < 64) : (G ||| (1 <<< (((nI n) : Int32).toInt64 &&& 63))).toBitVec.getLsbD i = (G.toBitVec.getLsbD i || decide (i = n)) := by
  show (G.toBitVec ||| (1 <<< (((nI n) : Int32).toInt64 &&& 63) : Int64).toBitVec).getLsbD i = _
  rw [BitVec.getLsbD_or, g_one n hn i hi]
/-- the bits of the members of L that P knows -/
def GB (L : LL) (G : Int64) (P : Int32 → Prop) : Prop := ∀ i, i < 64 → (G.toBitVec.getLsbD i = true ↔ ∃ h : i < L.length, P (L[i]'h).1)
theorem gb_0 (L : LL) : GB L 0 (fun _ => False) := by
  intro i hi
  constructor
  · intro h
    have : (0#64).getLsbD i = true := h
    rw [BitVec.getLsbD_zero] at this
    cases this
  · rintro ⟨h, q⟩; exact q.elim
theorem gb_all {L : LL} {G : Int64} {P : Int32 → Prop} (h : GB L G P) (h40 : L.length ≤ 40) (hP : ∀ q ∈ L, P q.1) : G = ((1 <<< (((nI L.length) : Int32).toInt64 &&& 63)) - 1 : Int64) := by
  apply Int64.toBitVec_inj.mp
  apply BitVec.eq_of_getLsbD_eq
  intro i hi
  rw [g_bits L.length (by omega) i hi]
  by_cases e : i < L.length
  · rw [decide_eq_true e]
    exact (h i hi).mpr ⟨e, hP _ (List.getElem_mem e)⟩
  · rw [decide_eq_false e]
    cases q : G.toBitVec.getLsbD i with
    | false => rfl
    | true => exact absurd ((h i hi).mp q).1 e
theorem i32_lt_neg1 {v : Nat} (h : v < 2 ^ 31) : (-1 : Int32) < nI v := by
  rw [Int32.lt_iff_toInt_lt, nI_toInt h, show (-1 : Int32).toInt = -1 by decide]
  omega
section SCAN
variable {F : FSt} {c : CK} {f : FK} {k t : Nat}
/-- what the steps of a scan give -/
def Scn (k : Nat) (F : FSt) (c : CK) (N : Nat) (cu : Nat → Nat) (bk : Nat → LL) : Prop := (∀ s, s < N → ∀ i, fX7_scanned k F (nI k) (nI (cu s)) i = some (.inl (vat (bk s) i))) ∧ (∀ s, s < N → fX7_next k F (nI k) (nI (cu s)) = some (.inl (nI (cu (s + 1))))) ∧ (cu 0 = 0) ∧ (cu N = 0) ∧ (∀ s, s < N → 0 < s → 0 < cu s) ∧ (∀ s, s ≤ N → cu s < 1024) ∧ (N ≤ 64) ∧ (0 < N) ∧ (∀ s, s < N → ∀ q ∈ bk s, q ∈ cL c) ∧ (∀ s, s < N → (bk s).Pairwise (fun a b => a.1 < b.1)) ∧ (∀ s s', s < N → s' < N → ∀ q ∈ bk s, ∀ q' ∈ bk s', q.1 = q'.1 → s = s') ∧ (∀ q ∈ cL c, ∃ s, s < N ∧ q ∈ bk s)
theorem scan_loop {N : Nat} {cu : Nat → Nat} {bk : Nat → LL} (hk : k < 16) (h : VR (fV F) c f) (hc : okCK c) (h2 : tyN c (fClk F) = 2) (H : Scn k F c N cu bk) (hlen : ∀ s, s < N → (bk s).length ≤ 40) (hN : if f.1 = 1 then N = 1 else 16 ≤ N) : iterK FU (fL_isScanned_62 k F (nI k) (nI (cL c).length)) (0, 0, 0, 1) = some (F, 1) := by
  obtain ⟨H_scanned, H_next, H_first, H_last, H_between, H_small, H_many, H_some1, H_sub, H_asc, H_other, H_all⟩ := H
  obtain ⟨q1, q2⟩ := tyN_is (by decide) h2
  have hok := ok_T hc (thC_T q1)
  have h40 := hok.2.2.1
  have hA := (hok.2.2.2.2.2.1 q2).2
  have hd : (cL c).Pairwise (fun a b => a.1 ≠ b.1) := hA.imp (fun w e => by rw [e] at w; exact Int32.lt_irrefl w)
  obtain ⟨s1, s2⟩ := val_isSmall h (thC_T q1)
  refine ok_is (ok_iter (fun n (u : Int64 × Int32 × Int32 × Int32) => ∃ j G, n = N - j ∧ j ≤ N ∧ u = (G, nI (cu j), nI j, 1) ∧ GB (cL c) G (fun v => ∃ s, s < j ∧ ∃ q ∈ bk s, q.1 = v)) _ ?_ FU N _ ⟨0, 0, rfl, by omega, by rw [H_first]; rfl, ?_⟩ (by have := H_many; unfold FU; omega))
  rotate_left
  · intro i hi
    rw [gb_0 (cL c) i hi]
    constructor
    · rintro ⟨_, q⟩; exact q.elim
    · rintro ⟨_, s, q, -⟩; omega
  rintro n u rec ⟨j, G, hn, hj, rfl, hG⟩ hrec
  have hNs := H_many
  unfold fL_isScanned_62
  dsimp only
  rw [if_neg one_ne0]
  by_cases e : j = N
  · subst e
    have e1 : ¬ (0 : Int32) < nI (cu j) := by rw [H_last]; decide
    have e2 : ¬ nI j = 0 := fun w => by
      have := (nI_eqE (a := j) (b := 0) (by omega) (by omega)).mp w
      have := H_some1; omega
    have hGe := gb_all hG h40 (fun q hq => by obtain ⟨s, w1, w2⟩ := H_all q hq; exact ⟨s, w1, q, w2, rfl⟩)
    rw [if_neg e1, if_neg e2]
    unfold fL_isScanned_201
    rw [if_neg one_ne0, H_last, if_pos (show nI 0 = 0 from rfl), if_pos (lcmpv_e hGe), show (1023 : Int32) = nI 1023 from rfl, q_scanned hk h (by omega) h2, Option.bind_some, thrL, vat_neg (by decide), if_pos rfl, q_form hk h, Option.bind_some, thrL, if_pos q1]
    rcases s2 with s2 | s2
    · rw [s2, if_pos rfl] at hN
      rw [s2, if_pos rfl, hN, if_pos (show nI 1 = 1 from rfl)]
      exact ok_some ▸ rfl
    · rw [s2, if_neg (by decide)] at hN
      rw [s2, if_neg (show ¬ (2 : Int32) = 1 by decide), if_neg (show ¬ nI j < (16 : Int32) from nI_nlt (a := j) (b := 16) (by omega) (by omega))]
      exact ok_some ▸ rfl
  have hjN : j < N := by omega
  have go : Ok (fL_isScanned_77 rec k F (nI k) (nI (cL c).length) G (nI (cu j)) (nI j) 1) (fun u => u = (F, 1)) := by
    unfold fL_isScanned_77
    rw [if_neg (show ¬ (65 : Int32) ≤ nI j from nI_ge (a := j) (b := 65) (by omega) (by omega)), show (0 : Int32) = nI 0 from rfl, H_scanned j hjN, Option.bind_some, thrL]
    have hbl := hlen j hjN
    refine ok_iter (fun n (u : Int64 × Int32 × Int32 × Int32 × Int32) => ∃ i G', n = (bk j).length - i ∧ i ≤ (bk j).length ∧ (∃ l : Int32, u = (G', 1, l, vat (bk j) (nI i), nI (i + 1)) ∧ ∀ hi : i < (bk j).length, l < ((bk j)[i]'hi).1) ∧ GB (cL c) G' (fun v => (∃ s, s < j ∧ ∃ q ∈ bk s, q.1 = v) ∨ ∃ q ∈ (bk j).take i, q.1 = v)) _ ?_ FU (bk j).length _ ⟨0, G, rfl, by omega, ⟨-1, rfl, fun hi => ?_⟩, ?_⟩ (by unfold FU; omega)
    rotate_left
    · obtain ⟨v, v1, v2⟩ := hok.2.2.2.2.1 _ (H_sub j hjN _ (List.getElem_mem hi))
      rw [v2]
      exact i32_lt_neg1 (by omega)
    · intro i hi
      rw [hG i hi]
      constructor
      · rintro ⟨q, w⟩; exact ⟨q, Or.inl w⟩
      · rintro ⟨q, w | ⟨_, w, -⟩⟩
        · exact ⟨q, w⟩
        · cases w
    rintro n u rec2 ⟨i, G', hn2, hi, ⟨l, rfl, hl⟩, hG'⟩ hrec2
    unfold fL_isScanned_100
    dsimp only
    by_cases ei : i = (bk j).length
    · rw [vat_out (by omega) (by omega), if_pos (by decide)]
      unfold fL_isScanned_186
      rw [H_next j hjN, Option.bind_some, thrL, nI_1, ok_keep]
      refine hrec (N - (j + 1)) _ (by omega) ⟨j + 1, G', rfl, by omega, rfl, fun a ha => ?_⟩
      rw [hG' a ha]
      constructor
      · rintro ⟨q, ⟨s, w1, w2⟩ | ⟨z, w1, w2⟩⟩
        · exact ⟨q, s, by omega, w2⟩
        · exact ⟨q, j, by omega, z, List.mem_of_mem_take w1, w2⟩
      · rintro ⟨q, s, w1, z, w2, w3⟩
        by_cases es : s = j
        · subst es
          rw [ei, List.take_length]
          exact ⟨q, Or.inr ⟨z, w2, w3⟩⟩
        · exact ⟨q, Or.inl ⟨s, by omega, z, w2, w3⟩⟩
    · have hi2 : i < (bk j).length := by omega
      have hl2 := hl hi2
      have hmem := H_sub j hjN _ (List.getElem_mem hi2)
      obtain ⟨x, hx, hxe⟩ := List.getElem_of_mem hmem
      have hV := hok.2.2.2.2.1 _ hmem
      obtain ⟨v, v1, v2⟩ := id hV
      have hfn : fnd (cL c) ((bk j)[i]'hi2).1 = true := by rw [← hxe]; exact fnd_mem hx
      have hfi : fi (cL c) ((bk j)[i]'hi2).1 = x := by rw [← hxe]; exact fi_dist hd hx
      have hnot : G'.toBitVec.getLsbD x = false := by
        cases w : G'.toBitVec.getLsbD x with
        | false => rfl
        | true =>
          exfalso
          obtain ⟨_, w2⟩ := (hG' x (by omega)).mp w
          rw [hxe] at w2
          rcases w2 with ⟨s, a1, z, a2, a3⟩ | ⟨z, a1, a2⟩
          · have := H_other s j (by omega) hjN z a2 _ (List.getElem_mem hi2) a3
            omega
          · obtain ⟨y, hy, hye⟩ := List.getElem_of_mem a1
            rw [List.getElem_take] at hye
            rw [List.length_take] at hy
            have := List.pairwise_iff_getElem.mp (H_asc j hjN) y i (by omega) hi2 (by omega)
            rw [hye, a2] at this
            exact Int32.lt_irrefl this
      rw [vat_nI hi2 (by omega), v2, if_neg (nI_pos (by omega)), ← v2, if_neg one_ne0, q_index hk h hV, Option.bind_some, thrL]
      have hix : ixN c (fClk F) ((bk j)[i]'hi2).1 = nI x := by
        unfold ixN
        rw [if_pos q1, plc_fnd hfn, hfi]
      rw [hix, if_neg (fun q => Int32.lt_irrefl (Int32.lt_of_lt_of_le hl2 q)), if_neg (nI_pos (by omega)), if_pos (lcmpv_e (g_test (by omega) hnot))]
      unfold fL_isScanned_147
      rw [if_pos (show (0 : Int32) ≤ nI x from nI_le (a := 0) (by omega) (by omega))]
      unfold fL_isScanned_163
      rw [ok_keep, H_scanned j hjN, Option.bind_some, thrL, nI_1, ok_keep]
      refine hrec2 ((bk j).length - (i + 1)) _ (by omega) ⟨i + 1, _, rfl, by omega, ⟨((bk j)[i]'hi2).1, rfl, fun hi3 => List.pairwise_iff_getElem.mp (H_asc j hjN) i (i + 1) hi2 hi3 (by omega)⟩, fun a ha => ?_⟩
      rw [g_or (by omega) ha, Bool.or_eq_true, hG' a ha, decide_eq_true_eq]
      constructor
      · rintro (⟨q, w | ⟨z, w1, w2⟩⟩ | rfl)
        · exact ⟨q, Or.inl w⟩
        · refine ⟨q, Or.inr ⟨z, ?_, w2⟩⟩
          rw [List.take_succ_eq_append_getElem hi2]
          exact List.mem_append_left _ w1
        · refine ⟨hx, Or.inr ⟨(bk j)[i]'hi2, ?_, by rw [hxe]⟩⟩
          rw [List.take_succ_eq_append_getElem hi2]
          exact List.mem_append_right _ (List.mem_singleton.mpr rfl)
      · rintro ⟨q, w | ⟨z, w1, w2⟩⟩
        · exact Or.inl ⟨q, Or.inl w⟩
        · rw [List.take_succ_eq_append_getElem hi2] at w1
          rcases List.mem_append.mp w1 with w1 | w1
          · exact Or.inl ⟨q, Or.inr ⟨z, w1, w2⟩⟩
          · have w3 := List.mem_singleton.mp w1
            refine Or.inr ?_
            rw [w3, ← hxe] at w2
            refine Classical.byContradiction (fun hne => ?_)
            rcases Nat.lt_or_gt_of_ne hne with y | y
            · exact List.pairwise_iff_getElem.mp hd a x q hx y w2.symm
            · exact List.pairwise_iff_getElem.mp hd x a hx q y w2
  by_cases e0 : j = 0
  · subst e0
    rw [H_first, if_neg (by decide), if_pos (by decide)]
    rw [H_first] at go
    exact go
  · rw [if_pos (show (0 : Int32) < nI (cu j) from nI_lt (a := 0) (H_between j hjN (by omega)) (by have := H_small j hj; omega))]
    exact go
theorem scan_true (hk : k < 16) (h : VR (fV F) c f) (hc : okCK c) : fL_isScanned k F (nI k) = some (F, 1) := by
  unfold fL_isScanned
  rw [q_size hk h, Option.bind_some, thrL, q_type hk h, Option.bind_some, thrL]
  by_cases e : tyN c (fClk F) = 2
  · obtain ⟨q1, q2⟩ := tyN_is (by decide) e
    have hok := ok_T hc (thC_T q1)
    have h40 := hok.2.2.1
    have hA := (hok.2.2.2.2.2.1 q2).2
    have e2 : szN c (fClk F) = (cL c).length := if_pos q1
    rw [if_pos e, e2]
    obtain ⟨s1, s2⟩ := val_isSmall h (thC_T q1)
    rcases s2 with s2 | s2
    · refine scan_loop (N := 1) (cu := fun _ => 0) (bk := fun _ => cL c) hk h hc e ⟨fun s hs i => ?_, fun s hs => ?_, rfl, rfl, fun s h1 h2 => by omega, fun _ _ => (by decide : 0 < 1024), by omega, by omega, fun _ _ q hq => hq, fun _ _ => hA, fun s s' h1 h2 _ _ _ _ _ => by omega, fun q hq => ⟨0, by omega, hq⟩⟩ (fun _ _ => h40) (by rw [if_pos s2])
      · have := q_scanned hk h (p := 0) (by omega) e i
        unfold gvL at this
        rw [if_pos s2] at this
        exact this
      · have := q_next hk h (p := 0) (by omega) e
        rw [if_pos s2] at this
        exact this
    · have hT := tab_of h q2 s2
      obtain ⟨-, ⟨hb4, hb6⟩, -⟩ := id hT
      have hp : 2 ^ f.2 ≤ 64 ∧ 16 ≤ 2 ^ f.2 := by
        have h1 : f.2 = 4 ∨ f.2 = 5 ∨ f.2 = 6 := by omega
        rcases h1 with w | w | w <;> rw [w] <;> decide
      have hcu : ∀ s, s < 2 ^ f.2 → (if s < 2 ^ f.2 then rvb f.2 s 0 else 0) = rvb f.2 s 0 := fun s hs => if_pos hs
      have hr : ∀ s, s < 2 ^ f.2 → rvb f.2 s 0 < 2 ^ f.2 := rvb_lt f.2 (by omega)
      have hi : ∀ s, s < 2 ^ f.2 → rvb f.2 (rvb f.2 s 0) 0 = s := rvb_inv f.2 (by omega) hb4
      refine scan_loop (N := 2 ^ f.2) (cu := fun s => if s < 2 ^ f.2 then rvb f.2 s 0 else 0) (bk := fun s => scn (cL c) f.2 (if s < 2 ^ f.2 then rvb f.2 s 0 else 0)) hk h hc e ⟨fun s hs i => ?_, fun s hs => ?_, ?_, if_neg (by omega), fun s h1 h2 => ?_, fun s hs => ?_, hp.1, by omega, fun s hs q hq => ?_, fun s hs => ?_, fun s s' h1 h2 q hq q' hq' he => ?_, fun q hq => ?_⟩ (fun s _ => Nat.le_trans (List.length_filter_le _ _) h40) (by rw [s2, if_neg (show ¬ (2 : Int32) = 1 by decide)]; exact hp.2)
      · have := q_scanned hk h (p := if s < 2 ^ f.2 then rvb f.2 s 0 else 0) (by split; have := hr s hs; omega; omega) e i
        unfold gvL at this
        rw [s2, if_neg (show ¬ (2 : Int32) = 1 by decide)] at this
        exact this
      · dsimp only
        rw [if_pos hs]
        have h3 := hr s hs
        have := q_next hk h (p := rvb f.2 s 0) (by omega) e
        rw [s2, if_neg (show ¬ (2 : Int32) = 1 by decide), Nat.mod_eq_of_lt h3, hi s hs] at this
        rw [this]
        by_cases w : s + 1 < 2 ^ f.2
        · rw [if_pos w, Nat.mod_eq_of_lt w]
        · rw [if_neg w, show s + 1 = 2 ^ f.2 by omega, Nat.mod_self, rvb_0 f.2 (by omega) hb4]
      · show (if 0 < 2 ^ f.2 then rvb f.2 0 0 else 0) = 0
        rw [if_pos (by omega)]; exact rvb_0 f.2 (by omega) hb4
      · dsimp only
        rw [if_pos h1]
        refine Nat.pos_of_ne_zero (fun w => ?_)
        have w2 := hi s h1
        rw [w, rvb_0 f.2 (by omega) hb4] at w2
        omega
      · dsimp only
        split
        · have := hr s (by assumption); omega
        · omega
      · exact (List.mem_filter.mp hq).1
      · exact hA.filter _
      · have a1 := of_decide_eq_true (List.mem_filter.mp hq).2
        have a2 := of_decide_eq_true (List.mem_filter.mp hq').2
        rw [if_pos h1, Nat.mod_eq_of_lt (hr s h1)] at a1
        rw [if_pos h2, Nat.mod_eq_of_lt (hr s' h2)] at a2
        rw [he, a2] at a1
        rw [← hi s h1, ← a1, hi s' h2]
      · refine ⟨rvb f.2 (hb f.2 q.1) 0, hr _ (hb_lt q.1), List.mem_filter.mpr ⟨hq, decide_eq_true ?_⟩⟩
        rw [if_pos (hr _ (hb_lt q.1)), hi _ (hb_lt q.1), Nat.mod_eq_of_lt (hb_lt q.1)]
  · rw [if_neg e, asks_13, show (0 : Int32) = nI 0 from rfl, q_next_n hk h (by omega) e, Option.bind_some, thrR, if_neg (by decide), if_pos rfl, Option.bind_some, keep_r, if_pos rfl, asks_14, q_scanned_n hk h (by omega) e, Option.bind_some, thrR, if_neg (by decide), if_pos rfl, Option.bind_some, keep_r, if_pos rfl]
end SCAN
