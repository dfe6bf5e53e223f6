/-! the clock, samples, the log: the class alone -/
/-- the picture as the parts of the whole proof take it -/
def I0 (x : SSt) (t : Nat) (cc : CC) (ff : Nat → FK) (E : EL) (Mf idf : Nat → Nat) (lvi : Nat) : Prop :=
  t ≤ 1000000 ∧ sClk x = nI t ∧ True ∧ True ∧ True ∧ isN (sLs x) 16 ∧ (∀ k, k < 16 → VR (sV x k) (cc k) (ff k) ∧ True ∧ okCK (cc k) ∧ okF (ff k) ∧ lzC (cc k)) ∧ LogC (sLog x) E ∧ True ∧ LI E Mf idf (nI t) cc lvi ∧ (∀ k, k < 16 → vlId (sV x k) = nI (idf k) ∧ idf k ≤ lvi) ∧ sLvi x = nI lvi ∧ True
theorem J0.i0 {x : SSt} {t : Nat} {cc : CC} {ff : Nat → FK} {E : EL} {Mf idf : Nat → Nat} {lvi : Nat} (h : J0 x t cc ff E Mf idf lvi) : I0 x t cc ff E Mf idf lvi := by
  obtain ⟨h1, h2, h3, h4, h5, h6, h7, h8⟩ := h
  exact ⟨h1, h2, trivial, trivial, trivial, h3, fun k hk => ⟨(h4 k hk).1, trivial, (h4 k hk).2⟩, h5, trivial, h6, h7, h8, trivial⟩
def hlN (cc : CC) (n : Nat) : Nat := (List.range n).countP (fun k => decide (cT (cc k) ≠ 0))
theorem hlN_s {cc : CC} {n : Nat} : hlN cc (n + 1) = hlN cc n + if cT (cc n) = 0 then 0 else 1 := by
  unfold hlN
  rw [List.range_succ, List.countP_append, List.countP_cons, List.countP_nil, Nat.zero_add]
  by_cases e : cT (cc n) = 0
  · rw [if_pos e, if_neg (by simp [e])]
  · rw [if_neg e, if_pos (by simp [e])]
abbrev SmT : Type := CC × Nat × Nat × Nat
def smp (now : Int32) (many start : Nat) : Nat → SmT → SmT
  | 0, st => st
  | n + 1, (cc, ls, s, d) => if many ≤ s then (cc, ls, s, d) else
    if cT (cc ((start + (15 - n)) % 16)) = 0 ∨ cE (cc ((start + (15 - n)) % 16)) = -1 then smp now many start n (cc, ls, s, d) else
    if thC (cc ((start + (15 - n)) % 16)) now = true then smp now many start n (cc, (start + (15 - n)) % 16, s + 1, d) else smp now many start n (upN cc ((start + (15 - n)) % 16) (rmC (cc ((start + (15 - n)) % 16))), (start + (15 - n)) % 16, s + 1, d + 1)
def SmA (now : Int32) (c0 c1 : CC) : Prop := ∀ k, c1 k = c0 k ∨ (c1 k = rmC (c0 k) ∧ thC (c0 k) now = false)
theorem vw_rm {now : Int32} {c : CK} (h : thC c now = false) : vw now (rmC c) = vw now c := by
  unfold vw
  rw [if_neg (th_T0 rfl), if_neg (by rw [h]; decide)]
theorem SmA.view {now : Int32} {c0 c1 : CC} (h : SmA now c0 c1) (k : Nat) : vw now (c0 k) = vw now (c1 k) := by
  rcases h k with e | ⟨e, g⟩
  · rw [e]
  · rw [e, vw_rm g]
def ClS (x y : SSt) (cc : CC) (ff : Nat → FK) (ls : Nat) : Prop := sRar y = sRar x ∧ sKtw y = sKtw x ∧ sClk y = sClk x ∧ sLvi y = sLvi x ∧ sLog y = sLog x ∧ sNew y = sNew x ∧ sLs y = nI ls ∧ (∀ k, k < 16 → VR (sV y k) (cc k) (ff k) ∧ vlId (sV y k) = vlId (sV x k))
theorem cls_sample {x : SSt} {cc : CC} {ff : Nat → FK} {t ls many : Nat} (hK : ∀ k, k < 16 → VR (sV x k) (cc k) (ff k)) (hclk : sClk x = nI t) (hls : sLs x = nI ls) (hl16 : ls < 16) (hm : many ≤ 16) {cc' : CC} {ls' s' d' : Nat} (hR : smp (nI t) many (ls + 1) 16 (cc, ls, 0, 0) = (cc', ls', s', d')) :
    ∃ y, iterK FU (fX7_sample_22 (nI many) (nI (ls + 1))) (x, 0, 0, 0) = some (y, .inl (nI d')) ∧ ClS x y cc' ff ls' := by
  have key : Ok (iterK FU (fX7_sample_22 (nI many) (nI (ls + 1))) (x, 0, 0, 0)) (fun r => r.2 = .inl (nI d') ∧ ClS x r.1 cc' ff ls') := by
    refine ok_iter (fun n st => ∃ c1 l1 s1 d1, n ≤ 16 ∧ st.2 = (nI s1, nI d1, nI (16 - n)) ∧ s1 ≤ 16 - n ∧ d1 ≤ 16 - n ∧ ClS x st.1 c1 ff l1 ∧ smp (nI t) many (ls + 1) n (c1, l1, s1, d1) = (cc', ls', s', d')) _ ?_ FU 16 _ ⟨cc, ls, 0, 0, Nat.le_refl _, rfl, by omega, by omega, ⟨rfl, rfl, rfl, rfl, rfl, rfl, hls, fun k hk => ⟨hK k hk, rfl⟩⟩, hR⟩ (by unfold FU; omega)
    rintro n ⟨z, st⟩ rec ⟨c1, l1, s1, d1, hn, he, hs, hd, hz, hsm⟩ hrec
    dsimp only at he hz
    subst he
    obtain ⟨a1, a2, a3, a4, a5, a6, a7, a8⟩ := id hz
    unfold fX7_sample_22
    dsimp only
    rw [d16]
    cases n with
    | zero =>
      rw [if_pos (nI_le (by omega) (by omega)), ok_some]
      have e := hsm
      unfold smp at e
      cases e
      exact ⟨rfl, hz⟩
    | succ n =>
      rw [if_neg (nI_ge (by omega) (by omega))]
      unfold smp at hsm
      by_cases e1 : many ≤ s1
      · rw [if_pos e1] at hsm
        cases hsm
        rw [if_pos (nI_le e1 (by omega)), ok_some]
        exact ⟨rfl, hz⟩
      · rw [if_neg e1] at hsm
        rw [if_neg (nI_ge (by omega) (by omega)), nI_add, pk_rem (by omega) (by omega) (by omega), keep_r, show ls + 1 + (16 - (n + 1)) = ls + 1 + (15 - n) by omega]
        have hkey : (ls + 1 + (15 - n)) % 16 < 16 := Nat.mod_lt _ (by omega)
        generalize (ls + 1 + (15 - n)) % 16 = key at *
        rw [inb_nI hkey (by omega), chk_r, nI_clamp (show key < 2 ^ 31 by omega)]
        obtain ⟨v1, v2⟩ := a8 key hkey
        obtain ⟨w1, w2, w3, w4⟩ := id v1
        have nx : nI (16 - (n + 1)) + 1 = nI (16 - n) := by rw [nI_1]; congr 1; omega
        rw [nx]
        by_cases e2 : cT (c1 key) = 0
        · rw [if_pos (Or.inl e2)] at hsm
          rw [if_pos (w3.mp e2), ok_keep]
          exact hrec n _ (by omega) ⟨c1, l1, s1, d1, by omega, rfl, by omega, by omega, hz, hsm⟩
        · rw [if_neg (fun q => e2 (w3.mpr q))]
          obtain ⟨u1, u2, u3⟩ := w4 e2
          rw [u1]
          by_cases e3 : cE (c1 key) = -1
          · rw [if_pos (Or.inr e3)] at hsm
            rw [if_pos e3, ok_keep]
            exact hrec n _ (by omega) ⟨c1, l1, s1, d1, by omega, rfl, by omega, by omega, hz, hsm⟩
          · rw [if_neg (by rintro (q | q); exact e2 q; exact e3 q)] at hsm
            rw [if_neg e3, ok_keep, ok_keep, show sV (sLs_s z (nI key)) = sV z from rfl, show sClk (sLs_s z (nI key)) = sClk z from rfl, a3, hclk, val_isThere v1, Option.bind_some]
            by_cases e4 : thC (c1 key) (nI t) = true
            · rw [if_pos e4] at hsm
              rw [e4, if_neg (show ¬ b2i true = 0 by decide), ok_keep]
              exact hrec n _ (by omega) ⟨c1, key, s1 + 1, d1, by omega, (by show (nI s1 + 1, nI d1, nI (16 - n)) = _; rw [nI_1]), by omega, by omega, ⟨a1, a2, a3, a4, a5, a6, rfl, a8⟩, hsm⟩
            · have e4' : thC (c1 key) (nI t) = false := by simpa using e4
              rw [if_neg e4] at hsm
              rw [e4', if_pos (show b2i false = 0 by decide), ok_keep, ok_keep, ok_keep]
              refine hrec n _ (by omega) ⟨_, key, s1 + 1, d1 + 1, by omega, (by show (nI s1 + 1, nI d1 + 1, nI (16 - n)) = _; rw [nI_1, nI_1]), by omega, by omega, ⟨a1, a2, a3, a4, a5, a6, rfl, fun k hk => ?_⟩, hsm⟩
              show VR (vup (sV z) key (vlHeld_s (sV z key) 0) k) _ _ ∧ vlId (vup (sV z) key (vlHeld_s (sV z key) 0) k) = _
              by_cases e5 : k = key
              · subst e5
                rw [vup_s, upN_s]
                exact ⟨⟨w1, Or.inl rfl, ⟨fun _ => rfl, fun _ => rfl⟩, fun q => absurd rfl q⟩, v2⟩
              · rw [vup_o e5, upN_o e5]; exact a8 k hk
  obtain ⟨⟨y, r⟩, y1, y2, y3⟩ := key
  dsimp only at y2 y3
  subst y2
  exact ⟨y, y1, y3⟩
theorem smp_al {now : Int32} {many start : Nat} : ∀ (n : Nat) (cc : CC) (ls s d : Nat) (cc' : CC) (ls' s' d' : Nat), ls < 16 → smp now many start n (cc, ls, s, d) = (cc', ls', s', d') → SmA now cc cc' ∧ ls' < 16 := by
  intro n
  induction n with
  | zero =>
    intro cc ls s d cc' ls' s' d' hl h
    unfold smp at h
    cases h
    exact ⟨fun k => Or.inl rfl, hl⟩
  | succ n ih =>
    intro cc ls s d cc' ls' s' d' hl h
    unfold smp at h
    have hkey : (start + (15 - n)) % 16 < 16 := Nat.mod_lt _ (by omega)
    generalize (start + (15 - n)) % 16 = key at *
    split at h
    · cases h; exact ⟨fun k => Or.inl rfl, hl⟩
    · split at h
      · exact ih _ _ _ _ _ _ _ _ hl h
      · split at h
        · exact ih _ _ _ _ _ _ _ _ hkey h
        · rename_i e1 e2 e3
          obtain ⟨g1, g2⟩ := ih _ _ _ _ _ _ _ _ hkey h
          refine ⟨fun k => ?_, g2⟩
          by_cases e5 : k = key
          · subst e5
            have ht : thC (cc k) now = false := by simpa using e3
            rcases g1 k with q | ⟨q, -⟩
            · rw [upN_s] at q; exact Or.inr ⟨q, ht⟩
            · rw [upN_s] at q; exact Or.inr ⟨q.trans rfl, ht⟩
          · have := g1 k
            rw [upN_o e5] at this
            exact this
def frs (E : EL) (idf : Nat → Nat) (now : Int32) (cc : CC) : Nat → EL
  | 0 => []
  | n + 1 => frs E idf now cc n ++ if thC (cc n) now = true then freshG E n (idf n) now (cc n) else []
def cth (cc : CC) (now : Int32) (n : Nat) : Nat := (List.range n).countP (fun k => thC (cc k) now)
theorem cth_s {cc : CC} {now : Int32} {n : Nat} : cth cc now (n + 1) = cth cc now n + if thC (cc n) now = true then 1 else 0 := by
  unfold cth
  rw [List.range_succ, List.countP_append, List.countP_cons, List.countP_nil, Nat.zero_add]
theorem cth_le {cc : CC} {now : Int32} {n : Nat} : cth cc now n ≤ n := Nat.le_trans List.countP_le_length (by rw [List.length_range]; exact Nat.le_refl _)
theorem frs_ok {E : EL} {Mf idf : Nat → Nat} {t : Nat} {cc : CC} {lvi : Nat} (hLI : LI E Mf idf (nI t) cc lvi) (h6 : t ≤ 1000000) (hok : ∀ k, k < 16 → okCK (cc k) ∧ lzC (cc k)) (hid : ∀ k, k < 16 → idf k ≤ lvi) : ∀ n, n ≤ 16 →
    (frs E idf (nI t) cc n).length ≤ cntLt n E ∧ (∀ e ∈ frs E idf (nI t) cc n, ∃ j, j < n ∧ wY e.1 = nI j ∧ thC (cc j) (nI t) = true ∧ e.2 ≤ lvi) ∧ ∀ k, k < n → LIk (frs E idf (nI t) cc n) (frs E idf (nI t) cc k).length (idf k) (nI t) k (cc k) := by
  intro n
  induction n with
  | zero => intro _; exact ⟨Nat.zero_le _, fun e he => (nomatch he), fun k hk => absurd hk (Nat.not_lt_zero k)⟩
  | succ n ih =>
    intro hn
    obtain ⟨i1, i2, i3⟩ := ih (by omega)
    have hne : ∀ k, k < n → nI n ≠ nI k := fun k hk q => by
      have := (nI_eqE (by omega) (by omega)).mp q
      omega
    have hF : ∀ e ∈ frs E idf (nI t) cc n, wY e.1 ≠ nI n := fun e he q => by
      obtain ⟨j, j1, j2, -⟩ := i2 e he
      exact hne j j1 (q.symm.trans j2)
    have htN : isN (nI t) 1000001 := ⟨t, by omega, rfl⟩
    show (frs E idf (nI t) cc n ++ if thC (cc n) (nI t) = true then freshG E n (idf n) (nI t) (cc n) else []).length ≤ _ ∧ _
    rw [cntLt_s (by omega)]
    by_cases ht : thC (cc n) (nI t) = true
    · have hu : frs E idf (nI t) cc (n + 1) = frs E idf (nI t) cc n ++ freshG E n (idf n) (nI t) (cc n) := by
        show frs E idf (nI t) cc n ++ (if thC (cc n) (nI t) = true then freshG E n (idf n) (nI t) (cc n) else []) = _
        rw [if_pos ht]
      obtain ⟨g1, g2, g3⟩ := (hLI.1 n (by omega)).fresh (F := frs E idf (nI t) cc n) (by omega) (hok n (by omega)).1 (hok n (by omega)).2 ht htN hF
      rw [if_pos ht, hu]
      refine ⟨by rw [List.length_append]; omega, fun e he => ?_, fun k hk => ?_⟩
      · rcases List.mem_append.mp he with w | w
        · obtain ⟨j, j1, j2⟩ := i2 e w
          exact ⟨j, by omega, j2⟩
        · exact ⟨n, by omega, (g3 e w).1, ht, by rw [(g3 e w).2]; exact hid n (by omega)⟩
      · by_cases e : k = n
        · subst e; exact g1
        · exact (i3 k (by omega)).oth (fun e' he' q => hne k (by omega) ((g3 e' he').1.symm.trans q))
    · have hu : frs E idf (nI t) cc (n + 1) = frs E idf (nI t) cc n := by
        show frs E idf (nI t) cc n ++ (if thC (cc n) (nI t) = true then freshG E n (idf n) (nI t) (cc n) else []) = _
        rw [if_neg ht, List.append_nil]
      have ht' : thC (cc n) (nI t) = false := by simpa using ht
      rw [if_neg ht, List.append_nil, hu]
      refine ⟨by omega, fun e he => ?_, fun k hk => ?_⟩
      · obtain ⟨j, j1, j2⟩ := i2 e he
        exact ⟨j, by omega, j2⟩
      · by_cases e : k = n
        · subst e; exact LIk.none ht' htN hF
        · exact i3 k (by omega)
def RwC (x y : SSt) (B w : Nat) (F : EL) : Prop := sRar y = nI B ∧ sKtw y = nI w ∧ sClk y = sClk x ∧ sLs y = sLs x ∧ sLvi y = sLvi x ∧ sLog y = sLog x ∧ sV y = sV x ∧ LogC (sNew y) F
theorem cls_rewrite {x : SSt} {t : Nat} {cc : CC} {ff : Nat → FK} {E : EL} {Mf idf : Nat → Nat} {lvi : Nat} (h : I0 x t cc ff E Mf idf lvi) (hlim : lvi < 2 ^ 31) :
    ∃ y, fX7_rewrite x = some (y, nI (cth cc (nI t) 16)) ∧ RwC x y E.length (cth cc (nI t) 16) (frs E idf (nI t) cc 16) := by
  obtain ⟨h1, h2, h3, h4, h5, h6, h7, h8, h9, h10, h11, h12, h13⟩ := h
  have hfr := frs_ok h10 h1 (fun k hk => ⟨(h7 k hk).2.2.1, (h7 k hk).2.2.2.2⟩) (fun k hk => (h11 k hk).2)
  have key : Ok (fX7_rewrite x) (fun r => r.2 = nI (cth cc (nI t) 16) ∧ RwC x r.1 E.length (cth cc (nI t) 16) (frs E idf (nI t) cc 16)) := by
    unfold fX7_rewrite
    obtain ⟨n0, n1, n2⟩ := log_empty (sNew x)
    rw [n1, Option.bind_some, ok_keep, ok_keep, ok_keep]
    refine ok_iter (fun (n : Nat) (st : SSt × Int32) => ∃ i, n = 16 - i ∧ i ≤ 16 ∧ st.2 = nI i ∧ RwC x st.1 E.length (cth cc (nI t) i) (frs E idf (nI t) cc i)) _ ?_ FU 16 _ ⟨0, rfl, by omega, rfl, ⟨h8.1, rfl, rfl, rfl, rfl, rfl, rfl, n2⟩⟩ (by unfold FU; omega)
    rintro n ⟨y, v⟩ rec ⟨i, hn, hi, hv, hy⟩ hrec
    dsimp only at hv hy
    subst hv
    obtain ⟨y1, y2, y3, y4, y5, y6, y7, y8⟩ := id hy
    unfold fX7_rewrite_25
    dsimp only
    rw [d16]
    by_cases e : 16 ≤ i
    · have : i = 16 := by omega
      subst this
      rw [if_pos (nI_le e (by omega)), ok_some]
      exact ⟨y2, hy⟩
    · have hcl : (nI i).toNatClampNeg = i := nI_clamp (by omega)
      obtain ⟨b1, b2, b3, b4, b5⟩ := h7 i (by omega)
      have hfV : VR (fV (foc i y)) (cc i) (ff i) := by show VR (sV y i) _ _; rw [y7]; exact b1
      have hfc : fClk (foc i y) = nI t := y3.trans h2
      rw [if_neg (nI_ge (by omega) (by omega)), hcl, decide_eq_true (show i < 16 by omega), chk_r, c_there (by omega) hfV, Option.bind_some, hfc]
      by_cases ht : thC (cc i) (nI t) = true
      · obtain ⟨l1, l2, l3⟩ := hfr (i + 1) (by omega)
        have hu : frs E idf (nI t) cc (i + 1) = frs E idf (nI t) cc i ++ freshG E i (idf i) (nI t) (cc i) := by
          show frs E idf (nI t) cc i ++ (if thC (cc i) (nI t) = true then freshG E i (idf i) (nI t) (cc i) else []) = _
          rw [if_pos ht]
        have hlen : (frs E idf (nI t) cc i).length + (freshG E i (idf i) (fClk (foc i y)) (cc i)).length ≤ 300 := by
          rw [hfc, ← List.length_append, ← hu]
          exact Nat.le_trans l1 (Nat.le_trans cntLt_le h8.2.1)
        obtain ⟨w, w1, w2⟩ := cls_anew (x := foc i y) (E := E) (F := frs E idf (nI t) cc i) (id := idf i) (by omega) hfV b3 (thC_T ht) (by show LogC (sLog y) E; rw [y6]; exact h8) y8 (by show vlId (sV y i) = _; rw [y7]; exact (h11 i (by omega)).1) ⟨by have := (h11 i (by omega)).2; omega, fun e' he' => by have := (h10.2 e' he').1; omega⟩ hlen
        rw [hfc] at w2
        rw [ht, if_neg (show ¬ b2i true = 0 by decide), chk_r, w1, Option.bind_some, ok_keep, ok_keep, ok_keep, nI_1]
        refine hrec (16 - (i + 1)) _ (by omega) ⟨i + 1, rfl, by omega, rfl, y1, ?_, y3, y4, y5, y6, ?_, ?_⟩
        · show sKtw y + 1 = _
          rw [y2, nI_1, cth_s, if_pos ht]
        · show vup (sV y) i (sV y i) = sV x
          rw [← y7]
          exact congrArg sV (unf_foc i y)
        · rw [hu]; exact w2
      · have ht' : thC (cc i) (nI t) = false := by simpa using ht
        have hu : frs E idf (nI t) cc (i + 1) = frs E idf (nI t) cc i := by
          show frs E idf (nI t) cc i ++ (if thC (cc i) (nI t) = true then freshG E i (idf i) (nI t) (cc i) else []) = _
          rw [if_neg ht, List.append_nil]
        rw [ht', if_pos (show b2i false = 0 by decide), ok_keep, nI_1]
        refine hrec (16 - (i + 1)) _ (by omega) ⟨i + 1, rfl, by omega, rfl, ?_⟩
        rw [cth_s, if_neg ht, hu]; exact hy
  obtain ⟨⟨y, r⟩, y1, y2, y3⟩ := key
  dsimp only at y2 y3
  subst y2
  exact ⟨y, y1, y3⟩
abbrev GSt4 : Type := (Nat → FK) × (Nat → Nat) × (Nat → Nat) × Nat × EL
def gF4 (g : GSt4) : Nat → FK := g.1
def gM4 (g : GSt4) : Nat → Nat := g.2.1
def gI4 (g : GSt4) : Nat → Nat := g.2.2.1
def gL4 (g : GSt4) : Nat := g.2.2.2.1
def gP4 (g : GSt4) : EL := g.2.2.2.2
def crn (k : Nat) (P : EL) : CK := (runK k s00 (rws P)).1
def gK4 (g : GSt4) (r : RW) : Bool := mkB r (crn (cl (wY r)) (gP4 g))
def gst4 (g : GSt4) (r : RW) : GSt4 :=
  (upN (gF4 g) (cl (wY r)) (opF r (crn (cl (wY r)) (gP4 g)) (gF4 g (cl (wY r)))), upN (gM4 g) (cl (wY r)) (if gK4 g r = true then (gP4 g).length else gM4 g (cl (wY r))), upN (gI4 g) (cl (wY r)) (if gK4 g r = true then gL4 g + 1 else gI4 g (cl (wY r))), if gK4 g r = true then gL4 g + 1 else gL4 g, gP4 g ++ [(r, if gK4 g r = true then gL4 g + 1 else gI4 g (cl (wY r)))])
theorem crn_s {k : Nat} {P : EL} {r : RW} {id : Nat} (h : wY r = nI k) : crn k (P ++ [(r, id)]) = opC r (crn k P) ∧ (runK k s00 (rws (P ++ [(r, id)]))).2 = wT r := by
  have e : runK k s00 (rws (P ++ [(r, id)])) = (opC r (crn k P), wT r) := by
    rw [rws_app, run_app]
    show stK k (runK k s00 (rws P)) r = _
    unfold stK
    rw [if_pos h]; rfl
  unfold crn
  rw [e]
  exact ⟨rfl, rfl⟩
theorem crn_o {k : Nat} {P : EL} {r : RW} {id : Nat} (h : wY r ≠ nI k) : crn k (P ++ [(r, id)]) = crn k P ∧ (runK k s00 (rws (P ++ [(r, id)]))).2 = (runK k s00 (rws P)).2 := by
  have e : runK k s00 (rws (P ++ [(r, id)])) = runK k s00 (rws P) := by
    rw [rws_app, run_app]
    show stK k (runK k s00 (rws P)) r = _
    unfold stK
    rw [if_neg h]
  unfold crn
  rw [e]
  exact ⟨rfl, rfl⟩
def GI4 (R : List RW) (lvi i : Nat) (g : GSt4) : Prop := rws (gP4 g) = R.take i ∧ gL4 g ≤ lvi + i ∧ (∀ e ∈ gP4 g, e.2 ≤ gL4 g ∧ isN (wY e.1) 16) ∧ ∀ k, k < 16 → okCK (crn k (gP4 g)) ∧ okF (gF4 g k) ∧ lzC (crn k (gP4 g)) ∧ gI4 g k ≤ gL4 g ∧ LIk (gP4 g) (gM4 g k) (gI4 g k) (runK k s00 (rws (gP4 g))).2 k (crn k (gP4 g))
theorem gi_ok {R : List RW} {lvi i k : Nat} {g : GSt4} (h : GI4 R lvi i g) (hi : i < R.length) (hv : vldK k s00 R) (hy : wY R[i] = nI k) : okR R[i] (crn k (gP4 g)) ∧ (runK k s00 (rws (gP4 g))).2 ≤ wT R[i] := by
  have e : R = R.take i ++ R[i] :: R.drop (i + 1) := by rw [← List.drop_eq_getElem_cons hi, List.take_append_drop]
  have h1 : vldK k s00 (R.take i ++ R[i] :: R.drop (i + 1)) := by rw [← e]; exact hv
  have h2 := (vld_app.mp h1).2.1 hy
  unfold crn
  rw [h.1]
  exact h2
theorem gi_step {R : List RW} {lvi i : Nat} {g : GSt4} (h : GI4 R lvi i g) (hi : i < R.length) (hv : ∀ k, k < 16 → vldK k s00 R) (hy : isN (wY R[i]) 16) : GI4 R lvi (i + 1) (gst4 g R[i]) := by
  obtain ⟨y1, y2⟩ := isN_cl hy (by omega)
  obtain ⟨o1, o2⟩ := gi_ok h hi (hv _ y2) y1
  obtain ⟨h1, h2, h3, h4⟩ := id h
  obtain ⟨r, hr⟩ : ∃ r, r = R[i] := ⟨_, rfl⟩
  rw [← hr] at hy y1 y2 o1 o2 ⊢
  obtain ⟨k, hk⟩ : ∃ k, k = cl (wY r) := ⟨_, rfl⟩
  rw [← hk] at y1 y2 o1 o2
  have hmk : gK4 g r = mkB r (crn k (gP4 g)) := by unfold gK4; rw [← hk]
  obtain ⟨b, hb⟩ : ∃ b, b = gK4 g r := ⟨_, rfl⟩
  have eP : gP4 (gst4 g r) = gP4 g ++ [(r, if b = true then gL4 g + 1 else gI4 g k)] := by rw [hb, hk]; rfl
  have eF : gF4 (gst4 g r) = upN (gF4 g) k (opF r (crn k (gP4 g)) (gF4 g k)) := by rw [hk]; rfl
  have eM : gM4 (gst4 g r) = upN (gM4 g) k (if b = true then (gP4 g).length else gM4 g k) := by rw [hb, hk]; rfl
  have eI : gI4 (gst4 g r) = upN (gI4 g) k (if b = true then gL4 g + 1 else gI4 g k) := by rw [hb, hk]; rfl
  have eL : gL4 (gst4 g r) = if b = true then gL4 g + 1 else gL4 g := by rw [hb]; rfl
  have hLl : gL4 g ≤ gL4 (gst4 g r) ∧ gL4 (gst4 g r) ≤ gL4 g + 1 := by rw [eL]; split <;> omega
  obtain ⟨k1, k2, k3, k4, k5⟩ := h4 k y2
  refine ⟨?_, by omega, fun e he => ?_, fun j hj => ?_⟩
  · rw [eP, rws_app, h1, List.take_succ_eq_append_getElem hi, ← hr]; rfl
  · rw [eP] at he
    rcases List.mem_append.mp he with q | q
    · obtain ⟨a1, a2⟩ := h3 e q
      exact ⟨by omega, a2⟩
    · rcases List.mem_cons.mp q with q | q
      · rw [q, eL]
        refine ⟨?_, hy⟩
        show (if b = true then gL4 g + 1 else gI4 g k) ≤ _
        split <;> omega
      · cases q
  · rw [eF, eM, eI, eL]
    by_cases e : j = k
    · subst e
      obtain ⟨c1, c2⟩ := crn_s (P := gP4 g) (id := if b = true then gL4 g + 1 else gI4 g j) y1
      rw [eP, c1, c2, upN_s, upN_s, upN_s]
      refine ⟨okCK_op k1 o1, okF_op k2 o1, lz_op k3 o1, by split <;> omega, ?_⟩
      have := (k5.tick o2).snoc k1 o1 y1 (fun e he => (h3 e he).1)
      rw [← hmk, ← hb] at this
      exact this
    · have hne : wY r ≠ nI j := fun q => e ((nI_eqE (by omega) (by omega)).mp (q.symm.trans y1))
      obtain ⟨c1, c2⟩ := crn_o (P := gP4 g) (id := if b = true then gL4 g + 1 else gI4 g k) hne
      obtain ⟨j1, j2, j3, j4, j5⟩ := h4 j hj
      rw [eP, c1, c2, upN_o e, upN_o e, upN_o e]
      refine ⟨j1, j2, j3, by split <;> omega, j5.oth (fun e' he' => ?_)⟩
      rcases List.mem_cons.mp he' with q | q
      · rw [q]; exact hne
      · cases q
theorem mk_there {r : RW} {c : CK} (hr : okR r c) (hm : mkB r c = false) : cT c ≠ 0 := by
  obtain ⟨-, -, h⟩ := hr
  have d : isMk r = true → thC c (wT r) = true := fun q => by
    unfold mkB at hm
    rw [q] at hm
    cases w : thC c (wT r) with
    | true => rfl
    | false => rw [w] at hm; cases hm
  rcases h with ⟨q, -⟩ | ⟨q, h⟩ | ⟨q, -⟩ | ⟨q, h⟩ | ⟨q, -⟩ | ⟨q, -⟩ | ⟨q, h⟩ | ⟨q, h⟩ | ⟨q, h⟩ | ⟨q, h⟩ | ⟨q, h⟩
  · exact thC_T (d (isMk_t (by simp [q])))
  · exact thC_T h.2.2.2.1
  · exact thC_T (d (isMk_t (by simp [q])))
  · exact thC_T h.2.2.2.1
  · exact thC_T (d (isMk_t (by simp [q])))
  · exact thC_T (d (isMk_t (by simp [q])))
  · exact thC_T h.2.2.2.1
  · exact thC_T h.2.2.1
  · exact thC_T h.2.2.2.1
  · exact thC_T h.2.2.2
  · exact thC_T h.2.2
theorem cons_at {α : Type} {P Q : List α} {a : α} (h : P.length < (P ++ a :: Q).length) : (P ++ a :: Q)[P.length] = a := by simp
theorem log_again {lo : LSt} {P Q : EL} {r : RW} {id0 id : Nat} (h : LogC lo (P ++ (r, id0) :: Q)) : ∃ y, fX3_stamp lo (nI P.length) (wT r) (nI id) = some y ∧ LogC y (P ++ (r, id) :: Q) := by
  obtain ⟨h1, h2, h3⟩ := h
  have hl0 : (P ++ (r, id0) :: Q).length = P.length + Q.length + 1 := by rw [List.length_append, List.length_cons]; omega
  have hl1 : (P ++ (r, id) :: Q).length = P.length + Q.length + 1 := by rw [List.length_append, List.length_cons]; omega
  obtain ⟨y, y1, y2, y3⟩ := log_stamp (E := P ++ (r, id0) :: Q) (lo := lo) (r := r) (id := id) (i := P.length) h1 rfl h2 (by omega) (wT r)
  refine ⟨y, y1, by rw [y2, hl0, hl1], by rw [hl1, ← hl0]; exact h2, fun j hj => ?_⟩
  rw [hl1] at hj
  rw [y3]
  by_cases e : j = P.length
  · subst e
    have g := h3 P.length (by omega)
    rw [cons_at] at g
    rw [cons_at]
    obtain ⟨g0, g1, g2, g3, g4, g5, g6⟩ := g
    refine ⟨?_, ?_, ?_, ?_, ?_, ?_, ?_⟩
    · rw [upd_o (by omega), upd_o (by omega)]; exact g0
    · rw [upd_o (by omega), upd_o (by omega)]; exact g1
    · rw [upd_o (by omega), upd_o (by omega)]; exact g2
    · rw [upd_o (by omega), upd_o (by omega)]; exact g3
    · rw [upd_o (by omega), upd_o (by omega)]; exact g4
    · rw [upd_o (by omega), upd_s]
    · rw [upd_s]
  · have hne : (P ++ (r, id) :: Q)[j]'(by omega) = (P ++ (r, id0) :: Q)[j]'(by omega) := by
      by_cases e2 : j < P.length
      · rw [List.getElem_append_left e2, List.getElem_append_left e2]
      · rw [List.getElem_append_right (by omega), List.getElem_append_right (by omega)]
        obtain ⟨n, hn⟩ : ∃ n, j - P.length = n + 1 := ⟨j - P.length - 1, by omega⟩
        simp only [hn, List.getElem_cons_succ]
    rw [hne]
    exact rowC_congr (h3 j (by omega)) (fun q q1 q2 => by rw [upd_o (by omega), upd_o (by omega)])
def RC4 (x : SSt) (E : EL) (i : Nat) (g : GSt4) (y : SSt) : Prop := sKtw y = -1 ∧ sLs y = sLs x ∧ LogC (sLog y) (gP4 g ++ E.drop i) ∧ sLvi y = nI (gL4 g) ∧ ∀ k, k < 16 → VR (sV y k) (crn k (gP4 g)) (gF4 g k) ∧ vlId (sV y k) = nI (gI4 g k)
theorem cls_again {x y : SSt} {E : EL} {lvi i : Nat} {g : GSt4} (hG : GI4 (rws E) lvi i g) (hi : i < E.length) (hv : ∀ k, k < 16 → vldK k s00 (rws E)) (hy : isN (wY E[i].1) 16) (h : RC4 x E i g y) :
    rowKey y (nI i) = cl (wY E[i].1) ∧ ∃ z, fX7_doAgain (cl (wY E[i].1)) (foc (cl (wY E[i].1)) y) (nI i) = some z ∧ RC4 x E (i + 1) (gst4 g E[i].1) (unf (cl (wY E[i].1)) y z) := by
  have hlE : (rws E).length = E.length := List.length_map _
  have hri : (rws E)[i]'(by omega) = E[i].1 := List.getElem_map _
  obtain ⟨y1, y2⟩ := isN_cl hy (by omega)
  obtain ⟨o1, o2⟩ := gi_ok hG (by omega) (hv _ y2) (by rw [hri]; exact y1)
  rw [hri] at o1 o2
  have hPl : (gP4 g).length = i := by
    have := congrArg List.length hG.1
    rw [List.length_take, hlE, show (rws (gP4 g)).length = (gP4 g).length from List.length_map _] at this
    omega
  obtain ⟨h1, h2, h3, h4, h5⟩ := h
  obtain ⟨⟨r, id0⟩, hr⟩ : ∃ e, e = E[i] := ⟨_, rfl⟩
  rw [List.drop_eq_getElem_cons hi, ← hr] at h3
  rw [← hr] at hy y1 y2 o1 o2 ⊢
  dsimp only at hy y1 y2 o1 o2 ⊢
  obtain ⟨k, hk⟩ : ∃ k, k = cl (wY r) := ⟨_, rfl⟩
  rw [← hk] at y1 y2 o1 o2 ⊢
  have hlen : i < (gP4 g ++ (r, id0) :: E.drop (i + 1)).length := by rw [List.length_append, List.length_cons]; omega
  have hrow := h3.2.2 i hlen
  have hat : (gP4 g ++ (r, id0) :: E.drop (i + 1))[i]'hlen = (r, id0) := by
    have := cons_at (P := gP4 g) (Q := E.drop (i + 1)) (a := (r, id0)) (by omega)
    simp only [hPl] at this
    exact this
  rw [hat] at hrow
  obtain ⟨g0, g1, g2, g3, g4, g5, g6⟩ := hrow
  have c0 : fX3_cell (sLog y) (nI i) 0 = some (kcl (wK r)) := by rw [d0, log_cell h3 hlen (by omega)]; exact congrArg some g0
  have c1 : fX3_cell (sLog y) (nI i) 1 = some (nI k) := by rw [d1, log_cell h3 hlen (by omega), ← y1]; exact congrArg some g1
  have c2 : fX3_cell (sLog y) (nI i) 2 = some (fst1 r) := by rw [d2, log_cell h3 hlen (by omega)]; exact congrArg some g2
  have c3 : fX3_cell (sLog y) (nI i) 3 = some (wB r) := by rw [d3, log_cell h3 hlen (by omega)]; exact congrArg some g3
  have c4 : fX3_cell (sLog y) (nI i) 4 = some (wC r) := by rw [d4, log_cell h3 hlen (by omega)]; exact congrArg some g4
  have c5 : fX3_cell (sLog y) (nI i) 5 = some (wT r) := by rw [d5, log_cell h3 hlen (by omega)]; exact congrArg some g5
  refine ⟨?_, ?_⟩
  · unfold rowKey
    rw [c1]
    exact nI_clamp (by omega)
  · obtain ⟨v1, v2⟩ := h5 k y2
    unfold fX7_doAgain
    rw [show fX3_cell (fLog (foc k y)) (nI i) 1 = some (nI k) from c1, Option.bind_some, isk_N y2, Option.bind_some, if_neg one_ne0, show fX3_cell (fLog (foc k y)) (nI i) 5 = some (wT r) from c5, Option.bind_some, keep_r]
    obtain ⟨F0, hF0⟩ : ∃ z, z = fClk_s (foc k y) (wT r) := ⟨_, rfl⟩
    have f1 : fLog F0 = sLog y := by rw [hF0]; rfl
    have f2 : fV F0 = sV y k := by rw [hF0]; rfl
    have f3 : fClk F0 = wT r := by rw [hF0]; rfl
    have f4 : fLvi F0 = sLvi y := by rw [hF0]; rfl
    have f5 : fKtw F0 = sKtw y := by rw [hF0]; rfl
    have f6 : fLs F0 = sLs y := by rw [hF0]; rfl
    rw [← hF0, f1, c0, Option.bind_some, c2, Option.bind_some, c3, Option.bind_some, c4, Option.bind_some]
    clear hF0
    obtain ⟨w, u, w1, ⟨p1, p2, p3, p4, p5, p6⟩, p7, p8, p9⟩ := cls_row (x := F0) (f := gF4 g k) y2 (by rw [f2]; exact v1) ((hG.2.2.2 k y2).1) o1 f3
    have hmk : gK4 g r = mkB r (crn k (gP4 g)) := by unfold gK4; rw [← hk]
    rw [← hmk] at p8 p9
    have hid : vlId (fV w) = nI (if gK4 g r = true then gL4 g + 1 else gI4 g k) := by
      rw [p8, f4, f2, h4, v2, nI_1]
      split <;> rfl
    obtain ⟨lo, l1, l2⟩ := log_again (id := if gK4 g r = true then gL4 g + 1 else gI4 g k) h3
    rw [hPl] at l1
    rw [w1, Option.bind_some, keep_r, kyk y2, chk_r, p5, f1, p3, f3, hid, l1, Option.bind_some, keep_r]
    have eP : gP4 (gst4 g r) = gP4 g ++ [(r, if gK4 g r = true then gL4 g + 1 else gI4 g k)] := by rw [hk]; rfl
    have eF : gF4 (gst4 g r) = upN (gF4 g) k (opF r (crn k (gP4 g)) (gF4 g k)) := by rw [hk]; rfl
    have eI : gI4 (gst4 g r) = upN (gI4 g) k (if gK4 g r = true then gL4 g + 1 else gI4 g k) := by rw [hk]; rfl
    have eL : gL4 (gst4 g r) = if gK4 g r = true then gL4 g + 1 else gL4 g := rfl
    refine ⟨_, rfl, p2.trans (f5.trans h1), p4.trans (f6.trans h2), ?_, ?_, fun j hj => ?_⟩
    · show LogC lo _
      rw [eP, List.append_assoc]
      exact l2
    · show fLvi w = _
      rw [p9, f4, h4, eL, nI_1]
      split <;> rfl
    · rw [show sV (unf k y (fLog_s w lo)) = vup (sV y) k (fV w) from rfl, eP, eF, eI]
      by_cases e : j = k
      · subst e
        rw [(crn_s y1).1, vup_s, upN_s, upN_s]
        exact ⟨p7, hid⟩
      · rw [(crn_o (fun q => e ((nI_eqE (by omega) (by omega)).mp (q.symm.trans y1)))).1, vup_o e, upN_o e, upN_o e]
        exact h5 j hj
def gr4 (g0 : GSt4) (R : List RW) (i : Nat) : GSt4 := (R.take i).foldl gst4 g0
theorem gr4_s {g0 : GSt4} {R : List RW} {i : Nat} (hi : i < R.length) : gr4 g0 R (i + 1) = gst4 (gr4 g0 R i) R[i] := by
  unfold gr4
  rw [List.take_succ_eq_append_getElem hi, List.foldl_append]; rfl
theorem gi_all {R : List RW} {lvi : Nat} {g0 : GSt4} (h : GI4 R lvi 0 g0) (hv : ∀ k, k < 16 → vldK k s00 R) (hy : ∀ i (hi : i < R.length), isN (wY R[i]) 16) : ∀ i, i ≤ R.length → GI4 R lvi i (gr4 g0 R i) := by
  intro i
  induction i with
  | zero => intro _; exact h
  | succ i ih =>
    intro hi
    rw [gr4_s (by omega)]
    exact gi_step (ih (by omega)) (by omega) hv (hy i (by omega))
theorem vr_none {v : VSt} {c : CK} {f : FK} (h : VR v c f) : VR (vlHeld_s v 0) (c00 0) f := ⟨h.1, Or.inl rfl, ⟨fun _ => rfl, fun _ => rfl⟩, fun q => absurd rfl q⟩
section RST
variable {x : SSt} {t : Nat} {cc : CC} {ff : Nat → FK} {E : EL} {Mf idf : Nat → Nat} {lvi : Nat}
theorem gi_start (h : I0 x t cc ff E Mf idf lvi) : (∀ k, k < 16 → vldK k s00 (rws E)) ∧ (∀ i (hi : i < E.length), isN (wY E[i].1) 16) ∧ ∀ i, i ≤ E.length → GI4 (rws E) lvi i (gr4 (ff, Mf, idf, lvi, []) (rws E) i) := by
  obtain ⟨h1, h2, h3, h4, h5, h6, h7, h8, h9, h10, h11, h12, h13⟩ := h
  have hlE : (rws E).length = E.length := List.length_map _
  have hv : ∀ k, k < 16 → vldK k s00 (rws E) := fun k hk => (h10.1 k hk).1.1
  have hy : ∀ i (hi : i < E.length), isN (wY E[i].1) 16 := fun i hi => (h10.2 E[i] (List.getElem_mem hi)).2
  refine ⟨hv, hy, fun i hi => gi_all (g0 := (ff, Mf, idf, lvi, [])) ⟨rfl, Nat.le_refl _, (show ∀ e ∈ ([] : EL), e.2 ≤ lvi ∧ isN (wY e.1) 16 from fun e he => (nomatch he)), fun k hk => ⟨Or.inl rfl, (h7 k hk).2.2.2.1, fun q => absurd q (show ¬ (0 : Int32) = 1 by decide), (h11 k hk).2, ?_⟩⟩ hv (fun j hj => ?_) i (by omega)⟩
  · show LIk [] (Mf k) (idf k) 0 k (c00 0)
    exact LIk.none rfl ⟨0, by omega, rfl⟩ (fun e he => (nomatch he))
  · rw [show (rws E)[j] = (E[j]'(by omega)).1 from List.getElem_map _]
    exact hy j (by omega)
theorem cls_restart (h : I0 x t cc ff E Mf idf lvi) : ∃ y, fX7_restart x = some (y, nI (cth (fun k => crn k (gP4 (gr4 (ff, Mf, idf, lvi, []) (rws E) E.length))) (nI t) 16)) ∧ sClk y = nI t ∧ RC4 x E E.length (gr4 (ff, Mf, idf, lvi, []) (rws E) E.length) y := by
  obtain ⟨hv, hy, hG⟩ := gi_start h
  obtain ⟨h1, h2, h3, h4, h5, h6, h7, h8, h9, h10, h11, h12, h13⟩ := h
  have hlE : (rws E).length = E.length := List.length_map _
  have h300 := h8.2.1
  generalize hg : gr4 (ff, Mf, idf, lvi, []) (rws E) = gr at *
  have hg0 : gr 0 = (ff, Mf, idf, lvi, []) := by rw [← hg]; rfl
  have hgs : ∀ i (hi : i < E.length), gr (i + 1) = gst4 (gr i) E[i].1 := fun i hi => by
    rw [← hg, gr4_s (by omega), show (rws E)[i]'(by omega) = E[i].1 from List.getElem_map _]
  have key : Ok (fX7_restart x) (fun r => r.2 = nI (cth (fun k => crn k (gP4 (gr E.length))) (nI t) 16) ∧ sClk r.1 = nI t ∧ RC4 x E E.length (gr E.length) r.1) := by
    unfold fX7_restart
    rw [ok_keep, h2, ok_keep]
    obtain ⟨x1, hx1⟩ : ∃ z, z = sKtw_s x (-1) := ⟨_, rfl⟩
    rw [← hx1]
    have a1 : sKtw x1 = -1 := by rw [hx1]; rfl
    have a2 : sLs x1 = sLs x := by rw [hx1]; rfl
    have a3 : sLog x1 = sLog x := by rw [hx1]; rfl
    have a4 : sLvi x1 = nI lvi := by rw [hx1]; exact h12
    have a5 : sV x1 = sV x := by rw [hx1]; rfl
    clear hx1
    refine ok_iter (fun n s => ∃ i V, n = 16 - i ∧ i ≤ 16 ∧ s = (sV_s x1 V, nI i) ∧ (∀ j, j < i → V j = vlHeld_s (sV x j) 0) ∧ ∀ j, i ≤ j → V j = sV x j) _ ?_ FU 16 _ ⟨0, sV x1, rfl, by omega, rfl, fun j hj => absurd hj (Nat.not_lt_zero j), fun j _ => by rw [a5]⟩ (by unfold FU; omega)
    rintro n s rec ⟨i, V, hn, hi, rfl, hV, hV2⟩ hrec
    unfold fX7_restart_12
    dsimp only
    rw [d16]
    by_cases e : 16 ≤ i
    · rw [if_pos (nI_le e (by omega))]
      obtain ⟨x2, hx2⟩ : ∃ z, z = sV_s x1 V := ⟨_, rfl⟩
      rw [← hx2]
      have b0 : RC4 x E 0 (gr 0) x2 := by
        rw [hg0]
        refine ⟨by rw [hx2]; exact a1, by rw [hx2]; exact a2, ?_, by rw [hx2]; exact a4, fun k hk => ?_⟩
        · rw [show sLog x2 = sLog x by rw [hx2]; exact a3]; exact h8
        · rw [show sV x2 k = vlHeld_s (sV x k) 0 by rw [hx2]; exact hV k (by omega)]
          exact ⟨vr_none (h7 k hk).1, (h11 k hk).1⟩
      clear hx2
      refine ok_iter (fun n s => ∃ i, n = E.length - i ∧ i ≤ E.length ∧ s.2 = nI i ∧ RC4 x E i (gr i) s.1) _ ?_ FU E.length _ ⟨0, rfl, by omega, rfl, b0⟩ (by unfold FU; omega)
      rintro n2 ⟨y, v⟩ rec2 ⟨i2, hn2, hi2, hv2, hy2⟩ hrec2
      dsimp only at hv2 hy2
      subst hv2
      unfold fX7_restart_36
      dsimp only
      have hGi := hG i2 hi2
      have hPl : (gP4 (gr i2)).length = i2 := by
        have := congrArg List.length hGi.1
        rw [List.length_take, hlE, show (rws (gP4 (gr i2))).length = (gP4 (gr i2)).length from List.length_map _] at this
        omega
      have hlo : loN (sLog y) = nI E.length := by
        rw [hy2.2.2.1.1, List.length_append, List.length_drop, hPl]
        congr 1; omega
      rw [hlo]
      by_cases e2 : E.length ≤ i2
      · have : i2 = E.length := by omega
        subst this
        rw [if_pos (nI_le e2 (by omega)), ok_keep]
        obtain ⟨c1, c2, c3, c4, c5⟩ := hy2
        obtain ⟨y3, hy3⟩ : ∃ z, z = sClk_s y (nI t) := ⟨_, rfl⟩
        have d1' : sClk y3 = nI t := by rw [hy3]; rfl
        have d2' : RC4 x E E.length (gr E.length) y3 := by
          rw [hy3]; exact ⟨c1, c2, c3, c4, c5⟩
        rw [← hy3]
        clear hy3
        refine ok_iter (fun n s => ∃ i, n = 16 - i ∧ i ≤ 16 ∧ s = (nI (cth (fun k => crn k (gP4 (gr E.length))) (nI t) i), nI i)) _ ?_ FU 16 _ ⟨0, rfl, by omega, rfl⟩ (by unfold FU; omega)
        rintro n3 s rec3 ⟨i3, hn3, hi3, rfl⟩ hrec3
        unfold fX7_restart_67
        dsimp only
        rw [d16]
        by_cases e3 : 16 ≤ i3
        · rw [if_pos (nI_le e3 (by omega)), ok_some, show i3 = 16 by omega]
          exact ⟨rfl, d1', d2'⟩
        · rw [if_neg (nI_ge (by omega) (by omega)), nI_clamp (by omega), decide_eq_true (show i3 < 16 by omega), chk_r, c_there (by omega) (show VR (fV (foc i3 y3)) _ _ from (d2'.2.2.2.2 i3 (by omega)).1), Option.bind_some, show fClk (foc i3 y3) = nI t from d1']
          by_cases e4 : thC (crn i3 (gP4 (gr E.length))) (nI t) = true
          · rw [e4, if_neg (show ¬ b2i true = 0 by decide), ok_keep, ok_keep, nI_1, nI_1]
            exact hrec3 (16 - (i3 + 1)) _ (by omega) ⟨i3 + 1, rfl, by omega, by rw [cth_s, if_pos e4]⟩
          · have e4' : thC (crn i3 (gP4 (gr E.length))) (nI t) = false := by simpa using e4
            rw [e4', if_pos (show b2i false = 0 by decide), ok_keep, nI_1]
            exact hrec3 (16 - (i3 + 1)) _ (by omega) ⟨i3 + 1, rfl, by omega, by rw [cth_s, if_neg e4]; rfl⟩
      · obtain ⟨q1, z, q2, q3⟩ := cls_again hGi (by omega) hv (hy i2 (by omega)) hy2
        have y2' := (isN_cl (hy i2 (by omega)) (by omega)).2
        rw [if_neg (nI_ge (by omega) (by omega)), q1, decide_eq_true y2', chk_r, q2, Option.bind_some, ok_keep, ok_keep, nI_1]
        refine hrec2 (E.length - (i2 + 1)) _ (by omega) ⟨i2 + 1, rfl, by omega, rfl, ?_⟩
        rw [hgs i2 (by omega)]
        exact q3
    · rw [if_neg (nI_ge (by omega) (by omega)), inb_nI (by omega) (by omega), chk_r, nI_clamp (by omega), ok_keep, ok_keep, nI_1]
      refine hrec (16 - (i + 1)) _ (by omega) ⟨i + 1, vup V i (vlHeld_s (V i) 0), rfl, by omega, rfl, fun j hj => ?_, fun j hj => ?_⟩
      · by_cases e4 : j = i
        · subst e4; rw [vup_s, hV2 j (Nat.le_refl _)]
        · rw [vup_o e4]; exact hV j (by omega)
      · rw [vup_o (by omega)]; exact hV2 j (by omega)
  obtain ⟨⟨y, r⟩, y1, y2, y3⟩ := key
  dsimp only at y2 y3
  subst y2
  exact ⟨y, y1, y3⟩
end RST
section ALL
variable {x : SSt} {t n lim : Nat} {cc : CC} {ff : Nat → FK} {g : Option (Nat × Nat)}
theorem j_rows (h : JZ x t cc ff n g lim) : fX7_rows 0 (foc 0 x) = some (nI n) := by
  obtain ⟨E, Mf, idf, lvi, rfl, hl, ⟨h1, h2, h3, h4, h5, h6, h7, h8⟩, hrw⟩ := h
  exact congrArg some h5.1
theorem j_held (h : JZ x t cc ff n g lim) : fX7_held x = some (nI (hlN cc 16)) := by
  obtain ⟨E, Mf, idf, lvi, rfl, hl, ⟨h1, h2, h3, h4, h5, h6, h7, h8⟩, hrw⟩ := h
  refine ok_is ?_
  unfold fX7_held
  refine ok_iter (fun n s => ∃ i, n = 16 - i ∧ i ≤ 16 ∧ s = (nI (hlN cc i), nI i)) _ ?_ FU 16 _ ⟨0, rfl, by omega, rfl⟩ (by unfold FU; omega)
  rintro n s rec ⟨i, hn, hi, rfl⟩ hrec
  unfold fX7_held_4
  dsimp only
  rw [d16]
  by_cases e : 16 ≤ i
  · rw [if_pos (nI_le e (by omega)), ok_some, show i = 16 by omega]
  · rw [if_neg (nI_ge (by omega) (by omega)), inb_nI (by omega) (by omega), chk_r, nI_clamp (by omega)]
    have hv := (h4 i (by omega)).1.2.2.1
    by_cases e2 : cT (cc i) = 0
    · rw [if_pos (hv.mp e2), ok_keep, nI_1]
      exact hrec (16 - (i + 1)) _ (by omega) ⟨i + 1, rfl, by omega, by rw [hlN_s, if_pos e2]; rfl⟩
    · rw [if_neg (fun q => e2 (hv.mpr q)), ok_keep, ok_keep, nI_1, nI_1]
      exact hrec (16 - (i + 1)) _ (by omega) ⟨i + 1, rfl, by omega, by rw [hlN_s, if_neg e2]⟩
theorem hlN_le {cc : CC} {n : Nat} : hlN cc n ≤ n := Nat.le_trans List.countP_le_length (by rw [List.length_range]; exact Nat.le_refl _)
theorem j_tick {d : Nat} (h : JZ x t cc ff n g lim) (hd1 : 1 ≤ d) (hd : d < 1001) (h6 : t + d ≤ 1000000) : ∃ y, fX7_tick 0 (foc 0 x) (nI d) = some (y, .inl (nI (t + d))) ∧ JZ (unf 0 x y) (t + d) cc ff n g lim := by
  obtain ⟨E, Mf, idf, lvi, rfl, hl, ⟨h1, h2, h3, h4, h5, h6', h7, h8⟩, hrw⟩ := h
  have hfc : fClk (foc 0 x) = nI t := h2
  refine ⟨fClk_s (foc 0 x) (nI (t + d)), ?_, E, Mf, idf, lvi, rfl, hl, ?_⟩
  · unfold fX7_tick
    rw [exp_in hd1 hd, Option.bind_some, thrL, hfc, nI_add, if_pos (show nI (t + d) ≤ 1000000 from nI_le (b := 1000000) h6 (by omega)), keep_r]
    rfl
  · have e : unf 0 x (fClk_s (foc 0 x) (nI (t + d))) = sClk_s x (nI (t + d)) := unf_foc 0 (sClk_s x (nI (t + d)))
    rw [e]
    have hle' : nI t ≤ nI (t + d) := nI_le (by omega) (by omega)
    have lit : ∀ {E' : EL} {M' : Nat → Nat}, LI E' M' idf (nI t) cc lvi → LI E' M' idf (nI (t + d)) cc lvi := fun q => ⟨fun k hk => (q.1 k hk).tick hle', q.2⟩
    refine ⟨⟨h6, rfl, h3, h4, h5, lit h6', h7, h8⟩, ?_⟩
    cases g with
    | none => exact hrw
    | some q =>
      obtain ⟨F, M2, a1, a2, a3, a4, a5, a6, a7⟩ := hrw
      exact ⟨F, M2, a1, a2, a3, a4, a5, a6, lit a7⟩
theorem upN_hl {cc : CC} {k : Nat} {c : CK} (h0 : cT (cc k) ≠ 0) (hc : cT c = 0) : ∀ n, hlN (upN cc k c) n + (if k < n then 1 else 0) = hlN cc n := by
  intro n
  induction n with
  | zero => rfl
  | succ n ih =>
    rw [hlN_s, hlN_s]
    by_cases e : n = k
    · subst e
      rw [if_neg (show ¬ n < n by omega)] at ih
      rw [upN_s, if_pos hc, if_neg h0, if_pos (show n < n + 1 by omega)]
      omega
    · rw [upN_o e]
      by_cases e2 : k < n
      · rw [if_pos e2] at ih
        rw [if_pos (show k < n + 1 by omega)]
        omega
      · rw [if_neg e2] at ih
        rw [if_neg (show ¬ k < n + 1 by omega)]
        omega
theorem smp_cnt {now : Int32} {many start : Nat} : ∀ (n : Nat) (cc : CC) (ls s d : Nat) (cc' : CC) (ls' s' d' : Nat), d ≤ s → s ≤ many → smp now many start n (cc, ls, s, d) = (cc', ls', s', d') → hlN cc' 16 + d' = hlN cc 16 + d ∧ d' ≤ s' ∧ s' ≤ many := by
  intro n
  induction n with
  | zero =>
    intro cc ls s d cc' ls' s' d' h1 h2 h
    unfold smp at h
    cases h
    exact ⟨rfl, h1, h2⟩
  | succ n ih =>
    intro cc ls s d cc' ls' s' d' h1 h2 h
    unfold smp at h
    have hkey : (start + (15 - n)) % 16 < 16 := Nat.mod_lt _ (by omega)
    generalize (start + (15 - n)) % 16 = key at *
    split at h
    · cases h; exact ⟨rfl, h1, h2⟩
    · split at h
      · exact ih _ _ _ _ _ _ _ _ h1 h2 h
      · split at h
        · exact ih _ _ _ _ _ _ _ _ (by omega) (by omega) h
        · rename_i e1 e2 e3
          obtain ⟨g1, g2, g3⟩ := ih _ _ _ _ _ _ _ _ (by omega) (by omega) h
          refine ⟨?_, g2, g3⟩
          have := upN_hl (cc := cc) (k := key) (c := rmC (cc key)) (fun q => e2 (Or.inl q)) rfl 16
          rw [if_pos hkey] at this
          omega
theorem j_sample {many : Nat} (h : JZ x t cc ff n g lim) (hm1 : 1 ≤ many) (hm : many ≤ 16) : ∃ y d cc', fX7_sample x (nI many) = some (y, .inl (nI d)) ∧ JZ y t cc' ff n g lim ∧ SmA (nI t) cc cc' ∧ d ≤ many ∧ hlN cc' 16 + d = hlN cc 16 := by
  obtain ⟨E, Mf, idf, lvi, rfl, hl, ⟨h1, h2, h3, h4, h5, h6, h7, h8⟩, hrw⟩ := h
  obtain ⟨ls, l2, l1⟩ := h3
  obtain ⟨cc', ls', s', d', hR⟩ : ∃ cc' ls' s' d', smp (nI t) many (ls + 1) 16 (cc, ls, 0, 0) = (cc', ls', s', d') := ⟨_, _, _, _, rfl⟩
  obtain ⟨hAL, hl'⟩ := smp_al 16 cc ls 0 0 cc' ls' s' d' l2 hR
  obtain ⟨c1, c2, c3⟩ := smp_cnt 16 cc ls 0 0 cc' ls' s' d' (Nat.le_refl _) (Nat.zero_le _) hR
  obtain ⟨y, y1, y2, y3, y4, y5, y6, y7, y8, y9⟩ := cls_sample (fun k hk => (h4 k hk).1) h2 l1 l2 (by omega) hR
  have ql : ∀ {E' : EL} {M' : Nat → Nat}, LI E' M' idf (nI t) cc lvi → LI E' M' idf (nI t) cc' lvi := fun q => ⟨fun k hk => (q.1 k hk).view (hAL.view k), q.2⟩
  have hw : fX7_needWithin (nI many) 1 16 = some (.inl 0) := within_in (fun q => by
    rcases q with q | q
    · exact nI_nlt (a := many) (b := 1) (by omega) (by omega) q
    · exact nI_nlt (a := 16) (b := many) (by omega) (by omega) q)
  refine ⟨y, d', cc', ?_, ⟨E, Mf, idf, lvi, rfl, hl, ⟨h1, y4.trans h2, by rw [y8]; exact ⟨ls', hl', rfl⟩, fun k hk => ?_, by rw [y6]; exact h5, ql h6, fun k hk => ?_, y5.trans h8⟩, ?_⟩, hAL, by omega, by omega⟩
  · unfold fX7_sample
    rw [hw, Option.bind_some, thrL, l1, nI_1, keep_r]
    exact y1
  · obtain ⟨a1, a3, a4, a5⟩ := h4 k hk
    refine ⟨(y9 k hk).1, ?_, a4, ?_⟩
    · rcases hAL k with e | ⟨e, -⟩
      · rw [e]; exact a3
      · rw [e]; exact Or.inl rfl
    · rcases hAL k with e | ⟨e, -⟩
      · rw [e]; exact a5
      · rw [e]; intro q; exact absurd (show (0 : Int32) = 1 from q) (by decide)
  · rw [(y9 k hk).2]; exact h7 k hk
  · cases g with
    | none => exact y3.trans hrw
    | some q =>
      obtain ⟨F, M2, a1, a2, a3, a4, a5, a6, a7⟩ := hrw
      exact ⟨F, M2, y3.trans a1, a2, y2.trans a3, a4, a5, by rw [y7]; exact a6, ql a7⟩
theorem j_rewrite (h : JZ x t cc ff n g lim) (hlim : lim < 2 ^ 31) : ∃ y, fX7_rewrite x = some (y, nI (cth cc (nI t) 16)) ∧ JZ y t cc ff n (some (cth cc (nI t) 16, n)) lim := by
  obtain ⟨E, Mf, idf, lvi, rfl, hl, hJ, hrw⟩ := h
  obtain ⟨y, y0, y1, y2, y3, y4, y5, y6, y7, y8⟩ := cls_rewrite hJ.i0 (by omega)
  obtain ⟨h1, h2, h3, h4, h5, h6, h7, h8⟩ := hJ
  obtain ⟨l1, l2, l3⟩ := frs_ok h6 h1 (fun k hk => ⟨(h4 k hk).2.1, (h4 k hk).2.2.2⟩) (fun k hk => (h7 k hk).2) 16 (Nat.le_refl _)
  refine ⟨y, y0, E, Mf, idf, lvi, rfl, hl, ⟨h1, y3.trans h2, by rw [y4]; exact h3, fun k hk => by rw [y7]; exact h4 k hk, by rw [y6]; exact h5, h6, fun k hk => by rw [y7]; exact h7 k hk, y5.trans h8⟩, frs E idf (nI t) cc 16, fun k => (frs E idf (nI t) cc k).length, y2, cth_le, y1, Nat.le_refl _, Nat.le_trans l1 cntLt_le, y8, ?_⟩
  rw [List.drop_length, List.append_nil]
  refine ⟨fun k hk => l3 k hk, fun e he => ?_⟩
  obtain ⟨j, j1, j2, j3, j4⟩ := l2 e he
  exact ⟨j4, ⟨j, by omega, j2⟩⟩
theorem wo_in {m : Nat} (hm1 : 1 ≤ m) (hm : m ≤ 16) : fX7_needWithin (nI m) 1 16 = some (.inl 0) := within_in (fun q => by
  rcases q with q | q
  · exact nI_nlt (a := m) (b := 1) (by omega) (by omega) q
  · exact nI_nlt (a := 16) (b := m) (by omega) (by omega) q)
theorem j_write0 {m : Nat} (h : JZ x t cc ff n none lim) (hm1 : 1 ≤ m) (hm : m ≤ 16) : fX7_writeOn 0 (foc 0 x) (nI m) = some (foc 0 x, 2, .inr 2) := by
  obtain ⟨E, Mf, idf, lvi, rfl, hl, hJ, hrw⟩ := h
  unfold fX7_writeOn
  rw [wo_in hm1 hm, Option.bind_some, thrL, show fKtw (foc 0 x) = -1 from hrw, if_pos rfl]
theorem j_write1 {m w B : Nat} (h : JZ x t cc ff n (some (w, B)) lim) (hm1 : 1 ≤ m) (hm : m ≤ 16) (hw : m < w) : ∃ y, fX7_writeOn 0 (foc 0 x) (nI m) = some (y, 2, .inl (nI (w - m))) ∧ JZ (unf 0 x y) t cc ff n (some (w - m, B)) lim := by
  obtain ⟨E, Mf, idf, lvi, rfl, hl, ⟨h1, h2, h3, h4, h5, h6, h7, h8⟩, hrw⟩ := h
  obtain ⟨F, M2, a1, a2, a3, a4, a5, a6, a7⟩ := hrw
  dsimp only at a1 a2 a3 a4 a5
  refine ⟨fKtw_s (foc 0 x) (nI (w - m)), ?_, E, Mf, idf, lvi, rfl, hl, ?_⟩
  · unfold fX7_writeOn
    rw [wo_in hm1 hm, Option.bind_some, thrL, show fKtw (foc 0 x) = nI w from a1, if_neg (show ¬ nI w = -1 from fun q => by rw [nI_nm1 (by omega)] at q; exact q), if_neg (nI_ge hw (by omega)), keep_r, pk_sub (by omega)]
    rfl
  · rw [show unf 0 x (fKtw_s (foc 0 x) (nI (w - m))) = sKtw_s x (nI (w - m)) from unf_foc 0 (sKtw_s x (nI (w - m)))]
    exact ⟨⟨h1, h2, h3, h4, h5, h6, h7, h8⟩, F, M2, rfl, by show w - m ≤ 16; omega, a3, a4, a5, a6, a7⟩
theorem j_write2 {m w B : Nat} (h : JZ x t cc ff n (some (w, B)) lim) (hm1 : 1 ≤ m) (hm : m ≤ 16) (hw : w ≤ m) : ∃ y n', fX7_writeOn 0 (foc 0 x) (nI m) = some (y, 4, .inl 0) ∧ JZ (unf 0 x (swL y)) t cc ff n' none lim ∧ n' ≤ n ∧ n ≤ n' + B := by
  obtain ⟨E, Mf, idf, lvi, rfl, hl, ⟨h1, h2, h3, h4, h5, h6, h7, h8⟩, hrw⟩ := h
  obtain ⟨F, M2, a1, a2, a3, a4, a5, a6, a7⟩ := hrw
  dsimp only at a1 a2 a3 a4 a5 a6 a7
  obtain ⟨lo, l1, l2⟩ := log_copy (n := sNew x) (lo := sLog x) (F := F) (E := E) (i := B) (m := E.length - B) a6 h5 (by omega) (by have := h5.2.1; omega)
  rw [List.take_of_length_le (by rw [List.length_drop]; omega)] at l2
  have cp : fX3_copyRows ((fNew (foc 0 x)), (fLog (foc 0 x))) (fRar (foc 0 x)) (loN (fLog (foc 0 x)) - fRar (foc 0 x)) = some (lo, sLog x) := by
    show fX3_copyRows (sNew x, sLog x) (sRar x) (loN (sLog x) - sRar x) = _
    rw [a3, h5.1, pk_sub a4]; exact l1
  have hlen : (F ++ E.drop B).length = F.length + (E.length - B) := by rw [List.length_append, List.length_drop]
  refine ⟨fKtw_s (fLog_s (fNew_s (foc 0 x) lo) (sLog x)) (-1), (F ++ E.drop B).length, ?_, ⟨F ++ E.drop B, M2, idf, lvi, rfl, hl, ?_⟩, by omega, by omega⟩
  · unfold fX7_writeOn
    rw [wo_in hm1 hm, Option.bind_some, thrL, show fKtw (foc 0 x) = nI w from a1, if_neg (show ¬ nI w = -1 from fun q => by rw [nI_nm1 (by omega)] at q; exact q), if_pos (nI_le hw (by omega)), cp, Option.bind_some, keep_r, keep_r]
  · obtain ⟨x', hx'⟩ : ∃ q, q = unf 0 x (swL (fKtw_s (fLog_s (fNew_s (foc 0 x) lo) (sLog x)) (-1))) := ⟨_, rfl⟩
    have x1 : sKtw x' = -1 := by rw [hx']; rfl
    have x2 : sClk x' = sClk x := by rw [hx']; rfl
    have x3 : sLs x' = sLs x := by rw [hx']; rfl
    have x4 : sLvi x' = sLvi x := by rw [hx']; rfl
    have x5 : sLog x' = lo := by rw [hx']; rfl
    have x6 : sV x' = sV x := by
      rw [hx']
      show vup (sV x) 0 (sV x 0) = sV x
      exact congrArg sV (unf_foc 0 x)
    rw [← hx']
    exact ⟨⟨h1, x2.trans h2, by rw [x3]; exact h3, fun k hk => by rw [x6]; exact h4 k hk, by rw [x5]; exact l2, a7, fun k hk => by rw [x6]; exact h7 k hk, x4.trans h8⟩, x1⟩
theorem cth_vw {c1 c2 : CC} {now : Int32} (h : ∀ k, k < 16 → vw now (c1 k) = vw now (c2 k)) : cth c1 now 16 = cth c2 now 16 := by
  unfold cth
  refine List.countP_congr (fun k hk => ?_)
  show thC (c1 k) now = true ↔ thC (c2 k) now = true
  rw [(vw_eq (h k (List.mem_range.mp hk))).1]
theorem cth_hl {cc : CC} {now : Int32} : ∀ n, cth cc now n ≤ hlN cc n := by
  intro n
  induction n with
  | zero => exact Nat.le_refl _
  | succ n ih =>
    rw [cth_s, hlN_s]
    by_cases e : thC (cc n) now = true
    · rw [if_pos e, if_neg (thC_T e)]; omega
    · rw [if_neg e]; omega
theorem j_restart (h : JZ x t cc ff n g lim) : ∃ y cc' ff', fX7_restart x = some (y, nI (cth cc (nI t) 16)) ∧ JZ y t cc' ff' n none (lim + 300) ∧ ∀ k, k < 16 → vw (nI t) (cc' k) = vw (nI t) (cc k) := by
  obtain ⟨E, Mf, idf, lvi, rfl, hl, hJ, hrw⟩ := h
  obtain ⟨y, y0, y1, y2, y3, y4, y5, y6⟩ := cls_restart hJ.i0
  obtain ⟨hv, hy, hG⟩ := gi_start hJ.i0
  obtain ⟨h1, h2, h3, h4, h5, h6, h7, h8⟩ := hJ
  have hlE : (rws E).length = E.length := List.length_map _
  have hg := hG E.length (Nat.le_refl _)
  obtain ⟨gr, hgd⟩ : ∃ q, q = gr4 (ff, Mf, idf, lvi, []) (rws E) E.length := ⟨_, rfl⟩
  rw [← hgd] at y0 y4 y5 y6 hg
  obtain ⟨g1, g2, g3, g4⟩ := hg
  have hR : rws (gP4 gr) = rws E := by rw [g1, List.take_of_length_le (by omega)]
  have hlP : (gP4 gr).length = E.length := by
    have := congrArg List.length hR
    rw [show (rws (gP4 gr)).length = (gP4 gr).length from List.length_map _, hlE] at this
    exact this
  have h300 := h5.2.1
  have hvw : ∀ k, k < 16 → vw (nI t) (crn k (gP4 gr)) = vw (nI t) (cc k) := fun k hk => by
    unfold crn
    rw [hR]
    exact (h6.1 k hk).1.2.2
  rw [List.drop_length, List.append_nil] at y4
  refine ⟨y, fun k => crn k (gP4 gr), gF4 gr, ?_, ⟨gP4 gr, gM4 gr, gI4 gr, gL4 gr, hlP, by omega, ⟨h1, y1, by rw [y3]; exact h3, fun k hk => ?_, y4, ⟨fun k hk => ?_, g3⟩, fun k hk => ?_, y5⟩, y2⟩, hvw⟩
  · rw [y0, cth_vw (c1 := fun k => crn k (gP4 gr)) (c2 := cc) hvw]
  · obtain ⟨a1, a2, a3, a4, a5⟩ := g4 k hk
    exact ⟨(y6 k hk).1, a1, a2, a3⟩
  · obtain ⟨a1, a2, a3, a4, a5⟩ := g4 k hk
    refine a5.tick ?_
    rw [hR]
    exact (h6.1 k hk).1.2.1
  · obtain ⟨a1, a2, a3, a4, a5⟩ := g4 k hk
    exact ⟨(y6 k hk).2, a4⟩
end ALL
