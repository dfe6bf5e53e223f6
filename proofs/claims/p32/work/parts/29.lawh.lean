def fL_restarts_160 (x : Q6St) (v4 : Int32) : Option (QSt × Int32) := (if v4 = 0 then some ((q6Q x), 0) else (fL_asks12 0 (foc 0 (q6S x)) 12 1 0 0 0).bind (fun u57 => chk (decide (u57.2.1 = 2)) (keep (q6S_s x (unf 0 (q6S x) u57.1)) (fun x60 => (if u57.2.2 = (-108) then some ((q6Q x60), 1) else some ((q6Q x60), 0))))))
def fL_restarts_112 (rec112 : Q6St × Int32 × Int32 → Option (QSt × Int32)) (s : Q6St × Int32 × Int32) : Option (QSt × Int32) := match s with | (x, v4, v5) => (if 16 ≤ v5 then fL_restarts_160 x v4 else (if v4 = 0 then fL_restarts_160 x v4 else chk (decide (((v5 : Int32).toNatClampNeg) < 16)) ((fL_sum ((v5 : Int32).toNatClampNeg) (foc ((v5 : Int32).toNatClampNeg) (q6S x)) v5).bind (fun u64 => chk (inb v5 16) ((if (lcmpv u64 (q6W x (v5 : Int32).toNatClampNeg)) = 0 then chk (decide (((v5 : Int32).toNatClampNeg) < 16)) ((fL_isKey ((v5 : Int32).toNatClampNeg) (foc ((v5 : Int32).toNatClampNeg) (q6S x)) v5).bind (fun u70 => keep (q6S_s x (unf ((v5 : Int32).toNatClampNeg) (q6S x) u70.1)) (fun x73 => (if u70.2 = 0 then keep (v5 + 1) (fun y75 => rec112 (x73, 0, y75)) else keep (v5 + 1) (fun y76 => rec112 (x73, 1, y76)))))) else keep (v5 + 1) (fun y69 => rec112 (x, 0, y69))))))))
def fL_restarts_103 (x : Q6St) (s0 : Int32) : Option (QSt × Int32) := chk (inb 2 5) (keep (q6C_s x (upd (q6C x) (2 : Int32).toNatClampNeg 0)) (fun x78 => iterK 17 (fL_restarts_112 ) (x78, s0, 0)))
def fL_restarts_102 (x : Q6St) : Option (QSt × Int32) := fL_restarts_103 x 0
def fL_restarts_27 (v4 : Int32) (rec27 : Q6St × Int32 × Int32 → Option (QSt × Int32)) (s : Q6St × Int32 × Int32) : Option (QSt × Int32) := match s with | (x, v3, v5) => (if 16 ≤ v5 then (if v4 = 0 then fL_restarts_102 x else (fX7_restart (q6S x)).bind (fun u81 => keep (q6S_s x u81.1) (fun x83 => (if u81.2 = v3 then (fX7_rows 0 (foc 0 (q6S x83))).bind (fun u85 => chk (inb 1 5) ((if u85 = (q6C x83 (1 : Int32).toNatClampNeg) then (fX7_held (q6S x83)).bind (fun u89 => (if u89 < v3 then fL_restarts_102 x83 else fL_restarts_103 x83 1)) else fL_restarts_102 x83))) else fL_restarts_102 x83)))) else chk (decide (((v5 : Int32).toNatClampNeg) < 16)) ((fL_sum ((v5 : Int32).toNatClampNeg) (foc ((v5 : Int32).toNatClampNeg) (q6S x)) v5).bind (fun u92 => chk (inb v5 16) (keep (q6W_s x (vp_updL (q6W x) (v5 : Int32).toNatClampNeg u92)) (fun x96 => chk (decide (((v5 : Int32).toNatClampNeg) < 16)) ((fX7_typeOf ((v5 : Int32).toNatClampNeg) (foc ((v5 : Int32).toNatClampNeg) (q6S x96)) v5).bind (fun u97 => thr u97 (fun k101 => none) (fun r100 => (if r100 ≤ 0 then keep (v3 + 0) (fun y103 => keep (v5 + 1) (fun y104 => rec27 (x96, y103, y104))) else keep (v3 + 1) (fun y105 => keep (v5 + 1) (fun y106 => rec27 (x96, y105, y106))))))))))))
def fL_restarts (x : QSt) : Option (QSt × Int32) := keep (q6I x) (fun x0 => (fX7_rows 0 (foc 0 (q6S x0))).bind (fun u107 => chk (inb 1 5) ((if u107 = (q6C x0 (1 : Int32).toNatClampNeg) then iterK FU (fL_restarts_27 1) (x0, 0, 0) else iterK FU (fL_restarts_27 0) (x0, 0, 0)))))
set_option maxHeartbeats 4000000 in
set_option maxRecDepth 100000 in
theorem met_L_restarts {D : va_G} {cI cV cJ cD : ClassId} (l : Launch) (hlt : l.stackTraces = false) (vf : Nat → Option Nat) (ad : Nat → Nat → Nat) (a : Nat → Nat) (ac : Nat) (hvf : ∀ k, k < 16 → vf k = some (ad k 0)) (x : QSt) (res : QSt × Int32) (hf : fL_restarts x = some res) : MM l yL_restarts cL_restarts 6 (some .boolean) { frames := 11, cells := 217, slots := 1312, locals := 259 } D (TY cI cV cJ cD) (W_Q cI cV vf a ad ac x) (W_Q cI cV vf a ad ac res.1) [.ref (a 0), .ref ac] (some (.int res.2)) := by
  intro sz
  refine Met.ofW (cc := cL_restarts) (maxL := 6) (ret := (some .boolean)) (by decide +kernel) rfl ?_
  intro p e s m args below meth c s₁ B hml hv
  obtain ⟨rfl, hsz, hP, hK, hD0, hE⟩ := hv
  have hx := B.exec
  have hb := B.bytes
  have hr := B.returns
  have hts := atoms_spec (ws := .code yL_restarts cL_restarts 6 (some .boolean) :: GW) B.pre
  have hg : ∀ w ∈ GW, w.before (([.ref (a 0), .ref ac] : List Value).toArray) s = true := fun w h => hts w (List.mem_cons_of_mem _ h)
  have hown : s.vm.findClass RL = some m.cls := findClass_of_methodNamed B.named
  have hlocks := B.notSynchronized
  subst hsz
  have hD := hD0.self (sz := s.heap.size)
  generalize hAe : va_A (W_Q cI cV vf a ad ac x) s.heap.size = A at hD hE ⊢
  have hA : ∀ q : Nat, s.heap.size ≤ q → A q := fun q h => by rw [← hAe]; exact Or.inr h
  have hS : va_S A s.heap s.heap [] := va_S.rf
  have hl := lv_entry ([.ref (a 0), .ref ac]) (n := 6) (Nat.le_of_ble_eq_true rfl)
  rw [lg_entry_eq]
  generalize (lg_sl ([.ref (a 0), .ref ac]) ++ List.replicate (6 - (lg_sl ([.ref (a 0), .ref ac])).length) Slot.unset).toArray = ls at hl ⊢
  have hl : lv_has ls 6 [(0, .ref (a 0)), (1, .ref ac)] := hl
  have L160 : ∀ (cb sb : Nat) (hcb : cb + 2 ≤ 217) (hsb : sb + 12 ≤ 1312) (aw : Nat) (x : Q6St) (v4 : Int32) (H : Heap) (locs : List Loc) (ls : Array Slot), fL_restarts_160 x v4  = some res → va_P D vwCl (W_Q6 cI cV cJ vf a ad ac aw x) H → va_D A (W_Q6 cI cV cJ vf a ad ac aw x) → va_S A s.heap H locs → lv_has ls 6 [(0, .ref (a 0)), (4, .int v4)] → W p l e ({ frames := 11, cells := 217, slots := 1312, locals := 259 } : Room) s m ([.ref (a 0), .ref ac] : List Value).toArray below meth c H locs (cb + 0) (sb + 0) (MQ below (QW D (TY cI cV cJ cD) (W_Q cI cV vf a ad ac res.1) A (some (.int res.2))) (([.ref (a 0), .ref ac] : List Value).toArray) s 217 1312 A) (F0 m 160 ls []) := by
    intro cb sb hcb hsb aw x v4 H locs ls hf hP hD hS hl
    dsimp only [fL_restarts_160] at hf
    refine lv_iload hx hb dL_restarts_160 (lv_at hl 1 rfl) ?_
    refine lv_if_eq (tgt := 184) hx hb dL_restarts_162 (by decide) (fun c56 => ?_) (fun c56 => ?_)
    · replace hf := if_t c56 hf
      refine lv_iconst (v := 0) hx hb dL_restarts_184 (by decide) ?_
      obtain rfl := Option.some.inj hf
      have hP := va_P_tl hP
      have hD := va_D_tl hD
      refine W.widen (k := 217) (n := 1312) (show cb + 0 ≤ 217 by omega) (show sb + 0 ≤ 1312 by omega) ?_
      exact W.zret (v := 0) hx hb hr (by decide +kernel) (fun t ht hW => ⟨rfl, by rw [ht]; exact hP, va_K.moved hW.alike hK, hD, hS.F ht⟩) hS.2.2 dL_restarts_185 hlocks
    · replace hf := if_f c56 hf
      refine lv_aload_n hx hb dL_restarts_165 rfl (lv_at hl 0 rfl) ?_
      refine lv_bipush (v := 12) hx hb dL_restarts_166 (by decide) ?_
      refine lv_iconst (v := 1) hx hb dL_restarts_168 (by decide) ?_
      refine lv_iconst (v := 0) hx hb dL_restarts_169 (by decide) ?_
      refine lv_iconst (v := 0) hx hb dL_restarts_170 (by decide) ?_
      refine lv_iconst (v := 0) hx hb dL_restarts_171 (by decide) ?_
      obtain ⟨u57, hc58, hf⟩ := bind_t hf
      obtain ⟨hl9, hf⟩ := chk_t hf
      replace hl9 := of_decide_eq_true hl9
      have hm59 := met_L_asks12 (D := D) (cI := cI) (cV := cV) (cJ := cJ) (cD := cD) l hlt 0 vf (foA a (ad 0)) (hvf _ (by decide : 0 < 16)) (foc 0 (q6S x)) 12 1 0 0 0 u57 hc58
      rw [hl9] at hm59
      refine k_SWQ (ws' := W_Q6 cI cV cJ vf a ad ac aw (q6S_s x (unf 0 (q6S x) u57.1))) (As := [.ref (a 0), .int 12, .int 1, .int 0, .int 0, .int 0]) (rest := []) (n := 6) ⟨hx, hb, hml, hown, hts⟩ hm59 w360 w361 w0 w362 ⟨by decide +kernel, by decide +kernel, by decide +kernel⟩ ⟨Nat.le_of_ble_eq_true rfl, Nat.le_of_ble_eq_true rfl⟩ hK hE hP hD hS hA (cut_XX2 x u57.1) rfl hl.1 rfl (Nat.le_of_ble_eq_true rfl) dL_restarts_172 ⟨show cb + 0 + 2 ≤ 217 by omega, show sb + 0 + 12 ≤ 1312 by omega⟩ (fun H locs hP hD hS => ?_)
      try dsimp only at hf
      refine W.widen (k := cb + 2) (n := sb + 12) (show cb + 0 + 2 ≤ cb + 2 by omega) (show sb + 0 + 12 ≤ sb + 12 by omega) ?_
      refine W.eq (g2 := F0 m 175 ls [.int u57.2.2]) rfl ?_
      obtain ⟨x60, hx60⟩ : ∃ z, z = (q6S_s x (unf 0 (q6S x) u57.1)) := ⟨_, rfl⟩
      replace hf := keep_e hf x60 hx60
      have hP : va_P D vwCl (W_Q6 cI cV cJ vf a ad ac aw x60) H := by rw [hx60]; exact hP
      have hD : va_D A (W_Q6 cI cV cJ vf a ad ac aw x60) := by rw [hx60]; exact hD
      refine lv_bipush (v := (-108)) hx hb dL_restarts_175 (by decide) ?_
      refine lv_icmp_ne (tgt := 184) hx hb dL_restarts_177 (by decide) (fun c61 => ?_) (fun c61 => ?_)
      · replace hf := if_f c61 hf
        refine lv_iconst (v := 0) hx hb dL_restarts_184 (by decide) ?_
        obtain rfl := Option.some.inj hf
        have hP := va_P_tl hP
        have hD := va_D_tl hD
        refine W.widen (k := 217) (n := 1312) (show cb + 2 ≤ 217 by omega) (show sb + 12 ≤ 1312 by omega) ?_
        exact W.zret (v := 0) hx hb hr (by decide +kernel) (fun t ht hW => ⟨rfl, by rw [ht]; exact hP, va_K.moved hW.alike hK, hD, hS.F ht⟩) hS.2.2 dL_restarts_185 hlocks
      · replace hf := if_t c61 hf
        refine lv_iconst (v := 1) hx hb dL_restarts_180 (by decide) ?_
        refine lv_goto (tgt := 185) hx hb dL_restarts_181 (by decide) ?_
        obtain rfl := Option.some.inj hf
        have hP := va_P_tl hP
        have hD := va_D_tl hD
        refine W.widen (k := 217) (n := 1312) (show cb + 2 ≤ 217 by omega) (show sb + 12 ≤ 1312 by omega) ?_
        exact W.zret (v := 1) hx hb hr (by decide +kernel) (fun t ht hW => ⟨rfl, by rw [ht]; exact hP, va_K.moved hW.alike hK, hD, hS.F ht⟩) hS.2.2 dL_restarts_185 hlocks
  have S112 : ∀ (cb sb : Nat) (hcb : cb + 12 ≤ 217) (hsb : sb + 72 ≤ 1312) (aw : Nat) (rec112 : Q6St × Int32 × Int32 → Option (QSt × Int32)) (hrec112 : ∀ (x : Q6St), ∀ (v4 : Int32), ∀ (v5 : Int32), ∀ (H : Heap) (locs : List Loc) (ls : Array Slot), rec112 (x, v4, v5) = some res → va_P D vwCl (W_Q6 cI cV cJ vf a ad ac aw x) H → va_D A (W_Q6 cI cV cJ vf a ad ac aw x) → va_S A s.heap H locs → lv_has ls 6 [(0, .ref (a 0)), (2, .ref aw), (4, .int v4), (5, .int v5)] → W p l e ({ frames := 11, cells := 217, slots := 1312, locals := 259 } : Room) s m ([.ref (a 0), .ref ac] : List Value).toArray below meth c H locs (cb + 12) (sb + 72) (MQ below (QW D (TY cI cV cJ cD) (W_Q cI cV vf a ad ac res.1) A (some (.int res.2))) (([.ref (a 0), .ref ac] : List Value).toArray) s 217 1312 A) (F0 m 112 ls [])) (x : Q6St) (v4 : Int32) (v5 : Int32) (H : Heap) (locs : List Loc) (ls : Array Slot), fL_restarts_112  rec112 (x, v4, v5) = some res → va_P D vwCl (W_Q6 cI cV cJ vf a ad ac aw x) H → va_D A (W_Q6 cI cV cJ vf a ad ac aw x) → va_S A s.heap H locs → lv_has ls 6 [(0, .ref (a 0)), (2, .ref aw), (4, .int v4), (5, .int v5)] → W p l e ({ frames := 11, cells := 217, slots := 1312, locals := 259 } : Room) s m ([.ref (a 0), .ref ac] : List Value).toArray below meth c H locs (cb + 0) (sb + 0) (MQ below (QW D (TY cI cV cJ cD) (W_Q cI cV vf a ad ac res.1) A (some (.int res.2))) (([.ref (a 0), .ref ac] : List Value).toArray) s 217 1312 A) (F0 m 112 ls []) := by
    intro cb sb hcb hsb aw rec112 hrec112 x v4 v5 H locs ls hf hP hD hS hl
    dsimp only [fL_restarts_112] at hf
    refine lv_iload hx hb dL_restarts_112 (lv_at hl 3 rfl) ?_
    refine lv_bipush (v := 16) hx hb dL_restarts_114 (by decide) ?_
    refine lv_icmp_ge (tgt := 160) hx hb dL_restarts_116 (by decide) (fun c62 => ?_) (fun c62 => ?_)
    · replace hf := if_t c62 hf
      exact L160 cb sb (by omega) (by omega) aw x v4 H locs ls hf hP hD hS (lv_sub hl [0, 2] rfl)
    · replace hf := if_f c62 hf
      refine lv_iload hx hb dL_restarts_119 (lv_at hl 2 rfl) ?_
      refine lv_if_eq (tgt := 160) hx hb dL_restarts_121 (by decide) (fun c63 => ?_) (fun c63 => ?_)
      · replace hf := if_t c63 hf
        exact L160 cb sb (by omega) (by omega) aw x v4 H locs ls hf hP hD hS (lv_sub hl [0, 2] rfl)
      · replace hf := if_f c63 hf
        refine lv_aload_n hx hb dL_restarts_124 rfl (lv_at hl 0 rfl) ?_
        refine lv_iload hx hb dL_restarts_125 (lv_at hl 3 rfl) ?_
        obtain ⟨hk66, hf⟩ := chk_t hf
        replace hk66 := of_decide_eq_true hk66
        obtain ⟨u64, hc65, hf⟩ := bind_t hf
        refine k_SP (ws' := W_Q6 cI cV cJ vf a ad ac aw x) (As := [.ref (a 0), .int v5]) (rest := []) (n := 2) ⟨hx, hb, hml, hown, hts⟩ (met_L_sum l hlt ((v5 : Int32).toNatClampNeg) vf (foA a (ad ((v5 : Int32).toNatClampNeg))) (hvf _ hk66) (foc ((v5 : Int32).toNatClampNeg) (q6S x)) v5 u64 hc65) w738 w739 w0 w740 ⟨by decide +kernel, by decide +kernel, by decide +kernel⟩ ⟨Nat.le_of_ble_eq_true rfl, Nat.le_of_ble_eq_true rfl⟩ hK hE hP hD hS hA (cut_XFi x hk66) rfl hl.1 rfl (Nat.le_of_ble_eq_true rfl) dL_restarts_127 ⟨show cb + 0 + 0 ≤ 217 by omega, show sb + 0 + 0 ≤ 1312 by omega⟩ (fun H locs hP hD hS => ?_)
        try dsimp only at hf
        refine W.eq (g2 := F0 m 130 ls [.long u64]) rfl ?_
        refine lv_aload_n hx hb dL_restarts_130 rfl (lv_at hl 1 rfl) ?_
        refine lv_iload hx hb dL_restarts_131 (lv_at hl 3 rfl) ?_
        obtain ⟨hi67, hf⟩ := chk_t hf
        refine va_lald hx hb hK hP 0 2 rfl rfl (inb_in hi67) dL_restarts_133 ?_
        refine k_lcmp hx hb dL_restarts_134 ?_
        refine lv_if_ne (tgt := 151) hx hb dL_restarts_135 (by decide) (fun c68 => ?_) (fun c68 => ?_)
        · replace hf := if_f c68 hf
          refine lv_iconst (v := 0) hx hb dL_restarts_151 (by decide) ?_
          refine lv_istore (lv' := [(4, .int 0), (0, .ref (a 0)), (2, .ref aw), (5, .int v5)]) hx hb dL_restarts_152 hl (by decide) rfl (fun ls hl => ?_)
          obtain ⟨y69, hy69⟩ : ∃ z : Int32, z = (v5 + 1) := ⟨_, rfl⟩
          replace hf := keep_e hf y69 hy69
          refine lv_iinc (v := y69) (lv' := [(5, .int y69), (4, .int 0), (0, .ref (a 0)), (2, .ref aw)]) hx hb dL_restarts_154 hl (k := 3) rfl (by rw [hy69]; rfl) (by decide) rfl (fun ls hl => ?_)
          refine lv_goto (tgt := 112) hx hb dL_restarts_157 (by decide) ?_
          refine W.widen (k := cb + 12) (n := sb + 72) (show cb + 0 ≤ cb + 12 by omega) (show sb + 0 ≤ sb + 72 by omega) ?_
          exact hrec112 x 0 y69 H locs ls hf hP hD hS (lv_sub hl [2, 3, 1, 0] rfl)
        · replace hf := if_t c68 hf
          refine lv_aload_n hx hb dL_restarts_138 rfl (lv_at hl 0 rfl) ?_
          refine lv_iload hx hb dL_restarts_139 (lv_at hl 3 rfl) ?_
          obtain ⟨hk72, hf⟩ := chk_t hf
          replace hk72 := of_decide_eq_true hk72
          obtain ⟨u70, hc71, hf⟩ := bind_t hf
          refine k_SP (ws' := W_Q6 cI cV cJ vf a ad ac aw (q6S_s x (unf ((v5 : Int32).toNatClampNeg) (q6S x) u70.1))) (As := [.ref (a 0), .int v5]) (rest := []) (n := 2) ⟨hx, hb, hml, hown, hts⟩ (met_L_isKey l hlt ((v5 : Int32).toNatClampNeg) vf (foA a (ad ((v5 : Int32).toNatClampNeg))) (hvf _ hk72) (foc ((v5 : Int32).toNatClampNeg) (q6S x)) v5 u70 hc71) w779 w780 w0 w781 ⟨by decide +kernel, by decide +kernel, by decide +kernel⟩ ⟨Nat.le_of_ble_eq_true rfl, Nat.le_of_ble_eq_true rfl⟩ hK hE hP hD hS hA (cut_XF x hk72 u70.1) rfl hl.1 rfl (Nat.le_of_ble_eq_true rfl) dL_restarts_141 ⟨show cb + 0 + 12 ≤ 217 by omega, show sb + 0 + 72 ≤ 1312 by omega⟩ (fun H locs hP hD hS => ?_)
          try dsimp only at hf
          refine W.widen (k := cb + 12) (n := sb + 72) (show cb + 0 + 12 ≤ cb + 12 by omega) (show sb + 0 + 72 ≤ sb + 72 by omega) ?_
          refine W.eq (g2 := F0 m 144 ls [.int u70.2]) rfl ?_
          obtain ⟨x73, hx73⟩ : ∃ z, z = (q6S_s x (unf ((v5 : Int32).toNatClampNeg) (q6S x) u70.1)) := ⟨_, rfl⟩
          replace hf := keep_e hf x73 hx73
          have hP : va_P D vwCl (W_Q6 cI cV cJ vf a ad ac aw x73) H := by rw [hx73]; exact hP
          have hD : va_D A (W_Q6 cI cV cJ vf a ad ac aw x73) := by rw [hx73]; exact hD
          refine lv_if_eq (tgt := 151) hx hb dL_restarts_144 (by decide) (fun c74 => ?_) (fun c74 => ?_)
          · replace hf := if_t c74 hf
            refine lv_iconst (v := 0) hx hb dL_restarts_151 (by decide) ?_
            refine lv_istore (lv' := [(4, .int 0), (0, .ref (a 0)), (2, .ref aw), (5, .int v5)]) hx hb dL_restarts_152 hl (by decide) rfl (fun ls hl => ?_)
            obtain ⟨y75, hy75⟩ : ∃ z : Int32, z = (v5 + 1) := ⟨_, rfl⟩
            replace hf := keep_e hf y75 hy75
            refine lv_iinc (v := y75) (lv' := [(5, .int y75), (4, .int 0), (0, .ref (a 0)), (2, .ref aw)]) hx hb dL_restarts_154 hl (k := 3) rfl (by rw [hy75]; rfl) (by decide) rfl (fun ls hl => ?_)
            refine lv_goto (tgt := 112) hx hb dL_restarts_157 (by decide) ?_
            exact hrec112 x73 0 y75 H locs ls hf hP hD hS (lv_sub hl [2, 3, 1, 0] rfl)
          · replace hf := if_f c74 hf
            refine lv_iconst (v := 1) hx hb dL_restarts_147 (by decide) ?_
            refine lv_goto (tgt := 152) hx hb dL_restarts_148 (by decide) ?_
            refine lv_istore (lv' := [(4, .int 1), (0, .ref (a 0)), (2, .ref aw), (5, .int v5)]) hx hb dL_restarts_152 hl (by decide) rfl (fun ls hl => ?_)
            obtain ⟨y76, hy76⟩ : ∃ z : Int32, z = (v5 + 1) := ⟨_, rfl⟩
            replace hf := keep_e hf y76 hy76
            refine lv_iinc (v := y76) (lv' := [(5, .int y76), (4, .int 1), (0, .ref (a 0)), (2, .ref aw)]) hx hb dL_restarts_154 hl (k := 3) rfl (by rw [hy76]; rfl) (by decide) rfl (fun ls hl => ?_)
            refine lv_goto (tgt := 112) hx hb dL_restarts_157 (by decide) ?_
            exact hrec112 x73 1 y76 H locs ls hf hP hD hS (lv_sub hl [2, 3, 1, 0] rfl)
  have L112 : ∀ (aw : Nat) (fu : Nat) (cb sb : Nat) (_ : cb + 12 * fu + 2 ≤ 217) (_ : sb + 72 * fu + 12 ≤ 1312) (x : Q6St) (v4 : Int32) (v5 : Int32) (H : Heap) (locs : List Loc) (ls : Array Slot), iterK fu (fL_restarts_112 ) (x, v4, v5) = some res → va_P D vwCl (W_Q6 cI cV cJ vf a ad ac aw x) H → va_D A (W_Q6 cI cV cJ vf a ad ac aw x) → va_S A s.heap H locs → lv_has ls 6 [(0, .ref (a 0)), (2, .ref aw), (4, .int v4), (5, .int v5)] → W p l e ({ frames := 11, cells := 217, slots := 1312, locals := 259 } : Room) s m ([.ref (a 0), .ref ac] : List Value).toArray below meth c H locs cb sb (MQ below (QW D (TY cI cV cJ cD) (W_Q cI cV vf a ad ac res.1) A (some (.int res.2))) (([.ref (a 0), .ref ac] : List Value).toArray) s 217 1312 A) (F0 m 112 ls []) := by
    intro aw fu
    induction fu with
    | zero =>
      intro cb sb _ _ x v4 v5 H locs ls hf
      cases hf
    | succ fu ih =>
      intro cb sb hcb hsb x v4 v5 H locs ls hf hP hD hS hl
      exact S112 cb sb (by omega) (by omega) aw (iterK fu (fL_restarts_112 )) (fun v90 v91 v92 => ih (cb + 12) (sb + 72) (by omega) (by omega) v90 v91 v92) x v4 v5 H locs ls hf hP hD hS hl
  have L103 : ∀ (aw : Nat) (x : Q6St) (s0 : Int32) (H : Heap) (locs : List Loc) (ls : Array Slot), fL_restarts_103 x s0  = some res → va_P D vwCl (W_Q6 cI cV cJ vf a ad ac aw x) H → va_D A (W_Q6 cI cV cJ vf a ad ac aw x) → va_S A s.heap H locs → lv_has ls 6 [(0, .ref (a 0)), (1, .ref ac), (2, .ref aw)] → W p l e ({ frames := 11, cells := 217, slots := 1312, locals := 259 } : Room) s m ([.ref (a 0), .ref ac] : List Value).toArray below meth c H locs 1 16 (MQ below (QW D (TY cI cV cJ cD) (W_Q cI cV vf a ad ac res.1) A (some (.int res.2))) (([.ref (a 0), .ref ac] : List Value).toArray) s 217 1312 A) (F0 m 103 ls [.int s0]) := by
    intro aw x s0 H locs ls hf hP hD hS hl
    dsimp only [fL_restarts_103] at hf
    refine lv_istore (lv' := [(4, .int s0), (0, .ref (a 0)), (1, .ref ac), (2, .ref aw)]) hx hb dL_restarts_103 hl (by decide) rfl (fun ls hl => ?_)
    refine lv_aload_n hx hb dL_restarts_105 rfl (lv_at hl 2 rfl) ?_
    refine lv_iconst (v := 2) hx hb dL_restarts_106 (by decide) ?_
    refine lv_iconst (v := 0) hx hb dL_restarts_107 (by decide) ?_
    obtain ⟨hi77, hf⟩ := chk_t hf
    refine va_iast hx hb hK hP hD hS 1 0 rfl rfl (inb_in hi77) dL_restarts_108 (fun H locs hP hD hS => ?_)
    obtain ⟨x78, hx78⟩ : ∃ z, z = (q6C_s x (upd (q6C x) (2 : Int32).toNatClampNeg 0)) := ⟨_, rfl⟩
    replace hf := keep_e hf x78 hx78
    have hP : va_P D vwCl (W_Q6 cI cV cJ vf a ad ac aw x78) H := by rw [hx78]; exact hP
    have hD : va_D A (W_Q6 cI cV cJ vf a ad ac aw x78) := by rw [hx78]; exact hD
    refine lv_iconst (v := 0) hx hb dL_restarts_109 (by decide) ?_
    refine lv_istore (lv' := [(5, .int 0), (4, .int s0), (0, .ref (a 0)), (1, .ref ac), (2, .ref aw)]) hx hb dL_restarts_110 hl (by decide) rfl (fun ls hl => ?_)
    exact L112 aw  17 1 16 (by omega) (by omega)  x78 s0 0 H locs ls hf hP hD hS (lv_sub hl [2, 4, 1, 0] rfl)
  have L102 : ∀ (aw : Nat) (x : Q6St) (H : Heap) (locs : List Loc) (ls : Array Slot), fL_restarts_102 x  = some res → va_P D vwCl (W_Q6 cI cV cJ vf a ad ac aw x) H → va_D A (W_Q6 cI cV cJ vf a ad ac aw x) → va_S A s.heap H locs → lv_has ls 6 [(0, .ref (a 0)), (1, .ref ac), (2, .ref aw)] → W p l e ({ frames := 11, cells := 217, slots := 1312, locals := 259 } : Room) s m ([.ref (a 0), .ref ac] : List Value).toArray below meth c H locs 1 16 (MQ below (QW D (TY cI cV cJ cD) (W_Q cI cV vf a ad ac res.1) A (some (.int res.2))) (([.ref (a 0), .ref ac] : List Value).toArray) s 217 1312 A) (F0 m 102 ls []) := by
    intro aw x H locs ls hf hP hD hS hl
    dsimp only [fL_restarts_102] at hf
    refine lv_iconst (v := 0) hx hb dL_restarts_102 (by decide) ?_
    exact L103 aw x 0 H locs ls hf hP hD hS (lv_sub hl [0, 1, 2] rfl)
  have S27 : ∀ (aw : Nat) (v4 : Int32) (rec27 : Q6St × Int32 × Int32 → Option (QSt × Int32)) (hrec27 : ∀ (x : Q6St), ∀ (v3 : Int32), ∀ (v5 : Int32), ∀ (H : Heap) (locs : List Loc) (ls : Array Slot), rec27 (x, v3, v5) = some res → va_P D vwCl (W_Q6 cI cV cJ vf a ad ac aw x) H → va_D A (W_Q6 cI cV cJ vf a ad ac aw x) → va_S A s.heap H locs → lv_has ls 6 [(0, .ref (a 0)), (1, .ref ac), (2, .ref aw), (3, .int v3), (4, .int v4), (5, .int v5)] → W p l e ({ frames := 11, cells := 217, slots := 1312, locals := 259 } : Room) s m ([.ref (a 0), .ref ac] : List Value).toArray below meth c H locs 1 16 (MQ below (QW D (TY cI cV cJ cD) (W_Q cI cV vf a ad ac res.1) A (some (.int res.2))) (([.ref (a 0), .ref ac] : List Value).toArray) s 217 1312 A) (F0 m 27 ls [])) (x : Q6St) (v3 : Int32) (v5 : Int32) (H : Heap) (locs : List Loc) (ls : Array Slot), fL_restarts_27 v4  rec27 (x, v3, v5) = some res → va_P D vwCl (W_Q6 cI cV cJ vf a ad ac aw x) H → va_D A (W_Q6 cI cV cJ vf a ad ac aw x) → va_S A s.heap H locs → lv_has ls 6 [(0, .ref (a 0)), (1, .ref ac), (2, .ref aw), (3, .int v3), (4, .int v4), (5, .int v5)] → W p l e ({ frames := 11, cells := 217, slots := 1312, locals := 259 } : Room) s m ([.ref (a 0), .ref ac] : List Value).toArray below meth c H locs 1 16 (MQ below (QW D (TY cI cV cJ cD) (W_Q cI cV vf a ad ac res.1) A (some (.int res.2))) (([.ref (a 0), .ref ac] : List Value).toArray) s 217 1312 A) (F0 m 27 ls []) := by
    intro aw v4 rec27 hrec27 x v3 v5 H locs ls hf hP hD hS hl
    dsimp only [fL_restarts_27] at hf
    refine lv_iload hx hb dL_restarts_27 (lv_at hl 5 rfl) ?_
    refine lv_bipush (v := 16) hx hb dL_restarts_29 (by decide) ?_
    refine lv_icmp_ge (tgt := 67) hx hb dL_restarts_31 (by decide) (fun c79 => ?_) (fun c79 => ?_)
    · replace hf := if_t c79 hf
      refine lv_iload hx hb dL_restarts_67 (lv_at hl 4 rfl) ?_
      refine lv_if_eq (tgt := 102) hx hb dL_restarts_69 (by decide) (fun c80 => ?_) (fun c80 => ?_)
      · replace hf := if_t c80 hf
        exact L102 aw x H locs ls hf hP hD hS (lv_sub hl [0, 1, 2] rfl)
      · replace hf := if_f c80 hf
        refine lv_aload_n hx hb dL_restarts_72 rfl (lv_at hl 0 rfl) ?_
        obtain ⟨u81, hc82, hf⟩ := bind_t hf
        refine k_VP (ws' := W_Q6 cI cV cJ vf a ad ac aw (q6S_s x u81.1)) (As := []) (rest := []) (n := 0) ⟨hx, hb, hml, hown, hts⟩ (met_X7_restart l vf ad a hvf (q6S x)  u81 hc82) w770 w771 w772 w1 w773 ⟨rfl, by decide +kernel, by decide +kernel, by decide +kernel⟩ ⟨Nat.le_of_ble_eq_true rfl, Nat.le_of_ble_eq_true rfl⟩ hK hE hP hD hS hA (cut_XS x u81.1) 0 6 rfl rfl rfl rfl hl.1 rfl (Nat.le_of_ble_eq_true rfl) dL_restarts_73 ⟨Nat.le_of_ble_eq_true rfl, Nat.le_of_ble_eq_true rfl⟩ (fun H locs hP hD hS => ?_)
        try dsimp only at hf
        refine W.eq (g2 := F0 m 76 ls [.int u81.2]) rfl ?_
        obtain ⟨x83, hx83⟩ : ∃ z, z = (q6S_s x u81.1) := ⟨_, rfl⟩
        replace hf := keep_e hf x83 hx83
        have hP : va_P D vwCl (W_Q6 cI cV cJ vf a ad ac aw x83) H := by rw [hx83]; exact hP
        have hD : va_D A (W_Q6 cI cV cJ vf a ad ac aw x83) := by rw [hx83]; exact hD
        refine lv_iload_n hx hb dL_restarts_76 rfl (lv_at hl 3 rfl) ?_
        refine lv_icmp_ne (tgt := 102) hx hb dL_restarts_77 (by decide) (fun c84 => ?_) (fun c84 => ?_)
        · replace hf := if_f c84 hf
          exact L102 aw x83 H locs ls hf hP hD hS (lv_sub hl [0, 1, 2] rfl)
        · replace hf := if_t c84 hf
          refine lv_aload_n hx hb dL_restarts_80 rfl (lv_at hl 0 rfl) ?_
          obtain ⟨u85, hc86, hf⟩ := bind_t hf
          refine k_VP (ws' := W_Q6 cI cV cJ vf a ad ac aw x83) (As := []) (rest := []) (n := 0) ⟨hx, hb, hml, hown, hts⟩ (met_X7_rows l 0 vf (foA a (ad 0)) (hvf _ (by decide : 0 < 16)) (foc 0 (q6S x83))  u85 hc86) w669 w670 w671 w1 w672 ⟨rfl, by decide +kernel, by decide +kernel, by decide +kernel⟩ ⟨Nat.le_of_ble_eq_true rfl, Nat.le_of_ble_eq_true rfl⟩ hK hE hP hD hS hA (cut_XFi x83 (by decide : 0 < 16)) 0 6 rfl rfl rfl rfl hl.1 rfl (Nat.le_of_ble_eq_true rfl) dL_restarts_81 ⟨Nat.le_of_ble_eq_true rfl, Nat.le_of_ble_eq_true rfl⟩ (fun H locs hP hD hS => ?_)
          try dsimp only at hf
          refine W.eq (g2 := F0 m 84 ls [.int u85]) rfl ?_
          refine lv_aload_n hx hb dL_restarts_84 rfl (lv_at hl 1 rfl) ?_
          refine lv_iconst (v := 1) hx hb dL_restarts_85 (by decide) ?_
          obtain ⟨hi87, hf⟩ := chk_t hf
          refine va_iald hx hb hK hP 1 0 rfl rfl (inb_in hi87) dL_restarts_86 ?_
          refine lv_icmp_ne (tgt := 102) hx hb dL_restarts_87 (by decide) (fun c88 => ?_) (fun c88 => ?_)
          · replace hf := if_f c88 hf
            exact L102 aw x83 H locs ls hf hP hD hS (lv_sub hl [0, 1, 2] rfl)
          · replace hf := if_t c88 hf
            refine lv_aload_n hx hb dL_restarts_90 rfl (lv_at hl 0 rfl) ?_
            obtain ⟨u89, hc90, hf⟩ := bind_t hf
            refine k_VP (ws' := W_Q6 cI cV cJ vf a ad ac aw x83) (As := []) (rest := []) (n := 0) ⟨hx, hb, hml, hown, hts⟩ (met_X7_held l vf ad a hvf (q6S x83)  u89 hc90) w676 w677 w678 w1 w679 ⟨rfl, by decide +kernel, by decide +kernel, by decide +kernel⟩ ⟨Nat.le_of_ble_eq_true rfl, Nat.le_of_ble_eq_true rfl⟩ hK hE hP hD hS hA (cut_XSi x83) 0 6 rfl rfl rfl rfl hl.1 rfl (Nat.le_of_ble_eq_true rfl) dL_restarts_91 ⟨Nat.le_of_ble_eq_true rfl, Nat.le_of_ble_eq_true rfl⟩ (fun H locs hP hD hS => ?_)
            try dsimp only at hf
            refine W.eq (g2 := F0 m 94 ls [.int u89]) rfl ?_
            refine lv_iload_n hx hb dL_restarts_94 rfl (lv_at hl 3 rfl) ?_
            refine lv_icmp_lt (tgt := 102) hx hb dL_restarts_95 (by decide) (fun c91 => ?_) (fun c91 => ?_)
            · replace hf := if_t c91 hf
              exact L102 aw x83 H locs ls hf hP hD hS (lv_sub hl [0, 1, 2] rfl)
            · replace hf := if_f c91 hf
              refine lv_iconst (v := 1) hx hb dL_restarts_98 (by decide) ?_
              refine lv_goto (tgt := 103) hx hb dL_restarts_99 (by decide) ?_
              exact L103 aw x83 1 H locs ls hf hP hD hS (lv_sub hl [0, 1, 2] rfl)
    · replace hf := if_f c79 hf
      refine lv_aload_n hx hb dL_restarts_34 rfl (lv_at hl 2 rfl) ?_
      refine lv_iload hx hb dL_restarts_35 (lv_at hl 5 rfl) ?_
      refine lv_aload_n hx hb dL_restarts_37 rfl (lv_at hl 0 rfl) ?_
      refine lv_iload hx hb dL_restarts_38 (lv_at hl 5 rfl) ?_
      obtain ⟨hk94, hf⟩ := chk_t hf
      replace hk94 := of_decide_eq_true hk94
      obtain ⟨u92, hc93, hf⟩ := bind_t hf
      refine k_SP (ws' := W_Q6 cI cV cJ vf a ad ac aw x) (As := [.ref (a 0), .int v5]) (rest := [.int v5, .ref aw]) (n := 2) ⟨hx, hb, hml, hown, hts⟩ (met_L_sum l hlt ((v5 : Int32).toNatClampNeg) vf (foA a (ad ((v5 : Int32).toNatClampNeg))) (hvf _ hk94) (foc ((v5 : Int32).toNatClampNeg) (q6S x)) v5 u92 hc93) w738 w739 w0 w740 ⟨by decide +kernel, by decide +kernel, by decide +kernel⟩ ⟨Nat.le_of_ble_eq_true rfl, Nat.le_of_ble_eq_true rfl⟩ hK hE hP hD hS hA (cut_XFi x hk94) rfl hl.1 rfl (Nat.le_of_ble_eq_true rfl) dL_restarts_40 ⟨Nat.le_of_ble_eq_true rfl, Nat.le_of_ble_eq_true rfl⟩ (fun H locs hP hD hS => ?_)
      try dsimp only at hf
      refine W.eq (g2 := F0 m 43 ls [.long u92, .int v5, .ref aw]) rfl ?_
      obtain ⟨hi95, hf⟩ := chk_t hf
      refine va_last hx hb hK hP hD hS 0 2 rfl rfl (inb_in hi95) dL_restarts_43 (fun H locs hP hD hS => ?_)
      obtain ⟨x96, hx96⟩ : ∃ z, z = (q6W_s x (vp_updL (q6W x) (v5 : Int32).toNatClampNeg u92)) := ⟨_, rfl⟩
      replace hf := keep_e hf x96 hx96
      have hP : va_P D vwCl (W_Q6 cI cV cJ vf a ad ac aw x96) H := by rw [hx96]; exact hP
      have hD : va_D A (W_Q6 cI cV cJ vf a ad ac aw x96) := by rw [hx96]; exact hD
      refine lv_iload_n hx hb dL_restarts_44 rfl (lv_at hl 3 rfl) ?_
      refine lv_aload_n hx hb dL_restarts_45 rfl (lv_at hl 0 rfl) ?_
      refine lv_iload hx hb dL_restarts_46 (lv_at hl 5 rfl) ?_
      obtain ⟨hk99, hf⟩ := chk_t hf
      replace hk99 := of_decide_eq_true hk99
      obtain ⟨u97, hc98, hf⟩ := bind_t hf
      rcases u97 with r100 | k101
      rotate_left
      · exact (thr_n hf).elim
      replace hf := thr_v hf rfl
      refine k_VP (ws' := W_Q6 cI cV cJ vf a ad ac aw x96) (As := [.int v5]) (rest := [.int v3]) (n := 1) ⟨hx, hb, hml, hown, hts⟩ (met0_X7_typeOf l ((v5 : Int32).toNatClampNeg) vf (foA a (ad ((v5 : Int32).toNatClampNeg))) (hvf _ hk99) (foc ((v5 : Int32).toNatClampNeg) (q6S x96)) v5 r100 hc98) w205 w206 w207 w1 w208 ⟨rfl, by decide +kernel, by decide +kernel, by decide +kernel⟩ ⟨Nat.le_of_ble_eq_true rfl, Nat.le_of_ble_eq_true rfl⟩ hK hE hP hD hS hA (cut_XFi x96 hk99) 0 6 rfl rfl rfl rfl hl.1 rfl (Nat.le_of_ble_eq_true rfl) dL_restarts_48 ⟨Nat.le_of_ble_eq_true rfl, Nat.le_of_ble_eq_true rfl⟩ (fun H locs hP hD hS => ?_)
      try dsimp only at hf
      refine W.eq (g2 := F0 m 51 ls [.int r100, .int v3]) rfl ?_
      refine lv_if_le (tgt := 58) hx hb dL_restarts_51 (by decide) (fun c102 => ?_) (fun c102 => ?_)
      · replace hf := if_t c102 hf
        refine lv_iconst (v := 0) hx hb dL_restarts_58 (by decide) ?_
        refine lv_iadd hx hb dL_restarts_59 ?_
        refine lv_topi (fun y103 hy103 => ?_)
        replace hf := keep_e hf y103 hy103
        refine lv_istore_n (lv' := [(3, .int y103), (0, .ref (a 0)), (1, .ref ac), (2, .ref aw), (4, .int v4), (5, .int v5)]) hx hb dL_restarts_60 rfl hl (by decide) rfl (fun ls hl => ?_)
        obtain ⟨y104, hy104⟩ : ∃ z : Int32, z = (v5 + 1) := ⟨_, rfl⟩
        replace hf := keep_e hf y104 hy104
        refine lv_iinc (v := y104) (lv' := [(5, .int y104), (3, .int y103), (0, .ref (a 0)), (1, .ref ac), (2, .ref aw), (4, .int v4)]) hx hb dL_restarts_61 hl (k := 5) rfl (by rw [hy104]; rfl) (by decide) rfl (fun ls hl => ?_)
        refine lv_goto (tgt := 27) hx hb dL_restarts_64 (by decide) ?_
        exact hrec27 x96 y103 y104 H locs ls hf hP hD hS (lv_sub hl [2, 3, 4, 1, 5, 0] rfl)
      · replace hf := if_f c102 hf
        refine lv_iconst (v := 1) hx hb dL_restarts_54 (by decide) ?_
        refine lv_goto (tgt := 59) hx hb dL_restarts_55 (by decide) ?_
        refine lv_iadd hx hb dL_restarts_59 ?_
        refine lv_topi (fun y105 hy105 => ?_)
        replace hf := keep_e hf y105 hy105
        refine lv_istore_n (lv' := [(3, .int y105), (0, .ref (a 0)), (1, .ref ac), (2, .ref aw), (4, .int v4), (5, .int v5)]) hx hb dL_restarts_60 rfl hl (by decide) rfl (fun ls hl => ?_)
        obtain ⟨y106, hy106⟩ : ∃ z : Int32, z = (v5 + 1) := ⟨_, rfl⟩
        replace hf := keep_e hf y106 hy106
        refine lv_iinc (v := y106) (lv' := [(5, .int y106), (3, .int y105), (0, .ref (a 0)), (1, .ref ac), (2, .ref aw), (4, .int v4)]) hx hb dL_restarts_61 hl (k := 5) rfl (by rw [hy106]; rfl) (by decide) rfl (fun ls hl => ?_)
        refine lv_goto (tgt := 27) hx hb dL_restarts_64 (by decide) ?_
        exact hrec27 x96 y105 y106 H locs ls hf hP hD hS (lv_sub hl [2, 3, 4, 1, 5, 0] rfl)
  have L27 : ∀ (aw : Nat) (v4 : Int32) (fu : Nat) (x : Q6St) (v3 : Int32) (v5 : Int32) (H : Heap) (locs : List Loc) (ls : Array Slot), iterK fu (fL_restarts_27 v4 ) (x, v3, v5) = some res → va_P D vwCl (W_Q6 cI cV cJ vf a ad ac aw x) H → va_D A (W_Q6 cI cV cJ vf a ad ac aw x) → va_S A s.heap H locs → lv_has ls 6 [(0, .ref (a 0)), (1, .ref ac), (2, .ref aw), (3, .int v3), (4, .int v4), (5, .int v5)] → W p l e ({ frames := 11, cells := 217, slots := 1312, locals := 259 } : Room) s m ([.ref (a 0), .ref ac] : List Value).toArray below meth c H locs 1 16 (MQ below (QW D (TY cI cV cJ cD) (W_Q cI cV vf a ad ac res.1) A (some (.int res.2))) (([.ref (a 0), .ref ac] : List Value).toArray) s 217 1312 A) (F0 m 27 ls []) := by
    intro aw v4 fu
    induction fu with
    | zero =>
      intro x v3 v5 H locs ls hf
      cases hf
    | succ fu ih =>
      intro x v3 v5 H locs ls hf hP hD hS hl
      exact S27 aw v4 (iterK fu (fL_restarts_27 v4 )) ih x v3 v5 H locs ls hf hP hD hS hl
  have M0 : ∀ (H : Heap) (locs : List Loc) (ls : Array Slot), fL_restarts x = some res → va_P D vwCl (W_Q cI cV vf a ad ac x) H → va_D A (W_Q cI cV vf a ad ac x) → va_S A s.heap H locs → lv_has ls 6 [(0, .ref (a 0)), (1, .ref ac)] → W p l e ({ frames := 11, cells := 217, slots := 1312, locals := 259 } : Room) s m ([.ref (a 0), .ref ac] : List Value).toArray below meth c H locs 0 0 (MQ below (QW D (TY cI cV cJ cD) (W_Q cI cV vf a ad ac res.1) A (some (.int res.2))) (([.ref (a 0), .ref ac] : List Value).toArray) s 217 1312 A) (F0 m 0 ls []) := by
    intro H locs ls hf hP hD hS hl
    dsimp only [fL_restarts] at hf
    obtain ⟨x0, hx0⟩ : ∃ z, z = q6I x := ⟨_, rfl⟩
    replace hf := keep_e hf x0 hx0
    have hP : va_P D vwCl (W_Q cI cV vf a ad ac (q6Q x0)) H := by rw [hx0]; exact hP
    have hD : va_D A (W_Q cI cV vf a ad ac (q6Q x0)) := by rw [hx0]; exact hD
    refine lv_bipush (v := 16) hx hb dL_restarts_0 (by decide) ?_
    refine k_newJ hx hb (hg _ w793) hK 2 rfl hP hD hS hA (N' := 16) (by decide) (by decide) (by decide) (Nat.le_of_ble_eq_true rfl) (Nat.le_of_ble_eq_true rfl) dL_restarts_2 (fun aw H hP hD hS => ?_)
    replace hP : va_P D vwCl (W_Q6 cI cV cJ vf a ad ac aw x0) H := by rw [hx0]; rw [hx0] at hP; exact hP.perm (q_last _ _)
    replace hD : va_D A (W_Q6 cI cV cJ vf a ad ac aw x0) := by rw [hx0]; rw [hx0] at hD; exact hD.perm (q_last _ _)
    refine lv_astore_n (lv' := [(2, .ref aw), (0, .ref (a 0)), (1, .ref ac)]) hx hb dL_restarts_4 rfl hl (by decide) rfl (fun ls hl => ?_)
    refine lv_iconst (v := 0) hx hb dL_restarts_5 (by decide) ?_
    refine lv_istore_n (lv' := [(3, .int 0), (2, .ref aw), (0, .ref (a 0)), (1, .ref ac)]) hx hb dL_restarts_6 rfl hl (by decide) rfl (fun ls hl => ?_)
    refine lv_aload_n hx hb dL_restarts_7 rfl (lv_at hl 2 rfl) ?_
    obtain ⟨u107, hc108, hf⟩ := bind_t hf
    refine k_VP (ws' := W_Q6 cI cV cJ vf a ad ac aw x0) (As := []) (rest := []) (n := 0) ⟨hx, hb, hml, hown, hts⟩ (met_X7_rows l 0 vf (foA a (ad 0)) (hvf _ (by decide : 0 < 16)) (foc 0 (q6S x0))  u107 hc108) w669 w670 w671 w1 w672 ⟨rfl, by decide +kernel, by decide +kernel, by decide +kernel⟩ ⟨Nat.le_of_ble_eq_true rfl, Nat.le_of_ble_eq_true rfl⟩ hK hE hP hD hS hA (cut_XFi x0 (by decide : 0 < 16)) 0 6 rfl rfl rfl rfl hl.1 rfl (Nat.le_of_ble_eq_true rfl) dL_restarts_8 ⟨Nat.le_of_ble_eq_true rfl, Nat.le_of_ble_eq_true rfl⟩ (fun H locs hP hD hS => ?_)
    try dsimp only at hf
    refine W.eq (g2 := F0 m 11 ls [.int u107]) rfl ?_
    refine lv_aload_n hx hb dL_restarts_11 rfl (lv_at hl 3 rfl) ?_
    refine lv_iconst (v := 1) hx hb dL_restarts_12 (by decide) ?_
    obtain ⟨hi109, hf⟩ := chk_t hf
    refine va_iald hx hb hK hP 1 0 rfl rfl (inb_in hi109) dL_restarts_13 ?_
    refine lv_icmp_ne (tgt := 21) hx hb dL_restarts_14 (by decide) (fun c110 => ?_) (fun c110 => ?_)
    · replace hf := if_f c110 hf
      refine lv_iconst (v := 0) hx hb dL_restarts_21 (by decide) ?_
      refine lv_istore (lv' := [(4, .int 0), (3, .int 0), (2, .ref aw), (0, .ref (a 0)), (1, .ref ac)]) hx hb dL_restarts_22 hl (by decide) rfl (fun ls hl => ?_)
      refine lv_iconst (v := 0) hx hb dL_restarts_24 (by decide) ?_
      refine lv_istore (lv' := [(5, .int 0), (4, .int 0), (3, .int 0), (2, .ref aw), (0, .ref (a 0)), (1, .ref ac)]) hx hb dL_restarts_25 hl (by decide) rfl (fun ls hl => ?_)
      exact L27 aw 0 FU  x0 0 0 H locs ls hf hP hD hS (lv_sub hl [4, 5, 3, 2, 1, 0] rfl)
    · replace hf := if_t c110 hf
      refine lv_iconst (v := 1) hx hb dL_restarts_17 (by decide) ?_
      refine lv_goto (tgt := 22) hx hb dL_restarts_18 (by decide) ?_
      refine lv_istore (lv' := [(4, .int 1), (3, .int 0), (2, .ref aw), (0, .ref (a 0)), (1, .ref ac)]) hx hb dL_restarts_22 hl (by decide) rfl (fun ls hl => ?_)
      refine lv_iconst (v := 0) hx hb dL_restarts_24 (by decide) ?_
      refine lv_istore (lv' := [(5, .int 0), (4, .int 1), (3, .int 0), (2, .ref aw), (0, .ref (a 0)), (1, .ref ac)]) hx hb dL_restarts_25 hl (by decide) rfl (fun ls hl => ?_)
      exact L27 aw 1 FU  x0 0 0 H locs ls hf hP hD hS (lv_sub hl [4, 5, 3, 2, 1, 0] rfl)
  exact M0 s.heap [] ls hf hP hD hS hl
def fL_step_502 (x : QSt) (s0 : Int32) (s1 : Int32) : Option (GoSt × Int32) := (if s1 = s0 then some ((qS x, qC x, false), 1) else some ((qS x, qC x, false), 0))
def fL_step_435 (x : QSt) (v5 : Int32) (s0 : Int32) (s1 : Int32) (s2 : Int32) : Option (GoSt × Int32) := chk (decide (¬ s0 = 0)) (keep (s2 + (s1 - s1 / s0 * s0)) (fun y127 => chk (decide (((v5 : Int32).toNatClampNeg) < 16)) ((fX7_left ((v5 : Int32).toNatClampNeg) (foc ((v5 : Int32).toNatClampNeg) (qS x)) v5).bind (fun u128 => thr u128 (fun k132 => none) (fun r131 => chk (inb 0 5) (chk (inb 0 5) (keep (qC_s x (upd (qC x) (0 : Int32).toNatClampNeg ((qC x (0 : Int32).toNatClampNeg) + y127))) (fun x135 => (fX7_tick 0 (foc 0 (qS x135)) y127).bind (fun u136 => thr u136.2 (fun k139 => none) (fun r138 => keep (qS_s x135 (unf 0 (qS x135) u136.1)) (fun x141 => chk (inb 0 5) ((if r138 = (qC x141 (0 : Int32).toNatClampNeg) then chk (decide (((v5 : Int32).toNatClampNeg) < 16)) ((fX7_left ((v5 : Int32).toNatClampNeg) (foc ((v5 : Int32).toNatClampNeg) (qS x141)) v5).bind (fun u144 => thr u144 (fun k148 => none) (fun r147 => (if 1 ≤ r131 then (if r131 ≤ y127 then fL_step_502 x141 0 r147 else fL_step_502 x141 (r131 - y127) r147) else fL_step_502 x141 r131 r147)))) else some ((qS x141, qC x141, false), 0))))))))))))))
def fL_step_390 (x : QSt) (v9 : Int32) (s0 : Int32) : Option (GoSt × Int32) := (fL_settles x v9).bind (fun u151 => keep u151.1 (fun x153 => (if u151.2 = 0 then some ((qS x153, qC x153, false), 0) else (if s0 = 0 then some ((qS x153, qC x153, false), 0) else some ((qS x153, qC x153, false), 1)))))
def fL_step_389 (x : QSt) (v9 : Int32) : Option (GoSt × Int32) := fL_step_390 x v9 0
def fL_step_381 (x : QSt) (v9 : Int32) (s0 : Int32) (s1 : Int32) (s2 : Int32) : Option (GoSt × Int32) := (if s2 = (s1 + s0) then fL_step_390 x v9 1 else fL_step_389 x v9)
def fL_step_363 (x : QSt) (v9 : Int32) : Option (GoSt × Int32) := (fX7_rows 0 (foc 0 (qS x))).bind (fun u157 => chk (inb 1 5) ((if v9 = 0 then fL_step_381 x v9 0 (qC x (1 : Int32).toNatClampNeg) u157 else fL_step_381 x v9 1 (qC x (1 : Int32).toNatClampNeg) u157)))
def fL_step_344 (x : QSt) (v5 : Int32) (v7 : Int32) (v9 : Int32) (s0 : Int32) (s1 : Int32) : Option (GoSt × Int32) := (if s1 = s0 then (if v9 = 0 then fL_step_363 x v9 else chk (decide (((v5 : Int32).toNatClampNeg) < 16)) ((fX7_left ((v5 : Int32).toNatClampNeg) (foc ((v5 : Int32).toNatClampNeg) (qS x)) v5).bind (fun u163 => thr u163 (fun k167 => none) (fun r166 => (if r166 = v7 then fL_step_363 x v9 else fL_step_389 x v9))))) else fL_step_389 x v9)
def fL_step_315 (x : QSt) (v5 : Int32) (v6 : Int32) (v7 : Int32) (v8 : Int32) (s0 : Int32) : Option (GoSt × Int32) := chk (inb 1 5) ((if (qC x (1 : Int32).toNatClampNeg) = 300 then fL_step_344 x v5 v7 s0 (-108) v8 else (if v6 ≤ 0 then fL_step_344 x v5 v7 s0 0 v8 else fL_step_344 x v5 v7 s0 1 v8)))
def fL_step_286 (x : QSt) (v5 : Int32) (v6 : Int32) (s0 : Int32) (s1 : Int32) (s2 : Int32) : Option (GoSt × Int32) := chk (decide (¬ s0 = 0)) (keep (s2 + (s1 - s1 / s0 * s0)) (fun y173 => chk (decide (((v5 : Int32).toNatClampNeg) < 16)) ((fL_asks ((v5 : Int32).toNatClampNeg) (foc ((v5 : Int32).toNatClampNeg) (qS x)) 10 v5 y173 0 0).bind (fun u174 => keep (qS_s x (unf ((v5 : Int32).toNatClampNeg) (qS x) u174.1)) (fun x177 => keep u174.2 (fun y178 => (if y178 = 1 then fL_step_315 x177 v5 v6 y173 y178 1 else fL_step_315 x177 v5 v6 y173 y178 0)))))))
def fL_step_245 (x : QSt) (v2 : Int32) (v3 : Int32) (s0 : Int32) (s1 : Int32) : Option (GoSt × Int32) := (fL_streams x s1 s0 (v2 / 16) v3).bind (fun u180 => keep u180.1 (fun x182 => chk (isB u180.2) (some ((qS x182, qC x182, false), u180.2))))
def fL_step_233 (x : QSt) (v2 : Int32) (v3 : Int32) (v5 : Int32) (s0 : Int32) : Option (GoSt × Int32) := (if (v2 - v2 / 5 * 5) = 0 then fL_step_245 x v2 v3 v5 s0 else fL_step_245 x v2 v3 3 s0)
def fL_step_194 (x : QSt) (v2 : Int32) (v3 : Int32) (s0 : Int32) (s1 : Int32) : Option (GoSt × Int32) := (fL_commands x s1 s0 (v2 / 80) v3).bind (fun u185 => keep u185.1 (fun x187 => chk (isB u185.2) (some ((qS x187, qC x187, false), u185.2))))
def fL_step_132 (x : QSt) (v2 : Int32) (v3 : Int32) (v5 : Int32) (v6 : Int32) (s0 : Int32) : Option (GoSt × Int32) := (if v6 = 6 then (if 0 < (v3 - v3 / 3 * 3) then some ((qS x, qC x, false), 1) else (fL_commands x 6 v5 (v2 / 16) (v3 / 3)).bind (fun u192 => keep u192.1 (fun x194 => (if u192.2 = 0 then some ((qS x194, qC x194, false), 0) else some ((qS x194, qC x194, false), 1))))) else (if ((v2 / 16) - (v2 / 16) / 5 * 5) = 0 then fL_step_194 x v2 v3 v5 v6 else fL_step_194 x v2 v3 s0 v6))
def fL_step_117 (x : QSt) (v2 : Int32) (v3 : Int32) (v5 : Int32) (v6 : Int32) : Option (GoSt × Int32) := fL_step_132 x v2 v3 v5 v6 1
def fL_step_101 (x : QSt) (v2 : Int32) (v3 : Int32) (v5 : Int32) (v6 : Int32) : Option (GoSt × Int32) := fL_step_132 x v2 v3 v5 v6 0
def fL_step_88 (x : QSt) (v2 : Int32) (v3 : Int32) (v5 : Int32) (s0 : Int32) : Option (GoSt × Int32) := (if s0 = 0 then fL_step_101 x v2 v3 v5 s0 else (if s0 = 3 then fL_step_101 x v2 v3 v5 s0 else (if s0 = 1 then fL_step_117 x v2 v3 v5 s0 else (if s0 = 4 then fL_step_117 x v2 v3 v5 s0 else (if s0 = 2 then fL_step_132 x v2 v3 v5 s0 3 else fL_step_132 x v2 v3 v5 s0 2)))))
def fL_step_19 (x : QSt) (v1 : Int32) (v2 : Int32) (v3 : Int32) (s0 : Int32) : Option (GoSt × Int32) := (if 14 ≤ v1 then (if 18 ≤ v1 then (if v1 = 18 then chk (decide (((s0 : Int32).toNatClampNeg) < 16)) ((fX7_typeOf ((s0 : Int32).toNatClampNeg) (foc ((s0 : Int32).toNatClampNeg) (qS x)) s0).bind (fun u234 => thr u234 (fun k238 => none) (fun r237 => (if (v3 - v3 / 4 * 4) = 0 then fL_step_286 x s0 r237 1000 v3 1 else fL_step_286 x s0 r237 9 v3 1)))) else (if v1 = 19 then (if (v3 - v3 / 5 * 5) = 0 then fL_step_435 x s0 1000 v3 1 else fL_step_435 x s0 5 v3 1) else (if v1 = 20 then (fX7_held (qS x)).bind (fun u220 => (fX7_sample (qS x) (1 + (v2 - v2 / 16 * 16))).bind (fun u222 => thr u222.2 (fun k225 => none) (fun r224 => keep (qS_s x u222.1) (fun x227 => (if r224 < 0 then some ((qS x227, qC x227, false), 0) else (if (1 + (v2 - v2 / 16 * 16)) < r224 then some ((qS x227, qC x227, false), 0) else (fX7_held (qS x227)).bind (fun u230 => (if u230 = (u220 - r224) then some ((qS x227, qC x227, false), 1) else some ((qS x227, qC x227, false), 0))))))))) else (if v1 = 21 then (if (v3 - v3 / 2 * 2) = 0 then (fL_rewrites x v3).bind (fun u216 => keep u216.1 (fun x218 => chk (isB u216.2) (some ((qS x218, qC x218, false), u216.2)))) else (fL_goesOn x (1 + (v2 - v2 / 5 * 5))).bind (fun u213 => chk (isB u213.2) (some (u213.1, u213.2)))) else (if 0 < (v3 - v3 / 2 * 2) then some ((qS x, qC x, false), 1) else (fL_restarts x).bind (fun u208 => keep u208.1 (fun x210 => (if u208.2 = 0 then some ((qS x210, qC x210, false), 0) else some ((qS x210, qC x210, false), 1))))))))) else (if 16 ≤ v1 then (if v1 = 16 then fL_step_233 x v2 v3 s0 1 else fL_step_233 x v2 v3 s0 2) else fL_step_233 x v2 v3 s0 0)) else (if 3 ≤ v1 then (if 6 ≤ v1 then (if 8 ≤ v1 then (if v1 = 8 then fL_step_88 x v2 v3 s0 3 else (if v1 = 9 then fL_step_88 x v2 v3 s0 4 else (if 13 ≤ v1 then fL_step_88 x v2 v3 s0 6 else fL_step_88 x v2 v3 s0 5))) else fL_step_88 x v2 v3 s0 2) else fL_step_88 x v2 v3 s0 1) else fL_step_88 x v2 v3 s0 0))
def fL_step (x : QSt) (p1 : Int32) (p2 : Int32) (p3 : Int32) : Option (GoSt × Int32) := (if 12 ≤ (p2 - p2 / 16 * 16) then fL_step_19 x p1 p2 p3 (p2 - p2 / 16 * 16) else fL_step_19 x p1 p2 p3 (p2 - p2 / 4 * 4))
set_option maxHeartbeats 4000000 in
set_option maxRecDepth 100000 in
theorem met_L_step {D : va_G} {cI cV cJ cD : ClassId} (l : Launch) (hlt : l.stackTraces = false) (vf : Nat → Option Nat) (ad : Nat → Nat → Nat) (a : Nat → Nat) (ac : Nat) (hvf : ∀ k, k < 16 → vf k = some (ad k 0)) (x : QSt) (p1 : Int32) (p2 : Int32) (p3 : Int32) (res : GoSt × Int32) (hf : fL_step x p1 p2 p3 = some res) : MM l yL_step cL_step 11 (some .boolean) { frames := 12, cells := 217, slots := 1312, locals := 284 } D (TY cI cV cJ cD) (W_Q cI cV vf a ad ac x) (W_G cI cV vf a ad ac res.1) [.ref (a 0), .int p1, .int p2, .int p3, .ref ac] (some (.int res.2)) := by
  intro sz
  refine Met.ofW (cc := cL_step) (maxL := 11) (ret := (some .boolean)) (by decide +kernel) rfl ?_
  intro p e s m args below meth c s₁ B hml hv
  obtain ⟨rfl, hsz, hP, hK, hD0, hE⟩ := hv
  have hx := B.exec
  have hb := B.bytes
  have hr := B.returns
  have hts := atoms_spec (ws := .code yL_step cL_step 11 (some .boolean) :: GW) B.pre
  have hg : ∀ w ∈ GW, w.before (([.ref (a 0), .int p1, .int p2, .int p3, .ref ac] : List Value).toArray) s = true := fun w h => hts w (List.mem_cons_of_mem _ h)
  have hown : s.vm.findClass RL = some m.cls := findClass_of_methodNamed B.named
  have hlocks := B.notSynchronized
  subst hsz
  have hD := hD0.self (sz := s.heap.size)
  generalize hAe : va_A (W_Q cI cV vf a ad ac x) s.heap.size = A at hD hE ⊢
  have hA : ∀ q : Nat, s.heap.size ≤ q → A q := fun q h => by rw [← hAe]; exact Or.inr h
  have hS : va_S A s.heap s.heap [] := va_S.rf
  have hl := lv_entry ([.ref (a 0), .int p1, .int p2, .int p3, .ref ac]) (n := 11) (Nat.le_of_ble_eq_true rfl)
  rw [lg_entry_eq]
  generalize (lg_sl ([.ref (a 0), .int p1, .int p2, .int p3, .ref ac]) ++ List.replicate (11 - (lg_sl ([.ref (a 0), .int p1, .int p2, .int p3, .ref ac])).length) Slot.unset).toArray = ls at hl ⊢
  have hl : lv_has ls 11 [(0, .ref (a 0)), (1, .int p1), (2, .int p2), (3, .int p3), (4, .ref ac)] := hl
  have L502 : ∀ (x : QSt) (s0 : Int32) (s1 : Int32) (H : Heap) (locs : List Loc) (ls : Array Slot), fL_step_502 x s0 s1  = some res → va_P D vwCl (W_Q cI cV vf a ad ac x) H → va_D A (W_Q cI cV vf a ad ac x) → va_S A s.heap H locs → lv_has ls 11 [] → W p l e ({ frames := 12, cells := 217, slots := 1312, locals := 284 } : Room) s m ([.ref (a 0), .int p1, .int p2, .int p3, .ref ac] : List Value).toArray below meth c H locs 0 0 (MQ below (QW D (TY cI cV cJ cD) (W_G cI cV vf a ad ac res.1) A (some (.int res.2))) (([.ref (a 0), .int p1, .int p2, .int p3, .ref ac] : List Value).toArray) s 217 1312 A) (F0 m 502 ls [.int s0, .int s1]) := by
    intro x s0 s1 H locs ls hf hP hD hS hl
    dsimp only [fL_step_502] at hf
    refine lv_icmp_ne (tgt := 509) hx hb dL_step_502 (by decide) (fun c125 => ?_) (fun c125 => ?_)
    · replace hf := if_f c125 hf
      refine lv_iconst (v := 0) hx hb dL_step_509 (by decide) ?_
      obtain rfl := Option.some.inj hf
      refine W.widen (k := 217) (n := 1312) (Nat.le_of_ble_eq_true rfl) (Nat.le_of_ble_eq_true rfl) ?_
      exact W.zret (v := 0) hx hb hr (by decide +kernel) (fun t ht hW => ⟨rfl, by rw [ht]; exact hP, va_K.moved hW.alike hK, hD, hS.F ht⟩) hS.2.2 dL_step_510 hlocks
    · replace hf := if_t c125 hf
      refine lv_iconst (v := 1) hx hb dL_step_505 (by decide) ?_
      refine lv_goto (tgt := 510) hx hb dL_step_506 (by decide) ?_
      obtain rfl := Option.some.inj hf
      refine W.widen (k := 217) (n := 1312) (Nat.le_of_ble_eq_true rfl) (Nat.le_of_ble_eq_true rfl) ?_
      exact W.zret (v := 1) hx hb hr (by decide +kernel) (fun t ht hW => ⟨rfl, by rw [ht]; exact hP, va_K.moved hW.alike hK, hD, hS.F ht⟩) hS.2.2 dL_step_510 hlocks
  have L435 : ∀ (x : QSt) (v5 : Int32) (s0 : Int32) (s1 : Int32) (s2 : Int32) (H : Heap) (locs : List Loc) (ls : Array Slot), fL_step_435 x v5 s0 s1 s2  = some res → va_P D vwCl (W_Q cI cV vf a ad ac x) H → va_D A (W_Q cI cV vf a ad ac x) → va_S A s.heap H locs → lv_has ls 11 [(0, .ref (a 0)), (4, .ref ac), (5, .int v5)] → W p l e ({ frames := 12, cells := 217, slots := 1312, locals := 284 } : Room) s m ([.ref (a 0), .int p1, .int p2, .int p3, .ref ac] : List Value).toArray below meth c H locs 0 0 (MQ below (QW D (TY cI cV cJ cD) (W_G cI cV vf a ad ac res.1) A (some (.int res.2))) (([.ref (a 0), .int p1, .int p2, .int p3, .ref ac] : List Value).toArray) s 217 1312 A) (F0 m 435 ls [.int s0, .int s1, .int s2]) := by
    intro x v5 s0 s1 s2 H locs ls hf hP hD hS hl
    dsimp only [fL_step_435] at hf
    obtain ⟨hz126, hf⟩ := chk_t hf
    refine lv_irem hx hb dL_step_435 (of_decide_eq_true hz126) ?_
    refine lv_iadd hx hb dL_step_436 ?_
    refine lv_topi (fun y127 hy127 => ?_)
    replace hf := keep_e hf y127 hy127
    refine lv_istore (lv' := [(6, .int y127), (0, .ref (a 0)), (4, .ref ac), (5, .int v5)]) hx hb dL_step_437 hl (by decide) rfl (fun ls hl => ?_)
    refine lv_aload_n hx hb dL_step_439 rfl (lv_at hl 1 rfl) ?_
    refine lv_iload hx hb dL_step_440 (lv_at hl 3 rfl) ?_
    obtain ⟨hk130, hf⟩ := chk_t hf
    replace hk130 := of_decide_eq_true hk130
    obtain ⟨u128, hc129, hf⟩ := bind_t hf
    rcases u128 with r131 | k132
    rotate_left
    · exact (thr_n hf).elim
    replace hf := thr_v hf rfl
    refine k_VP (ws' := W_Q cI cV vf a ad ac x) (As := [.int v5]) (rest := []) (n := 1) ⟨hx, hb, hml, hown, hts⟩ (met0_X7_left l ((v5 : Int32).toNatClampNeg) vf (foA a (ad ((v5 : Int32).toNatClampNeg))) (hvf _ hk130) (foc ((v5 : Int32).toNatClampNeg) (qS x)) v5 r131 hc129) w693 w694 w695 w1 w696 ⟨rfl, by decide +kernel, by decide +kernel, by decide +kernel⟩ ⟨Nat.le_of_ble_eq_true rfl, Nat.le_of_ble_eq_true rfl⟩ hK hE hP hD hS hA (cut_QFi x hk130) 0 6 rfl rfl rfl rfl hl.1 rfl (Nat.le_of_ble_eq_true rfl) dL_step_442 ⟨Nat.le_of_ble_eq_true rfl, Nat.le_of_ble_eq_true rfl⟩ (fun H locs hP hD hS => ?_)
    try dsimp only at hf
    refine W.eq (g2 := F0 m 445 ls [.int r131]) rfl ?_
    refine lv_istore (lv' := [(7, .int r131), (6, .int y127), (0, .ref (a 0)), (4, .ref ac), (5, .int v5)]) hx hb dL_step_445 hl (by decide) rfl (fun ls hl => ?_)
    refine lv_aload hx hb dL_step_447 (lv_at hl 3 rfl) ?_
    refine lv_iconst (v := 0) hx hb dL_step_449 (by decide) ?_
    refine lv_dup2_11 hx hb dL_step_450 rfl rfl ?_
    obtain ⟨hi133, hf⟩ := chk_t hf
    refine va_iald hx hb hK hP 0 0 rfl rfl (inb_in hi133) dL_step_451 ?_
    refine lv_iload hx hb dL_step_452 (lv_at hl 1 rfl) ?_
    refine lv_iadd hx hb dL_step_454 ?_
    obtain ⟨hi134, hf⟩ := chk_t hf
    refine va_iast hx hb hK hP hD hS 0 0 rfl rfl (inb_in hi134) dL_step_455 (fun H locs hP hD hS => ?_)
    obtain ⟨x135, hx135⟩ : ∃ z, z = (qC_s x (upd (qC x) (0 : Int32).toNatClampNeg ((qC x (0 : Int32).toNatClampNeg) + y127))) := ⟨_, rfl⟩
    replace hf := keep_e hf x135 hx135
    have hP : va_P D vwCl (W_Q cI cV vf a ad ac x135) H := by rw [hx135]; exact hP
    have hD : va_D A (W_Q cI cV vf a ad ac x135) := by rw [hx135]; exact hD
    refine lv_aload_n hx hb dL_step_456 rfl (lv_at hl 2 rfl) ?_
    refine lv_iload hx hb dL_step_457 (lv_at hl 1 rfl) ?_
    obtain ⟨u136, hc137, hf⟩ := bind_t hf
    obtain ⟨w140, r138 | k139⟩ := u136
    rotate_left
    · exact (thr_n hf).elim
    replace hf := thr_v hf rfl
    refine k_VP (ws' := W_Q cI cV vf a ad ac (qS_s x135 (unf 0 (qS x135) w140))) (As := [.int y127]) (rest := []) (n := 1) ⟨hx, hb, hml, hown, hts⟩ (met0_X7_tick l 0 vf (foA a (ad 0)) (hvf _ (by decide : 0 < 16)) (foc 0 (qS x135)) y127 w140 r138 hc137) w697 w698 w699 w1 w700 ⟨rfl, by decide +kernel, by decide +kernel, by decide +kernel⟩ ⟨Nat.le_of_ble_eq_true rfl, Nat.le_of_ble_eq_true rfl⟩ hK hE hP hD hS hA (cut_QF x135 (by decide : 0 < 16) w140) 0 6 rfl rfl rfl rfl hl.1 rfl (Nat.le_of_ble_eq_true rfl) dL_step_459 ⟨Nat.le_of_ble_eq_true rfl, Nat.le_of_ble_eq_true rfl⟩ (fun H locs hP hD hS => ?_)
    try dsimp only at hf
    refine W.eq (g2 := F0 m 462 ls [.int r138]) rfl ?_
    obtain ⟨x141, hx141⟩ : ∃ z, z = (qS_s x135 (unf 0 (qS x135) w140)) := ⟨_, rfl⟩
    replace hf := keep_e hf x141 hx141
    have hP : va_P D vwCl (W_Q cI cV vf a ad ac x141) H := by rw [hx141]; exact hP
    have hD : va_D A (W_Q cI cV vf a ad ac x141) := by rw [hx141]; exact hD
    refine lv_aload hx hb dL_step_462 (lv_at hl 3 rfl) ?_
    refine lv_iconst (v := 0) hx hb dL_step_464 (by decide) ?_
    obtain ⟨hi142, hf⟩ := chk_t hf
    refine va_iald hx hb hK hP 0 0 rfl rfl (inb_in hi142) dL_step_465 ?_
    refine lv_icmp_ne (tgt := 509) hx hb dL_step_466 (by decide) (fun c143 => ?_) (fun c143 => ?_)
    · replace hf := if_f c143 hf
      refine lv_iconst (v := 0) hx hb dL_step_509 (by decide) ?_
      obtain rfl := Option.some.inj hf
      refine W.widen (k := 217) (n := 1312) (Nat.le_of_ble_eq_true rfl) (Nat.le_of_ble_eq_true rfl) ?_
      exact W.zret (v := 0) hx hb hr (by decide +kernel) (fun t ht hW => ⟨rfl, by rw [ht]; exact hP, va_K.moved hW.alike hK, hD, hS.F ht⟩) hS.2.2 dL_step_510 hlocks
    · replace hf := if_t c143 hf
      refine lv_aload_n hx hb dL_step_469 rfl (lv_at hl 2 rfl) ?_
      refine lv_iload hx hb dL_step_470 (lv_at hl 4 rfl) ?_
      obtain ⟨hk146, hf⟩ := chk_t hf
      replace hk146 := of_decide_eq_true hk146
      obtain ⟨u144, hc145, hf⟩ := bind_t hf
      rcases u144 with r147 | k148
      rotate_left
      · exact (thr_n hf).elim
      replace hf := thr_v hf rfl
      refine k_VP (ws' := W_Q cI cV vf a ad ac x141) (As := [.int v5]) (rest := []) (n := 1) ⟨hx, hb, hml, hown, hts⟩ (met0_X7_left l ((v5 : Int32).toNatClampNeg) vf (foA a (ad ((v5 : Int32).toNatClampNeg))) (hvf _ hk146) (foc ((v5 : Int32).toNatClampNeg) (qS x141)) v5 r147 hc145) w693 w694 w695 w1 w696 ⟨rfl, by decide +kernel, by decide +kernel, by decide +kernel⟩ ⟨Nat.le_of_ble_eq_true rfl, Nat.le_of_ble_eq_true rfl⟩ hK hE hP hD hS hA (cut_QFi x141 hk146) 0 6 rfl rfl rfl rfl hl.1 rfl (Nat.le_of_ble_eq_true rfl) dL_step_472 ⟨Nat.le_of_ble_eq_true rfl, Nat.le_of_ble_eq_true rfl⟩ (fun H locs hP hD hS => ?_)
      try dsimp only at hf
      refine W.eq (g2 := F0 m 475 ls [.int r147]) rfl ?_
      refine lv_iload hx hb dL_step_475 (lv_at hl 0 rfl) ?_
      refine lv_iconst (v := 1) hx hb dL_step_477 (by decide) ?_
      refine lv_icmp_ge (tgt := 486) hx hb dL_step_478 (by decide) (fun c149 => ?_) (fun c149 => ?_)
      · replace hf := if_t c149 hf
        refine lv_iload hx hb dL_step_486 (lv_at hl 0 rfl) ?_
        refine lv_iload hx hb dL_step_488 (lv_at hl 1 rfl) ?_
        refine lv_icmp_le (tgt := 501) hx hb dL_step_490 (by decide) (fun c150 => ?_) (fun c150 => ?_)
        · replace hf := if_t c150 hf
          refine lv_iconst (v := 0) hx hb dL_step_501 (by decide) ?_
          exact L502 x141 0 r147 H locs ls hf hP hD hS (lv_sub hl [] rfl)
        · replace hf := if_f c150 hf
          refine lv_iload hx hb dL_step_493 (lv_at hl 0 rfl) ?_
          refine lv_iload hx hb dL_step_495 (lv_at hl 1 rfl) ?_
          refine lv_isub hx hb dL_step_497 ?_
          refine lv_goto (tgt := 502) hx hb dL_step_498 (by decide) ?_
          exact L502 x141 (r131 - y127) r147 H locs ls hf hP hD hS (lv_sub hl [] rfl)
      · replace hf := if_f c149 hf
        refine lv_iload hx hb dL_step_481 (lv_at hl 0 rfl) ?_
        refine lv_goto (tgt := 502) hx hb dL_step_483 (by decide) ?_
        exact L502 x141 r131 r147 H locs ls hf hP hD hS (lv_sub hl [] rfl)
  have L390 : ∀ (x : QSt) (v9 : Int32) (s0 : Int32) (H : Heap) (locs : List Loc) (ls : Array Slot), fL_step_390 x v9 s0  = some res → va_P D vwCl (W_Q cI cV vf a ad ac x) H → va_D A (W_Q cI cV vf a ad ac x) → va_S A s.heap H locs → lv_has ls 11 [(0, .ref (a 0)), (4, .ref ac), (9, .int v9)] → W p l e ({ frames := 12, cells := 217, slots := 1312, locals := 284 } : Room) s m ([.ref (a 0), .int p1, .int p2, .int p3, .ref ac] : List Value).toArray below meth c H locs 6 36 (MQ below (QW D (TY cI cV cJ cD) (W_G cI cV vf a ad ac res.1) A (some (.int res.2))) (([.ref (a 0), .int p1, .int p2, .int p3, .ref ac] : List Value).toArray) s 217 1312 A) (F0 m 390 ls [.int s0]) := by
    intro x v9 s0 H locs ls hf hP hD hS hl
    dsimp only [fL_step_390] at hf
    refine lv_istore (lv' := [(10, .int s0), (0, .ref (a 0)), (4, .ref ac), (9, .int v9)]) hx hb dL_step_390 hl (by decide) rfl (fun ls hl => ?_)
    refine lv_aload_n hx hb dL_step_392 rfl (lv_at hl 1 rfl) ?_
    refine lv_iload hx hb dL_step_393 (lv_at hl 3 rfl) ?_
    refine lv_aload hx hb dL_step_395 (lv_at hl 2 rfl) ?_
    obtain ⟨u151, hc152, hf⟩ := bind_t hf
    refine k_SP (ws' := W_Q cI cV vf a ad ac u151.1) (As := [.ref (a 0), .int v9, .ref ac]) (rest := []) (n := 3) ⟨hx, hb, hml, hown, hts⟩ (met_L_settles l hlt vf ad a ac hvf x v9 u151 hc152) w673 w674 w0 w675 ⟨by decide +kernel, by decide +kernel, by decide +kernel⟩ ⟨Nat.le_of_ble_eq_true rfl, Nat.le_of_ble_eq_true rfl⟩ hK hE hP hD hS hA (CutP_self _ _) rfl hl.1 rfl (Nat.le_of_ble_eq_true rfl) dL_step_397 ⟨Nat.le_of_ble_eq_true rfl, Nat.le_of_ble_eq_true rfl⟩ (fun H locs hP hD hS => ?_)
    try dsimp only at hf
    refine W.eq (g2 := F0 m 400 ls [.int u151.2]) rfl ?_
    obtain ⟨x153, hx153⟩ : ∃ z, z = u151.1 := ⟨_, rfl⟩
    replace hf := keep_e hf x153 hx153
    have hP : va_P D vwCl (W_Q cI cV vf a ad ac x153) H := by rw [hx153]; exact hP
    have hD : va_D A (W_Q cI cV vf a ad ac x153) := by rw [hx153]; exact hD
    refine lv_if_eq (tgt := 412) hx hb dL_step_400 (by decide) (fun c154 => ?_) (fun c154 => ?_)
    · replace hf := if_t c154 hf
      refine lv_iconst (v := 0) hx hb dL_step_412 (by decide) ?_
      obtain rfl := Option.some.inj hf
      refine W.widen (k := 217) (n := 1312) (Nat.le_of_ble_eq_true rfl) (Nat.le_of_ble_eq_true rfl) ?_
      exact W.zret (v := 0) hx hb hr (by decide +kernel) (fun t ht hW => ⟨rfl, by rw [ht]; exact hP, va_K.moved hW.alike hK, hD, hS.F ht⟩) hS.2.2 dL_step_413 hlocks
    · replace hf := if_f c154 hf
      refine lv_iload hx hb dL_step_403 (lv_at hl 0 rfl) ?_
      refine lv_if_eq (tgt := 412) hx hb dL_step_405 (by decide) (fun c155 => ?_) (fun c155 => ?_)
      · replace hf := if_t c155 hf
        refine lv_iconst (v := 0) hx hb dL_step_412 (by decide) ?_
        obtain rfl := Option.some.inj hf
        refine W.widen (k := 217) (n := 1312) (Nat.le_of_ble_eq_true rfl) (Nat.le_of_ble_eq_true rfl) ?_
        exact W.zret (v := 0) hx hb hr (by decide +kernel) (fun t ht hW => ⟨rfl, by rw [ht]; exact hP, va_K.moved hW.alike hK, hD, hS.F ht⟩) hS.2.2 dL_step_413 hlocks
      · replace hf := if_f c155 hf
        refine lv_iconst (v := 1) hx hb dL_step_408 (by decide) ?_
        refine lv_goto (tgt := 413) hx hb dL_step_409 (by decide) ?_
        obtain rfl := Option.some.inj hf
        refine W.widen (k := 217) (n := 1312) (Nat.le_of_ble_eq_true rfl) (Nat.le_of_ble_eq_true rfl) ?_
        exact W.zret (v := 1) hx hb hr (by decide +kernel) (fun t ht hW => ⟨rfl, by rw [ht]; exact hP, va_K.moved hW.alike hK, hD, hS.F ht⟩) hS.2.2 dL_step_413 hlocks
  have L389 : ∀ (x : QSt) (v9 : Int32) (H : Heap) (locs : List Loc) (ls : Array Slot), fL_step_389 x v9  = some res → va_P D vwCl (W_Q cI cV vf a ad ac x) H → va_D A (W_Q cI cV vf a ad ac x) → va_S A s.heap H locs → lv_has ls 11 [(0, .ref (a 0)), (4, .ref ac), (9, .int v9)] → W p l e ({ frames := 12, cells := 217, slots := 1312, locals := 284 } : Room) s m ([.ref (a 0), .int p1, .int p2, .int p3, .ref ac] : List Value).toArray below meth c H locs 6 36 (MQ below (QW D (TY cI cV cJ cD) (W_G cI cV vf a ad ac res.1) A (some (.int res.2))) (([.ref (a 0), .int p1, .int p2, .int p3, .ref ac] : List Value).toArray) s 217 1312 A) (F0 m 389 ls []) := by
    intro x v9 H locs ls hf hP hD hS hl
    dsimp only [fL_step_389] at hf
    refine lv_iconst (v := 0) hx hb dL_step_389 (by decide) ?_
    exact L390 x v9 0 H locs ls hf hP hD hS (lv_sub hl [0, 1, 2] rfl)
  have L381 : ∀ (x : QSt) (v9 : Int32) (s0 : Int32) (s1 : Int32) (s2 : Int32) (H : Heap) (locs : List Loc) (ls : Array Slot), fL_step_381 x v9 s0 s1 s2  = some res → va_P D vwCl (W_Q cI cV vf a ad ac x) H → va_D A (W_Q cI cV vf a ad ac x) → va_S A s.heap H locs → lv_has ls 11 [(0, .ref (a 0)), (4, .ref ac), (9, .int v9)] → W p l e ({ frames := 12, cells := 217, slots := 1312, locals := 284 } : Room) s m ([.ref (a 0), .int p1, .int p2, .int p3, .ref ac] : List Value).toArray below meth c H locs 6 36 (MQ below (QW D (TY cI cV cJ cD) (W_G cI cV vf a ad ac res.1) A (some (.int res.2))) (([.ref (a 0), .int p1, .int p2, .int p3, .ref ac] : List Value).toArray) s 217 1312 A) (F0 m 381 ls [.int s0, .int s1, .int s2]) := by
    intro x v9 s0 s1 s2 H locs ls hf hP hD hS hl
    dsimp only [fL_step_381] at hf
    refine lv_iadd hx hb dL_step_381 ?_
    refine lv_icmp_ne (tgt := 389) hx hb dL_step_382 (by decide) (fun c156 => ?_) (fun c156 => ?_)
    · replace hf := if_f c156 hf
      exact L389 x v9 H locs ls hf hP hD hS (lv_sub hl [0, 1, 2] rfl)
    · replace hf := if_t c156 hf
      refine lv_iconst (v := 1) hx hb dL_step_385 (by decide) ?_
      refine lv_goto (tgt := 390) hx hb dL_step_386 (by decide) ?_
      exact L390 x v9 1 H locs ls hf hP hD hS (lv_sub hl [0, 1, 2] rfl)
  have L363 : ∀ (x : QSt) (v9 : Int32) (H : Heap) (locs : List Loc) (ls : Array Slot), fL_step_363 x v9  = some res → va_P D vwCl (W_Q cI cV vf a ad ac x) H → va_D A (W_Q cI cV vf a ad ac x) → va_S A s.heap H locs → lv_has ls 11 [(0, .ref (a 0)), (4, .ref ac), (9, .int v9)] → W p l e ({ frames := 12, cells := 217, slots := 1312, locals := 284 } : Room) s m ([.ref (a 0), .int p1, .int p2, .int p3, .ref ac] : List Value).toArray below meth c H locs 6 36 (MQ below (QW D (TY cI cV cJ cD) (W_G cI cV vf a ad ac res.1) A (some (.int res.2))) (([.ref (a 0), .int p1, .int p2, .int p3, .ref ac] : List Value).toArray) s 217 1312 A) (F0 m 363 ls []) := by
    intro x v9 H locs ls hf hP hD hS hl
    dsimp only [fL_step_363] at hf
    refine lv_aload_n hx hb dL_step_363 rfl (lv_at hl 0 rfl) ?_
    obtain ⟨u157, hc158, hf⟩ := bind_t hf
    refine k_VP (ws' := W_Q cI cV vf a ad ac x) (As := []) (rest := []) (n := 0) ⟨hx, hb, hml, hown, hts⟩ (met_X7_rows l 0 vf (foA a (ad 0)) (hvf _ (by decide : 0 < 16)) (foc 0 (qS x))  u157 hc158) w669 w670 w671 w1 w672 ⟨rfl, by decide +kernel, by decide +kernel, by decide +kernel⟩ ⟨Nat.le_of_ble_eq_true rfl, Nat.le_of_ble_eq_true rfl⟩ hK hE hP hD hS hA (cut_QFi x (by decide : 0 < 16)) 0 6 rfl rfl rfl rfl hl.1 rfl (Nat.le_of_ble_eq_true rfl) dL_step_364 ⟨Nat.le_of_ble_eq_true rfl, Nat.le_of_ble_eq_true rfl⟩ (fun H locs hP hD hS => ?_)
    try dsimp only at hf
    refine W.eq (g2 := F0 m 367 ls [.int u157]) rfl ?_
    refine lv_aload hx hb dL_step_367 (lv_at hl 1 rfl) ?_
    refine lv_iconst (v := 1) hx hb dL_step_369 (by decide) ?_
    obtain ⟨hi159, hf⟩ := chk_t hf
    refine va_iald hx hb hK hP 0 0 rfl rfl (inb_in hi159) dL_step_370 ?_
    refine lv_iload hx hb dL_step_371 (lv_at hl 2 rfl) ?_
    refine lv_if_eq (tgt := 380) hx hb dL_step_373 (by decide) (fun c160 => ?_) (fun c160 => ?_)
    · replace hf := if_t c160 hf
      refine lv_iconst (v := 0) hx hb dL_step_380 (by decide) ?_
      exact L381 x v9 0 (qC x (1 : Int32).toNatClampNeg) u157 H locs ls hf hP hD hS (lv_sub hl [0, 1, 2] rfl)
    · replace hf := if_f c160 hf
      refine lv_iconst (v := 1) hx hb dL_step_376 (by decide) ?_
      refine lv_goto (tgt := 381) hx hb dL_step_377 (by decide) ?_
      exact L381 x v9 1 (qC x (1 : Int32).toNatClampNeg) u157 H locs ls hf hP hD hS (lv_sub hl [0, 1, 2] rfl)
  have L344 : ∀ (x : QSt) (v5 : Int32) (v7 : Int32) (v9 : Int32) (s0 : Int32) (s1 : Int32) (H : Heap) (locs : List Loc) (ls : Array Slot), fL_step_344 x v5 v7 v9 s0 s1  = some res → va_P D vwCl (W_Q cI cV vf a ad ac x) H → va_D A (W_Q cI cV vf a ad ac x) → va_S A s.heap H locs → lv_has ls 11 [(0, .ref (a 0)), (4, .ref ac), (5, .int v5), (7, .int v7), (9, .int v9)] → W p l e ({ frames := 12, cells := 217, slots := 1312, locals := 284 } : Room) s m ([.ref (a 0), .int p1, .int p2, .int p3, .ref ac] : List Value).toArray below meth c H locs 6 36 (MQ below (QW D (TY cI cV cJ cD) (W_G cI cV vf a ad ac res.1) A (some (.int res.2))) (([.ref (a 0), .int p1, .int p2, .int p3, .ref ac] : List Value).toArray) s 217 1312 A) (F0 m 344 ls [.int s0, .int s1]) := by
    intro x v5 v7 v9 s0 s1 H locs ls hf hP hD hS hl
    dsimp only [fL_step_344] at hf
    refine lv_icmp_ne (tgt := 389) hx hb dL_step_344 (by decide) (fun c161 => ?_) (fun c161 => ?_)
    · replace hf := if_f c161 hf
      exact L389 x v9 H locs ls hf hP hD hS (lv_sub hl [0, 1, 4] rfl)
    · replace hf := if_t c161 hf
      refine lv_iload hx hb dL_step_347 (lv_at hl 4 rfl) ?_
      refine lv_if_eq (tgt := 363) hx hb dL_step_349 (by decide) (fun c162 => ?_) (fun c162 => ?_)
      · replace hf := if_t c162 hf
        exact L363 x v9 H locs ls hf hP hD hS (lv_sub hl [0, 1, 4] rfl)
      · replace hf := if_f c162 hf
        refine lv_aload_n hx hb dL_step_352 rfl (lv_at hl 0 rfl) ?_
        refine lv_iload hx hb dL_step_353 (lv_at hl 2 rfl) ?_
        obtain ⟨hk165, hf⟩ := chk_t hf
        replace hk165 := of_decide_eq_true hk165
        obtain ⟨u163, hc164, hf⟩ := bind_t hf
        rcases u163 with r166 | k167
        rotate_left
        · exact (thr_n hf).elim
        replace hf := thr_v hf rfl
        refine k_VP (ws' := W_Q cI cV vf a ad ac x) (As := [.int v5]) (rest := []) (n := 1) ⟨hx, hb, hml, hown, hts⟩ (met0_X7_left l ((v5 : Int32).toNatClampNeg) vf (foA a (ad ((v5 : Int32).toNatClampNeg))) (hvf _ hk165) (foc ((v5 : Int32).toNatClampNeg) (qS x)) v5 r166 hc164) w693 w694 w695 w1 w696 ⟨rfl, by decide +kernel, by decide +kernel, by decide +kernel⟩ ⟨Nat.le_of_ble_eq_true rfl, Nat.le_of_ble_eq_true rfl⟩ hK hE hP hD hS hA (cut_QFi x hk165) 0 6 rfl rfl rfl rfl hl.1 rfl (Nat.le_of_ble_eq_true rfl) dL_step_355 ⟨Nat.le_of_ble_eq_true rfl, Nat.le_of_ble_eq_true rfl⟩ (fun H locs hP hD hS => ?_)
        try dsimp only at hf
        refine W.eq (g2 := F0 m 358 ls [.int r166]) rfl ?_
        refine lv_iload hx hb dL_step_358 (lv_at hl 3 rfl) ?_
        refine lv_icmp_ne (tgt := 389) hx hb dL_step_360 (by decide) (fun c168 => ?_) (fun c168 => ?_)
        · replace hf := if_f c168 hf
          exact L389 x v9 H locs ls hf hP hD hS (lv_sub hl [0, 1, 4] rfl)
        · replace hf := if_t c168 hf
          exact L363 x v9 H locs ls hf hP hD hS (lv_sub hl [0, 1, 4] rfl)
  have L315 : ∀ (x : QSt) (v5 : Int32) (v6 : Int32) (v7 : Int32) (v8 : Int32) (s0 : Int32) (H : Heap) (locs : List Loc) (ls : Array Slot), fL_step_315 x v5 v6 v7 v8 s0  = some res → va_P D vwCl (W_Q cI cV vf a ad ac x) H → va_D A (W_Q cI cV vf a ad ac x) → va_S A s.heap H locs → lv_has ls 11 [(0, .ref (a 0)), (4, .ref ac), (5, .int v5), (6, .int v6), (7, .int v7), (8, .int v8)] → W p l e ({ frames := 12, cells := 217, slots := 1312, locals := 284 } : Room) s m ([.ref (a 0), .int p1, .int p2, .int p3, .ref ac] : List Value).toArray below meth c H locs 6 36 (MQ below (QW D (TY cI cV cJ cD) (W_G cI cV vf a ad ac res.1) A (some (.int res.2))) (([.ref (a 0), .int p1, .int p2, .int p3, .ref ac] : List Value).toArray) s 217 1312 A) (F0 m 315 ls [.int s0]) := by
    intro x v5 v6 v7 v8 s0 H locs ls hf hP hD hS hl
    dsimp only [fL_step_315] at hf
    refine lv_istore (lv' := [(9, .int s0), (0, .ref (a 0)), (4, .ref ac), (5, .int v5), (6, .int v6), (7, .int v7), (8, .int v8)]) hx hb dL_step_315 hl (by decide) rfl (fun ls hl => ?_)
    refine lv_iload hx hb dL_step_317 (lv_at hl 6 rfl) ?_
    refine lv_aload hx hb dL_step_319 (lv_at hl 2 rfl) ?_
    refine lv_iconst (v := 1) hx hb dL_step_321 (by decide) ?_
    obtain ⟨hi169, hf⟩ := chk_t hf
    refine va_iald hx hb hK hP 0 0 rfl rfl (inb_in hi169) dL_step_322 ?_
    refine lv_sipush (v := 300) hx hb dL_step_323 (by decide) ?_
    refine lv_icmp_ne (tgt := 334) hx hb dL_step_326 (by decide) (fun c170 => ?_) (fun c170 => ?_)
    · replace hf := if_f c170 hf
      refine lv_iload hx hb dL_step_334 (lv_at hl 4 rfl) ?_
      refine lv_if_le (tgt := 343) hx hb dL_step_336 (by decide) (fun c171 => ?_) (fun c171 => ?_)
      · replace hf := if_t c171 hf
        refine lv_iconst (v := 0) hx hb dL_step_343 (by decide) ?_
        exact L344 x v5 v7 s0 0 v8 H locs ls hf hP hD hS (lv_sub hl [1, 2, 3, 5, 0] rfl)
      · replace hf := if_f c171 hf
        refine lv_iconst (v := 1) hx hb dL_step_339 (by decide) ?_
        refine lv_goto (tgt := 344) hx hb dL_step_340 (by decide) ?_
        exact L344 x v5 v7 s0 1 v8 H locs ls hf hP hD hS (lv_sub hl [1, 2, 3, 5, 0] rfl)
    · replace hf := if_t c170 hf
      refine lv_bipush (v := (-108)) hx hb dL_step_329 (by decide) ?_
      refine lv_goto (tgt := 344) hx hb dL_step_331 (by decide) ?_
      exact L344 x v5 v7 s0 (-108) v8 H locs ls hf hP hD hS (lv_sub hl [1, 2, 3, 5, 0] rfl)
  have L286 : ∀ (x : QSt) (v5 : Int32) (v6 : Int32) (s0 : Int32) (s1 : Int32) (s2 : Int32) (H : Heap) (locs : List Loc) (ls : Array Slot), fL_step_286 x v5 v6 s0 s1 s2  = some res → va_P D vwCl (W_Q cI cV vf a ad ac x) H → va_D A (W_Q cI cV vf a ad ac x) → va_S A s.heap H locs → lv_has ls 11 [(0, .ref (a 0)), (4, .ref ac), (5, .int v5), (6, .int v6)] → W p l e ({ frames := 12, cells := 217, slots := 1312, locals := 284 } : Room) s m ([.ref (a 0), .int p1, .int p2, .int p3, .ref ac] : List Value).toArray below meth c H locs 0 0 (MQ below (QW D (TY cI cV cJ cD) (W_G cI cV vf a ad ac res.1) A (some (.int res.2))) (([.ref (a 0), .int p1, .int p2, .int p3, .ref ac] : List Value).toArray) s 217 1312 A) (F0 m 286 ls [.int s0, .int s1, .int s2]) := by
    intro x v5 v6 s0 s1 s2 H locs ls hf hP hD hS hl
    dsimp only [fL_step_286] at hf
    obtain ⟨hz172, hf⟩ := chk_t hf
    refine lv_irem hx hb dL_step_286 (of_decide_eq_true hz172) ?_
    refine lv_iadd hx hb dL_step_287 ?_
    refine lv_topi (fun y173 hy173 => ?_)
    replace hf := keep_e hf y173 hy173
    refine lv_istore (lv' := [(7, .int y173), (0, .ref (a 0)), (4, .ref ac), (5, .int v5), (6, .int v6)]) hx hb dL_step_288 hl (by decide) rfl (fun ls hl => ?_)
    refine lv_aload_n hx hb dL_step_290 rfl (lv_at hl 1 rfl) ?_
    refine lv_bipush (v := 10) hx hb dL_step_291 (by decide) ?_
    refine lv_iload hx hb dL_step_293 (lv_at hl 3 rfl) ?_
    refine lv_iload hx hb dL_step_295 (lv_at hl 0 rfl) ?_
    refine lv_iconst (v := 0) hx hb dL_step_297 (by decide) ?_
    refine lv_iconst (v := 0) hx hb dL_step_298 (by decide) ?_
    obtain ⟨hk176, hf⟩ := chk_t hf
    replace hk176 := of_decide_eq_true hk176
    obtain ⟨u174, hc175, hf⟩ := bind_t hf
    refine k_SWQ (ws' := W_Q cI cV vf a ad ac (qS_s x (unf ((v5 : Int32).toNatClampNeg) (qS x) u174.1))) (As := [.ref (a 0), .int 10, .int v5, .int y173, .int 0, .int 0]) (rest := []) (n := 6) ⟨hx, hb, hml, hown, hts⟩ (met_L_asks l hlt ((v5 : Int32).toNatClampNeg) vf (foA a (ad ((v5 : Int32).toNatClampNeg))) (hvf _ hk176) (foc ((v5 : Int32).toNatClampNeg) (qS x)) 10 v5 y173 0 0 u174 hc175) w360 w361 w0 w362 ⟨by decide +kernel, by decide +kernel, by decide +kernel⟩ ⟨Nat.le_of_ble_eq_true rfl, Nat.le_of_ble_eq_true rfl⟩ hK hE hP hD hS hA (cut_QF x hk176 u174.1) rfl hl.1 rfl (Nat.le_of_ble_eq_true rfl) dL_step_299 ⟨Nat.le_of_ble_eq_true rfl, Nat.le_of_ble_eq_true rfl⟩ (fun H locs hP hD hS => ?_)
    try dsimp only at hf
    refine W.eq (g2 := F0 m 302 ls [.int u174.2]) rfl ?_
    obtain ⟨x177, hx177⟩ : ∃ z, z = (qS_s x (unf ((v5 : Int32).toNatClampNeg) (qS x) u174.1)) := ⟨_, rfl⟩
    replace hf := keep_e hf x177 hx177
    have hP : va_P D vwCl (W_Q cI cV vf a ad ac x177) H := by rw [hx177]; exact hP
    have hD : va_D A (W_Q cI cV vf a ad ac x177) := by rw [hx177]; exact hD
    refine lv_topi (fun y178 hy178 => ?_)
    replace hf := keep_e hf y178 hy178
    refine lv_istore (lv' := [(8, .int y178), (7, .int y173), (0, .ref (a 0)), (4, .ref ac), (5, .int v5), (6, .int v6)]) hx hb dL_step_302 hl (by decide) rfl (fun ls hl => ?_)
    refine lv_iload hx hb dL_step_304 (lv_at hl 0 rfl) ?_
    refine lv_iconst (v := 1) hx hb dL_step_306 (by decide) ?_
    refine lv_icmp_ne (tgt := 314) hx hb dL_step_307 (by decide) (fun c179 => ?_) (fun c179 => ?_)
    · replace hf := if_f c179 hf
      refine lv_iconst (v := 0) hx hb dL_step_314 (by decide) ?_
      exact L315 x177 v5 v6 y173 y178 0 H locs ls hf hP hD hS (lv_sub hl [2, 3, 4, 5, 1, 0] rfl)
    · replace hf := if_t c179 hf
      refine lv_iconst (v := 1) hx hb dL_step_310 (by decide) ?_
      refine lv_goto (tgt := 315) hx hb dL_step_311 (by decide) ?_
      exact L315 x177 v5 v6 y173 y178 1 H locs ls hf hP hD hS (lv_sub hl [2, 3, 4, 5, 1, 0] rfl)
  have L245 : ∀ (x : QSt) (v2 : Int32) (v3 : Int32) (s0 : Int32) (s1 : Int32) (H : Heap) (locs : List Loc) (ls : Array Slot), fL_step_245 x v2 v3 s0 s1  = some res → va_P D vwCl (W_Q cI cV vf a ad ac x) H → va_D A (W_Q cI cV vf a ad ac x) → va_S A s.heap H locs → lv_has ls 11 [(2, .int v2), (3, .int v3), (4, .ref ac)] → W p l e ({ frames := 12, cells := 217, slots := 1312, locals := 284 } : Room) s m ([.ref (a 0), .int p1, .int p2, .int p3, .ref ac] : List Value).toArray below meth c H locs 0 0 (MQ below (QW D (TY cI cV cJ cD) (W_G cI cV vf a ad ac res.1) A (some (.int res.2))) (([.ref (a 0), .int p1, .int p2, .int p3, .ref ac] : List Value).toArray) s 217 1312 A) (F0 m 245 ls [.int s0, .int s1, .ref (a 0)]) := by
    intro x v2 v3 s0 s1 H locs ls hf hP hD hS hl
    dsimp only [fL_step_245] at hf
    refine lv_iload_n hx hb dL_step_245 rfl (lv_at hl 0 rfl) ?_
    refine lv_bipush (v := 16) hx hb dL_step_246 (by decide) ?_
    refine lv_idiv hx hb dL_step_248 (by decide) ?_
    refine lv_iload_n hx hb dL_step_249 rfl (lv_at hl 1 rfl) ?_
    refine lv_aload hx hb dL_step_250 (lv_at hl 2 rfl) ?_
    obtain ⟨u180, hc181, hf⟩ := bind_t hf
    refine k_SP (ws' := W_Q cI cV vf a ad ac u180.1) (As := [.ref (a 0), .int s1, .int s0, .int (v2 / 16), .int v3, .ref ac]) (rest := []) (n := 6) ⟨hx, hb, hml, hown, hts⟩ (met_L_streams l hlt vf ad a ac hvf x s1 s0 (v2 / 16) v3 u180 hc181) w682 w683 w0 w684 ⟨by decide +kernel, by decide +kernel, by decide +kernel⟩ ⟨Nat.le_of_ble_eq_true rfl, Nat.le_of_ble_eq_true rfl⟩ hK hE hP hD hS hA (CutP_self _ _) rfl hl.1 rfl (Nat.le_of_ble_eq_true rfl) dL_step_252 ⟨Nat.le_of_ble_eq_true rfl, Nat.le_of_ble_eq_true rfl⟩ (fun H locs hP hD hS => ?_)
    try dsimp only at hf
    refine W.eq (g2 := F0 m 255 ls [.int u180.2]) rfl ?_
    obtain ⟨x182, hx182⟩ : ∃ z, z = u180.1 := ⟨_, rfl⟩
    replace hf := keep_e hf x182 hx182
    have hP : va_P D vwCl (W_Q cI cV vf a ad ac x182) H := by rw [hx182]; exact hP
    have hD : va_D A (W_Q cI cV vf a ad ac x182) := by rw [hx182]; exact hD
    obtain ⟨hz183, hf⟩ := chk_t hf
    obtain rfl := Option.some.inj hf
    refine W.widen (k := 217) (n := 1312) (Nat.le_of_ble_eq_true rfl) (Nat.le_of_ble_eq_true rfl) ?_
    exact W.zret (v := u180.2) hx hb hr (isB_narrow hz183) (fun t ht hW => ⟨rfl, by rw [ht]; exact hP, va_K.moved hW.alike hK, hD, hS.F ht⟩) hS.2.2 dL_step_255 hlocks
  have L233 : ∀ (x : QSt) (v2 : Int32) (v3 : Int32) (v5 : Int32) (s0 : Int32) (H : Heap) (locs : List Loc) (ls : Array Slot), fL_step_233 x v2 v3 v5 s0  = some res → va_P D vwCl (W_Q cI cV vf a ad ac x) H → va_D A (W_Q cI cV vf a ad ac x) → va_S A s.heap H locs → lv_has ls 11 [(2, .int v2), (3, .int v3), (4, .ref ac), (5, .int v5)] → W p l e ({ frames := 12, cells := 217, slots := 1312, locals := 284 } : Room) s m ([.ref (a 0), .int p1, .int p2, .int p3, .ref ac] : List Value).toArray below meth c H locs 0 0 (MQ below (QW D (TY cI cV cJ cD) (W_G cI cV vf a ad ac res.1) A (some (.int res.2))) (([.ref (a 0), .int p1, .int p2, .int p3, .ref ac] : List Value).toArray) s 217 1312 A) (F0 m 233 ls [.int s0, .ref (a 0)]) := by
    intro x v2 v3 v5 s0 H locs ls hf hP hD hS hl
    dsimp only [fL_step_233] at hf
    refine lv_iload_n hx hb dL_step_233 rfl (lv_at hl 0 rfl) ?_
    refine lv_iconst (v := 5) hx hb dL_step_234 (by decide) ?_
    refine lv_irem hx hb dL_step_235 (by decide) ?_
    refine lv_if_ne (tgt := 244) hx hb dL_step_236 (by decide) (fun c184 => ?_) (fun c184 => ?_)
    · replace hf := if_f c184 hf
      refine lv_iconst (v := 3) hx hb dL_step_244 (by decide) ?_
      exact L245 x v2 v3 3 s0 H locs ls hf hP hD hS (lv_sub hl [0, 1, 2] rfl)
    · replace hf := if_t c184 hf
      refine lv_iload hx hb dL_step_239 (lv_at hl 3 rfl) ?_
      refine lv_goto (tgt := 245) hx hb dL_step_241 (by decide) ?_
      exact L245 x v2 v3 v5 s0 H locs ls hf hP hD hS (lv_sub hl [0, 1, 2] rfl)
  have L194 : ∀ (x : QSt) (v2 : Int32) (v3 : Int32) (s0 : Int32) (s1 : Int32) (H : Heap) (locs : List Loc) (ls : Array Slot), fL_step_194 x v2 v3 s0 s1  = some res → va_P D vwCl (W_Q cI cV vf a ad ac x) H → va_D A (W_Q cI cV vf a ad ac x) → va_S A s.heap H locs → lv_has ls 11 [(2, .int v2), (3, .int v3), (4, .ref ac)] → W p l e ({ frames := 12, cells := 217, slots := 1312, locals := 284 } : Room) s m ([.ref (a 0), .int p1, .int p2, .int p3, .ref ac] : List Value).toArray below meth c H locs 0 0 (MQ below (QW D (TY cI cV cJ cD) (W_G cI cV vf a ad ac res.1) A (some (.int res.2))) (([.ref (a 0), .int p1, .int p2, .int p3, .ref ac] : List Value).toArray) s 217 1312 A) (F0 m 194 ls [.int s0, .int s1, .ref (a 0)]) := by
    intro x v2 v3 s0 s1 H locs ls hf hP hD hS hl
    dsimp only [fL_step_194] at hf
    refine lv_iload_n hx hb dL_step_194 rfl (lv_at hl 0 rfl) ?_
    refine lv_bipush (v := 80) hx hb dL_step_195 (by decide) ?_
    refine lv_idiv hx hb dL_step_197 (by decide) ?_
    refine lv_iload_n hx hb dL_step_198 rfl (lv_at hl 1 rfl) ?_
    refine lv_aload hx hb dL_step_199 (lv_at hl 2 rfl) ?_
    obtain ⟨u185, hc186, hf⟩ := bind_t hf
    refine k_SP (ws' := W_Q cI cV vf a ad ac u185.1) (As := [.ref (a 0), .int s1, .int s0, .int (v2 / 80), .int v3, .ref ac]) (rest := []) (n := 6) ⟨hx, hb, hml, hown, hts⟩ (met_L_commands l hlt vf ad a ac hvf x s1 s0 (v2 / 80) v3 u185 hc186) w202 w203 w0 w204 ⟨by decide +kernel, by decide +kernel, by decide +kernel⟩ ⟨Nat.le_of_ble_eq_true rfl, Nat.le_of_ble_eq_true rfl⟩ hK hE hP hD hS hA (CutP_self _ _) rfl hl.1 rfl (Nat.le_of_ble_eq_true rfl) dL_step_201 ⟨Nat.le_of_ble_eq_true rfl, Nat.le_of_ble_eq_true rfl⟩ (fun H locs hP hD hS => ?_)
    try dsimp only at hf
    refine W.eq (g2 := F0 m 204 ls [.int u185.2]) rfl ?_
    obtain ⟨x187, hx187⟩ : ∃ z, z = u185.1 := ⟨_, rfl⟩
    replace hf := keep_e hf x187 hx187
    have hP : va_P D vwCl (W_Q cI cV vf a ad ac x187) H := by rw [hx187]; exact hP
    have hD : va_D A (W_Q cI cV vf a ad ac x187) := by rw [hx187]; exact hD
    obtain ⟨hz188, hf⟩ := chk_t hf
    obtain rfl := Option.some.inj hf
    refine W.widen (k := 217) (n := 1312) (Nat.le_of_ble_eq_true rfl) (Nat.le_of_ble_eq_true rfl) ?_
    exact W.zret (v := u185.2) hx hb hr (isB_narrow hz188) (fun t ht hW => ⟨rfl, by rw [ht]; exact hP, va_K.moved hW.alike hK, hD, hS.F ht⟩) hS.2.2 dL_step_204 hlocks
  have L132 : ∀ (x : QSt) (v2 : Int32) (v3 : Int32) (v5 : Int32) (v6 : Int32) (s0 : Int32) (H : Heap) (locs : List Loc) (ls : Array Slot), fL_step_132 x v2 v3 v5 v6 s0  = some res → va_P D vwCl (W_Q cI cV vf a ad ac x) H → va_D A (W_Q cI cV vf a ad ac x) → va_S A s.heap H locs → lv_has ls 11 [(0, .ref (a 0)), (2, .int v2), (3, .int v3), (4, .ref ac), (5, .int v5), (6, .int v6)] → W p l e ({ frames := 12, cells := 217, slots := 1312, locals := 284 } : Room) s m ([.ref (a 0), .int p1, .int p2, .int p3, .ref ac] : List Value).toArray below meth c H locs 0 0 (MQ below (QW D (TY cI cV cJ cD) (W_G cI cV vf a ad ac res.1) A (some (.int res.2))) (([.ref (a 0), .int p1, .int p2, .int p3, .ref ac] : List Value).toArray) s 217 1312 A) (F0 m 132 ls [.int s0]) := by
    intro x v2 v3 v5 v6 s0 H locs ls hf hP hD hS hl
    dsimp only [fL_step_132] at hf
    refine lv_istore (lv' := [(7, .int s0), (0, .ref (a 0)), (2, .int v2), (3, .int v3), (4, .ref ac), (5, .int v5), (6, .int v6)]) hx hb dL_step_132 hl (by decide) rfl (fun ls hl => ?_)
    refine lv_iload hx hb dL_step_134 (lv_at hl 6 rfl) ?_
    refine lv_bipush (v := 6) hx hb dL_step_136 (by decide) ?_
    refine lv_icmp_ne (tgt := 175) hx hb dL_step_138 (by decide) (fun c189 => ?_) (fun c189 => ?_)
    · replace hf := if_f c189 hf
      refine lv_aload_n hx hb dL_step_175 rfl (lv_at hl 1 rfl) ?_
      refine lv_iload hx hb dL_step_176 (lv_at hl 6 rfl) ?_
      refine lv_iload_n hx hb dL_step_178 rfl (lv_at hl 2 rfl) ?_
      refine lv_bipush (v := 16) hx hb dL_step_179 (by decide) ?_
      refine lv_idiv hx hb dL_step_181 (by decide) ?_
      refine lv_iconst (v := 5) hx hb dL_step_182 (by decide) ?_
      refine lv_irem hx hb dL_step_183 (by decide) ?_
      refine lv_if_ne (tgt := 192) hx hb dL_step_184 (by decide) (fun c190 => ?_) (fun c190 => ?_)
      · replace hf := if_f c190 hf
        refine lv_iload hx hb dL_step_192 (lv_at hl 0 rfl) ?_
        exact L194 x v2 v3 s0 v6 H locs ls hf hP hD hS (lv_sub hl [2, 3, 4] rfl)
      · replace hf := if_t c190 hf
        refine lv_iload hx hb dL_step_187 (lv_at hl 5 rfl) ?_
        refine lv_goto (tgt := 194) hx hb dL_step_189 (by decide) ?_
        exact L194 x v2 v3 v5 v6 H locs ls hf hP hD hS (lv_sub hl [2, 3, 4] rfl)
    · replace hf := if_t c189 hf
      refine lv_iload_n hx hb dL_step_141 rfl (lv_at hl 3 rfl) ?_
      refine lv_iconst (v := 3) hx hb dL_step_142 (by decide) ?_
      refine lv_irem hx hb dL_step_143 (by decide) ?_
      refine lv_if_gt (tgt := 167) hx hb dL_step_144 (by decide) (fun c191 => ?_) (fun c191 => ?_)
      · replace hf := if_t c191 hf
        refine lv_iconst (v := 1) hx hb dL_step_167 (by decide) ?_
        refine lv_goto (tgt := 204) hx hb dL_step_168 (by decide) ?_
        obtain rfl := Option.some.inj hf
        refine W.widen (k := 217) (n := 1312) (Nat.le_of_ble_eq_true rfl) (Nat.le_of_ble_eq_true rfl) ?_
        exact W.zret (v := 1) hx hb hr (by decide +kernel) (fun t ht hW => ⟨rfl, by rw [ht]; exact hP, va_K.moved hW.alike hK, hD, hS.F ht⟩) hS.2.2 dL_step_204 hlocks
      · replace hf := if_f c191 hf
        refine lv_aload_n hx hb dL_step_147 rfl (lv_at hl 1 rfl) ?_
        refine lv_bipush (v := 6) hx hb dL_step_148 (by decide) ?_
        refine lv_iload hx hb dL_step_150 (lv_at hl 5 rfl) ?_
        refine lv_iload_n hx hb dL_step_152 rfl (lv_at hl 2 rfl) ?_
        refine lv_bipush (v := 16) hx hb dL_step_153 (by decide) ?_
        refine lv_idiv hx hb dL_step_155 (by decide) ?_
        refine lv_iload_n hx hb dL_step_156 rfl (lv_at hl 3 rfl) ?_
        refine lv_iconst (v := 3) hx hb dL_step_157 (by decide) ?_
        refine lv_idiv hx hb dL_step_158 (by decide) ?_
        refine lv_aload hx hb dL_step_159 (lv_at hl 4 rfl) ?_
        obtain ⟨u192, hc193, hf⟩ := bind_t hf
        refine k_SP (ws' := W_Q cI cV vf a ad ac u192.1) (As := [.ref (a 0), .int 6, .int v5, .int (v2 / 16), .int (v3 / 3), .ref ac]) (rest := []) (n := 6) ⟨hx, hb, hml, hown, hts⟩ (met_L_commands l hlt vf ad a ac hvf x 6 v5 (v2 / 16) (v3 / 3) u192 hc193) w202 w203 w0 w204 ⟨by decide +kernel, by decide +kernel, by decide +kernel⟩ ⟨Nat.le_of_ble_eq_true rfl, Nat.le_of_ble_eq_true rfl⟩ hK hE hP hD hS hA (CutP_self _ _) rfl hl.1 rfl (Nat.le_of_ble_eq_true rfl) dL_step_161 ⟨Nat.le_of_ble_eq_true rfl, Nat.le_of_ble_eq_true rfl⟩ (fun H locs hP hD hS => ?_)
        try dsimp only at hf
        refine W.eq (g2 := F0 m 164 ls [.int u192.2]) rfl ?_
        obtain ⟨x194, hx194⟩ : ∃ z, z = u192.1 := ⟨_, rfl⟩
        replace hf := keep_e hf x194 hx194
        have hP : va_P D vwCl (W_Q cI cV vf a ad ac x194) H := by rw [hx194]; exact hP
        have hD : va_D A (W_Q cI cV vf a ad ac x194) := by rw [hx194]; exact hD
        refine lv_if_eq (tgt := 171) hx hb dL_step_164 (by decide) (fun c195 => ?_) (fun c195 => ?_)
        · replace hf := if_t c195 hf
          refine lv_iconst (v := 0) hx hb dL_step_171 (by decide) ?_
          refine lv_goto (tgt := 204) hx hb dL_step_172 (by decide) ?_
          obtain rfl := Option.some.inj hf
          refine W.widen (k := 217) (n := 1312) (Nat.le_of_ble_eq_true rfl) (Nat.le_of_ble_eq_true rfl) ?_
          exact W.zret (v := 0) hx hb hr (by decide +kernel) (fun t ht hW => ⟨rfl, by rw [ht]; exact hP, va_K.moved hW.alike hK, hD, hS.F ht⟩) hS.2.2 dL_step_204 hlocks
        · replace hf := if_f c195 hf
          refine lv_iconst (v := 1) hx hb dL_step_167 (by decide) ?_
          refine lv_goto (tgt := 204) hx hb dL_step_168 (by decide) ?_
          obtain rfl := Option.some.inj hf
          refine W.widen (k := 217) (n := 1312) (Nat.le_of_ble_eq_true rfl) (Nat.le_of_ble_eq_true rfl) ?_
          exact W.zret (v := 1) hx hb hr (by decide +kernel) (fun t ht hW => ⟨rfl, by rw [ht]; exact hP, va_K.moved hW.alike hK, hD, hS.F ht⟩) hS.2.2 dL_step_204 hlocks
  have L117 : ∀ (x : QSt) (v2 : Int32) (v3 : Int32) (v5 : Int32) (v6 : Int32) (H : Heap) (locs : List Loc) (ls : Array Slot), fL_step_117 x v2 v3 v5 v6  = some res → va_P D vwCl (W_Q cI cV vf a ad ac x) H → va_D A (W_Q cI cV vf a ad ac x) → va_S A s.heap H locs → lv_has ls 11 [(0, .ref (a 0)), (2, .int v2), (3, .int v3), (4, .ref ac), (5, .int v5), (6, .int v6)] → W p l e ({ frames := 12, cells := 217, slots := 1312, locals := 284 } : Room) s m ([.ref (a 0), .int p1, .int p2, .int p3, .ref ac] : List Value).toArray below meth c H locs 0 0 (MQ below (QW D (TY cI cV cJ cD) (W_G cI cV vf a ad ac res.1) A (some (.int res.2))) (([.ref (a 0), .int p1, .int p2, .int p3, .ref ac] : List Value).toArray) s 217 1312 A) (F0 m 117 ls []) := by
    intro x v2 v3 v5 v6 H locs ls hf hP hD hS hl
    dsimp only [fL_step_117] at hf
    refine lv_iconst (v := 1) hx hb dL_step_117 (by decide) ?_
    refine lv_goto (tgt := 132) hx hb dL_step_118 (by decide) ?_
    exact L132 x v2 v3 v5 v6 1 H locs ls hf hP hD hS (lv_sub hl [0, 1, 2, 3, 4, 5] rfl)
  have L101 : ∀ (x : QSt) (v2 : Int32) (v3 : Int32) (v5 : Int32) (v6 : Int32) (H : Heap) (locs : List Loc) (ls : Array Slot), fL_step_101 x v2 v3 v5 v6  = some res → va_P D vwCl (W_Q cI cV vf a ad ac x) H → va_D A (W_Q cI cV vf a ad ac x) → va_S A s.heap H locs → lv_has ls 11 [(0, .ref (a 0)), (2, .int v2), (3, .int v3), (4, .ref ac), (5, .int v5), (6, .int v6)] → W p l e ({ frames := 12, cells := 217, slots := 1312, locals := 284 } : Room) s m ([.ref (a 0), .int p1, .int p2, .int p3, .ref ac] : List Value).toArray below meth c H locs 0 0 (MQ below (QW D (TY cI cV cJ cD) (W_G cI cV vf a ad ac res.1) A (some (.int res.2))) (([.ref (a 0), .int p1, .int p2, .int p3, .ref ac] : List Value).toArray) s 217 1312 A) (F0 m 101 ls []) := by
    intro x v2 v3 v5 v6 H locs ls hf hP hD hS hl
    dsimp only [fL_step_101] at hf
    refine lv_iconst (v := 0) hx hb dL_step_101 (by decide) ?_
    refine lv_goto (tgt := 132) hx hb dL_step_102 (by decide) ?_
    exact L132 x v2 v3 v5 v6 0 H locs ls hf hP hD hS (lv_sub hl [0, 1, 2, 3, 4, 5] rfl)
  have L88 : ∀ (x : QSt) (v2 : Int32) (v3 : Int32) (v5 : Int32) (s0 : Int32) (H : Heap) (locs : List Loc) (ls : Array Slot), fL_step_88 x v2 v3 v5 s0  = some res → va_P D vwCl (W_Q cI cV vf a ad ac x) H → va_D A (W_Q cI cV vf a ad ac x) → va_S A s.heap H locs → lv_has ls 11 [(0, .ref (a 0)), (2, .int v2), (3, .int v3), (4, .ref ac), (5, .int v5)] → W p l e ({ frames := 12, cells := 217, slots := 1312, locals := 284 } : Room) s m ([.ref (a 0), .int p1, .int p2, .int p3, .ref ac] : List Value).toArray below meth c H locs 0 0 (MQ below (QW D (TY cI cV cJ cD) (W_G cI cV vf a ad ac res.1) A (some (.int res.2))) (([.ref (a 0), .int p1, .int p2, .int p3, .ref ac] : List Value).toArray) s 217 1312 A) (F0 m 88 ls [.int s0]) := by
    intro x v2 v3 v5 s0 H locs ls hf hP hD hS hl
    dsimp only [fL_step_88] at hf
    refine lv_istore (lv' := [(6, .int s0), (0, .ref (a 0)), (2, .int v2), (3, .int v3), (4, .ref ac), (5, .int v5)]) hx hb dL_step_88 hl (by decide) rfl (fun ls hl => ?_)
    refine lv_iload hx hb dL_step_90 (lv_at hl 0 rfl) ?_
    refine lv_if_eq (tgt := 101) hx hb dL_step_92 (by decide) (fun c196 => ?_) (fun c196 => ?_)
    · replace hf := if_t c196 hf
      exact L101 x v2 v3 v5 s0 H locs ls hf hP hD hS (lv_sub hl [1, 2, 3, 4, 5, 0] rfl)
    · replace hf := if_f c196 hf
      refine lv_iload hx hb dL_step_95 (lv_at hl 0 rfl) ?_
      refine lv_iconst (v := 3) hx hb dL_step_97 (by decide) ?_
      refine lv_icmp_ne (tgt := 105) hx hb dL_step_98 (by decide) (fun c197 => ?_) (fun c197 => ?_)
      · replace hf := if_f c197 hf
        refine lv_iload hx hb dL_step_105 (lv_at hl 0 rfl) ?_
        refine lv_iconst (v := 1) hx hb dL_step_107 (by decide) ?_
        refine lv_icmp_eq (tgt := 117) hx hb dL_step_108 (by decide) (fun c198 => ?_) (fun c198 => ?_)
        · replace hf := if_t c198 hf
          exact L117 x v2 v3 v5 s0 H locs ls hf hP hD hS (lv_sub hl [1, 2, 3, 4, 5, 0] rfl)
        · replace hf := if_f c198 hf
          refine lv_iload hx hb dL_step_111 (lv_at hl 0 rfl) ?_
          refine lv_iconst (v := 4) hx hb dL_step_113 (by decide) ?_
          refine lv_icmp_ne (tgt := 121) hx hb dL_step_114 (by decide) (fun c199 => ?_) (fun c199 => ?_)
          · replace hf := if_f c199 hf
            refine lv_iload hx hb dL_step_121 (lv_at hl 0 rfl) ?_
            refine lv_iconst (v := 2) hx hb dL_step_123 (by decide) ?_
            refine lv_icmp_ne (tgt := 131) hx hb dL_step_124 (by decide) (fun c200 => ?_) (fun c200 => ?_)
            · replace hf := if_f c200 hf
              refine lv_iconst (v := 2) hx hb dL_step_131 (by decide) ?_
              exact L132 x v2 v3 v5 s0 2 H locs ls hf hP hD hS (lv_sub hl [1, 2, 3, 4, 5, 0] rfl)
            · replace hf := if_t c200 hf
              refine lv_iconst (v := 3) hx hb dL_step_127 (by decide) ?_
              refine lv_goto (tgt := 132) hx hb dL_step_128 (by decide) ?_
              exact L132 x v2 v3 v5 s0 3 H locs ls hf hP hD hS (lv_sub hl [1, 2, 3, 4, 5, 0] rfl)
          · replace hf := if_t c199 hf
            exact L117 x v2 v3 v5 s0 H locs ls hf hP hD hS (lv_sub hl [1, 2, 3, 4, 5, 0] rfl)
      · replace hf := if_t c197 hf
        exact L101 x v2 v3 v5 s0 H locs ls hf hP hD hS (lv_sub hl [1, 2, 3, 4, 5, 0] rfl)
  have L19 : ∀ (x : QSt) (v1 : Int32) (v2 : Int32) (v3 : Int32) (s0 : Int32) (H : Heap) (locs : List Loc) (ls : Array Slot), fL_step_19 x v1 v2 v3 s0  = some res → va_P D vwCl (W_Q cI cV vf a ad ac x) H → va_D A (W_Q cI cV vf a ad ac x) → va_S A s.heap H locs → lv_has ls 11 [(0, .ref (a 0)), (1, .int v1), (2, .int v2), (3, .int v3), (4, .ref ac)] → W p l e ({ frames := 12, cells := 217, slots := 1312, locals := 284 } : Room) s m ([.ref (a 0), .int p1, .int p2, .int p3, .ref ac] : List Value).toArray below meth c H locs 0 0 (MQ below (QW D (TY cI cV cJ cD) (W_G cI cV vf a ad ac res.1) A (some (.int res.2))) (([.ref (a 0), .int p1, .int p2, .int p3, .ref ac] : List Value).toArray) s 217 1312 A) (F0 m 19 ls [.int s0]) := by
    intro x v1 v2 v3 s0 H locs ls hf hP hD hS hl
    dsimp only [fL_step_19] at hf
    refine lv_istore (lv' := [(5, .int s0), (0, .ref (a 0)), (1, .int v1), (2, .int v2), (3, .int v3), (4, .ref ac)]) hx hb dL_step_19 hl (by decide) rfl (fun ls hl => ?_)
    refine lv_iload_n hx hb dL_step_21 rfl (lv_at hl 2 rfl) ?_
    refine lv_bipush (v := 14) hx hb dL_step_22 (by decide) ?_
    refine lv_icmp_ge (tgt := 205) hx hb dL_step_24 (by decide) (fun c201 => ?_) (fun c201 => ?_)
    · replace hf := if_t c201 hf
      refine lv_iload_n hx hb dL_step_205 rfl (lv_at hl 2 rfl) ?_
      refine lv_bipush (v := 18) hx hb dL_step_206 (by decide) ?_
      refine lv_icmp_ge (tgt := 256) hx hb dL_step_208 (by decide) (fun c202 => ?_) (fun c202 => ?_)
      · replace hf := if_t c202 hf
        refine lv_iload_n hx hb dL_step_256 rfl (lv_at hl 2 rfl) ?_
        refine lv_bipush (v := 18) hx hb dL_step_257 (by decide) ?_
        refine lv_icmp_ne (tgt := 414) hx hb dL_step_259 (by decide) (fun c203 => ?_) (fun c203 => ?_)
        · replace hf := if_f c203 hf
          refine lv_iload_n hx hb dL_step_414 rfl (lv_at hl 2 rfl) ?_
          refine lv_bipush (v := 19) hx hb dL_step_415 (by decide) ?_
          refine lv_icmp_ne (tgt := 511) hx hb dL_step_417 (by decide) (fun c204 => ?_) (fun c204 => ?_)
          · replace hf := if_f c204 hf
            refine lv_iload_n hx hb dL_step_511 rfl (lv_at hl 2 rfl) ?_
            refine lv_bipush (v := 20) hx hb dL_step_512 (by decide) ?_
            refine lv_icmp_ne (tgt := 569) hx hb dL_step_514 (by decide) (fun c205 => ?_) (fun c205 => ?_)
            · replace hf := if_f c205 hf
              refine lv_iload_n hx hb dL_step_569 rfl (lv_at hl 2 rfl) ?_
              refine lv_bipush (v := 21) hx hb dL_step_570 (by decide) ?_
              refine lv_icmp_ne (tgt := 603) hx hb dL_step_572 (by decide) (fun c206 => ?_) (fun c206 => ?_)
              · replace hf := if_f c206 hf
                refine lv_iload_n hx hb dL_step_603 rfl (lv_at hl 4 rfl) ?_
                refine lv_iconst (v := 2) hx hb dL_step_604 (by decide) ?_
                refine lv_irem hx hb dL_step_605 (by decide) ?_
                refine lv_if_gt (tgt := 618) hx hb dL_step_606 (by decide) (fun c207 => ?_) (fun c207 => ?_)
                · replace hf := if_t c207 hf
                  refine lv_iconst (v := 1) hx hb dL_step_618 (by decide) ?_
                  refine lv_goto (tgt := 623) hx hb dL_step_619 (by decide) ?_
                  obtain rfl := Option.some.inj hf
                  refine W.widen (k := 217) (n := 1312) (Nat.le_of_ble_eq_true rfl) (Nat.le_of_ble_eq_true rfl) ?_
                  exact W.zret (v := 1) hx hb hr (by decide +kernel) (fun t ht hW => ⟨rfl, by rw [ht]; exact hP, va_K.moved hW.alike hK, hD, hS.F ht⟩) hS.2.2 dL_step_623 hlocks
                · replace hf := if_f c207 hf
                  refine lv_aload_n hx hb dL_step_609 rfl (lv_at hl 1 rfl) ?_
                  refine lv_aload hx hb dL_step_610 (lv_at hl 5 rfl) ?_
                  obtain ⟨u208, hc209, hf⟩ := bind_t hf
                  refine k_SP (ws' := W_Q cI cV vf a ad ac u208.1) (As := [.ref (a 0), .ref ac]) (rest := []) (n := 2) ⟨hx, hb, hml, hown, hts⟩ (met_L_restarts l hlt vf ad a ac hvf x  u208 hc209) w735 w736 w0 w737 ⟨by decide +kernel, by decide +kernel, by decide +kernel⟩ ⟨Nat.le_of_ble_eq_true rfl, Nat.le_of_ble_eq_true rfl⟩ hK hE hP hD hS hA (CutP_self _ _) rfl hl.1 rfl (Nat.le_of_ble_eq_true rfl) dL_step_612 ⟨Nat.le_of_ble_eq_true rfl, Nat.le_of_ble_eq_true rfl⟩ (fun H locs hP hD hS => ?_)
                  try dsimp only at hf
                  refine W.eq (g2 := F0 m 615 ls [.int u208.2]) rfl ?_
                  obtain ⟨x210, hx210⟩ : ∃ z, z = u208.1 := ⟨_, rfl⟩
                  replace hf := keep_e hf x210 hx210
                  have hP : va_P D vwCl (W_Q cI cV vf a ad ac x210) H := by rw [hx210]; exact hP
                  have hD : va_D A (W_Q cI cV vf a ad ac x210) := by rw [hx210]; exact hD
                  refine lv_if_eq (tgt := 622) hx hb dL_step_615 (by decide) (fun c211 => ?_) (fun c211 => ?_)
                  · replace hf := if_t c211 hf
                    refine lv_iconst (v := 0) hx hb dL_step_622 (by decide) ?_
                    obtain rfl := Option.some.inj hf
                    exact W.zret (v := 0) hx hb hr (by decide +kernel) (fun t ht hW => ⟨rfl, by rw [ht]; exact hP, va_K.moved hW.alike hK, hD, hS.F ht⟩) hS.2.2 dL_step_623 hlocks
                  · replace hf := if_f c211 hf
                    refine lv_iconst (v := 1) hx hb dL_step_618 (by decide) ?_
                    refine lv_goto (tgt := 623) hx hb dL_step_619 (by decide) ?_
                    obtain rfl := Option.some.inj hf
                    exact W.zret (v := 1) hx hb hr (by decide +kernel) (fun t ht hW => ⟨rfl, by rw [ht]; exact hP, va_K.moved hW.alike hK, hD, hS.F ht⟩) hS.2.2 dL_step_623 hlocks
              · replace hf := if_t c206 hf
                refine lv_iload_n hx hb dL_step_575 rfl (lv_at hl 4 rfl) ?_
                refine lv_iconst (v := 2) hx hb dL_step_576 (by decide) ?_
                refine lv_irem hx hb dL_step_577 (by decide) ?_
                refine lv_if_ne (tgt := 591) hx hb dL_step_578 (by decide) (fun c212 => ?_) (fun c212 => ?_)
                · replace hf := if_f c212 hf
                  refine lv_aload_n hx hb dL_step_591 rfl (lv_at hl 1 rfl) ?_
                  refine lv_iconst (v := 1) hx hb dL_step_592 (by decide) ?_
                  refine lv_iload_n hx hb dL_step_593 rfl (lv_at hl 3 rfl) ?_
                  refine lv_iconst (v := 5) hx hb dL_step_594 (by decide) ?_
                  refine lv_irem hx hb dL_step_595 (by decide) ?_
                  refine lv_iadd hx hb dL_step_596 ?_
                  refine lv_aload hx hb dL_step_597 (lv_at hl 5 rfl) ?_
                  obtain ⟨u213, hc214, hf⟩ := bind_t hf
                  refine k_SP (ws' := W_G cI cV vf a ad ac u213.1) (As := [.ref (a 0), .int (1 + (v2 - v2 / 5 * 5)), .ref ac]) (rest := []) (n := 3) ⟨hx, hb, hml, hown, hts⟩ (met_L_goesOn l hlt vf ad a ac hvf x (1 + (v2 - v2 / 5 * 5)) u213 hc214) w732 w733 w0 w734 ⟨by decide +kernel, by decide +kernel, by decide +kernel⟩ ⟨Nat.le_of_ble_eq_true rfl, Nat.le_of_ble_eq_true rfl⟩ hK hE hP hD hS hA (CutP_self _ _) rfl hl.1 rfl (Nat.le_of_ble_eq_true rfl) dL_step_599 ⟨Nat.le_of_ble_eq_true rfl, Nat.le_of_ble_eq_true rfl⟩ (fun H locs hP hD hS => ?_)
                  try dsimp only at hf
                  refine W.eq (g2 := F0 m 602 ls [.int u213.2]) rfl ?_
                  obtain ⟨hz215, hf⟩ := chk_t hf
                  obtain rfl := Option.some.inj hf
                  refine W.widen (k := 217) (n := 1312) (Nat.le_of_ble_eq_true rfl) (Nat.le_of_ble_eq_true rfl) ?_
                  exact W.zret (v := u213.2) hx hb hr (isB_narrow hz215) (fun t ht hW => ⟨rfl, by rw [ht]; exact hP, va_K.moved hW.alike hK, hD, hS.F ht⟩) hS.2.2 dL_step_602 hlocks
                · replace hf := if_t c212 hf
                  refine lv_aload_n hx hb dL_step_581 rfl (lv_at hl 1 rfl) ?_
                  refine lv_aload hx hb dL_step_582 (lv_at hl 5 rfl) ?_
                  refine lv_iload_n hx hb dL_step_584 rfl (lv_at hl 4 rfl) ?_
                  obtain ⟨u216, hc217, hf⟩ := bind_t hf
                  refine k_SP (ws' := W_Q cI cV vf a ad ac u216.1) (As := [.ref (a 0), .ref ac, .int v3]) (rest := []) (n := 3) ⟨hx, hb, hml, hown, hts⟩ (met_L_rewrites l hlt vf ad a ac hvf x v3 u216 hc217) w707 w708 w0 w709 ⟨by decide +kernel, by decide +kernel, by decide +kernel⟩ ⟨Nat.le_of_ble_eq_true rfl, Nat.le_of_ble_eq_true rfl⟩ hK hE hP hD hS hA (CutP_self _ _) rfl hl.1 rfl (Nat.le_of_ble_eq_true rfl) dL_step_585 ⟨Nat.le_of_ble_eq_true rfl, Nat.le_of_ble_eq_true rfl⟩ (fun H locs hP hD hS => ?_)
                  try dsimp only at hf
                  refine W.eq (g2 := F0 m 588 ls [.int u216.2]) rfl ?_
                  obtain ⟨x218, hx218⟩ : ∃ z, z = u216.1 := ⟨_, rfl⟩
                  replace hf := keep_e hf x218 hx218
                  have hP : va_P D vwCl (W_Q cI cV vf a ad ac x218) H := by rw [hx218]; exact hP
                  have hD : va_D A (W_Q cI cV vf a ad ac x218) := by rw [hx218]; exact hD
                  refine lv_goto (tgt := 602) hx hb dL_step_588 (by decide) ?_
                  obtain ⟨hz219, hf⟩ := chk_t hf
                  obtain rfl := Option.some.inj hf
                  refine W.widen (k := 217) (n := 1312) (Nat.le_of_ble_eq_true rfl) (Nat.le_of_ble_eq_true rfl) ?_
                  exact W.zret (v := u216.2) hx hb hr (isB_narrow hz219) (fun t ht hW => ⟨rfl, by rw [ht]; exact hP, va_K.moved hW.alike hK, hD, hS.F ht⟩) hS.2.2 dL_step_602 hlocks
            · replace hf := if_t c205 hf
              refine lv_aload_n hx hb dL_step_517 rfl (lv_at hl 1 rfl) ?_
              obtain ⟨u220, hc221, hf⟩ := bind_t hf
              refine k_VP (ws' := W_Q cI cV vf a ad ac x) (As := []) (rest := []) (n := 0) ⟨hx, hb, hml, hown, hts⟩ (met_X7_held l vf ad a hvf (qS x)  u220 hc221) w676 w677 w678 w1 w679 ⟨rfl, by decide +kernel, by decide +kernel, by decide +kernel⟩ ⟨Nat.le_of_ble_eq_true rfl, Nat.le_of_ble_eq_true rfl⟩ hK hE hP hD hS hA (cut_QSi x) 0 6 rfl rfl rfl rfl hl.1 rfl (Nat.le_of_ble_eq_true rfl) dL_step_518 ⟨Nat.le_of_ble_eq_true rfl, Nat.le_of_ble_eq_true rfl⟩ (fun H locs hP hD hS => ?_)
              try dsimp only at hf
              refine W.eq (g2 := F0 m 521 ls [.int u220]) rfl ?_
              refine lv_istore (lv' := [(6, .int u220), (5, .int s0), (0, .ref (a 0)), (1, .int v1), (2, .int v2), (3, .int v3), (4, .ref ac)]) hx hb dL_step_521 hl (by decide) rfl (fun ls hl => ?_)
              refine lv_aload_n hx hb dL_step_523 rfl (lv_at hl 2 rfl) ?_
              refine lv_iconst (v := 1) hx hb dL_step_524 (by decide) ?_
              refine lv_iload_n hx hb dL_step_525 rfl (lv_at hl 4 rfl) ?_
              refine lv_bipush (v := 16) hx hb dL_step_526 (by decide) ?_
              refine lv_irem hx hb dL_step_528 (by decide) ?_
              refine lv_iadd hx hb dL_step_529 ?_
              obtain ⟨u222, hc223, hf⟩ := bind_t hf
              obtain ⟨w226, r224 | k225⟩ := u222
              rotate_left
              · exact (thr_n hf).elim
              replace hf := thr_v hf rfl
              refine k_VP (ws' := W_Q cI cV vf a ad ac (qS_s x w226)) (As := [.int (1 + (v2 - v2 / 16 * 16))]) (rest := []) (n := 1) ⟨hx, hb, hml, hown, hts⟩ (met0_X7_sample l vf ad a hvf (qS x) (1 + (v2 - v2 / 16 * 16)) w226 r224 hc223) w703 w704 w705 w1 w706 ⟨rfl, by decide +kernel, by decide +kernel, by decide +kernel⟩ ⟨Nat.le_of_ble_eq_true rfl, Nat.le_of_ble_eq_true rfl⟩ hK hE hP hD hS hA (cut_QS x w226) 0 6 rfl rfl rfl rfl hl.1 rfl (Nat.le_of_ble_eq_true rfl) dL_step_530 ⟨Nat.le_of_ble_eq_true rfl, Nat.le_of_ble_eq_true rfl⟩ (fun H locs hP hD hS => ?_)
              try dsimp only at hf
              refine W.eq (g2 := F0 m 533 ls [.int r224]) rfl ?_
              obtain ⟨x227, hx227⟩ : ∃ z, z = (qS_s x w226) := ⟨_, rfl⟩
              replace hf := keep_e hf x227 hx227
              have hP : va_P D vwCl (W_Q cI cV vf a ad ac x227) H := by rw [hx227]; exact hP
              have hD : va_D A (W_Q cI cV vf a ad ac x227) := by rw [hx227]; exact hD
              refine lv_istore (lv' := [(7, .int r224), (6, .int u220), (5, .int s0), (0, .ref (a 0)), (1, .int v1), (2, .int v2), (3, .int v3), (4, .ref ac)]) hx hb dL_step_533 hl (by decide) rfl (fun ls hl => ?_)
              refine lv_iload hx hb dL_step_535 (lv_at hl 0 rfl) ?_
              refine lv_if_lt (tgt := 567) hx hb dL_step_537 (by decide) (fun c228 => ?_) (fun c228 => ?_)
              · replace hf := if_t c228 hf
                refine lv_iconst (v := 0) hx hb dL_step_567 (by decide) ?_
                obtain rfl := Option.some.inj hf
                refine W.widen (k := 217) (n := 1312) (Nat.le_of_ble_eq_true rfl) (Nat.le_of_ble_eq_true rfl) ?_
                exact W.zret (v := 0) hx hb hr (by decide +kernel) (fun t ht hW => ⟨rfl, by rw [ht]; exact hP, va_K.moved hW.alike hK, hD, hS.F ht⟩) hS.2.2 dL_step_568 hlocks
              · replace hf := if_f c228 hf
                refine lv_iload hx hb dL_step_540 (lv_at hl 0 rfl) ?_
                refine lv_iconst (v := 1) hx hb dL_step_542 (by decide) ?_
                refine lv_iload_n hx hb dL_step_543 rfl (lv_at hl 5 rfl) ?_
                refine lv_bipush (v := 16) hx hb dL_step_544 (by decide) ?_
                refine lv_irem hx hb dL_step_546 (by decide) ?_
                refine lv_iadd hx hb dL_step_547 ?_
                refine lv_icmp_gt (tgt := 567) hx hb dL_step_548 (by decide) (fun c229 => ?_) (fun c229 => ?_)
                · replace hf := if_t c229 hf
                  refine lv_iconst (v := 0) hx hb dL_step_567 (by decide) ?_
                  obtain rfl := Option.some.inj hf
                  refine W.widen (k := 217) (n := 1312) (Nat.le_of_ble_eq_true rfl) (Nat.le_of_ble_eq_true rfl) ?_
                  exact W.zret (v := 0) hx hb hr (by decide +kernel) (fun t ht hW => ⟨rfl, by rw [ht]; exact hP, va_K.moved hW.alike hK, hD, hS.F ht⟩) hS.2.2 dL_step_568 hlocks
                · replace hf := if_f c229 hf
                  refine lv_aload_n hx hb dL_step_551 rfl (lv_at hl 3 rfl) ?_
                  obtain ⟨u230, hc231, hf⟩ := bind_t hf
                  refine k_VP (ws' := W_Q cI cV vf a ad ac x227) (As := []) (rest := []) (n := 0) ⟨hx, hb, hml, hown, hts⟩ (met_X7_held l vf ad a hvf (qS x227)  u230 hc231) w676 w677 w678 w1 w679 ⟨rfl, by decide +kernel, by decide +kernel, by decide +kernel⟩ ⟨Nat.le_of_ble_eq_true rfl, Nat.le_of_ble_eq_true rfl⟩ hK hE hP hD hS hA (cut_QSi x227) 0 6 rfl rfl rfl rfl hl.1 rfl (Nat.le_of_ble_eq_true rfl) dL_step_552 ⟨Nat.le_of_ble_eq_true rfl, Nat.le_of_ble_eq_true rfl⟩ (fun H locs hP hD hS => ?_)
                  try dsimp only at hf
                  refine W.eq (g2 := F0 m 555 ls [.int u230]) rfl ?_
                  refine lv_iload hx hb dL_step_555 (lv_at hl 1 rfl) ?_
                  refine lv_iload hx hb dL_step_557 (lv_at hl 0 rfl) ?_
                  refine lv_isub hx hb dL_step_559 ?_
                  refine lv_icmp_ne (tgt := 567) hx hb dL_step_560 (by decide) (fun c232 => ?_) (fun c232 => ?_)
                  · replace hf := if_f c232 hf
                    refine lv_iconst (v := 0) hx hb dL_step_567 (by decide) ?_
                    obtain rfl := Option.some.inj hf
                    refine W.widen (k := 217) (n := 1312) (Nat.le_of_ble_eq_true rfl) (Nat.le_of_ble_eq_true rfl) ?_
                    exact W.zret (v := 0) hx hb hr (by decide +kernel) (fun t ht hW => ⟨rfl, by rw [ht]; exact hP, va_K.moved hW.alike hK, hD, hS.F ht⟩) hS.2.2 dL_step_568 hlocks
                  · replace hf := if_t c232 hf
                    refine lv_iconst (v := 1) hx hb dL_step_563 (by decide) ?_
                    refine lv_goto (tgt := 568) hx hb dL_step_564 (by decide) ?_
                    obtain rfl := Option.some.inj hf
                    refine W.widen (k := 217) (n := 1312) (Nat.le_of_ble_eq_true rfl) (Nat.le_of_ble_eq_true rfl) ?_
                    exact W.zret (v := 1) hx hb hr (by decide +kernel) (fun t ht hW => ⟨rfl, by rw [ht]; exact hP, va_K.moved hW.alike hK, hD, hS.F ht⟩) hS.2.2 dL_step_568 hlocks
          · replace hf := if_t c204 hf
            refine lv_iconst (v := 1) hx hb dL_step_420 (by decide) ?_
            refine lv_iload_n hx hb dL_step_421 rfl (lv_at hl 4 rfl) ?_
            refine lv_iload_n hx hb dL_step_422 rfl (lv_at hl 4 rfl) ?_
            refine lv_iconst (v := 5) hx hb dL_step_423 (by decide) ?_
            refine lv_irem hx hb dL_step_424 (by decide) ?_
            refine lv_if_ne (tgt := 434) hx hb dL_step_425 (by decide) (fun c233 => ?_) (fun c233 => ?_)
            · replace hf := if_f c233 hf
              refine lv_iconst (v := 5) hx hb dL_step_434 (by decide) ?_
              exact L435 x s0 5 v3 1 H locs ls hf hP hD hS (lv_sub hl [1, 5, 0] rfl)
            · replace hf := if_t c233 hf
              refine lv_sipush (v := 1000) hx hb dL_step_428 (by decide) ?_
              refine lv_goto (tgt := 435) hx hb dL_step_431 (by decide) ?_
              exact L435 x s0 1000 v3 1 H locs ls hf hP hD hS (lv_sub hl [1, 5, 0] rfl)
        · replace hf := if_t c203 hf
          refine lv_aload_n hx hb dL_step_262 rfl (lv_at hl 1 rfl) ?_
          refine lv_iload hx hb dL_step_263 (lv_at hl 0 rfl) ?_
          obtain ⟨hk236, hf⟩ := chk_t hf
          replace hk236 := of_decide_eq_true hk236
          obtain ⟨u234, hc235, hf⟩ := bind_t hf
          rcases u234 with r237 | k238
          rotate_left
          · exact (thr_n hf).elim
          replace hf := thr_v hf rfl
          refine k_VP (ws' := W_Q cI cV vf a ad ac x) (As := [.int s0]) (rest := []) (n := 1) ⟨hx, hb, hml, hown, hts⟩ (met0_X7_typeOf l ((s0 : Int32).toNatClampNeg) vf (foA a (ad ((s0 : Int32).toNatClampNeg))) (hvf _ hk236) (foc ((s0 : Int32).toNatClampNeg) (qS x)) s0 r237 hc235) w205 w206 w207 w1 w208 ⟨rfl, by decide +kernel, by decide +kernel, by decide +kernel⟩ ⟨Nat.le_of_ble_eq_true rfl, Nat.le_of_ble_eq_true rfl⟩ hK hE hP hD hS hA (cut_QFi x hk236) 0 6 rfl rfl rfl rfl hl.1 rfl (Nat.le_of_ble_eq_true rfl) dL_step_265 ⟨Nat.le_of_ble_eq_true rfl, Nat.le_of_ble_eq_true rfl⟩ (fun H locs hP hD hS => ?_)
          try dsimp only at hf
          refine W.eq (g2 := F0 m 268 ls [.int r237]) rfl ?_
          refine lv_istore (lv' := [(6, .int r237), (5, .int s0), (0, .ref (a 0)), (1, .int v1), (2, .int v2), (3, .int v3), (4, .ref ac)]) hx hb dL_step_268 hl (by decide) rfl (fun ls hl => ?_)
          refine lv_iconst (v := 1) hx hb dL_step_270 (by decide) ?_
          refine lv_iload_n hx hb dL_step_271 rfl (lv_at hl 5 rfl) ?_
          refine lv_iload_n hx hb dL_step_272 rfl (lv_at hl 5 rfl) ?_
          refine lv_iconst (v := 4) hx hb dL_step_273 (by decide) ?_
          refine lv_irem hx hb dL_step_274 (by decide) ?_
          refine lv_if_ne (tgt := 284) hx hb dL_step_275 (by decide) (fun c239 => ?_) (fun c239 => ?_)
          · replace hf := if_f c239 hf
            refine lv_bipush (v := 9) hx hb dL_step_284 (by decide) ?_
            exact L286 x s0 r237 9 v3 1 H locs ls hf hP hD hS (lv_sub hl [2, 6, 1, 0] rfl)
          · replace hf := if_t c239 hf
            refine lv_sipush (v := 1000) hx hb dL_step_278 (by decide) ?_
            refine lv_goto (tgt := 286) hx hb dL_step_281 (by decide) ?_
            exact L286 x s0 r237 1000 v3 1 H locs ls hf hP hD hS (lv_sub hl [2, 6, 1, 0] rfl)
      · replace hf := if_f c202 hf
        refine lv_aload_n hx hb dL_step_211 rfl (lv_at hl 1 rfl) ?_
        refine lv_iload_n hx hb dL_step_212 rfl (lv_at hl 2 rfl) ?_
        refine lv_bipush (v := 16) hx hb dL_step_213 (by decide) ?_
        refine lv_icmp_ge (tgt := 222) hx hb dL_step_215 (by decide) (fun c240 => ?_) (fun c240 => ?_)
        · replace hf := if_t c240 hf
          refine lv_iload_n hx hb dL_step_222 rfl (lv_at hl 2 rfl) ?_
          refine lv_bipush (v := 16) hx hb dL_step_223 (by decide) ?_
          refine lv_icmp_ne (tgt := 232) hx hb dL_step_225 (by decide) (fun c241 => ?_) (fun c241 => ?_)
          · replace hf := if_f c241 hf
            refine lv_iconst (v := 2) hx hb dL_step_232 (by decide) ?_
            exact L233 x v2 v3 s0 2 H locs ls hf hP hD hS (lv_sub hl [3, 4, 5, 0] rfl)
          · replace hf := if_t c241 hf
            refine lv_iconst (v := 1) hx hb dL_step_228 (by decide) ?_
            refine lv_goto (tgt := 233) hx hb dL_step_229 (by decide) ?_
            exact L233 x v2 v3 s0 1 H locs ls hf hP hD hS (lv_sub hl [3, 4, 5, 0] rfl)
        · replace hf := if_f c240 hf
          refine lv_iconst (v := 0) hx hb dL_step_218 (by decide) ?_
          refine lv_goto (tgt := 233) hx hb dL_step_219 (by decide) ?_
          exact L233 x v2 v3 s0 0 H locs ls hf hP hD hS (lv_sub hl [3, 4, 5, 0] rfl)
    · replace hf := if_f c201 hf
      refine lv_iload_n hx hb dL_step_27 rfl (lv_at hl 2 rfl) ?_
      refine lv_iconst (v := 3) hx hb dL_step_28 (by decide) ?_
      refine lv_icmp_ge (tgt := 36) hx hb dL_step_29 (by decide) (fun c242 => ?_) (fun c242 => ?_)
      · replace hf := if_t c242 hf
        refine lv_iload_n hx hb dL_step_36 rfl (lv_at hl 2 rfl) ?_
        refine lv_bipush (v := 6) hx hb dL_step_37 (by decide) ?_
        refine lv_icmp_ge (tgt := 46) hx hb dL_step_39 (by decide) (fun c243 => ?_) (fun c243 => ?_)
        · replace hf := if_t c243 hf
          refine lv_iload_n hx hb dL_step_46 rfl (lv_at hl 2 rfl) ?_
          refine lv_bipush (v := 8) hx hb dL_step_47 (by decide) ?_
          refine lv_icmp_ge (tgt := 56) hx hb dL_step_49 (by decide) (fun c244 => ?_) (fun c244 => ?_)
          · replace hf := if_t c244 hf
            refine lv_iload_n hx hb dL_step_56 rfl (lv_at hl 2 rfl) ?_
            refine lv_bipush (v := 8) hx hb dL_step_57 (by decide) ?_
            refine lv_icmp_ne (tgt := 66) hx hb dL_step_59 (by decide) (fun c245 => ?_) (fun c245 => ?_)
            · replace hf := if_f c245 hf
              refine lv_iload_n hx hb dL_step_66 rfl (lv_at hl 2 rfl) ?_
              refine lv_bipush (v := 9) hx hb dL_step_67 (by decide) ?_
              refine lv_icmp_ne (tgt := 76) hx hb dL_step_69 (by decide) (fun c246 => ?_) (fun c246 => ?_)
              · replace hf := if_f c246 hf
                refine lv_iload_n hx hb dL_step_76 rfl (lv_at hl 2 rfl) ?_
                refine lv_bipush (v := 13) hx hb dL_step_77 (by decide) ?_
                refine lv_icmp_ge (tgt := 86) hx hb dL_step_79 (by decide) (fun c247 => ?_) (fun c247 => ?_)
                · replace hf := if_t c247 hf
                  refine lv_bipush (v := 6) hx hb dL_step_86 (by decide) ?_
                  exact L88 x v2 v3 s0 6 H locs ls hf hP hD hS (lv_sub hl [1, 3, 4, 5, 0] rfl)
                · replace hf := if_f c247 hf
                  refine lv_iconst (v := 5) hx hb dL_step_82 (by decide) ?_
                  refine lv_goto (tgt := 88) hx hb dL_step_83 (by decide) ?_
                  exact L88 x v2 v3 s0 5 H locs ls hf hP hD hS (lv_sub hl [1, 3, 4, 5, 0] rfl)
              · replace hf := if_t c246 hf
                refine lv_iconst (v := 4) hx hb dL_step_72 (by decide) ?_
                refine lv_goto (tgt := 88) hx hb dL_step_73 (by decide) ?_
                exact L88 x v2 v3 s0 4 H locs ls hf hP hD hS (lv_sub hl [1, 3, 4, 5, 0] rfl)
            · replace hf := if_t c245 hf
              refine lv_iconst (v := 3) hx hb dL_step_62 (by decide) ?_
              refine lv_goto (tgt := 88) hx hb dL_step_63 (by decide) ?_
              exact L88 x v2 v3 s0 3 H locs ls hf hP hD hS (lv_sub hl [1, 3, 4, 5, 0] rfl)
          · replace hf := if_f c244 hf
            refine lv_iconst (v := 2) hx hb dL_step_52 (by decide) ?_
            refine lv_goto (tgt := 88) hx hb dL_step_53 (by decide) ?_
            exact L88 x v2 v3 s0 2 H locs ls hf hP hD hS (lv_sub hl [1, 3, 4, 5, 0] rfl)
        · replace hf := if_f c243 hf
          refine lv_iconst (v := 1) hx hb dL_step_42 (by decide) ?_
          refine lv_goto (tgt := 88) hx hb dL_step_43 (by decide) ?_
          exact L88 x v2 v3 s0 1 H locs ls hf hP hD hS (lv_sub hl [1, 3, 4, 5, 0] rfl)
      · replace hf := if_f c242 hf
        refine lv_iconst (v := 0) hx hb dL_step_32 (by decide) ?_
        refine lv_goto (tgt := 88) hx hb dL_step_33 (by decide) ?_
        exact L88 x v2 v3 s0 0 H locs ls hf hP hD hS (lv_sub hl [1, 3, 4, 5, 0] rfl)
  have M0 : ∀ (H : Heap) (locs : List Loc) (ls : Array Slot), fL_step x p1 p2 p3 = some res → va_P D vwCl (W_Q cI cV vf a ad ac x) H → va_D A (W_Q cI cV vf a ad ac x) → va_S A s.heap H locs → lv_has ls 11 [(0, .ref (a 0)), (1, .int p1), (2, .int p2), (3, .int p3), (4, .ref ac)] → W p l e ({ frames := 12, cells := 217, slots := 1312, locals := 284 } : Room) s m ([.ref (a 0), .int p1, .int p2, .int p3, .ref ac] : List Value).toArray below meth c H locs 0 0 (MQ below (QW D (TY cI cV cJ cD) (W_G cI cV vf a ad ac res.1) A (some (.int res.2))) (([.ref (a 0), .int p1, .int p2, .int p3, .ref ac] : List Value).toArray) s 217 1312 A) (F0 m 0 ls []) := by
    intro H locs ls hf hP hD hS hl
    dsimp only [fL_step] at hf
    refine lv_iload_n hx hb dL_step_0 rfl (lv_at hl 2 rfl) ?_
    refine lv_bipush (v := 16) hx hb dL_step_1 (by decide) ?_
    refine lv_irem hx hb dL_step_3 (by decide) ?_
    refine lv_bipush (v := 12) hx hb dL_step_4 (by decide) ?_
    refine lv_icmp_ge (tgt := 15) hx hb dL_step_6 (by decide) (fun c248 => ?_) (fun c248 => ?_)
    · replace hf := if_t c248 hf
      refine lv_iload_n hx hb dL_step_15 rfl (lv_at hl 2 rfl) ?_
      refine lv_bipush (v := 16) hx hb dL_step_16 (by decide) ?_
      refine lv_irem hx hb dL_step_18 (by decide) ?_
      exact L19 x p1 p2 p3 (p2 - p2 / 16 * 16) H locs ls hf hP hD hS (lv_sub hl [0, 1, 2, 3, 4] rfl)
    · replace hf := if_f c248 hf
      refine lv_iload_n hx hb dL_step_9 rfl (lv_at hl 2 rfl) ?_
      refine lv_iconst (v := 4) hx hb dL_step_10 (by decide) ?_
      refine lv_irem hx hb dL_step_11 (by decide) ?_
      refine lv_goto (tgt := 19) hx hb dL_step_12 (by decide) ?_
      exact L19 x p1 p2 p3 (p2 - p2 / 4 * 4) H locs ls hf hP hD hS (lv_sub hl [0, 1, 2, 3, 4] rfl)
  exact M0 s.heap [] ls hf hP hD hS hl
