def lcmpv (x y : Int64) : Int32 := if x > y then 1 else if x == y then 0 else -1
def fk (q : Int32) : Nat := if inb q 16 = true then q.toNatClampNeg else 0
theorem fk_lt {q : Int32} : fk q < 16 := by
  unfold fk
  split
  · next h => exact inb_lt h
  · decide
section KL
variable {p : Program} {l : Launch} {e : Env} {R : Room} {s : State} {m : MethodId} {args : Array Value} {below : List Frame} {meth : Method} {c : Code} {H : Heap} {locs : List Loc} {cells slots : Nat} {Q : State → Prop}
variable {cc : ByteArray} {pc : Nat} {ls : Array Slot} {rest : List Value}
theorem k_lcmp (hexec : p.tables.exec = Jvm.exec) (hb : c.code = cc) {x y : Int64} (hdg : decode cc pc = .ok (.lcmp, 1))
    (k : W p l e R s m args below meth c H locs cells slots Q (F0 m (pc + 1) ls (.int (lcmpv x y) :: rest))) : W p l e R s m args below meth c H locs cells slots Q (F0 m pc ls (.long y :: .long x :: rest)) := by
  intro T hT X
  obtain ⟨t, a, b⟩ := k T hT X
  refine ⟨t, ?_, b⟩
  unfold lcmpv at a
  jvm_step X.here [X.here.top, hexec, hb, hdg]
  by_cases h1 : y < x
  · rw [if_pos h1]
    rw [if_pos (show x > y from h1)] at a
    exact a
  · rw [if_neg h1]
    rw [if_neg (show ¬ x > y from h1)] at a
    by_cases h2 : x = y
    · rw [if_pos h2]
      rw [if_pos (beq_iff_eq.mpr h2)] at a
      exact a
    · rw [if_neg h2]
      rw [if_neg (fun h => h2 (beq_iff_eq.mp h))] at a
      exact a
end KL
def fL_law_2017 (L : Nat) (xs : Nat → Int32) (rec : LwSt × Int32 → Option Int32) (x : LwSt) (v5 : Int32) : Option Int32 := keep (v5 + 5) (fun y1 => rec (x, y1))
def fL_law_1937 (L : Nat) (xs : Nat → Int32) (rec : LwSt × Int32 → Option Int32) (x : LwSt) (v5 : Int32) : Option Int32 := chk (inb (v5 + 1) L) (keep (xs ((v5 + 1)).toNatClampNeg) (fun y3 => chk (inb (v5 + 2) L) (keep (xs ((v5 + 2)).toNatClampNeg) (fun y5 => chk (inb (v5 + 3) L) (keep (xs ((v5 + 3)).toNatClampNeg) (fun y7 => chk (decide (vlFm (sV (wS x) (fk y3)) < 18)) ((fL_scanned (fk y3) (foc (fk y3) (wS x), wO x) y3 y5 y7).bind (fun u8 => chk (decide (vlFm (fV (pF u8.1)) < 18)) (keep (unf (fk y3) (wS x) (pF u8.1), wM x, pO u8.1, wD x) (fun x12 => keep u8.2 (fun y13 => chk (inb (v5 + 1) L) (keep (xs ((v5 + 1)).toNatClampNeg) (fun y15 => chk (inb (v5 + 2) L) (keep (xs ((v5 + 2)).toNatClampNeg) (fun y17 => chk (inb (v5 + 3) L) (keep (xs ((v5 + 3)).toNatClampNeg) (fun y19 => (fX8_scanned (wM x12) y15 y17 y19).bind (fun u20 => keep (wM_s x12 u20.1) (fun x22 => keep u20.2 (fun y23 => (fX8_thrown (wM x22) ).bind (fun u24 => (if u24 = y13 then (if y13 = 0 then (if (lcmpv (wO x22 (0 : Int32).toNatClampNeg) (y23).toInt64) = 0 then fL_law_2017 L xs rec x22 v5 else some 0) else fL_law_2017 L xs rec x22 v5) else some 0))))))))))))))))))))))
def fL_law_1869 (L : Nat) (xs : Nat → Int32) (rec : LwSt × Int32 → Option Int32) (x : LwSt) (v5 : Int32) : Option Int32 := chk (inb (v5 + 1) L) (keep (xs ((v5 + 1)).toNatClampNeg) (fun y30 => chk (inb (v5 + 2) L) (keep (xs ((v5 + 2)).toNatClampNeg) (fun y32 => chk (decide (vlFm (sV (wS x) (fk y30)) < 18)) ((fL_next (fk y30) (foc (fk y30) (wS x), wO x) y30 y32).bind (fun u33 => chk (decide (vlFm (fV (pF u33.1)) < 18)) (keep (unf (fk y30) (wS x) (pF u33.1), wM x, pO u33.1, wD x) (fun x37 => keep u33.2 (fun y38 => chk (inb (v5 + 1) L) (keep (xs ((v5 + 1)).toNatClampNeg) (fun y40 => chk (inb (v5 + 2) L) (keep (xs ((v5 + 2)).toNatClampNeg) (fun y42 => (fX8_next (wM x37) y40 y42).bind (fun u43 => keep (wM_s x37 u43.1) (fun x45 => keep u43.2 (fun y46 => (fX8_thrown (wM x45) ).bind (fun u47 => (if u47 = y38 then (if y38 = 0 then (if (lcmpv (wO x45 (0 : Int32).toNatClampNeg) (y46).toInt64) = 0 then fL_law_2017 L xs rec x45 v5 else some 0) else fL_law_2017 L xs rec x45 v5) else some 0))))))))))))))))))
def fL_law_1779 (L : Nat) (xs : Nat → Int32) (rec : LwSt × Int32 → Option Int32) (x : LwSt) (v5 : Int32) : Option Int32 := chk (inb (v5 + 1) L) (keep (xs ((v5 + 1)).toNatClampNeg) (fun y53 => chk (inb (v5 + 2) L) (keep (xs ((v5 + 2)).toNatClampNeg) (fun y55 => chk (decide (vlFm (sV (wS x) (fk y53)) < 18)) ((fL_points (fk y53) (foc (fk y53) (wS x), wD x) y53 y55).bind (fun u56 => chk (decide (vlFm (fV (dF u56.1)) < 18)) (keep (unf (fk y53) (wS x) (dF u56.1), wM x, wO x, dO u56.1) (fun x60 => keep u56.2 (fun y61 => chk (inb (v5 + 1) L) (keep (xs ((v5 + 1)).toNatClampNeg) (fun y63 => chk (inb (v5 + 2) L) (keep (xs ((v5 + 2)).toNatClampNeg) (fun y65 => (fX8_points (wM x60) y63 y65).bind (fun u66 => keep (wM_s x60 u66.1) (fun x68 => (fX8_thrown (wM x68) ).bind (fun u69 => (if u69 = y61 then (if y61 = 0 then chk (n64 (FP.f2d u66.2)) ((if (Op.cmpValue (FP.dcmp (wD x68 (0 : Int32).toNatClampNeg) (FP.f2d u66.2)) .l) = 0 then fL_law_2017 L xs rec x68 v5 else (if (Op.cmpValue (FP.dcmp (wD x68 (0 : Int32).toNatClampNeg) (wD x68 (0 : Int32).toNatClampNeg)) .l) = 0 then some 0 else (if (Op.cmpValue (FP.fcmp u66.2 u66.2) .l) = 0 then some 0 else fL_law_2017 L xs rec x68 v5)))) else fL_law_2017 L xs rec x68 v5) else some 0)))))))))))))))))
def fL_law_1711 (L : Nat) (xs : Nat → Int32) (rec : LwSt × Int32 → Option Int32) (x : LwSt) (v5 : Int32) : Option Int32 := chk (inb (v5 + 1) L) (keep (xs ((v5 + 1)).toNatClampNeg) (fun y78 => chk (inb (v5 + 2) L) (keep (xs ((v5 + 2)).toNatClampNeg) (fun y80 => chk (decide (vlFm (sV (wS x) (fk y78)) < 18)) ((fL_indexOf (fk y78) (foc (fk y78) (wS x), wO x) y78 y80).bind (fun u81 => chk (decide (vlFm (fV (pF u81.1)) < 18)) (keep (unf (fk y78) (wS x) (pF u81.1), wM x, pO u81.1, wD x) (fun x85 => keep u81.2 (fun y86 => chk (inb (v5 + 1) L) (keep (xs ((v5 + 1)).toNatClampNeg) (fun y88 => chk (inb (v5 + 2) L) (keep (xs ((v5 + 2)).toNatClampNeg) (fun y90 => (fX8_indexOf (wM x85) y88 y90).bind (fun u91 => keep (wM_s x85 u91.1) (fun x93 => keep u91.2 (fun y94 => (fX8_thrown (wM x93) ).bind (fun u95 => (if u95 = y86 then (if y86 = 0 then (if (lcmpv (wO x93 (0 : Int32).toNatClampNeg) (y94).toInt64) = 0 then fL_law_2017 L xs rec x93 v5 else some 0) else fL_law_2017 L xs rec x93 v5) else some 0))))))))))))))))))
def fL_law_1643 (L : Nat) (xs : Nat → Int32) (rec : LwSt × Int32 → Option Int32) (x : LwSt) (v5 : Int32) : Option Int32 := chk (inb (v5 + 1) L) (keep (xs ((v5 + 1)).toNatClampNeg) (fun y101 => chk (inb (v5 + 2) L) (keep (xs ((v5 + 2)).toNatClampNeg) (fun y103 => chk (decide (vlFm (sV (wS x) (fk y101)) < 18)) ((fL_atByPlain (fk y101) (foc (fk y101) (wS x), wO x) y101 y103).bind (fun u104 => chk (decide (vlFm (fV (pF u104.1)) < 18)) (keep (unf (fk y101) (wS x) (pF u104.1), wM x, pO u104.1, wD x) (fun x108 => keep u104.2 (fun y109 => chk (inb (v5 + 1) L) (keep (xs ((v5 + 1)).toNatClampNeg) (fun y111 => chk (inb (v5 + 2) L) (keep (xs ((v5 + 2)).toNatClampNeg) (fun y113 => (fX8_atByPlain (wM x108) y111 y113).bind (fun u114 => keep (wM_s x108 u114.1) (fun x116 => keep u114.2 (fun y117 => (fX8_thrown (wM x116) ).bind (fun u118 => (if u118 = y109 then (if y109 = 0 then (if (lcmpv (wO x116 (0 : Int32).toNatClampNeg) (y117).toInt64) = 0 then fL_law_2017 L xs rec x116 v5 else some 0) else fL_law_2017 L xs rec x116 v5) else some 0))))))))))))))))))
def fL_law_1575 (L : Nat) (xs : Nat → Int32) (rec : LwSt × Int32 → Option Int32) (x : LwSt) (v5 : Int32) : Option Int32 := chk (inb (v5 + 1) L) (keep (xs ((v5 + 1)).toNatClampNeg) (fun y124 => chk (inb (v5 + 2) L) (keep (xs ((v5 + 2)).toNatClampNeg) (fun y126 => chk (decide (vlFm (sV (wS x) (fk y124)) < 18)) ((fL_at (fk y124) (foc (fk y124) (wS x), wO x) y124 y126).bind (fun u127 => chk (decide (vlFm (fV (pF u127.1)) < 18)) (keep (unf (fk y124) (wS x) (pF u127.1), wM x, pO u127.1, wD x) (fun x131 => keep u127.2 (fun y132 => chk (inb (v5 + 1) L) (keep (xs ((v5 + 1)).toNatClampNeg) (fun y134 => chk (inb (v5 + 2) L) (keep (xs ((v5 + 2)).toNatClampNeg) (fun y136 => (fX8_at (wM x131) y134 y136).bind (fun u137 => keep (wM_s x131 u137.1) (fun x139 => keep u137.2 (fun y140 => (fX8_thrown (wM x139) ).bind (fun u141 => (if u141 = y132 then (if y132 = 0 then (if (lcmpv (wO x139 (0 : Int32).toNatClampNeg) (y140).toInt64) = 0 then fL_law_2017 L xs rec x139 v5 else some 0) else fL_law_2017 L xs rec x139 v5) else some 0))))))))))))))))))
def fL_law_1519 (L : Nat) (xs : Nat → Int32) (rec : LwSt × Int32 → Option Int32) (x : LwSt) (v5 : Int32) : Option Int32 := chk (inb (v5 + 1) L) (keep (xs ((v5 + 1)).toNatClampNeg) (fun y147 => chk (decide (vlFm (sV (wS x) (fk y147)) < 18)) ((fL_size (fk y147) (foc (fk y147) (wS x), wO x) y147).bind (fun u148 => chk (decide (vlFm (fV (pF u148.1)) < 18)) (keep (unf (fk y147) (wS x) (pF u148.1), wM x, pO u148.1, wD x) (fun x152 => keep u148.2 (fun y153 => chk (inb (v5 + 1) L) (keep (xs ((v5 + 1)).toNatClampNeg) (fun y155 => (fX8_size (wM x152) y155).bind (fun u156 => keep (wM_s x152 u156.1) (fun x158 => keep u156.2 (fun y159 => (fX8_thrown (wM x158) ).bind (fun u160 => (if u160 = y153 then (if y153 = 0 then (if (lcmpv (wO x158 (0 : Int32).toNatClampNeg) (y159).toInt64) = 0 then fL_law_2017 L xs rec x158 v5 else some 0) else fL_law_2017 L xs rec x158 v5) else some 0))))))))))))))
def fL_law_1463 (L : Nat) (xs : Nat → Int32) (rec : LwSt × Int32 → Option Int32) (x : LwSt) (v5 : Int32) : Option Int32 := chk (inb (v5 + 1) L) (keep (xs ((v5 + 1)).toNatClampNeg) (fun y166 => chk (decide (vlFm (sV (wS x) (fk y166)) < 18)) ((fL_formOf (fk y166) (foc (fk y166) (wS x), wO x) y166).bind (fun u167 => chk (decide (vlFm (fV (pF u167.1)) < 18)) (keep (unf (fk y166) (wS x) (pF u167.1), wM x, pO u167.1, wD x) (fun x171 => keep u167.2 (fun y172 => chk (inb (v5 + 1) L) (keep (xs ((v5 + 1)).toNatClampNeg) (fun y174 => (fX8_formOf (wM x171) y174).bind (fun u175 => keep (wM_s x171 u175.1) (fun x177 => keep u175.2 (fun y178 => (fX8_thrown (wM x177) ).bind (fun u179 => (if u179 = y172 then (if y172 = 0 then (if (lcmpv (wO x177 (0 : Int32).toNatClampNeg) (y178).toInt64) = 0 then fL_law_2017 L xs rec x177 v5 else some 0) else fL_law_2017 L xs rec x177 v5) else some 0))))))))))))))
def fL_law_1407 (L : Nat) (xs : Nat → Int32) (rec : LwSt × Int32 → Option Int32) (x : LwSt) (v5 : Int32) : Option Int32 := chk (inb (v5 + 1) L) (keep (xs ((v5 + 1)).toNatClampNeg) (fun y185 => chk (decide (vlFm (sV (wS x) (fk y185)) < 18)) ((fL_typeOf (fk y185) (foc (fk y185) (wS x), wO x) y185).bind (fun u186 => chk (decide (vlFm (fV (pF u186.1)) < 18)) (keep (unf (fk y185) (wS x) (pF u186.1), wM x, pO u186.1, wD x) (fun x190 => keep u186.2 (fun y191 => chk (inb (v5 + 1) L) (keep (xs ((v5 + 1)).toNatClampNeg) (fun y193 => (fX8_typeOf (wM x190) y193).bind (fun u194 => keep (wM_s x190 u194.1) (fun x196 => keep u194.2 (fun y197 => (fX8_thrown (wM x196) ).bind (fun u198 => (if u198 = y191 then (if y191 = 0 then (if (lcmpv (wO x196 (0 : Int32).toNatClampNeg) (y197).toInt64) = 0 then fL_law_2017 L xs rec x196 v5 else some 0) else fL_law_2017 L xs rec x196 v5) else some 0))))))))))))))
def fL_law_1394 (L : Nat) (xs : Nat → Int32) (rec : LwSt × Int32 → Option Int32) (x : LwSt) (v5 : Int32) : Option Int32 := (fX7_rows 0 (foc 0 (wS x)) ).bind (fun u203 => (fX8_rows (wM x) ).bind (fun u205 => keep (wM_s x u205.1) (fun x207 => (if u203 = u205.2 then fL_law_2017 L xs rec x207 v5 else some 0))))
def fL_law_1381 (L : Nat) (xs : Nat → Int32) (rec : LwSt × Int32 → Option Int32) (x : LwSt) (v5 : Int32) : Option Int32 := (fX7_restart (wS x) ).bind (fun u209 => keep (wS_s x u209.1) (fun x211 => (fX8_restart (wM x211) ).bind (fun u212 => keep (wM_s x211 u212.1) (fun x214 => (if u209.2 = u212.2 then fL_law_2017 L xs rec x214 v5 else some 0)))))
def fL_law_1325 (L : Nat) (xs : Nat → Int32) (rec : LwSt × Int32 → Option Int32) (x : LwSt) (v5 : Int32) : Option Int32 := chk (inb (v5 + 1) L) (keep (xs ((v5 + 1)).toNatClampNeg) (fun y217 => chk (decide (vlFm (sV (wS x) (fk y217)) < 18)) ((fL_writeOn (fk y217) (foc (fk y217) (wS x), wO x) y217).bind (fun u218 => chk (decide (vlFm (fV (pF u218.1)) < 18)) ((if u218.2.1 = 2 then keep (unf (fk y217) (wS x) (pF u218.1), wM x, pO u218.1, wD x) (fun x224 => keep u218.2.2 (fun y228 => chk (inb (v5 + 1) L) (keep (xs ((v5 + 1)).toNatClampNeg) (fun y230 => (fX8_writeOn (wM x224) y230).bind (fun u231 => keep (wM_s x224 u231.1) (fun x233 => keep u231.2 (fun y234 => (fX8_thrown (wM x233) ).bind (fun u235 => (if u235 = y228 then (if y228 = 0 then (if (lcmpv (wO x233 (0 : Int32).toNatClampNeg) (y234).toInt64) = 0 then fL_law_2017 L xs rec x233 v5 else some 0) else fL_law_2017 L xs rec x233 v5) else some 0))))))))) else chk (decide (u218.2.1 = 4)) (keep (unf (fk y217) (wS x) (swL (pF u218.1)), wM x, pO u218.1, wD x) (fun x227 => keep u218.2.2 (fun y240 => chk (inb (v5 + 1) L) (keep (xs ((v5 + 1)).toNatClampNeg) (fun y242 => (fX8_writeOn (wM x227) y242).bind (fun u243 => keep (wM_s x227 u243.1) (fun x245 => keep u243.2 (fun y246 => (fX8_thrown (wM x245) ).bind (fun u247 => (if u247 = y240 then (if y240 = 0 then (if (lcmpv (wO x245 (0 : Int32).toNatClampNeg) (y246).toInt64) = 0 then fL_law_2017 L xs rec x245 v5 else some 0) else fL_law_2017 L xs rec x245 v5) else some 0))))))))))))))))
def fL_law_1312 (L : Nat) (xs : Nat → Int32) (rec : LwSt × Int32 → Option Int32) (x : LwSt) (v5 : Int32) : Option Int32 := (fX7_rewrite (wS x) ).bind (fun u252 => keep (wS_s x u252.1) (fun x254 => (fX8_rewrite (wM x254) ).bind (fun u255 => keep (wM_s x254 u255.1) (fun x257 => (if u252.2 = u255.2 then fL_law_2017 L xs rec x257 v5 else some 0)))))
def fL_law_1299 (L : Nat) (xs : Nat → Int32) (rec : LwSt × Int32 → Option Int32) (x : LwSt) (v5 : Int32) : Option Int32 := (fX7_held (wS x) ).bind (fun u259 => (fX8_held (wM x) ).bind (fun u261 => keep (wM_s x u261.1) (fun x263 => (if u259 = u261.2 then fL_law_2017 L xs rec x263 v5 else some 0))))
def fL_law_1243 (L : Nat) (xs : Nat → Int32) (rec : LwSt × Int32 → Option Int32) (x : LwSt) (v5 : Int32) : Option Int32 := chk (inb (v5 + 1) L) (keep (xs ((v5 + 1)).toNatClampNeg) (fun y266 => (fL_sample (wS x, wO x) y266).bind (fun u267 => keep (zS u267.1, wM x, zO u267.1, wD x) (fun x269 => keep u267.2 (fun y270 => chk (inb (v5 + 1) L) (keep (xs ((v5 + 1)).toNatClampNeg) (fun y272 => (fX8_sample (wM x269) y272).bind (fun u273 => keep (wM_s x269 u273.1) (fun x275 => keep u273.2 (fun y276 => (fX8_thrown (wM x275) ).bind (fun u277 => (if u277 = y270 then (if y270 = 0 then (if (lcmpv (wO x275 (0 : Int32).toNatClampNeg) (y276).toInt64) = 0 then fL_law_2017 L xs rec x275 v5 else some 0) else fL_law_2017 L xs rec x275 v5) else some 0))))))))))))
def fL_law_1187 (L : Nat) (xs : Nat → Int32) (rec : LwSt × Int32 → Option Int32) (x : LwSt) (v5 : Int32) : Option Int32 := chk (inb (v5 + 1) L) (keep (xs ((v5 + 1)).toNatClampNeg) (fun y283 => chk (decide (vlFm (sV (wS x) (fk y283)) < 18)) ((fL_tick (fk y283) (foc (fk y283) (wS x), wO x) y283).bind (fun u284 => chk (decide (vlFm (fV (pF u284.1)) < 18)) (keep (unf (fk y283) (wS x) (pF u284.1), wM x, pO u284.1, wD x) (fun x288 => keep u284.2 (fun y289 => chk (inb (v5 + 1) L) (keep (xs ((v5 + 1)).toNatClampNeg) (fun y291 => (fX8_tick (wM x288) y291).bind (fun u292 => keep (wM_s x288 u292.1) (fun x294 => keep u292.2 (fun y295 => (fX8_thrown (wM x294) ).bind (fun u296 => (if u296 = y289 then (if y289 = 0 then (if (lcmpv (wO x294 (0 : Int32).toNatClampNeg) (y295).toInt64) = 0 then fL_law_2017 L xs rec x294 v5 else some 0) else fL_law_2017 L xs rec x294 v5) else some 0))))))))))))))
def fL_law_1131 (L : Nat) (xs : Nat → Int32) (rec : LwSt × Int32 → Option Int32) (x : LwSt) (v5 : Int32) : Option Int32 := chk (inb (v5 + 1) L) (keep (xs ((v5 + 1)).toNatClampNeg) (fun y302 => chk (decide (vlFm (sV (wS x) (fk y302)) < 18)) ((fL_left (fk y302) (foc (fk y302) (wS x), wO x) y302).bind (fun u303 => chk (decide (vlFm (fV (pF u303.1)) < 18)) (keep (unf (fk y302) (wS x) (pF u303.1), wM x, pO u303.1, wD x) (fun x307 => keep u303.2 (fun y308 => chk (inb (v5 + 1) L) (keep (xs ((v5 + 1)).toNatClampNeg) (fun y310 => (fX8_left (wM x307) y310).bind (fun u311 => keep (wM_s x307 u311.1) (fun x313 => keep u311.2 (fun y314 => (fX8_thrown (wM x313) ).bind (fun u315 => (if u315 = y308 then (if y308 = 0 then (if (lcmpv (wO x313 (0 : Int32).toNatClampNeg) (y314).toInt64) = 0 then fL_law_2017 L xs rec x313 v5 else some 0) else fL_law_2017 L xs rec x313 v5) else some 0))))))))))))))
def fL_law_1122 (L : Nat) (xs : Nat → Int32) (rec : LwSt × Int32 → Option Int32) (x : LwSt) (v5 : Int32) (s0 : Int64) (s1 : Int64) : Option Int32 := (if (lcmpv s1 s0) = 0 then fL_law_2017 L xs rec x v5 else some 0)
def fL_law_1056 (L : Nat) (xs : Nat → Int32) (rec : LwSt × Int32 → Option Int32) (x : LwSt) (v5 : Int32) : Option Int32 := chk (inb (v5 + 1) L) (keep (xs ((v5 + 1)).toNatClampNeg) (fun y322 => chk (inb (v5 + 2) L) (keep (xs ((v5 + 2)).toNatClampNeg) (fun y324 => chk (decide (vlFm (sV (wS x) (fk y322)) < 18)) ((fL_expire (fk y322) (foc (fk y322) (wS x), wO x) y322 y324).bind (fun u325 => chk (decide (vlFm (fV (pF u325.1)) < 18)) (keep (unf (fk y322) (wS x) (pF u325.1), wM x, pO u325.1, wD x) (fun x329 => keep u325.2 (fun y330 => chk (inb (v5 + 1) L) (keep (xs ((v5 + 1)).toNatClampNeg) (fun y332 => chk (inb (v5 + 2) L) (keep (xs ((v5 + 2)).toNatClampNeg) (fun y334 => (fX8_expire (wM x329) y332 y334).bind (fun u335 => keep (wM_s x329 u335.1) (fun x337 => keep u335.2 (fun y338 => (fX8_thrown (wM x337) ).bind (fun u339 => (if u339 = y330 then (if y330 = 0 then (if y338 = 0 then fL_law_1122 L xs rec x337 v5 0 (wO x337 (0 : Int32).toNatClampNeg) else fL_law_1122 L xs rec x337 v5 1 (wO x337 (0 : Int32).toNatClampNeg)) else fL_law_2017 L xs rec x337 v5) else some 0))))))))))))))))))
def fL_law_1047 (L : Nat) (xs : Nat → Int32) (rec : LwSt × Int32 → Option Int32) (x : LwSt) (v5 : Int32) (s0 : Int64) (s1 : Int64) : Option Int32 := (if (lcmpv s1 s0) = 0 then fL_law_2017 L xs rec x v5 else some 0)
def fL_law_993 (L : Nat) (xs : Nat → Int32) (rec : LwSt × Int32 → Option Int32) (x : LwSt) (v5 : Int32) : Option Int32 := chk (inb (v5 + 1) L) (keep (xs ((v5 + 1)).toNatClampNeg) (fun y346 => chk (decide (vlFm (sV (wS x) (fk y346)) < 18)) ((fL_remove (fk y346) (foc (fk y346) (wS x), wO x) y346).bind (fun u347 => chk (decide (vlFm (fV (pF u347.1)) < 18)) (keep (unf (fk y346) (wS x) (pF u347.1), wM x, pO u347.1, wD x) (fun x351 => keep u347.2 (fun y352 => chk (inb (v5 + 1) L) (keep (xs ((v5 + 1)).toNatClampNeg) (fun y354 => (fX8_remove (wM x351) y354).bind (fun u355 => keep (wM_s x351 u355.1) (fun x357 => keep u355.2 (fun y358 => (fX8_thrown (wM x357) ).bind (fun u359 => (if u359 = y352 then (if y352 = 0 then (if y358 = 0 then fL_law_1047 L xs rec x357 v5 0 (wO x357 (0 : Int32).toNatClampNeg) else fL_law_1047 L xs rec x357 v5 1 (wO x357 (0 : Int32).toNatClampNeg)) else fL_law_2017 L xs rec x357 v5) else some 0))))))))))))))
def fL_law_913 (L : Nat) (xs : Nat → Int32) (rec : LwSt × Int32 → Option Int32) (x : LwSt) (v5 : Int32) : Option Int32 := chk (inb (v5 + 1) L) (keep (xs ((v5 + 1)).toNatClampNeg) (fun y365 => chk (inb (v5 + 2) L) (keep (xs ((v5 + 2)).toNatClampNeg) (fun y367 => chk (inb (v5 + 3) L) (keep (xs ((v5 + 3)).toNatClampNeg) (fun y369 => chk (decide (vlFm (sV (wS x) (fk y365)) < 18)) ((fL_waiting (fk y365) (foc (fk y365) (wS x), wO x) y365 y367 y369).bind (fun u370 => chk (decide (vlFm (fV (pF u370.1)) < 18)) (keep (unf (fk y365) (wS x) (pF u370.1), wM x, pO u370.1, wD x) (fun x374 => keep u370.2 (fun y375 => chk (inb (v5 + 1) L) (keep (xs ((v5 + 1)).toNatClampNeg) (fun y377 => chk (inb (v5 + 2) L) (keep (xs ((v5 + 2)).toNatClampNeg) (fun y379 => chk (inb (v5 + 3) L) (keep (xs ((v5 + 3)).toNatClampNeg) (fun y381 => (fX8_waiting (wM x374) y377 y379 y381).bind (fun u382 => keep (wM_s x374 u382.1) (fun x384 => keep u382.2 (fun y385 => (fX8_thrown (wM x384) ).bind (fun u386 => (if u386 = y375 then (if y375 = 0 then (if (lcmpv (wO x384 (0 : Int32).toNatClampNeg) (y385).toInt64) = 0 then fL_law_2017 L xs rec x384 v5 else some 0) else fL_law_2017 L xs rec x384 v5) else some 0))))))))))))))))))))))
def fL_law_821 (L : Nat) (xs : Nat → Int32) (rec : LwSt × Int32 → Option Int32) (x : LwSt) (v5 : Int32) : Option Int32 := chk (inb (v5 + 1) L) (keep (xs ((v5 + 1)).toNatClampNeg) (fun y392 => chk (inb (v5 + 2) L) (keep (xs ((v5 + 2)).toNatClampNeg) (fun y394 => chk (inb (v5 + 3) L) (keep (xs ((v5 + 3)).toNatClampNeg) (fun y396 => chk (inb (v5 + 4) L) (keep (xs ((v5 + 4)).toNatClampNeg) (fun y398 => chk (decide (vlFm (sV (wS x) (fk y392)) < 18)) ((fL_claim (fk y392) (foc (fk y392) (wS x), wO x) y392 y394 y396 y398).bind (fun u399 => chk (decide (vlFm (fV (pF u399.1)) < 18)) (keep (unf (fk y392) (wS x) (pF u399.1), wM x, pO u399.1, wD x) (fun x403 => keep u399.2 (fun y404 => chk (inb (v5 + 1) L) (keep (xs ((v5 + 1)).toNatClampNeg) (fun y406 => chk (inb (v5 + 2) L) (keep (xs ((v5 + 2)).toNatClampNeg) (fun y408 => chk (inb (v5 + 3) L) (keep (xs ((v5 + 3)).toNatClampNeg) (fun y410 => chk (inb (v5 + 4) L) (keep (xs ((v5 + 4)).toNatClampNeg) (fun y412 => (fX8_claim (wM x403) y406 y408 y410 y412).bind (fun u413 => keep (wM_s x403 u413.1) (fun x415 => keep u413.2 (fun y416 => (fX8_thrown (wM x415) ).bind (fun u417 => (if u417 = y404 then (if y404 = 0 then (if (lcmpv (wO x415 (0 : Int32).toNatClampNeg) (y416).toInt64) = 0 then fL_law_2017 L xs rec x415 v5 else some 0) else fL_law_2017 L xs rec x415 v5) else some 0))))))))))))))))))))))))))
def fL_law_812 (L : Nat) (xs : Nat → Int32) (rec : LwSt × Int32 → Option Int32) (x : LwSt) (v5 : Int32) (s0 : Int64) (s1 : Int64) : Option Int32 := (if (lcmpv s1 s0) = 0 then fL_law_2017 L xs rec x v5 else some 0)
def fL_law_734 (L : Nat) (xs : Nat → Int32) (rec : LwSt × Int32 → Option Int32) (x : LwSt) (v5 : Int32) : Option Int32 := chk (inb (v5 + 1) L) (keep (xs ((v5 + 1)).toNatClampNeg) (fun y424 => chk (inb (v5 + 2) L) (keep (xs ((v5 + 2)).toNatClampNeg) (fun y426 => chk (inb (v5 + 3) L) (keep (xs ((v5 + 3)).toNatClampNeg) (fun y428 => chk (decide (vlFm (sV (wS x) (fk y424)) < 18)) ((fL_done (fk y424) (foc (fk y424) (wS x), wO x) y424 y426 y428).bind (fun u429 => chk (decide (vlFm (fV (pF u429.1)) < 18)) (keep (unf (fk y424) (wS x) (pF u429.1), wM x, pO u429.1, wD x) (fun x433 => keep u429.2 (fun y434 => chk (inb (v5 + 1) L) (keep (xs ((v5 + 1)).toNatClampNeg) (fun y436 => chk (inb (v5 + 2) L) (keep (xs ((v5 + 2)).toNatClampNeg) (fun y438 => chk (inb (v5 + 3) L) (keep (xs ((v5 + 3)).toNatClampNeg) (fun y440 => (fX8_done (wM x433) y436 y438 y440).bind (fun u441 => keep (wM_s x433 u441.1) (fun x443 => keep u441.2 (fun y444 => (fX8_thrown (wM x443) ).bind (fun u445 => (if u445 = y434 then (if y434 = 0 then (if y444 = 0 then fL_law_812 L xs rec x443 v5 0 (wO x443 (0 : Int32).toNatClampNeg) else fL_law_812 L xs rec x443 v5 1 (wO x443 (0 : Int32).toNatClampNeg)) else fL_law_2017 L xs rec x443 v5) else some 0))))))))))))))))))))))
def fL_law_654 (L : Nat) (xs : Nat → Int32) (rec : LwSt × Int32 → Option Int32) (x : LwSt) (v5 : Int32) : Option Int32 := chk (inb (v5 + 1) L) (keep (xs ((v5 + 1)).toNatClampNeg) (fun y451 => chk (inb (v5 + 2) L) (keep (xs ((v5 + 2)).toNatClampNeg) (fun y453 => chk (inb (v5 + 3) L) (keep (xs ((v5 + 3)).toNatClampNeg) (fun y455 => chk (decide (vlFm (sV (wS x) (fk y451)) < 18)) ((fL_read (fk y451) (foc (fk y451) (wS x), wO x) y451 y453 y455).bind (fun u456 => chk (decide (vlFm (fV (pF u456.1)) < 18)) (keep (unf (fk y451) (wS x) (pF u456.1), wM x, pO u456.1, wD x) (fun x460 => keep u456.2 (fun y461 => chk (inb (v5 + 1) L) (keep (xs ((v5 + 1)).toNatClampNeg) (fun y463 => chk (inb (v5 + 2) L) (keep (xs ((v5 + 2)).toNatClampNeg) (fun y465 => chk (inb (v5 + 3) L) (keep (xs ((v5 + 3)).toNatClampNeg) (fun y467 => (fX8_read (wM x460) y463 y465 y467).bind (fun u468 => keep (wM_s x460 u468.1) (fun x470 => keep u468.2 (fun y471 => (fX8_thrown (wM x470) ).bind (fun u472 => (if u472 = y461 then (if y461 = 0 then (if (lcmpv (wO x470 (0 : Int32).toNatClampNeg) (y471).toInt64) = 0 then fL_law_2017 L xs rec x470 v5 else some 0) else fL_law_2017 L xs rec x470 v5) else some 0))))))))))))))))))))))
def fL_law_586 (L : Nat) (xs : Nat → Int32) (rec : LwSt × Int32 → Option Int32) (x : LwSt) (v5 : Int32) : Option Int32 := chk (inb (v5 + 1) L) (keep (xs ((v5 + 1)).toNatClampNeg) (fun y478 => chk (inb (v5 + 2) L) (keep (xs ((v5 + 2)).toNatClampNeg) (fun y480 => chk (decide (vlFm (sV (wS x) (fk y478)) < 18)) ((fL_append (fk y478) (foc (fk y478) (wS x), wO x) y478 y480).bind (fun u481 => chk (decide (vlFm (fV (pF u481.1)) < 18)) (keep (unf (fk y478) (wS x) (pF u481.1), wM x, pO u481.1, wD x) (fun x485 => keep u481.2 (fun y486 => chk (inb (v5 + 1) L) (keep (xs ((v5 + 1)).toNatClampNeg) (fun y488 => chk (inb (v5 + 2) L) (keep (xs ((v5 + 2)).toNatClampNeg) (fun y490 => (fX8_append (wM x485) y488 y490).bind (fun u491 => keep (wM_s x485 u491.1) (fun x493 => keep u491.2 (fun y494 => (fX8_thrown (wM x493) ).bind (fun u495 => (if u495 = y486 then (if y486 = 0 then (if (lcmpv (wO x493 (0 : Int32).toNatClampNeg) (y494).toInt64) = 0 then fL_law_2017 L xs rec x493 v5 else some 0) else fL_law_2017 L xs rec x493 v5) else some 0))))))))))))))))))
def fL_law_506 (L : Nat) (xs : Nat → Int32) (rec : LwSt × Int32 → Option Int32) (x : LwSt) (v5 : Int32) : Option Int32 := chk (inb (v5 + 1) L) (keep (xs ((v5 + 1)).toNatClampNeg) (fun y501 => chk (inb (v5 + 2) L) (keep (xs ((v5 + 2)).toNatClampNeg) (fun y503 => chk (inb (v5 + 3) L) (keep (xs ((v5 + 3)).toNatClampNeg) (fun y505 => chk (decide (vlFm (sV (wS x) (fk y501)) < 18)) ((fL_rate (fk y501) (foc (fk y501) (wS x), wO x) y501 y503 y505).bind (fun u506 => chk (decide (vlFm (fV (pF u506.1)) < 18)) (keep (unf (fk y501) (wS x) (pF u506.1), wM x, pO u506.1, wD x) (fun x510 => keep u506.2 (fun y511 => chk (inb (v5 + 1) L) (keep (xs ((v5 + 1)).toNatClampNeg) (fun y513 => chk (inb (v5 + 2) L) (keep (xs ((v5 + 2)).toNatClampNeg) (fun y515 => chk (inb (v5 + 3) L) (keep (xs ((v5 + 3)).toNatClampNeg) (fun y517 => (fX8_rate (wM x510) y513 y515 y517).bind (fun u518 => keep (wM_s x510 u518.1) (fun x520 => keep u518.2 (fun y521 => (fX8_thrown (wM x520) ).bind (fun u522 => (if u522 = y511 then (if y511 = 0 then (if (lcmpv (wO x520 (0 : Int32).toNatClampNeg) (y521).toInt64) = 0 then fL_law_2017 L xs rec x520 v5 else some 0) else fL_law_2017 L xs rec x520 v5) else some 0))))))))))))))))))))))
def fL_law_497 (L : Nat) (xs : Nat → Int32) (rec : LwSt × Int32 → Option Int32) (x : LwSt) (v5 : Int32) (s0 : Int64) (s1 : Int64) : Option Int32 := (if (lcmpv s1 s0) = 0 then fL_law_2017 L xs rec x v5 else some 0)
def fL_law_431 (L : Nat) (xs : Nat → Int32) (rec : LwSt × Int32 → Option Int32) (x : LwSt) (v5 : Int32) : Option Int32 := chk (inb (v5 + 1) L) (keep (xs ((v5 + 1)).toNatClampNeg) (fun y529 => chk (inb (v5 + 2) L) (keep (xs ((v5 + 2)).toNatClampNeg) (fun y531 => chk (decide (vlFm (sV (wS x) (fk y529)) < 18)) ((fL_take (fk y529) (foc (fk y529) (wS x), wO x) y529 y531).bind (fun u532 => chk (decide (vlFm (fV (pF u532.1)) < 18)) (keep (unf (fk y529) (wS x) (pF u532.1), wM x, pO u532.1, wD x) (fun x536 => keep u532.2 (fun y537 => chk (inb (v5 + 1) L) (keep (xs ((v5 + 1)).toNatClampNeg) (fun y539 => chk (inb (v5 + 2) L) (keep (xs ((v5 + 2)).toNatClampNeg) (fun y541 => (fX8_take (wM x536) y539 y541).bind (fun u542 => keep (wM_s x536 u542.1) (fun x544 => keep u542.2 (fun y545 => (fX8_thrown (wM x544) ).bind (fun u546 => (if u546 = y537 then (if y537 = 0 then (if y545 = 0 then fL_law_497 L xs rec x544 v5 0 (wO x544 (0 : Int32).toNatClampNeg) else fL_law_497 L xs rec x544 v5 1 (wO x544 (0 : Int32).toNatClampNeg)) else fL_law_2017 L xs rec x544 v5) else some 0))))))))))))))))))
def fL_law_422 (L : Nat) (xs : Nat → Int32) (rec : LwSt × Int32 → Option Int32) (x : LwSt) (v5 : Int32) (s0 : Int64) (s1 : Int64) : Option Int32 := (if (lcmpv s1 s0) = 0 then fL_law_2017 L xs rec x v5 else some 0)
def fL_law_356 (L : Nat) (xs : Nat → Int32) (rec : LwSt × Int32 → Option Int32) (x : LwSt) (v5 : Int32) : Option Int32 := chk (inb (v5 + 1) L) (keep (xs ((v5 + 1)).toNatClampNeg) (fun y553 => chk (inb (v5 + 2) L) (keep (xs ((v5 + 2)).toNatClampNeg) (fun y555 => chk (decide (vlFm (sV (wS x) (fk y553)) < 18)) ((fL_add (fk y553) (foc (fk y553) (wS x), wO x) y553 y555).bind (fun u556 => chk (decide (vlFm (fV (pF u556.1)) < 18)) (keep (unf (fk y553) (wS x) (pF u556.1), wM x, pO u556.1, wD x) (fun x560 => keep u556.2 (fun y561 => chk (inb (v5 + 1) L) (keep (xs ((v5 + 1)).toNatClampNeg) (fun y563 => chk (inb (v5 + 2) L) (keep (xs ((v5 + 2)).toNatClampNeg) (fun y565 => (fX8_add (wM x560) y563 y565).bind (fun u566 => keep (wM_s x560 u566.1) (fun x568 => keep u566.2 (fun y569 => (fX8_thrown (wM x568) ).bind (fun u570 => (if u570 = y561 then (if y561 = 0 then (if y569 = 0 then fL_law_422 L xs rec x568 v5 0 (wO x568 (0 : Int32).toNatClampNeg) else fL_law_422 L xs rec x568 v5 1 (wO x568 (0 : Int32).toNatClampNeg)) else fL_law_2017 L xs rec x568 v5) else some 0))))))))))))))))))
def fL_law_320 (L : Nat) (xs : Nat → Int32) (rec : LwSt × Int32 → Option Int32) (x : LwSt) (v5 : Int32) (v6 : Int32) (s0 : Int32) (s1 : Int32) : Option Int32 := (fX8_pop (wM x) s1 s0).bind (fun u575 => keep (wM_s x u575.1) (fun x577 => keep u575.2 (fun y578 => (fX8_thrown (wM x577) ).bind (fun u579 => (if u579 = v6 then (if v6 = 0 then (if (lcmpv (wO x577 (0 : Int32).toNatClampNeg) (y578).toInt64) = 0 then fL_law_2017 L xs rec x577 v5 else some 0) else fL_law_2017 L xs rec x577 v5) else some 0)))))
def fL_law_293 (L : Nat) (xs : Nat → Int32) (rec : LwSt × Int32 → Option Int32) (x : LwSt) (v5 : Int32) (s0 : Int32) (s1 : Int32) : Option Int32 := chk (decide (vlFm (sV (wS x) (fk s1)) < 18)) ((fL_pop (fk s1) (foc (fk s1) (wS x), wO x) s1 s0).bind (fun u584 => chk (decide (vlFm (fV (pF u584.1)) < 18)) (keep (unf (fk s1) (wS x) (pF u584.1), wM x, pO u584.1, wD x) (fun x588 => keep u584.2 (fun y589 => chk (inb (v5 + 1) L) (keep (xs ((v5 + 1)).toNatClampNeg) (fun y591 => chk (inb (v5 + 2) L) (keep (xs ((v5 + 2)).toNatClampNeg) (fun y593 => (if y593 = 0 then fL_law_320 L xs rec x588 v5 y589 0 y591 else fL_law_320 L xs rec x588 v5 y589 1 y591))))))))))
def fL_law_272 (L : Nat) (xs : Nat → Int32) (rec : LwSt × Int32 → Option Int32) (x : LwSt) (v5 : Int32) : Option Int32 := chk (inb (v5 + 1) L) (keep (xs ((v5 + 1)).toNatClampNeg) (fun y596 => chk (inb (v5 + 2) L) (keep (xs ((v5 + 2)).toNatClampNeg) (fun y598 => (if y598 = 0 then fL_law_293 L xs rec x v5 0 y596 else fL_law_293 L xs rec x v5 1 y596)))))
def fL_law_236 (L : Nat) (xs : Nat → Int32) (rec : LwSt × Int32 → Option Int32) (x : LwSt) (v5 : Int32) (v6 : Int32) (s0 : Int32) (s1 : Int32) (s2 : Int32) : Option Int32 := (fX8_push (wM x) s2 s1 s0).bind (fun u600 => keep (wM_s x u600.1) (fun x602 => keep u600.2 (fun y603 => (fX8_thrown (wM x602) ).bind (fun u604 => (if u604 = v6 then (if v6 = 0 then (if (lcmpv (wO x602 (0 : Int32).toNatClampNeg) (y603).toInt64) = 0 then fL_law_2017 L xs rec x602 v5 else some 0) else fL_law_2017 L xs rec x602 v5) else some 0)))))
def fL_law_203 (L : Nat) (xs : Nat → Int32) (rec : LwSt × Int32 → Option Int32) (x : LwSt) (v5 : Int32) (s0 : Int32) (s1 : Int32) (s2 : Int32) : Option Int32 := chk (decide (vlFm (sV (wS x) (fk s2)) < 18)) ((fL_push (fk s2) (foc (fk s2) (wS x), wO x) s2 s1 s0).bind (fun u609 => chk (decide (vlFm (fV (pF u609.1)) < 18)) (keep (unf (fk s2) (wS x) (pF u609.1), wM x, pO u609.1, wD x) (fun x613 => keep u609.2 (fun y614 => chk (inb (v5 + 1) L) (keep (xs ((v5 + 1)).toNatClampNeg) (fun y616 => chk (inb (v5 + 2) L) (keep (xs ((v5 + 2)).toNatClampNeg) (fun y618 => chk (inb (v5 + 3) L) (keep (xs ((v5 + 3)).toNatClampNeg) (fun y620 => (if y620 = 0 then fL_law_236 L xs rec x613 v5 y614 0 y618 y616 else fL_law_236 L xs rec x613 v5 y614 1 y618 y616))))))))))))
def fL_law_176 (L : Nat) (xs : Nat → Int32) (rec : LwSt × Int32 → Option Int32) (x : LwSt) (v5 : Int32) : Option Int32 := chk (inb (v5 + 1) L) (keep (xs ((v5 + 1)).toNatClampNeg) (fun y623 => chk (inb (v5 + 2) L) (keep (xs ((v5 + 2)).toNatClampNeg) (fun y625 => chk (inb (v5 + 3) L) (keep (xs ((v5 + 3)).toNatClampNeg) (fun y627 => (if y627 = 0 then fL_law_203 L xs rec x v5 0 y625 y623 else fL_law_203 L xs rec x v5 1 y625 y623)))))))
def fL_law_28 (L : Nat) (xs : Nat → Int32) (rec : LwSt × Int32 → Option Int32) (s9 : LwSt × Int32) : Option Int32 := match s9 with | (x, v5) => (if ((Int32.ofNat L) - 5) < v5 then some 1 else chk (inb v5 L) (keep (xs (v5).toNatClampNeg) (fun y631 => keep (y631 &&& 31) (fun y632 => (if y632 = 0 then fL_law_176 L xs rec x v5 else (if y632 = 1 then fL_law_272 L xs rec x v5 else (if y632 = 2 then fL_law_356 L xs rec x v5 else (if y632 = 3 then fL_law_431 L xs rec x v5 else (if y632 = 4 then fL_law_506 L xs rec x v5 else (if y632 = 5 then fL_law_586 L xs rec x v5 else (if y632 = 6 then fL_law_654 L xs rec x v5 else (if y632 = 7 then fL_law_734 L xs rec x v5 else (if y632 = 8 then fL_law_821 L xs rec x v5 else (if y632 = 9 then fL_law_913 L xs rec x v5 else (if y632 = 10 then fL_law_993 L xs rec x v5 else (if y632 = 11 then fL_law_1056 L xs rec x v5 else (if y632 = 12 then fL_law_1131 L xs rec x v5 else (if y632 = 13 then fL_law_1187 L xs rec x v5 else (if y632 = 14 then fL_law_1243 L xs rec x v5 else (if y632 = 15 then fL_law_1299 L xs rec x v5 else (if y632 = 16 then fL_law_1312 L xs rec x v5 else (if y632 = 17 then fL_law_1325 L xs rec x v5 else (if y632 = 18 then fL_law_1381 L xs rec x v5 else (if y632 = 19 then fL_law_1394 L xs rec x v5 else (if y632 = 20 then fL_law_1407 L xs rec x v5 else (if y632 = 21 then fL_law_1463 L xs rec x v5 else (if y632 = 22 then fL_law_1519 L xs rec x v5 else (if y632 = 23 then fL_law_1575 L xs rec x v5 else (if y632 = 24 then fL_law_1643 L xs rec x v5 else (if y632 = 25 then fL_law_1711 L xs rec x v5 else (if y632 = 26 then fL_law_1779 L xs rec x v5 else (if y632 = 27 then fL_law_1869 L xs rec x v5 else (if y632 = 28 then fL_law_1937 L xs rec x v5 else fL_law_2017 L xs rec x v5)))))))))))))))))))))))))))))))))
set_option maxHeartbeats 40000000 in
set_option maxRecDepth 100000 in
theorem law_loop {D : va_G} {cI cV cJ cD : ClassId} {p : Program} {l : Launch} {e : Env} {s : State} {m : MethodId} {below : List Frame} {meth : Method} {c : Code} {b L : Nat} {xs : Nat → Int32} {A : Nat → Prop} {c0 : Cond} (hlt : l.stackTraces = false) (hx : p.tables.exec = Jvm.exec) (hb : c.code = cL_law) (hr : meth.sig.returnType = ret) (hlocks : meth.locks = false) (hml : c.maxLocals = 8) (hown : s.vm.findClass RL = some m.cls) (hts : ∀ w ∈ c0 :: GW, w.before #[Value.ref b] s = true) (hK : va_K D vwCl (TY cI cV cJ cD) s) (hE : EV A s) (hA : ∀ q : Nat, s.heap.size ≤ q → A q) (hAs : ∀ q : Nat, A q → s.heap.size ≤ q) (hX : va_X b L xs s s.heap) (hbl : b < s.heap.size) {vf : Nat → Option Nat} {am : Nat → Nat} {ad : Nat → Nat → Nat} {ao aod : Nat} (hvf : ∀ k, k < 16 → vf k = some (ad k 0)) (fu cb sb : Nat) (hcb : cb + 6 * (fu + 1) ≤ 601024) (hsb : sb + 36 * (fu + 1) ≤ 7293034) (x : LwSt) (v5 : Int32) (a : Nat → Nat) (H : Heap) (locs : List Loc) (ls : Array Slot) (hf : iterK fu (fL_law_28 L xs) (x, v5) = some 1) (hP : va_P D vwCl (W_L cI cV cJ cD vf am a ad ao aod x) H) (hD : va_D A (W_L cI cV cJ cD vf am a ad ao aod x)) (hS : va_S A s.heap H locs) (hl : lv_has ls 8 [(0, .ref (b)), (1, .ref (a 0)), (2, .ref (am 0)), (3, .ref (ao)), (4, .ref (aod)), (5, .int v5)]) : W p l e room_1 s m #[Value.ref b] below meth c H locs cb sb (lw_Z below #[Value.ref b] s) (F0 m 28 ls []) := by
  have hg : ∀ w ∈ GW, w.before #[Value.ref b] s = true := fun w h => hts w (List.mem_cons_of_mem _ h)
  have hbA : ¬ A b := fun h => absurd (hAs b h) (Nat.not_le.mpr hbl)
  have L2017 : ∀ (rec : LwSt × Int32 → Option Int32) (cb sb : Nat), cb + 6 ≤ room_1.cells → sb + 36 ≤ room_1.slots → (∀ (x : LwSt) (v5 : Int32) (a : Nat → Nat) (H : Heap) (locs : List Loc) (ls : Array Slot), rec (x, v5) = some 1 → va_P D vwCl (W_L cI cV cJ cD vf am a ad ao aod x) H → va_D A (W_L cI cV cJ cD vf am a ad ao aod x) → va_S A s.heap H locs → lv_has ls 8 [(0, .ref (b)), (1, .ref (a 0)), (2, .ref (am 0)), (3, .ref (ao)), (4, .ref (aod)), (5, .int v5)] → W p l e room_1 s m #[Value.ref b] below meth c H locs (cb + 6) (sb + 36) (lw_Z below #[Value.ref b] s) (F0 m 28 ls [])) → ∀ (a : Nat → Nat) (x : LwSt) (v5 : Int32) (H : Heap) (locs : List Loc) (ls : Array Slot), fL_law_2017 L xs rec x v5  = some 1 → va_P D vwCl (W_L cI cV cJ cD vf am a ad ao aod x) H → va_D A (W_L cI cV cJ cD vf am a ad ao aod x) → va_S A s.heap H locs → lv_has ls 8 [(0, .ref (b)), (1, .ref (a 0)), (2, .ref (am 0)), (3, .ref (ao)), (4, .ref (aod)), (5, .int v5)] → W p l e room_1 s m #[Value.ref b] below meth c H locs (cb + 6) (sb + 36) (lw_Z below #[Value.ref b] s) (F0 m 2017 ls []) := by
    intro rec cb sb hcb hsb hrec a x v5 H locs ls hf hP hD hS hl
    dsimp only [fL_law_2017] at hf
    obtain ⟨y1, hy1⟩ : ∃ z : Int32, z = (v5 + 5) := ⟨_, rfl⟩
    replace hf := keep_e hf y1 hy1
    refine lv_iinc (v := y1) (lv' := [(5, .int y1), (0, .ref (b)), (1, .ref (a 0)), (2, .ref (am 0)), (3, .ref (ao)), (4, .ref (aod))]) hx hb dL_law_2017 hl (k := 5) rfl (by rw [hy1]; rfl) (by decide) rfl (fun ls hl => ?_)
    refine lv_goto (tgt := 28) hx hb dL_law_2020 (by decide) ?_
    exact hrec x y1 a H locs ls hf hP hD hS (lv_sub hl [1, 2, 3, 4, 5, 0] rfl)
  have L1937 : ∀ (rec : LwSt × Int32 → Option Int32) (cb sb : Nat), cb + 6 ≤ room_1.cells → sb + 36 ≤ room_1.slots → (∀ (x : LwSt) (v5 : Int32) (a : Nat → Nat) (H : Heap) (locs : List Loc) (ls : Array Slot), rec (x, v5) = some 1 → va_P D vwCl (W_L cI cV cJ cD vf am a ad ao aod x) H → va_D A (W_L cI cV cJ cD vf am a ad ao aod x) → va_S A s.heap H locs → lv_has ls 8 [(0, .ref (b)), (1, .ref (a 0)), (2, .ref (am 0)), (3, .ref (ao)), (4, .ref (aod)), (5, .int v5)] → W p l e room_1 s m #[Value.ref b] below meth c H locs (cb + 6) (sb + 36) (lw_Z below #[Value.ref b] s) (F0 m 28 ls [])) → ∀ (a : Nat → Nat) (x : LwSt) (v5 : Int32) (H : Heap) (locs : List Loc) (ls : Array Slot), fL_law_1937 L xs rec x v5  = some 1 → va_P D vwCl (W_L cI cV cJ cD vf am a ad ao aod x) H → va_D A (W_L cI cV cJ cD vf am a ad ao aod x) → va_S A s.heap H locs → lv_has ls 8 [(0, .ref (b)), (1, .ref (a 0)), (2, .ref (am 0)), (3, .ref (ao)), (4, .ref (aod)), (5, .int v5)] → W p l e room_1 s m #[Value.ref b] below meth c H locs (cb + 0) (sb + 0) (lw_Z below #[Value.ref b] s) (F0 m 1937 ls []) := by
    intro rec cb sb hcb hsb hrec a x v5 H locs ls hf hP hD hS hl
    dsimp only [fL_law_1937] at hf
    refine lv_aload_n hx hb dL_law_1937 rfl (lv_at hl 1 rfl) ?_
    refine lv_aload_n hx hb dL_law_1938 rfl (lv_at hl 0 rfl) ?_
    refine lv_iload hx hb dL_law_1939 (lv_at hl 5 rfl) ?_
    refine lv_iconst (v := 1) hx hb dL_law_1941 (by decide) ?_
    refine lv_iadd hx hb dL_law_1942 ?_
    obtain ⟨hi2, hf⟩ := chk_t hf
    refine va_sld hx hb hX hbl hbA hS (inb_in hi2) dL_law_1943 ?_
    refine lv_topi (fun y3 hy3 => ?_)
    replace hf := keep_e hf y3 hy3
    refine lv_aload_n hx hb dL_law_1944 rfl (lv_at hl 0 rfl) ?_
    refine lv_iload hx hb dL_law_1945 (lv_at hl 5 rfl) ?_
    refine lv_iconst (v := 2) hx hb dL_law_1947 (by decide) ?_
    refine lv_iadd hx hb dL_law_1948 ?_
    obtain ⟨hi4, hf⟩ := chk_t hf
    refine va_sld hx hb hX hbl hbA hS (inb_in hi4) dL_law_1949 ?_
    refine lv_topi (fun y5 hy5 => ?_)
    replace hf := keep_e hf y5 hy5
    refine lv_aload_n hx hb dL_law_1950 rfl (lv_at hl 0 rfl) ?_
    refine lv_iload hx hb dL_law_1951 (lv_at hl 5 rfl) ?_
    refine lv_iconst (v := 3) hx hb dL_law_1953 (by decide) ?_
    refine lv_iadd hx hb dL_law_1954 ?_
    obtain ⟨hi6, hf⟩ := chk_t hf
    refine va_sld hx hb hX hbl hbA hS (inb_in hi6) dL_law_1955 ?_
    refine lv_topi (fun y7 hy7 => ?_)
    replace hf := keep_e hf y7 hy7
    refine lv_aload_n hx hb dL_law_1956 rfl (lv_at hl 3 rfl) ?_
    obtain ⟨hv10, hf⟩ := chk_t hf
    replace hv10 := of_decide_eq_true hv10
    obtain ⟨u8, hc9, hf⟩ := bind_t hf
    obtain ⟨hv11, hf⟩ := chk_t hf
    replace hv11 := of_decide_eq_true hv11
    refine k_SWP (ws' := W_L cI cV cJ cD vf am a ad ao aod (unf (fk y3) (wS x) (pF u8.1), wM x, pO u8.1, wD x)) (As := [.ref (a 0), .int y3, .int y5, .int y7, .ref (ao)]) (rest := []) (n := 5) ⟨hx, hb, hml, hown, hts⟩ (met_L_scanned l hlt (fk y3) vf (foO a (ad (fk y3)) ao) (hvf _ fk_lt) (foc (fk y3) (wS x), wO x) y3 y5 y7 u8 hc9) w808 w809 w0 w810 ⟨by decide +kernel, by decide +kernel, by decide +kernel⟩ ⟨Nat.le_of_ble_eq_true rfl, Nat.le_of_ble_eq_true rfl⟩ hK hE hP hD hS hA (cut_LO x fk_lt hv10 u8.1 hv11) rfl hl.1 rfl (Nat.le_of_ble_eq_true rfl) dL_law_1957 ⟨show cb + 0 + 3 ≤ _ from Nat.le_trans (by omega) hcb, show sb + 0 + 18 ≤ _ from Nat.le_trans (by omega) hsb⟩ (fun H locs hP hD hS => ?_)
    try dsimp only at hf
    refine W.widen (k := cb + 6) (n := sb + 36) (show cb + 0 + 3 ≤ cb + 6 by omega) (show sb + 0 + 18 ≤ sb + 36 by omega) ?_
    refine W.eq (g2 := F0 m 1960 ls [.int u8.2]) rfl ?_
    obtain ⟨x12, hx12⟩ : ∃ z, z = (unf (fk y3) (wS x) (pF u8.1), wM x, pO u8.1, wD x) := ⟨_, rfl⟩
    replace hf := keep_e hf x12 hx12
    have hP : va_P D vwCl (W_L cI cV cJ cD vf am a ad ao aod x12) H := by rw [hx12]; exact hP
    have hD : va_D A (W_L cI cV cJ cD vf am a ad ao aod x12) := by rw [hx12]; exact hD
    refine lv_topi (fun y13 hy13 => ?_)
    replace hf := keep_e hf y13 hy13
    refine lv_istore (lv' := [(6, .int y13), (0, .ref (b)), (1, .ref (a 0)), (2, .ref (am 0)), (3, .ref (ao)), (4, .ref (aod)), (5, .int v5)]) hx hb dL_law_1960 hl (by decide) rfl (fun ls hl => ?_)
    refine lv_aload_n hx hb dL_law_1962 rfl (lv_at hl 3 rfl) ?_
    refine lv_aload_n hx hb dL_law_1963 rfl (lv_at hl 1 rfl) ?_
    refine lv_iload hx hb dL_law_1964 (lv_at hl 6 rfl) ?_
    refine lv_iconst (v := 1) hx hb dL_law_1966 (by decide) ?_
    refine lv_iadd hx hb dL_law_1967 ?_
    obtain ⟨hi14, hf⟩ := chk_t hf
    refine va_sld hx hb hX hbl hbA hS (inb_in hi14) dL_law_1968 ?_
    refine lv_topi (fun y15 hy15 => ?_)
    replace hf := keep_e hf y15 hy15
    refine lv_aload_n hx hb dL_law_1969 rfl (lv_at hl 1 rfl) ?_
    refine lv_iload hx hb dL_law_1970 (lv_at hl 6 rfl) ?_
    refine lv_iconst (v := 2) hx hb dL_law_1972 (by decide) ?_
    refine lv_iadd hx hb dL_law_1973 ?_
    obtain ⟨hi16, hf⟩ := chk_t hf
    refine va_sld hx hb hX hbl hbA hS (inb_in hi16) dL_law_1974 ?_
    refine lv_topi (fun y17 hy17 => ?_)
    replace hf := keep_e hf y17 hy17
    refine lv_aload_n hx hb dL_law_1975 rfl (lv_at hl 1 rfl) ?_
    refine lv_iload hx hb dL_law_1976 (lv_at hl 6 rfl) ?_
    refine lv_iconst (v := 3) hx hb dL_law_1978 (by decide) ?_
    refine lv_iadd hx hb dL_law_1979 ?_
    obtain ⟨hi18, hf⟩ := chk_t hf
    refine va_sld hx hb hX hbl hbA hS (inb_in hi18) dL_law_1980 ?_
    refine lv_topi (fun y19 hy19 => ?_)
    replace hf := keep_e hf y19 hy19
    obtain ⟨u20, hc21, hf⟩ := bind_t hf
    refine k_VP (ws' := W_L cI cV cJ cD vf am a ad ao aod (wM_s x12 u20.1)) (As := [.int y15, .int y17, .int y19]) (rest := []) (n := 3) ⟨hx, hb, hml, hown, hts⟩ (met_X8_scanned l am (wM x12) y15 y17 y19 u20 hc21) w1164 w1165 w1166 w9 w1167 ⟨rfl, by decide +kernel, by decide +kernel, by decide +kernel⟩ ⟨Nat.le_of_ble_eq_true rfl, Nat.le_of_ble_eq_true rfl⟩ hK hE hP hD hS hA (cut_LM x12 u20.1) 0 7 rfl rfl rfl rfl hl.1 rfl (Nat.le_of_ble_eq_true rfl) dL_law_1981 ⟨show cb + 6 + 0 ≤ _ from Nat.le_trans (by omega) hcb, show sb + 36 + 0 ≤ _ from Nat.le_trans (by omega) hsb⟩ (fun H locs hP hD hS => ?_)
    try dsimp only at hf
    refine W.widen (k := cb + 6) (n := sb + 36) (show cb + 6 + 0 ≤ cb + 6 by omega) (show sb + 36 + 0 ≤ sb + 36 by omega) ?_
    refine W.eq (g2 := F0 m 1984 ls [.int u20.2]) rfl ?_
    obtain ⟨x22, hx22⟩ : ∃ z, z = (wM_s x12 u20.1) := ⟨_, rfl⟩
    replace hf := keep_e hf x22 hx22
    have hP : va_P D vwCl (W_L cI cV cJ cD vf am a ad ao aod x22) H := by rw [hx22]; exact hP
    have hD : va_D A (W_L cI cV cJ cD vf am a ad ao aod x22) := by rw [hx22]; exact hD
    refine lv_topi (fun y23 hy23 => ?_)
    replace hf := keep_e hf y23 hy23
    refine lv_istore (lv' := [(7, .int y23), (6, .int y13), (0, .ref (b)), (1, .ref (a 0)), (2, .ref (am 0)), (3, .ref (ao)), (4, .ref (aod)), (5, .int v5)]) hx hb dL_law_1984 hl (by decide) rfl (fun ls hl => ?_)
    refine lv_aload_n hx hb dL_law_1986 rfl (lv_at hl 4 rfl) ?_
    obtain ⟨u24, hc25, hf⟩ := bind_t hf
    refine k_VP (ws' := W_L cI cV cJ cD vf am a ad ao aod x22) (As := []) (rest := []) (n := 0) ⟨hx, hb, hml, hown, hts⟩ (met_X8_thrown l am (wM x22)  u24 hc25) w898 w899 w900 w9 w901 ⟨rfl, by decide +kernel, by decide +kernel, by decide +kernel⟩ ⟨Nat.le_of_ble_eq_true rfl, Nat.le_of_ble_eq_true rfl⟩ hK hE hP hD hS hA (cut_LMi x22) 0 7 rfl rfl rfl rfl hl.1 rfl (Nat.le_of_ble_eq_true rfl) dL_law_1987 ⟨show cb + 6 + 0 ≤ _ from Nat.le_trans (by omega) hcb, show sb + 36 + 0 ≤ _ from Nat.le_trans (by omega) hsb⟩ (fun H locs hP hD hS => ?_)
    try dsimp only at hf
    refine W.widen (k := cb + 6) (n := sb + 36) (show cb + 6 + 0 ≤ cb + 6 by omega) (show sb + 36 + 0 ≤ sb + 36 by omega) ?_
    refine W.eq (g2 := F0 m 1990 ls [.int u24]) rfl ?_
    refine lv_iload hx hb dL_law_1990 (lv_at hl 1 rfl) ?_
    refine lv_icmp_eq (tgt := 1997) hx hb dL_law_1992 (by decide) (fun c26 => ?_) (fun c26 => ?_)
    · replace hf := if_t c26 hf
      refine lv_iload hx hb dL_law_1997 (lv_at hl 1 rfl) ?_
      refine lv_if_ne (tgt := 2014) hx hb dL_law_1999 (by decide) (fun c27 => ?_) (fun c27 => ?_)
      · replace hf := if_f c27 hf
        refine lv_goto (tgt := 2017) hx hb dL_law_2014 (by decide) ?_
        exact L2017 rec cb sb hcb hsb hrec a x22 v5 H locs ls hf hP hD hS (lv_sub hl [2, 3, 4, 5, 6, 7] rfl)
      · replace hf := if_t c27 hf
        refine lv_aload_n hx hb dL_law_2002 rfl (lv_at hl 5 rfl) ?_
        refine lv_iconst (v := 0) hx hb dL_law_2003 (by decide) ?_
        refine va_lald hx hb hK hP 15 2 rfl rfl (inb_in (by decide : inb 0 1 = true)) dL_law_2004 ?_
        refine lv_iload hx hb dL_law_2005 (lv_at hl 0 rfl) ?_
        refine lv_i2l (v := (y23).toInt64) hx hb dL_law_2007 rfl ?_
        refine k_lcmp hx hb dL_law_2008 ?_
        refine lv_if_eq (tgt := 2014) hx hb dL_law_2009 (by decide) (fun c28 => ?_) (fun c28 => ?_)
        · replace hf := if_t c28 hf
          refine lv_goto (tgt := 2017) hx hb dL_law_2014 (by decide) ?_
          exact L2017 rec cb sb hcb hsb hrec a x22 v5 H locs ls hf hP hD hS (lv_sub hl [2, 3, 4, 5, 6, 7] rfl)
        · replace hf := if_f c28 hf
          refine lv_iconst (v := 0) hx hb dL_law_2012 (by decide) ?_
          exact absurd (Option.some.inj hf) (by decide)
    · replace hf := if_f c26 hf
      refine lv_iconst (v := 0) hx hb dL_law_1995 (by decide) ?_
      exact absurd (Option.some.inj hf) (by decide)
  have L1869 : ∀ (rec : LwSt × Int32 → Option Int32) (cb sb : Nat), cb + 6 ≤ room_1.cells → sb + 36 ≤ room_1.slots → (∀ (x : LwSt) (v5 : Int32) (a : Nat → Nat) (H : Heap) (locs : List Loc) (ls : Array Slot), rec (x, v5) = some 1 → va_P D vwCl (W_L cI cV cJ cD vf am a ad ao aod x) H → va_D A (W_L cI cV cJ cD vf am a ad ao aod x) → va_S A s.heap H locs → lv_has ls 8 [(0, .ref (b)), (1, .ref (a 0)), (2, .ref (am 0)), (3, .ref (ao)), (4, .ref (aod)), (5, .int v5)] → W p l e room_1 s m #[Value.ref b] below meth c H locs (cb + 6) (sb + 36) (lw_Z below #[Value.ref b] s) (F0 m 28 ls [])) → ∀ (a : Nat → Nat) (x : LwSt) (v5 : Int32) (H : Heap) (locs : List Loc) (ls : Array Slot), fL_law_1869 L xs rec x v5  = some 1 → va_P D vwCl (W_L cI cV cJ cD vf am a ad ao aod x) H → va_D A (W_L cI cV cJ cD vf am a ad ao aod x) → va_S A s.heap H locs → lv_has ls 8 [(0, .ref (b)), (1, .ref (a 0)), (2, .ref (am 0)), (3, .ref (ao)), (4, .ref (aod)), (5, .int v5)] → W p l e room_1 s m #[Value.ref b] below meth c H locs (cb + 0) (sb + 0) (lw_Z below #[Value.ref b] s) (F0 m 1869 ls []) := by
    intro rec cb sb hcb hsb hrec a x v5 H locs ls hf hP hD hS hl
    dsimp only [fL_law_1869] at hf
    refine lv_aload_n hx hb dL_law_1869 rfl (lv_at hl 1 rfl) ?_
    refine lv_aload_n hx hb dL_law_1870 rfl (lv_at hl 0 rfl) ?_
    refine lv_iload hx hb dL_law_1871 (lv_at hl 5 rfl) ?_
    refine lv_iconst (v := 1) hx hb dL_law_1873 (by decide) ?_
    refine lv_iadd hx hb dL_law_1874 ?_
    obtain ⟨hi29, hf⟩ := chk_t hf
    refine va_sld hx hb hX hbl hbA hS (inb_in hi29) dL_law_1875 ?_
    refine lv_topi (fun y30 hy30 => ?_)
    replace hf := keep_e hf y30 hy30
    refine lv_aload_n hx hb dL_law_1876 rfl (lv_at hl 0 rfl) ?_
    refine lv_iload hx hb dL_law_1877 (lv_at hl 5 rfl) ?_
    refine lv_iconst (v := 2) hx hb dL_law_1879 (by decide) ?_
    refine lv_iadd hx hb dL_law_1880 ?_
    obtain ⟨hi31, hf⟩ := chk_t hf
    refine va_sld hx hb hX hbl hbA hS (inb_in hi31) dL_law_1881 ?_
    refine lv_topi (fun y32 hy32 => ?_)
    replace hf := keep_e hf y32 hy32
    refine lv_aload_n hx hb dL_law_1882 rfl (lv_at hl 3 rfl) ?_
    obtain ⟨hv35, hf⟩ := chk_t hf
    replace hv35 := of_decide_eq_true hv35
    obtain ⟨u33, hc34, hf⟩ := bind_t hf
    obtain ⟨hv36, hf⟩ := chk_t hf
    replace hv36 := of_decide_eq_true hv36
    refine k_SWP (ws' := W_L cI cV cJ cD vf am a ad ao aod (unf (fk y30) (wS x) (pF u33.1), wM x, pO u33.1, wD x)) (As := [.ref (a 0), .int y30, .int y32, .ref (ao)]) (rest := []) (n := 4) ⟨hx, hb, hml, hown, hts⟩ (met_L_next l hlt (fk y30) vf (foO a (ad (fk y30)) ao) (hvf _ fk_lt) (foc (fk y30) (wS x), wO x) y30 y32 u33 hc34) w793 w794 w0 w795 ⟨by decide +kernel, by decide +kernel, by decide +kernel⟩ ⟨Nat.le_of_ble_eq_true rfl, Nat.le_of_ble_eq_true rfl⟩ hK hE hP hD hS hA (cut_LO x fk_lt hv35 u33.1 hv36) rfl hl.1 rfl (Nat.le_of_ble_eq_true rfl) dL_law_1883 ⟨show cb + 0 + 3 ≤ _ from Nat.le_trans (by omega) hcb, show sb + 0 + 18 ≤ _ from Nat.le_trans (by omega) hsb⟩ (fun H locs hP hD hS => ?_)
    try dsimp only at hf
    refine W.widen (k := cb + 6) (n := sb + 36) (show cb + 0 + 3 ≤ cb + 6 by omega) (show sb + 0 + 18 ≤ sb + 36 by omega) ?_
    refine W.eq (g2 := F0 m 1886 ls [.int u33.2]) rfl ?_
    obtain ⟨x37, hx37⟩ : ∃ z, z = (unf (fk y30) (wS x) (pF u33.1), wM x, pO u33.1, wD x) := ⟨_, rfl⟩
    replace hf := keep_e hf x37 hx37
    have hP : va_P D vwCl (W_L cI cV cJ cD vf am a ad ao aod x37) H := by rw [hx37]; exact hP
    have hD : va_D A (W_L cI cV cJ cD vf am a ad ao aod x37) := by rw [hx37]; exact hD
    refine lv_topi (fun y38 hy38 => ?_)
    replace hf := keep_e hf y38 hy38
    refine lv_istore (lv' := [(6, .int y38), (0, .ref (b)), (1, .ref (a 0)), (2, .ref (am 0)), (3, .ref (ao)), (4, .ref (aod)), (5, .int v5)]) hx hb dL_law_1886 hl (by decide) rfl (fun ls hl => ?_)
    refine lv_aload_n hx hb dL_law_1888 rfl (lv_at hl 3 rfl) ?_
    refine lv_aload_n hx hb dL_law_1889 rfl (lv_at hl 1 rfl) ?_
    refine lv_iload hx hb dL_law_1890 (lv_at hl 6 rfl) ?_
    refine lv_iconst (v := 1) hx hb dL_law_1892 (by decide) ?_
    refine lv_iadd hx hb dL_law_1893 ?_
    obtain ⟨hi39, hf⟩ := chk_t hf
    refine va_sld hx hb hX hbl hbA hS (inb_in hi39) dL_law_1894 ?_
    refine lv_topi (fun y40 hy40 => ?_)
    replace hf := keep_e hf y40 hy40
    refine lv_aload_n hx hb dL_law_1895 rfl (lv_at hl 1 rfl) ?_
    refine lv_iload hx hb dL_law_1896 (lv_at hl 6 rfl) ?_
    refine lv_iconst (v := 2) hx hb dL_law_1898 (by decide) ?_
    refine lv_iadd hx hb dL_law_1899 ?_
    obtain ⟨hi41, hf⟩ := chk_t hf
    refine va_sld hx hb hX hbl hbA hS (inb_in hi41) dL_law_1900 ?_
    refine lv_topi (fun y42 hy42 => ?_)
    replace hf := keep_e hf y42 hy42
    obtain ⟨u43, hc44, hf⟩ := bind_t hf
    refine k_VP (ws' := W_L cI cV cJ cD vf am a ad ao aod (wM_s x37 u43.1)) (As := [.int y40, .int y42]) (rest := []) (n := 2) ⟨hx, hb, hml, hown, hts⟩ (met_X8_next l am (wM x37) y40 y42 u43 hc44) w1152 w1153 w1154 w9 w1155 ⟨rfl, by decide +kernel, by decide +kernel, by decide +kernel⟩ ⟨Nat.le_of_ble_eq_true rfl, Nat.le_of_ble_eq_true rfl⟩ hK hE hP hD hS hA (cut_LM x37 u43.1) 0 7 rfl rfl rfl rfl hl.1 rfl (Nat.le_of_ble_eq_true rfl) dL_law_1901 ⟨show cb + 6 + 0 ≤ _ from Nat.le_trans (by omega) hcb, show sb + 36 + 0 ≤ _ from Nat.le_trans (by omega) hsb⟩ (fun H locs hP hD hS => ?_)
    try dsimp only at hf
    refine W.widen (k := cb + 6) (n := sb + 36) (show cb + 6 + 0 ≤ cb + 6 by omega) (show sb + 36 + 0 ≤ sb + 36 by omega) ?_
    refine W.eq (g2 := F0 m 1904 ls [.int u43.2]) rfl ?_
    obtain ⟨x45, hx45⟩ : ∃ z, z = (wM_s x37 u43.1) := ⟨_, rfl⟩
    replace hf := keep_e hf x45 hx45
    have hP : va_P D vwCl (W_L cI cV cJ cD vf am a ad ao aod x45) H := by rw [hx45]; exact hP
    have hD : va_D A (W_L cI cV cJ cD vf am a ad ao aod x45) := by rw [hx45]; exact hD
    refine lv_topi (fun y46 hy46 => ?_)
    replace hf := keep_e hf y46 hy46
    refine lv_istore (lv' := [(7, .int y46), (6, .int y38), (0, .ref (b)), (1, .ref (a 0)), (2, .ref (am 0)), (3, .ref (ao)), (4, .ref (aod)), (5, .int v5)]) hx hb dL_law_1904 hl (by decide) rfl (fun ls hl => ?_)
    refine lv_aload_n hx hb dL_law_1906 rfl (lv_at hl 4 rfl) ?_
    obtain ⟨u47, hc48, hf⟩ := bind_t hf
    refine k_VP (ws' := W_L cI cV cJ cD vf am a ad ao aod x45) (As := []) (rest := []) (n := 0) ⟨hx, hb, hml, hown, hts⟩ (met_X8_thrown l am (wM x45)  u47 hc48) w898 w899 w900 w9 w901 ⟨rfl, by decide +kernel, by decide +kernel, by decide +kernel⟩ ⟨Nat.le_of_ble_eq_true rfl, Nat.le_of_ble_eq_true rfl⟩ hK hE hP hD hS hA (cut_LMi x45) 0 7 rfl rfl rfl rfl hl.1 rfl (Nat.le_of_ble_eq_true rfl) dL_law_1907 ⟨show cb + 6 + 0 ≤ _ from Nat.le_trans (by omega) hcb, show sb + 36 + 0 ≤ _ from Nat.le_trans (by omega) hsb⟩ (fun H locs hP hD hS => ?_)
    try dsimp only at hf
    refine W.widen (k := cb + 6) (n := sb + 36) (show cb + 6 + 0 ≤ cb + 6 by omega) (show sb + 36 + 0 ≤ sb + 36 by omega) ?_
    refine W.eq (g2 := F0 m 1910 ls [.int u47]) rfl ?_
    refine lv_iload hx hb dL_law_1910 (lv_at hl 1 rfl) ?_
    refine lv_icmp_eq (tgt := 1917) hx hb dL_law_1912 (by decide) (fun c49 => ?_) (fun c49 => ?_)
    · replace hf := if_t c49 hf
      refine lv_iload hx hb dL_law_1917 (lv_at hl 1 rfl) ?_
      refine lv_if_ne (tgt := 1934) hx hb dL_law_1919 (by decide) (fun c50 => ?_) (fun c50 => ?_)
      · replace hf := if_f c50 hf
        refine lv_goto (tgt := 2017) hx hb dL_law_1934 (by decide) ?_
        exact L2017 rec cb sb hcb hsb hrec a x45 v5 H locs ls hf hP hD hS (lv_sub hl [2, 3, 4, 5, 6, 7] rfl)
      · replace hf := if_t c50 hf
        refine lv_aload_n hx hb dL_law_1922 rfl (lv_at hl 5 rfl) ?_
        refine lv_iconst (v := 0) hx hb dL_law_1923 (by decide) ?_
        refine va_lald hx hb hK hP 15 2 rfl rfl (inb_in (by decide : inb 0 1 = true)) dL_law_1924 ?_
        refine lv_iload hx hb dL_law_1925 (lv_at hl 0 rfl) ?_
        refine lv_i2l (v := (y46).toInt64) hx hb dL_law_1927 rfl ?_
        refine k_lcmp hx hb dL_law_1928 ?_
        refine lv_if_eq (tgt := 1934) hx hb dL_law_1929 (by decide) (fun c51 => ?_) (fun c51 => ?_)
        · replace hf := if_t c51 hf
          refine lv_goto (tgt := 2017) hx hb dL_law_1934 (by decide) ?_
          exact L2017 rec cb sb hcb hsb hrec a x45 v5 H locs ls hf hP hD hS (lv_sub hl [2, 3, 4, 5, 6, 7] rfl)
        · replace hf := if_f c51 hf
          refine lv_iconst (v := 0) hx hb dL_law_1932 (by decide) ?_
          exact absurd (Option.some.inj hf) (by decide)
    · replace hf := if_f c49 hf
      refine lv_iconst (v := 0) hx hb dL_law_1915 (by decide) ?_
      exact absurd (Option.some.inj hf) (by decide)
  have L1779 : ∀ (rec : LwSt × Int32 → Option Int32) (cb sb : Nat), cb + 6 ≤ room_1.cells → sb + 36 ≤ room_1.slots → (∀ (x : LwSt) (v5 : Int32) (a : Nat → Nat) (H : Heap) (locs : List Loc) (ls : Array Slot), rec (x, v5) = some 1 → va_P D vwCl (W_L cI cV cJ cD vf am a ad ao aod x) H → va_D A (W_L cI cV cJ cD vf am a ad ao aod x) → va_S A s.heap H locs → lv_has ls 8 [(0, .ref (b)), (1, .ref (a 0)), (2, .ref (am 0)), (3, .ref (ao)), (4, .ref (aod)), (5, .int v5)] → W p l e room_1 s m #[Value.ref b] below meth c H locs (cb + 6) (sb + 36) (lw_Z below #[Value.ref b] s) (F0 m 28 ls [])) → ∀ (a : Nat → Nat) (x : LwSt) (v5 : Int32) (H : Heap) (locs : List Loc) (ls : Array Slot), fL_law_1779 L xs rec x v5  = some 1 → va_P D vwCl (W_L cI cV cJ cD vf am a ad ao aod x) H → va_D A (W_L cI cV cJ cD vf am a ad ao aod x) → va_S A s.heap H locs → lv_has ls 8 [(0, .ref (b)), (1, .ref (a 0)), (2, .ref (am 0)), (3, .ref (ao)), (4, .ref (aod)), (5, .int v5)] → W p l e room_1 s m #[Value.ref b] below meth c H locs (cb + 0) (sb + 0) (lw_Z below #[Value.ref b] s) (F0 m 1779 ls []) := by
    intro rec cb sb hcb hsb hrec a x v5 H locs ls hf hP hD hS hl
    dsimp only [fL_law_1779] at hf
    refine lv_aload_n hx hb dL_law_1779 rfl (lv_at hl 1 rfl) ?_
    refine lv_aload_n hx hb dL_law_1780 rfl (lv_at hl 0 rfl) ?_
    refine lv_iload hx hb dL_law_1781 (lv_at hl 5 rfl) ?_
    refine lv_iconst (v := 1) hx hb dL_law_1783 (by decide) ?_
    refine lv_iadd hx hb dL_law_1784 ?_
    obtain ⟨hi52, hf⟩ := chk_t hf
    refine va_sld hx hb hX hbl hbA hS (inb_in hi52) dL_law_1785 ?_
    refine lv_topi (fun y53 hy53 => ?_)
    replace hf := keep_e hf y53 hy53
    refine lv_aload_n hx hb dL_law_1786 rfl (lv_at hl 0 rfl) ?_
    refine lv_iload hx hb dL_law_1787 (lv_at hl 5 rfl) ?_
    refine lv_iconst (v := 2) hx hb dL_law_1789 (by decide) ?_
    refine lv_iadd hx hb dL_law_1790 ?_
    obtain ⟨hi54, hf⟩ := chk_t hf
    refine va_sld hx hb hX hbl hbA hS (inb_in hi54) dL_law_1791 ?_
    refine lv_topi (fun y55 hy55 => ?_)
    replace hf := keep_e hf y55 hy55
    refine lv_aload hx hb dL_law_1792 (lv_at hl 4 rfl) ?_
    obtain ⟨hv58, hf⟩ := chk_t hf
    replace hv58 := of_decide_eq_true hv58
    obtain ⟨u56, hc57, hf⟩ := bind_t hf
    obtain ⟨hv59, hf⟩ := chk_t hf
    replace hv59 := of_decide_eq_true hv59
    refine k_SWP (ws' := W_L cI cV cJ cD vf am a ad ao aod (unf (fk y53) (wS x) (dF u56.1), wM x, wO x, dO u56.1)) (As := [.ref (a 0), .int y53, .int y55, .ref (aod)]) (rest := []) (n := 4) ⟨hx, hb, hml, hown, hts⟩ (met_L_points l hlt (fk y53) vf (foO a (ad (fk y53)) aod) (hvf _ fk_lt) (foc (fk y53) (wS x), wD x) y53 y55 u56 hc57) w768 w769 w0 w770 ⟨by decide +kernel, by decide +kernel, by decide +kernel⟩ ⟨Nat.le_of_ble_eq_true rfl, Nat.le_of_ble_eq_true rfl⟩ hK hE hP hD hS hA (cut_LD x fk_lt hv58 u56.1 hv59) rfl hl.1 rfl (Nat.le_of_ble_eq_true rfl) dL_law_1794 ⟨show cb + 0 + 4 ≤ _ from Nat.le_trans (by omega) hcb, show sb + 0 + 24 ≤ _ from Nat.le_trans (by omega) hsb⟩ (fun H locs hP hD hS => ?_)
    try dsimp only at hf
    refine W.widen (k := cb + 6) (n := sb + 36) (show cb + 0 + 4 ≤ cb + 6 by omega) (show sb + 0 + 24 ≤ sb + 36 by omega) ?_
    refine W.eq (g2 := F0 m 1797 ls [.int u56.2]) rfl ?_
    obtain ⟨x60, hx60⟩ : ∃ z, z = (unf (fk y53) (wS x) (dF u56.1), wM x, wO x, dO u56.1) := ⟨_, rfl⟩
    replace hf := keep_e hf x60 hx60
    have hP : va_P D vwCl (W_L cI cV cJ cD vf am a ad ao aod x60) H := by rw [hx60]; exact hP
    have hD : va_D A (W_L cI cV cJ cD vf am a ad ao aod x60) := by rw [hx60]; exact hD
    refine lv_topi (fun y61 hy61 => ?_)
    replace hf := keep_e hf y61 hy61
    refine lv_istore (lv' := [(6, .int y61), (0, .ref (b)), (1, .ref (a 0)), (2, .ref (am 0)), (3, .ref (ao)), (4, .ref (aod)), (5, .int v5)]) hx hb dL_law_1797 hl (by decide) rfl (fun ls hl => ?_)
    refine lv_aload_n hx hb dL_law_1799 rfl (lv_at hl 3 rfl) ?_
    refine lv_aload_n hx hb dL_law_1800 rfl (lv_at hl 1 rfl) ?_
    refine lv_iload hx hb dL_law_1801 (lv_at hl 6 rfl) ?_
    refine lv_iconst (v := 1) hx hb dL_law_1803 (by decide) ?_
    refine lv_iadd hx hb dL_law_1804 ?_
    obtain ⟨hi62, hf⟩ := chk_t hf
    refine va_sld hx hb hX hbl hbA hS (inb_in hi62) dL_law_1805 ?_
    refine lv_topi (fun y63 hy63 => ?_)
    replace hf := keep_e hf y63 hy63
    refine lv_aload_n hx hb dL_law_1806 rfl (lv_at hl 1 rfl) ?_
    refine lv_iload hx hb dL_law_1807 (lv_at hl 6 rfl) ?_
    refine lv_iconst (v := 2) hx hb dL_law_1809 (by decide) ?_
    refine lv_iadd hx hb dL_law_1810 ?_
    obtain ⟨hi64, hf⟩ := chk_t hf
    refine va_sld hx hb hX hbl hbA hS (inb_in hi64) dL_law_1811 ?_
    refine lv_topi (fun y65 hy65 => ?_)
    replace hf := keep_e hf y65 hy65
    obtain ⟨u66, hc67, hf⟩ := bind_t hf
    refine k_VP (ws' := W_L cI cV cJ cD vf am a ad ao aod (wM_s x60 u66.1)) (As := [.int y63, .int y65]) (rest := []) (n := 2) ⟨hx, hb, hml, hown, hts⟩ (met_X8_points l am (wM x60) y63 y65 u66 hc67) w1145 w1146 w1147 w9 w1148 ⟨rfl, by decide +kernel, by decide +kernel, by decide +kernel⟩ ⟨Nat.le_of_ble_eq_true rfl, Nat.le_of_ble_eq_true rfl⟩ hK hE hP hD hS hA (cut_LM x60 u66.1) 0 7 rfl rfl rfl rfl hl.1 rfl (Nat.le_of_ble_eq_true rfl) dL_law_1812 ⟨show cb + 6 + 0 ≤ _ from Nat.le_trans (by omega) hcb, show sb + 36 + 0 ≤ _ from Nat.le_trans (by omega) hsb⟩ (fun H locs hP hD hS => ?_)
    try dsimp only at hf
    refine W.widen (k := cb + 6) (n := sb + 36) (show cb + 6 + 0 ≤ cb + 6 by omega) (show sb + 36 + 0 ≤ sb + 36 by omega) ?_
    refine W.eq (g2 := F0 m 1815 ls [.float u66.2]) rfl ?_
    obtain ⟨x68, hx68⟩ : ∃ z, z = (wM_s x60 u66.1) := ⟨_, rfl⟩
    replace hf := keep_e hf x68 hx68
    have hP : va_P D vwCl (W_L cI cV cJ cD vf am a ad ao aod x68) H := by rw [hx68]; exact hP
    have hD : va_D A (W_L cI cV cJ cD vf am a ad ao aod x68) := by rw [hx68]; exact hD
    refine lv_fstore (lv' := [(7, .float u66.2), (6, .int y61), (0, .ref (b)), (1, .ref (a 0)), (2, .ref (am 0)), (3, .ref (ao)), (4, .ref (aod)), (5, .int v5)]) hx hb dL_law_1815 hl (by decide) rfl (fun ls hl => ?_)
    refine lv_aload_n hx hb dL_law_1817 rfl (lv_at hl 4 rfl) ?_
    obtain ⟨u69, hc70, hf⟩ := bind_t hf
    refine k_VP (ws' := W_L cI cV cJ cD vf am a ad ao aod x68) (As := []) (rest := []) (n := 0) ⟨hx, hb, hml, hown, hts⟩ (met_X8_thrown l am (wM x68)  u69 hc70) w898 w899 w900 w9 w901 ⟨rfl, by decide +kernel, by decide +kernel, by decide +kernel⟩ ⟨Nat.le_of_ble_eq_true rfl, Nat.le_of_ble_eq_true rfl⟩ hK hE hP hD hS hA (cut_LMi x68) 0 7 rfl rfl rfl rfl hl.1 rfl (Nat.le_of_ble_eq_true rfl) dL_law_1818 ⟨show cb + 6 + 0 ≤ _ from Nat.le_trans (by omega) hcb, show sb + 36 + 0 ≤ _ from Nat.le_trans (by omega) hsb⟩ (fun H locs hP hD hS => ?_)
    try dsimp only at hf
    refine W.widen (k := cb + 6) (n := sb + 36) (show cb + 6 + 0 ≤ cb + 6 by omega) (show sb + 36 + 0 ≤ sb + 36 by omega) ?_
    refine W.eq (g2 := F0 m 1821 ls [.int u69]) rfl ?_
    refine lv_iload hx hb dL_law_1821 (lv_at hl 1 rfl) ?_
    refine lv_icmp_eq (tgt := 1828) hx hb dL_law_1823 (by decide) (fun c71 => ?_) (fun c71 => ?_)
    · replace hf := if_t c71 hf
      refine lv_iload hx hb dL_law_1828 (lv_at hl 1 rfl) ?_
      refine lv_if_ne (tgt := 1866) hx hb dL_law_1830 (by decide) (fun c72 => ?_) (fun c72 => ?_)
      · replace hf := if_f c72 hf
        refine lv_goto (tgt := 2017) hx hb dL_law_1866 (by decide) ?_
        exact L2017 rec cb sb hcb hsb hrec a x68 v5 H locs ls hf hP hD hS (lv_sub hl [2, 3, 4, 5, 6, 7] rfl)
      · replace hf := if_t c72 hf
        refine lv_aload hx hb dL_law_1833 (lv_at hl 6 rfl) ?_
        refine lv_iconst (v := 0) hx hb dL_law_1835 (by decide) ?_
        refine va_dald hx hb hK hP 16 3 rfl rfl (inb_in (by decide : inb 0 1 = true)) dL_law_1836 ?_
        refine lv_fload hx hb dL_law_1837 (lv_at hl 0 rfl) ?_
        obtain ⟨hz73, hf⟩ := chk_t hf
        refine lv_f2d hx hb dL_law_1839 (n64_t hz73) ?_
        refine lv_dcmp hx hb dL_law_1840 ?_
        refine lv_if_eq (tgt := 1866) hx hb dL_law_1841 (by decide) (fun c74 => ?_) (fun c74 => ?_)
        · replace hf := if_t c74 hf
          refine lv_goto (tgt := 2017) hx hb dL_law_1866 (by decide) ?_
          exact L2017 rec cb sb hcb hsb hrec a x68 v5 H locs ls hf hP hD hS (lv_sub hl [2, 3, 4, 5, 6, 7] rfl)
        · replace hf := if_f c74 hf
          refine lv_aload hx hb dL_law_1844 (lv_at hl 6 rfl) ?_
          refine lv_iconst (v := 0) hx hb dL_law_1846 (by decide) ?_
          refine va_dald hx hb hK hP 16 3 rfl rfl (inb_in (by decide : inb 0 1 = true)) dL_law_1847 ?_
          refine lv_aload hx hb dL_law_1848 (lv_at hl 6 rfl) ?_
          refine lv_iconst (v := 0) hx hb dL_law_1850 (by decide) ?_
          refine va_dald hx hb hK hP 16 3 rfl rfl (inb_in (by decide : inb 0 1 = true)) dL_law_1851 ?_
          refine lv_dcmp hx hb dL_law_1852 ?_
          refine lv_if_eq (tgt := 1864) hx hb dL_law_1853 (by decide) (fun c75 => ?_) (fun c75 => ?_)
          · replace hf := if_t c75 hf
            refine lv_iconst (v := 0) hx hb dL_law_1864 (by decide) ?_
            exact absurd (Option.some.inj hf) (by decide)
          · replace hf := if_f c75 hf
            refine lv_fload hx hb dL_law_1856 (lv_at hl 0 rfl) ?_
            refine lv_fload hx hb dL_law_1858 (lv_at hl 0 rfl) ?_
            refine lv_fcmp hx hb dL_law_1860 ?_
            refine lv_if_ne (tgt := 1866) hx hb dL_law_1861 (by decide) (fun c76 => ?_) (fun c76 => ?_)
            · replace hf := if_f c76 hf
              refine lv_goto (tgt := 2017) hx hb dL_law_1866 (by decide) ?_
              exact L2017 rec cb sb hcb hsb hrec a x68 v5 H locs ls hf hP hD hS (lv_sub hl [2, 3, 4, 5, 6, 7] rfl)
            · replace hf := if_t c76 hf
              refine lv_iconst (v := 0) hx hb dL_law_1864 (by decide) ?_
              exact absurd (Option.some.inj hf) (by decide)
    · replace hf := if_f c71 hf
      refine lv_iconst (v := 0) hx hb dL_law_1826 (by decide) ?_
      exact absurd (Option.some.inj hf) (by decide)
  have L1711 : ∀ (rec : LwSt × Int32 → Option Int32) (cb sb : Nat), cb + 6 ≤ room_1.cells → sb + 36 ≤ room_1.slots → (∀ (x : LwSt) (v5 : Int32) (a : Nat → Nat) (H : Heap) (locs : List Loc) (ls : Array Slot), rec (x, v5) = some 1 → va_P D vwCl (W_L cI cV cJ cD vf am a ad ao aod x) H → va_D A (W_L cI cV cJ cD vf am a ad ao aod x) → va_S A s.heap H locs → lv_has ls 8 [(0, .ref (b)), (1, .ref (a 0)), (2, .ref (am 0)), (3, .ref (ao)), (4, .ref (aod)), (5, .int v5)] → W p l e room_1 s m #[Value.ref b] below meth c H locs (cb + 6) (sb + 36) (lw_Z below #[Value.ref b] s) (F0 m 28 ls [])) → ∀ (a : Nat → Nat) (x : LwSt) (v5 : Int32) (H : Heap) (locs : List Loc) (ls : Array Slot), fL_law_1711 L xs rec x v5  = some 1 → va_P D vwCl (W_L cI cV cJ cD vf am a ad ao aod x) H → va_D A (W_L cI cV cJ cD vf am a ad ao aod x) → va_S A s.heap H locs → lv_has ls 8 [(0, .ref (b)), (1, .ref (a 0)), (2, .ref (am 0)), (3, .ref (ao)), (4, .ref (aod)), (5, .int v5)] → W p l e room_1 s m #[Value.ref b] below meth c H locs (cb + 0) (sb + 0) (lw_Z below #[Value.ref b] s) (F0 m 1711 ls []) := by
    intro rec cb sb hcb hsb hrec a x v5 H locs ls hf hP hD hS hl
    dsimp only [fL_law_1711] at hf
    refine lv_aload_n hx hb dL_law_1711 rfl (lv_at hl 1 rfl) ?_
    refine lv_aload_n hx hb dL_law_1712 rfl (lv_at hl 0 rfl) ?_
    refine lv_iload hx hb dL_law_1713 (lv_at hl 5 rfl) ?_
    refine lv_iconst (v := 1) hx hb dL_law_1715 (by decide) ?_
    refine lv_iadd hx hb dL_law_1716 ?_
    obtain ⟨hi77, hf⟩ := chk_t hf
    refine va_sld hx hb hX hbl hbA hS (inb_in hi77) dL_law_1717 ?_
    refine lv_topi (fun y78 hy78 => ?_)
    replace hf := keep_e hf y78 hy78
    refine lv_aload_n hx hb dL_law_1718 rfl (lv_at hl 0 rfl) ?_
    refine lv_iload hx hb dL_law_1719 (lv_at hl 5 rfl) ?_
    refine lv_iconst (v := 2) hx hb dL_law_1721 (by decide) ?_
    refine lv_iadd hx hb dL_law_1722 ?_
    obtain ⟨hi79, hf⟩ := chk_t hf
    refine va_sld hx hb hX hbl hbA hS (inb_in hi79) dL_law_1723 ?_
    refine lv_topi (fun y80 hy80 => ?_)
    replace hf := keep_e hf y80 hy80
    refine lv_aload_n hx hb dL_law_1724 rfl (lv_at hl 3 rfl) ?_
    obtain ⟨hv83, hf⟩ := chk_t hf
    replace hv83 := of_decide_eq_true hv83
    obtain ⟨u81, hc82, hf⟩ := bind_t hf
    obtain ⟨hv84, hf⟩ := chk_t hf
    replace hv84 := of_decide_eq_true hv84
    refine k_SWP (ws' := W_L cI cV cJ cD vf am a ad ao aod (unf (fk y78) (wS x) (pF u81.1), wM x, pO u81.1, wD x)) (As := [.ref (a 0), .int y78, .int y80, .ref (ao)]) (rest := []) (n := 4) ⟨hx, hb, hml, hown, hts⟩ (met_L_indexOf l hlt (fk y78) vf (foO a (ad (fk y78)) ao) (hvf _ fk_lt) (foc (fk y78) (wS x), wO x) y78 y80 u81 hc82) w761 w762 w0 w763 ⟨by decide +kernel, by decide +kernel, by decide +kernel⟩ ⟨Nat.le_of_ble_eq_true rfl, Nat.le_of_ble_eq_true rfl⟩ hK hE hP hD hS hA (cut_LO x fk_lt hv83 u81.1 hv84) rfl hl.1 rfl (Nat.le_of_ble_eq_true rfl) dL_law_1725 ⟨show cb + 0 + 2 ≤ _ from Nat.le_trans (by omega) hcb, show sb + 0 + 12 ≤ _ from Nat.le_trans (by omega) hsb⟩ (fun H locs hP hD hS => ?_)
    try dsimp only at hf
    refine W.widen (k := cb + 6) (n := sb + 36) (show cb + 0 + 2 ≤ cb + 6 by omega) (show sb + 0 + 12 ≤ sb + 36 by omega) ?_
    refine W.eq (g2 := F0 m 1728 ls [.int u81.2]) rfl ?_
    obtain ⟨x85, hx85⟩ : ∃ z, z = (unf (fk y78) (wS x) (pF u81.1), wM x, pO u81.1, wD x) := ⟨_, rfl⟩
    replace hf := keep_e hf x85 hx85
    have hP : va_P D vwCl (W_L cI cV cJ cD vf am a ad ao aod x85) H := by rw [hx85]; exact hP
    have hD : va_D A (W_L cI cV cJ cD vf am a ad ao aod x85) := by rw [hx85]; exact hD
    refine lv_topi (fun y86 hy86 => ?_)
    replace hf := keep_e hf y86 hy86
    refine lv_istore (lv' := [(6, .int y86), (0, .ref (b)), (1, .ref (a 0)), (2, .ref (am 0)), (3, .ref (ao)), (4, .ref (aod)), (5, .int v5)]) hx hb dL_law_1728 hl (by decide) rfl (fun ls hl => ?_)
    refine lv_aload_n hx hb dL_law_1730 rfl (lv_at hl 3 rfl) ?_
    refine lv_aload_n hx hb dL_law_1731 rfl (lv_at hl 1 rfl) ?_
    refine lv_iload hx hb dL_law_1732 (lv_at hl 6 rfl) ?_
    refine lv_iconst (v := 1) hx hb dL_law_1734 (by decide) ?_
    refine lv_iadd hx hb dL_law_1735 ?_
    obtain ⟨hi87, hf⟩ := chk_t hf
    refine va_sld hx hb hX hbl hbA hS (inb_in hi87) dL_law_1736 ?_
    refine lv_topi (fun y88 hy88 => ?_)
    replace hf := keep_e hf y88 hy88
    refine lv_aload_n hx hb dL_law_1737 rfl (lv_at hl 1 rfl) ?_
    refine lv_iload hx hb dL_law_1738 (lv_at hl 6 rfl) ?_
    refine lv_iconst (v := 2) hx hb dL_law_1740 (by decide) ?_
    refine lv_iadd hx hb dL_law_1741 ?_
    obtain ⟨hi89, hf⟩ := chk_t hf
    refine va_sld hx hb hX hbl hbA hS (inb_in hi89) dL_law_1742 ?_
    refine lv_topi (fun y90 hy90 => ?_)
    replace hf := keep_e hf y90 hy90
    obtain ⟨u91, hc92, hf⟩ := bind_t hf
    refine k_VP (ws' := W_L cI cV cJ cD vf am a ad ao aod (wM_s x85 u91.1)) (As := [.int y88, .int y90]) (rest := []) (n := 2) ⟨hx, hb, hml, hown, hts⟩ (met_X8_indexOf l am (wM x85) y88 y90 u91 hc92) w1141 w1142 w1143 w9 w1144 ⟨rfl, by decide +kernel, by decide +kernel, by decide +kernel⟩ ⟨Nat.le_of_ble_eq_true rfl, Nat.le_of_ble_eq_true rfl⟩ hK hE hP hD hS hA (cut_LM x85 u91.1) 0 7 rfl rfl rfl rfl hl.1 rfl (Nat.le_of_ble_eq_true rfl) dL_law_1743 ⟨show cb + 6 + 0 ≤ _ from Nat.le_trans (by omega) hcb, show sb + 36 + 0 ≤ _ from Nat.le_trans (by omega) hsb⟩ (fun H locs hP hD hS => ?_)
    try dsimp only at hf
    refine W.widen (k := cb + 6) (n := sb + 36) (show cb + 6 + 0 ≤ cb + 6 by omega) (show sb + 36 + 0 ≤ sb + 36 by omega) ?_
    refine W.eq (g2 := F0 m 1746 ls [.int u91.2]) rfl ?_
    obtain ⟨x93, hx93⟩ : ∃ z, z = (wM_s x85 u91.1) := ⟨_, rfl⟩
    replace hf := keep_e hf x93 hx93
    have hP : va_P D vwCl (W_L cI cV cJ cD vf am a ad ao aod x93) H := by rw [hx93]; exact hP
    have hD : va_D A (W_L cI cV cJ cD vf am a ad ao aod x93) := by rw [hx93]; exact hD
    refine lv_topi (fun y94 hy94 => ?_)
    replace hf := keep_e hf y94 hy94
    refine lv_istore (lv' := [(7, .int y94), (6, .int y86), (0, .ref (b)), (1, .ref (a 0)), (2, .ref (am 0)), (3, .ref (ao)), (4, .ref (aod)), (5, .int v5)]) hx hb dL_law_1746 hl (by decide) rfl (fun ls hl => ?_)
    refine lv_aload_n hx hb dL_law_1748 rfl (lv_at hl 4 rfl) ?_
    obtain ⟨u95, hc96, hf⟩ := bind_t hf
    refine k_VP (ws' := W_L cI cV cJ cD vf am a ad ao aod x93) (As := []) (rest := []) (n := 0) ⟨hx, hb, hml, hown, hts⟩ (met_X8_thrown l am (wM x93)  u95 hc96) w898 w899 w900 w9 w901 ⟨rfl, by decide +kernel, by decide +kernel, by decide +kernel⟩ ⟨Nat.le_of_ble_eq_true rfl, Nat.le_of_ble_eq_true rfl⟩ hK hE hP hD hS hA (cut_LMi x93) 0 7 rfl rfl rfl rfl hl.1 rfl (Nat.le_of_ble_eq_true rfl) dL_law_1749 ⟨show cb + 6 + 0 ≤ _ from Nat.le_trans (by omega) hcb, show sb + 36 + 0 ≤ _ from Nat.le_trans (by omega) hsb⟩ (fun H locs hP hD hS => ?_)
    try dsimp only at hf
    refine W.widen (k := cb + 6) (n := sb + 36) (show cb + 6 + 0 ≤ cb + 6 by omega) (show sb + 36 + 0 ≤ sb + 36 by omega) ?_
    refine W.eq (g2 := F0 m 1752 ls [.int u95]) rfl ?_
    refine lv_iload hx hb dL_law_1752 (lv_at hl 1 rfl) ?_
    refine lv_icmp_eq (tgt := 1759) hx hb dL_law_1754 (by decide) (fun c97 => ?_) (fun c97 => ?_)
    · replace hf := if_t c97 hf
      refine lv_iload hx hb dL_law_1759 (lv_at hl 1 rfl) ?_
      refine lv_if_ne (tgt := 1776) hx hb dL_law_1761 (by decide) (fun c98 => ?_) (fun c98 => ?_)
      · replace hf := if_f c98 hf
        refine lv_goto (tgt := 2017) hx hb dL_law_1776 (by decide) ?_
        exact L2017 rec cb sb hcb hsb hrec a x93 v5 H locs ls hf hP hD hS (lv_sub hl [2, 3, 4, 5, 6, 7] rfl)
      · replace hf := if_t c98 hf
        refine lv_aload_n hx hb dL_law_1764 rfl (lv_at hl 5 rfl) ?_
        refine lv_iconst (v := 0) hx hb dL_law_1765 (by decide) ?_
        refine va_lald hx hb hK hP 15 2 rfl rfl (inb_in (by decide : inb 0 1 = true)) dL_law_1766 ?_
        refine lv_iload hx hb dL_law_1767 (lv_at hl 0 rfl) ?_
        refine lv_i2l (v := (y94).toInt64) hx hb dL_law_1769 rfl ?_
        refine k_lcmp hx hb dL_law_1770 ?_
        refine lv_if_eq (tgt := 1776) hx hb dL_law_1771 (by decide) (fun c99 => ?_) (fun c99 => ?_)
        · replace hf := if_t c99 hf
          refine lv_goto (tgt := 2017) hx hb dL_law_1776 (by decide) ?_
          exact L2017 rec cb sb hcb hsb hrec a x93 v5 H locs ls hf hP hD hS (lv_sub hl [2, 3, 4, 5, 6, 7] rfl)
        · replace hf := if_f c99 hf
          refine lv_iconst (v := 0) hx hb dL_law_1774 (by decide) ?_
          exact absurd (Option.some.inj hf) (by decide)
    · replace hf := if_f c97 hf
      refine lv_iconst (v := 0) hx hb dL_law_1757 (by decide) ?_
      exact absurd (Option.some.inj hf) (by decide)
  have L1643 : ∀ (rec : LwSt × Int32 → Option Int32) (cb sb : Nat), cb + 6 ≤ room_1.cells → sb + 36 ≤ room_1.slots → (∀ (x : LwSt) (v5 : Int32) (a : Nat → Nat) (H : Heap) (locs : List Loc) (ls : Array Slot), rec (x, v5) = some 1 → va_P D vwCl (W_L cI cV cJ cD vf am a ad ao aod x) H → va_D A (W_L cI cV cJ cD vf am a ad ao aod x) → va_S A s.heap H locs → lv_has ls 8 [(0, .ref (b)), (1, .ref (a 0)), (2, .ref (am 0)), (3, .ref (ao)), (4, .ref (aod)), (5, .int v5)] → W p l e room_1 s m #[Value.ref b] below meth c H locs (cb + 6) (sb + 36) (lw_Z below #[Value.ref b] s) (F0 m 28 ls [])) → ∀ (a : Nat → Nat) (x : LwSt) (v5 : Int32) (H : Heap) (locs : List Loc) (ls : Array Slot), fL_law_1643 L xs rec x v5  = some 1 → va_P D vwCl (W_L cI cV cJ cD vf am a ad ao aod x) H → va_D A (W_L cI cV cJ cD vf am a ad ao aod x) → va_S A s.heap H locs → lv_has ls 8 [(0, .ref (b)), (1, .ref (a 0)), (2, .ref (am 0)), (3, .ref (ao)), (4, .ref (aod)), (5, .int v5)] → W p l e room_1 s m #[Value.ref b] below meth c H locs (cb + 0) (sb + 0) (lw_Z below #[Value.ref b] s) (F0 m 1643 ls []) := by
    intro rec cb sb hcb hsb hrec a x v5 H locs ls hf hP hD hS hl
    dsimp only [fL_law_1643] at hf
    refine lv_aload_n hx hb dL_law_1643 rfl (lv_at hl 1 rfl) ?_
    refine lv_aload_n hx hb dL_law_1644 rfl (lv_at hl 0 rfl) ?_
    refine lv_iload hx hb dL_law_1645 (lv_at hl 5 rfl) ?_
    refine lv_iconst (v := 1) hx hb dL_law_1647 (by decide) ?_
    refine lv_iadd hx hb dL_law_1648 ?_
    obtain ⟨hi100, hf⟩ := chk_t hf
    refine va_sld hx hb hX hbl hbA hS (inb_in hi100) dL_law_1649 ?_
    refine lv_topi (fun y101 hy101 => ?_)
    replace hf := keep_e hf y101 hy101
    refine lv_aload_n hx hb dL_law_1650 rfl (lv_at hl 0 rfl) ?_
    refine lv_iload hx hb dL_law_1651 (lv_at hl 5 rfl) ?_
    refine lv_iconst (v := 2) hx hb dL_law_1653 (by decide) ?_
    refine lv_iadd hx hb dL_law_1654 ?_
    obtain ⟨hi102, hf⟩ := chk_t hf
    refine va_sld hx hb hX hbl hbA hS (inb_in hi102) dL_law_1655 ?_
    refine lv_topi (fun y103 hy103 => ?_)
    replace hf := keep_e hf y103 hy103
    refine lv_aload_n hx hb dL_law_1656 rfl (lv_at hl 3 rfl) ?_
    obtain ⟨hv106, hf⟩ := chk_t hf
    replace hv106 := of_decide_eq_true hv106
    obtain ⟨u104, hc105, hf⟩ := bind_t hf
    obtain ⟨hv107, hf⟩ := chk_t hf
    replace hv107 := of_decide_eq_true hv107
    refine k_SWP (ws' := W_L cI cV cJ cD vf am a ad ao aod (unf (fk y101) (wS x) (pF u104.1), wM x, pO u104.1, wD x)) (As := [.ref (a 0), .int y101, .int y103, .ref (ao)]) (rest := []) (n := 4) ⟨hx, hb, hml, hown, hts⟩ (met_L_atByPlain l hlt (fk y101) vf (foO a (ad (fk y101)) ao) (hvf _ fk_lt) (foc (fk y101) (wS x), wO x) y101 y103 u104 hc105) w754 w755 w0 w756 ⟨by decide +kernel, by decide +kernel, by decide +kernel⟩ ⟨Nat.le_of_ble_eq_true rfl, Nat.le_of_ble_eq_true rfl⟩ hK hE hP hD hS hA (cut_LO x fk_lt hv106 u104.1 hv107) rfl hl.1 rfl (Nat.le_of_ble_eq_true rfl) dL_law_1657 ⟨show cb + 0 + 2 ≤ _ from Nat.le_trans (by omega) hcb, show sb + 0 + 12 ≤ _ from Nat.le_trans (by omega) hsb⟩ (fun H locs hP hD hS => ?_)
    try dsimp only at hf
    refine W.widen (k := cb + 6) (n := sb + 36) (show cb + 0 + 2 ≤ cb + 6 by omega) (show sb + 0 + 12 ≤ sb + 36 by omega) ?_
    refine W.eq (g2 := F0 m 1660 ls [.int u104.2]) rfl ?_
    obtain ⟨x108, hx108⟩ : ∃ z, z = (unf (fk y101) (wS x) (pF u104.1), wM x, pO u104.1, wD x) := ⟨_, rfl⟩
    replace hf := keep_e hf x108 hx108
    have hP : va_P D vwCl (W_L cI cV cJ cD vf am a ad ao aod x108) H := by rw [hx108]; exact hP
    have hD : va_D A (W_L cI cV cJ cD vf am a ad ao aod x108) := by rw [hx108]; exact hD
    refine lv_topi (fun y109 hy109 => ?_)
    replace hf := keep_e hf y109 hy109
    refine lv_istore (lv' := [(6, .int y109), (0, .ref (b)), (1, .ref (a 0)), (2, .ref (am 0)), (3, .ref (ao)), (4, .ref (aod)), (5, .int v5)]) hx hb dL_law_1660 hl (by decide) rfl (fun ls hl => ?_)
    refine lv_aload_n hx hb dL_law_1662 rfl (lv_at hl 3 rfl) ?_
    refine lv_aload_n hx hb dL_law_1663 rfl (lv_at hl 1 rfl) ?_
    refine lv_iload hx hb dL_law_1664 (lv_at hl 6 rfl) ?_
    refine lv_iconst (v := 1) hx hb dL_law_1666 (by decide) ?_
    refine lv_iadd hx hb dL_law_1667 ?_
    obtain ⟨hi110, hf⟩ := chk_t hf
    refine va_sld hx hb hX hbl hbA hS (inb_in hi110) dL_law_1668 ?_
    refine lv_topi (fun y111 hy111 => ?_)
    replace hf := keep_e hf y111 hy111
    refine lv_aload_n hx hb dL_law_1669 rfl (lv_at hl 1 rfl) ?_
    refine lv_iload hx hb dL_law_1670 (lv_at hl 6 rfl) ?_
    refine lv_iconst (v := 2) hx hb dL_law_1672 (by decide) ?_
    refine lv_iadd hx hb dL_law_1673 ?_
    obtain ⟨hi112, hf⟩ := chk_t hf
    refine va_sld hx hb hX hbl hbA hS (inb_in hi112) dL_law_1674 ?_
    refine lv_topi (fun y113 hy113 => ?_)
    replace hf := keep_e hf y113 hy113
    obtain ⟨u114, hc115, hf⟩ := bind_t hf
    refine k_VP (ws' := W_L cI cV cJ cD vf am a ad ao aod (wM_s x108 u114.1)) (As := [.int y111, .int y113]) (rest := []) (n := 2) ⟨hx, hb, hml, hown, hts⟩ (met_X8_atByPlain l am (wM x108) y111 y113 u114 hc115) w1137 w1138 w1139 w9 w1140 ⟨rfl, by decide +kernel, by decide +kernel, by decide +kernel⟩ ⟨Nat.le_of_ble_eq_true rfl, Nat.le_of_ble_eq_true rfl⟩ hK hE hP hD hS hA (cut_LM x108 u114.1) 0 7 rfl rfl rfl rfl hl.1 rfl (Nat.le_of_ble_eq_true rfl) dL_law_1675 ⟨show cb + 6 + 0 ≤ _ from Nat.le_trans (by omega) hcb, show sb + 36 + 0 ≤ _ from Nat.le_trans (by omega) hsb⟩ (fun H locs hP hD hS => ?_)
    try dsimp only at hf
    refine W.widen (k := cb + 6) (n := sb + 36) (show cb + 6 + 0 ≤ cb + 6 by omega) (show sb + 36 + 0 ≤ sb + 36 by omega) ?_
    refine W.eq (g2 := F0 m 1678 ls [.int u114.2]) rfl ?_
    obtain ⟨x116, hx116⟩ : ∃ z, z = (wM_s x108 u114.1) := ⟨_, rfl⟩
    replace hf := keep_e hf x116 hx116
    have hP : va_P D vwCl (W_L cI cV cJ cD vf am a ad ao aod x116) H := by rw [hx116]; exact hP
    have hD : va_D A (W_L cI cV cJ cD vf am a ad ao aod x116) := by rw [hx116]; exact hD
    refine lv_topi (fun y117 hy117 => ?_)
    replace hf := keep_e hf y117 hy117
    refine lv_istore (lv' := [(7, .int y117), (6, .int y109), (0, .ref (b)), (1, .ref (a 0)), (2, .ref (am 0)), (3, .ref (ao)), (4, .ref (aod)), (5, .int v5)]) hx hb dL_law_1678 hl (by decide) rfl (fun ls hl => ?_)
    refine lv_aload_n hx hb dL_law_1680 rfl (lv_at hl 4 rfl) ?_
    obtain ⟨u118, hc119, hf⟩ := bind_t hf
    refine k_VP (ws' := W_L cI cV cJ cD vf am a ad ao aod x116) (As := []) (rest := []) (n := 0) ⟨hx, hb, hml, hown, hts⟩ (met_X8_thrown l am (wM x116)  u118 hc119) w898 w899 w900 w9 w901 ⟨rfl, by decide +kernel, by decide +kernel, by decide +kernel⟩ ⟨Nat.le_of_ble_eq_true rfl, Nat.le_of_ble_eq_true rfl⟩ hK hE hP hD hS hA (cut_LMi x116) 0 7 rfl rfl rfl rfl hl.1 rfl (Nat.le_of_ble_eq_true rfl) dL_law_1681 ⟨show cb + 6 + 0 ≤ _ from Nat.le_trans (by omega) hcb, show sb + 36 + 0 ≤ _ from Nat.le_trans (by omega) hsb⟩ (fun H locs hP hD hS => ?_)
    try dsimp only at hf
    refine W.widen (k := cb + 6) (n := sb + 36) (show cb + 6 + 0 ≤ cb + 6 by omega) (show sb + 36 + 0 ≤ sb + 36 by omega) ?_
    refine W.eq (g2 := F0 m 1684 ls [.int u118]) rfl ?_
    refine lv_iload hx hb dL_law_1684 (lv_at hl 1 rfl) ?_
    refine lv_icmp_eq (tgt := 1691) hx hb dL_law_1686 (by decide) (fun c120 => ?_) (fun c120 => ?_)
    · replace hf := if_t c120 hf
      refine lv_iload hx hb dL_law_1691 (lv_at hl 1 rfl) ?_
      refine lv_if_ne (tgt := 1708) hx hb dL_law_1693 (by decide) (fun c121 => ?_) (fun c121 => ?_)
      · replace hf := if_f c121 hf
        refine lv_goto (tgt := 2017) hx hb dL_law_1708 (by decide) ?_
        exact L2017 rec cb sb hcb hsb hrec a x116 v5 H locs ls hf hP hD hS (lv_sub hl [2, 3, 4, 5, 6, 7] rfl)
      · replace hf := if_t c121 hf
        refine lv_aload_n hx hb dL_law_1696 rfl (lv_at hl 5 rfl) ?_
        refine lv_iconst (v := 0) hx hb dL_law_1697 (by decide) ?_
        refine va_lald hx hb hK hP 15 2 rfl rfl (inb_in (by decide : inb 0 1 = true)) dL_law_1698 ?_
        refine lv_iload hx hb dL_law_1699 (lv_at hl 0 rfl) ?_
        refine lv_i2l (v := (y117).toInt64) hx hb dL_law_1701 rfl ?_
        refine k_lcmp hx hb dL_law_1702 ?_
        refine lv_if_eq (tgt := 1708) hx hb dL_law_1703 (by decide) (fun c122 => ?_) (fun c122 => ?_)
        · replace hf := if_t c122 hf
          refine lv_goto (tgt := 2017) hx hb dL_law_1708 (by decide) ?_
          exact L2017 rec cb sb hcb hsb hrec a x116 v5 H locs ls hf hP hD hS (lv_sub hl [2, 3, 4, 5, 6, 7] rfl)
        · replace hf := if_f c122 hf
          refine lv_iconst (v := 0) hx hb dL_law_1706 (by decide) ?_
          exact absurd (Option.some.inj hf) (by decide)
    · replace hf := if_f c120 hf
      refine lv_iconst (v := 0) hx hb dL_law_1689 (by decide) ?_
      exact absurd (Option.some.inj hf) (by decide)
  have L1575 : ∀ (rec : LwSt × Int32 → Option Int32) (cb sb : Nat), cb + 6 ≤ room_1.cells → sb + 36 ≤ room_1.slots → (∀ (x : LwSt) (v5 : Int32) (a : Nat → Nat) (H : Heap) (locs : List Loc) (ls : Array Slot), rec (x, v5) = some 1 → va_P D vwCl (W_L cI cV cJ cD vf am a ad ao aod x) H → va_D A (W_L cI cV cJ cD vf am a ad ao aod x) → va_S A s.heap H locs → lv_has ls 8 [(0, .ref (b)), (1, .ref (a 0)), (2, .ref (am 0)), (3, .ref (ao)), (4, .ref (aod)), (5, .int v5)] → W p l e room_1 s m #[Value.ref b] below meth c H locs (cb + 6) (sb + 36) (lw_Z below #[Value.ref b] s) (F0 m 28 ls [])) → ∀ (a : Nat → Nat) (x : LwSt) (v5 : Int32) (H : Heap) (locs : List Loc) (ls : Array Slot), fL_law_1575 L xs rec x v5  = some 1 → va_P D vwCl (W_L cI cV cJ cD vf am a ad ao aod x) H → va_D A (W_L cI cV cJ cD vf am a ad ao aod x) → va_S A s.heap H locs → lv_has ls 8 [(0, .ref (b)), (1, .ref (a 0)), (2, .ref (am 0)), (3, .ref (ao)), (4, .ref (aod)), (5, .int v5)] → W p l e room_1 s m #[Value.ref b] below meth c H locs (cb + 0) (sb + 0) (lw_Z below #[Value.ref b] s) (F0 m 1575 ls []) := by
    intro rec cb sb hcb hsb hrec a x v5 H locs ls hf hP hD hS hl
    dsimp only [fL_law_1575] at hf
    refine lv_aload_n hx hb dL_law_1575 rfl (lv_at hl 1 rfl) ?_
    refine lv_aload_n hx hb dL_law_1576 rfl (lv_at hl 0 rfl) ?_
    refine lv_iload hx hb dL_law_1577 (lv_at hl 5 rfl) ?_
    refine lv_iconst (v := 1) hx hb dL_law_1579 (by decide) ?_
    refine lv_iadd hx hb dL_law_1580 ?_
    obtain ⟨hi123, hf⟩ := chk_t hf
    refine va_sld hx hb hX hbl hbA hS (inb_in hi123) dL_law_1581 ?_
    refine lv_topi (fun y124 hy124 => ?_)
    replace hf := keep_e hf y124 hy124
    refine lv_aload_n hx hb dL_law_1582 rfl (lv_at hl 0 rfl) ?_
    refine lv_iload hx hb dL_law_1583 (lv_at hl 5 rfl) ?_
    refine lv_iconst (v := 2) hx hb dL_law_1585 (by decide) ?_
    refine lv_iadd hx hb dL_law_1586 ?_
    obtain ⟨hi125, hf⟩ := chk_t hf
    refine va_sld hx hb hX hbl hbA hS (inb_in hi125) dL_law_1587 ?_
    refine lv_topi (fun y126 hy126 => ?_)
    replace hf := keep_e hf y126 hy126
    refine lv_aload_n hx hb dL_law_1588 rfl (lv_at hl 3 rfl) ?_
    obtain ⟨hv129, hf⟩ := chk_t hf
    replace hv129 := of_decide_eq_true hv129
    obtain ⟨u127, hc128, hf⟩ := bind_t hf
    obtain ⟨hv130, hf⟩ := chk_t hf
    replace hv130 := of_decide_eq_true hv130
    refine k_SWP (ws' := W_L cI cV cJ cD vf am a ad ao aod (unf (fk y124) (wS x) (pF u127.1), wM x, pO u127.1, wD x)) (As := [.ref (a 0), .int y124, .int y126, .ref (ao)]) (rest := []) (n := 4) ⟨hx, hb, hml, hown, hts⟩ (met_L_at l hlt (fk y124) vf (foO a (ad (fk y124)) ao) (hvf _ fk_lt) (foc (fk y124) (wS x), wO x) y124 y126 u127 hc128) w741 w742 w0 w743 ⟨by decide +kernel, by decide +kernel, by decide +kernel⟩ ⟨Nat.le_of_ble_eq_true rfl, Nat.le_of_ble_eq_true rfl⟩ hK hE hP hD hS hA (cut_LO x fk_lt hv129 u127.1 hv130) rfl hl.1 rfl (Nat.le_of_ble_eq_true rfl) dL_law_1589 ⟨show cb + 0 + 2 ≤ _ from Nat.le_trans (by omega) hcb, show sb + 0 + 12 ≤ _ from Nat.le_trans (by omega) hsb⟩ (fun H locs hP hD hS => ?_)
    try dsimp only at hf
    refine W.widen (k := cb + 6) (n := sb + 36) (show cb + 0 + 2 ≤ cb + 6 by omega) (show sb + 0 + 12 ≤ sb + 36 by omega) ?_
    refine W.eq (g2 := F0 m 1592 ls [.int u127.2]) rfl ?_
    obtain ⟨x131, hx131⟩ : ∃ z, z = (unf (fk y124) (wS x) (pF u127.1), wM x, pO u127.1, wD x) := ⟨_, rfl⟩
    replace hf := keep_e hf x131 hx131
    have hP : va_P D vwCl (W_L cI cV cJ cD vf am a ad ao aod x131) H := by rw [hx131]; exact hP
    have hD : va_D A (W_L cI cV cJ cD vf am a ad ao aod x131) := by rw [hx131]; exact hD
    refine lv_topi (fun y132 hy132 => ?_)
    replace hf := keep_e hf y132 hy132
    refine lv_istore (lv' := [(6, .int y132), (0, .ref (b)), (1, .ref (a 0)), (2, .ref (am 0)), (3, .ref (ao)), (4, .ref (aod)), (5, .int v5)]) hx hb dL_law_1592 hl (by decide) rfl (fun ls hl => ?_)
    refine lv_aload_n hx hb dL_law_1594 rfl (lv_at hl 3 rfl) ?_
    refine lv_aload_n hx hb dL_law_1595 rfl (lv_at hl 1 rfl) ?_
    refine lv_iload hx hb dL_law_1596 (lv_at hl 6 rfl) ?_
    refine lv_iconst (v := 1) hx hb dL_law_1598 (by decide) ?_
    refine lv_iadd hx hb dL_law_1599 ?_
    obtain ⟨hi133, hf⟩ := chk_t hf
    refine va_sld hx hb hX hbl hbA hS (inb_in hi133) dL_law_1600 ?_
    refine lv_topi (fun y134 hy134 => ?_)
    replace hf := keep_e hf y134 hy134
    refine lv_aload_n hx hb dL_law_1601 rfl (lv_at hl 1 rfl) ?_
    refine lv_iload hx hb dL_law_1602 (lv_at hl 6 rfl) ?_
    refine lv_iconst (v := 2) hx hb dL_law_1604 (by decide) ?_
    refine lv_iadd hx hb dL_law_1605 ?_
    obtain ⟨hi135, hf⟩ := chk_t hf
    refine va_sld hx hb hX hbl hbA hS (inb_in hi135) dL_law_1606 ?_
    refine lv_topi (fun y136 hy136 => ?_)
    replace hf := keep_e hf y136 hy136
    obtain ⟨u137, hc138, hf⟩ := bind_t hf
    refine k_VP (ws' := W_L cI cV cJ cD vf am a ad ao aod (wM_s x131 u137.1)) (As := [.int y134, .int y136]) (rest := []) (n := 2) ⟨hx, hb, hml, hown, hts⟩ (met_X8_at l am (wM x131) y134 y136 u137 hc138) w1129 w1130 w1131 w9 w1132 ⟨rfl, by decide +kernel, by decide +kernel, by decide +kernel⟩ ⟨Nat.le_of_ble_eq_true rfl, Nat.le_of_ble_eq_true rfl⟩ hK hE hP hD hS hA (cut_LM x131 u137.1) 0 7 rfl rfl rfl rfl hl.1 rfl (Nat.le_of_ble_eq_true rfl) dL_law_1607 ⟨show cb + 6 + 0 ≤ _ from Nat.le_trans (by omega) hcb, show sb + 36 + 0 ≤ _ from Nat.le_trans (by omega) hsb⟩ (fun H locs hP hD hS => ?_)
    try dsimp only at hf
    refine W.widen (k := cb + 6) (n := sb + 36) (show cb + 6 + 0 ≤ cb + 6 by omega) (show sb + 36 + 0 ≤ sb + 36 by omega) ?_
    refine W.eq (g2 := F0 m 1610 ls [.int u137.2]) rfl ?_
    obtain ⟨x139, hx139⟩ : ∃ z, z = (wM_s x131 u137.1) := ⟨_, rfl⟩
    replace hf := keep_e hf x139 hx139
    have hP : va_P D vwCl (W_L cI cV cJ cD vf am a ad ao aod x139) H := by rw [hx139]; exact hP
    have hD : va_D A (W_L cI cV cJ cD vf am a ad ao aod x139) := by rw [hx139]; exact hD
    refine lv_topi (fun y140 hy140 => ?_)
    replace hf := keep_e hf y140 hy140
    refine lv_istore (lv' := [(7, .int y140), (6, .int y132), (0, .ref (b)), (1, .ref (a 0)), (2, .ref (am 0)), (3, .ref (ao)), (4, .ref (aod)), (5, .int v5)]) hx hb dL_law_1610 hl (by decide) rfl (fun ls hl => ?_)
    refine lv_aload_n hx hb dL_law_1612 rfl (lv_at hl 4 rfl) ?_
    obtain ⟨u141, hc142, hf⟩ := bind_t hf
    refine k_VP (ws' := W_L cI cV cJ cD vf am a ad ao aod x139) (As := []) (rest := []) (n := 0) ⟨hx, hb, hml, hown, hts⟩ (met_X8_thrown l am (wM x139)  u141 hc142) w898 w899 w900 w9 w901 ⟨rfl, by decide +kernel, by decide +kernel, by decide +kernel⟩ ⟨Nat.le_of_ble_eq_true rfl, Nat.le_of_ble_eq_true rfl⟩ hK hE hP hD hS hA (cut_LMi x139) 0 7 rfl rfl rfl rfl hl.1 rfl (Nat.le_of_ble_eq_true rfl) dL_law_1613 ⟨show cb + 6 + 0 ≤ _ from Nat.le_trans (by omega) hcb, show sb + 36 + 0 ≤ _ from Nat.le_trans (by omega) hsb⟩ (fun H locs hP hD hS => ?_)
    try dsimp only at hf
    refine W.widen (k := cb + 6) (n := sb + 36) (show cb + 6 + 0 ≤ cb + 6 by omega) (show sb + 36 + 0 ≤ sb + 36 by omega) ?_
    refine W.eq (g2 := F0 m 1616 ls [.int u141]) rfl ?_
    refine lv_iload hx hb dL_law_1616 (lv_at hl 1 rfl) ?_
    refine lv_icmp_eq (tgt := 1623) hx hb dL_law_1618 (by decide) (fun c143 => ?_) (fun c143 => ?_)
    · replace hf := if_t c143 hf
      refine lv_iload hx hb dL_law_1623 (lv_at hl 1 rfl) ?_
      refine lv_if_ne (tgt := 1640) hx hb dL_law_1625 (by decide) (fun c144 => ?_) (fun c144 => ?_)
      · replace hf := if_f c144 hf
        refine lv_goto (tgt := 2017) hx hb dL_law_1640 (by decide) ?_
        exact L2017 rec cb sb hcb hsb hrec a x139 v5 H locs ls hf hP hD hS (lv_sub hl [2, 3, 4, 5, 6, 7] rfl)
      · replace hf := if_t c144 hf
        refine lv_aload_n hx hb dL_law_1628 rfl (lv_at hl 5 rfl) ?_
        refine lv_iconst (v := 0) hx hb dL_law_1629 (by decide) ?_
        refine va_lald hx hb hK hP 15 2 rfl rfl (inb_in (by decide : inb 0 1 = true)) dL_law_1630 ?_
        refine lv_iload hx hb dL_law_1631 (lv_at hl 0 rfl) ?_
        refine lv_i2l (v := (y140).toInt64) hx hb dL_law_1633 rfl ?_
        refine k_lcmp hx hb dL_law_1634 ?_
        refine lv_if_eq (tgt := 1640) hx hb dL_law_1635 (by decide) (fun c145 => ?_) (fun c145 => ?_)
        · replace hf := if_t c145 hf
          refine lv_goto (tgt := 2017) hx hb dL_law_1640 (by decide) ?_
          exact L2017 rec cb sb hcb hsb hrec a x139 v5 H locs ls hf hP hD hS (lv_sub hl [2, 3, 4, 5, 6, 7] rfl)
        · replace hf := if_f c145 hf
          refine lv_iconst (v := 0) hx hb dL_law_1638 (by decide) ?_
          exact absurd (Option.some.inj hf) (by decide)
    · replace hf := if_f c143 hf
      refine lv_iconst (v := 0) hx hb dL_law_1621 (by decide) ?_
      exact absurd (Option.some.inj hf) (by decide)
  have L1519 : ∀ (rec : LwSt × Int32 → Option Int32) (cb sb : Nat), cb + 6 ≤ room_1.cells → sb + 36 ≤ room_1.slots → (∀ (x : LwSt) (v5 : Int32) (a : Nat → Nat) (H : Heap) (locs : List Loc) (ls : Array Slot), rec (x, v5) = some 1 → va_P D vwCl (W_L cI cV cJ cD vf am a ad ao aod x) H → va_D A (W_L cI cV cJ cD vf am a ad ao aod x) → va_S A s.heap H locs → lv_has ls 8 [(0, .ref (b)), (1, .ref (a 0)), (2, .ref (am 0)), (3, .ref (ao)), (4, .ref (aod)), (5, .int v5)] → W p l e room_1 s m #[Value.ref b] below meth c H locs (cb + 6) (sb + 36) (lw_Z below #[Value.ref b] s) (F0 m 28 ls [])) → ∀ (a : Nat → Nat) (x : LwSt) (v5 : Int32) (H : Heap) (locs : List Loc) (ls : Array Slot), fL_law_1519 L xs rec x v5  = some 1 → va_P D vwCl (W_L cI cV cJ cD vf am a ad ao aod x) H → va_D A (W_L cI cV cJ cD vf am a ad ao aod x) → va_S A s.heap H locs → lv_has ls 8 [(0, .ref (b)), (1, .ref (a 0)), (2, .ref (am 0)), (3, .ref (ao)), (4, .ref (aod)), (5, .int v5)] → W p l e room_1 s m #[Value.ref b] below meth c H locs (cb + 0) (sb + 0) (lw_Z below #[Value.ref b] s) (F0 m 1519 ls []) := by
    intro rec cb sb hcb hsb hrec a x v5 H locs ls hf hP hD hS hl
    dsimp only [fL_law_1519] at hf
    refine lv_aload_n hx hb dL_law_1519 rfl (lv_at hl 1 rfl) ?_
    refine lv_aload_n hx hb dL_law_1520 rfl (lv_at hl 0 rfl) ?_
    refine lv_iload hx hb dL_law_1521 (lv_at hl 5 rfl) ?_
    refine lv_iconst (v := 1) hx hb dL_law_1523 (by decide) ?_
    refine lv_iadd hx hb dL_law_1524 ?_
    obtain ⟨hi146, hf⟩ := chk_t hf
    refine va_sld hx hb hX hbl hbA hS (inb_in hi146) dL_law_1525 ?_
    refine lv_topi (fun y147 hy147 => ?_)
    replace hf := keep_e hf y147 hy147
    refine lv_aload_n hx hb dL_law_1526 rfl (lv_at hl 3 rfl) ?_
    obtain ⟨hv150, hf⟩ := chk_t hf
    replace hv150 := of_decide_eq_true hv150
    obtain ⟨u148, hc149, hf⟩ := bind_t hf
    obtain ⟨hv151, hf⟩ := chk_t hf
    replace hv151 := of_decide_eq_true hv151
    refine k_SWP (ws' := W_L cI cV cJ cD vf am a ad ao aod (unf (fk y147) (wS x) (pF u148.1), wM x, pO u148.1, wD x)) (As := [.ref (a 0), .int y147, .ref (ao)]) (rest := []) (n := 3) ⟨hx, hb, hml, hown, hts⟩ (met_L_size l hlt (fk y147) vf (foO a (ad (fk y147)) ao) (hvf _ fk_lt) (foc (fk y147) (wS x), wO x) y147 u148 hc149) w734 w735 w0 w736 ⟨by decide +kernel, by decide +kernel, by decide +kernel⟩ ⟨Nat.le_of_ble_eq_true rfl, Nat.le_of_ble_eq_true rfl⟩ hK hE hP hD hS hA (cut_LO x fk_lt hv150 u148.1 hv151) rfl hl.1 rfl (Nat.le_of_ble_eq_true rfl) dL_law_1527 ⟨show cb + 0 + 1 ≤ _ from Nat.le_trans (by omega) hcb, show sb + 0 + 6 ≤ _ from Nat.le_trans (by omega) hsb⟩ (fun H locs hP hD hS => ?_)
    try dsimp only at hf
    refine W.widen (k := cb + 6) (n := sb + 36) (show cb + 0 + 1 ≤ cb + 6 by omega) (show sb + 0 + 6 ≤ sb + 36 by omega) ?_
    refine W.eq (g2 := F0 m 1530 ls [.int u148.2]) rfl ?_
    obtain ⟨x152, hx152⟩ : ∃ z, z = (unf (fk y147) (wS x) (pF u148.1), wM x, pO u148.1, wD x) := ⟨_, rfl⟩
    replace hf := keep_e hf x152 hx152
    have hP : va_P D vwCl (W_L cI cV cJ cD vf am a ad ao aod x152) H := by rw [hx152]; exact hP
    have hD : va_D A (W_L cI cV cJ cD vf am a ad ao aod x152) := by rw [hx152]; exact hD
    refine lv_topi (fun y153 hy153 => ?_)
    replace hf := keep_e hf y153 hy153
    refine lv_istore (lv' := [(6, .int y153), (0, .ref (b)), (1, .ref (a 0)), (2, .ref (am 0)), (3, .ref (ao)), (4, .ref (aod)), (5, .int v5)]) hx hb dL_law_1530 hl (by decide) rfl (fun ls hl => ?_)
    refine lv_aload_n hx hb dL_law_1532 rfl (lv_at hl 3 rfl) ?_
    refine lv_aload_n hx hb dL_law_1533 rfl (lv_at hl 1 rfl) ?_
    refine lv_iload hx hb dL_law_1534 (lv_at hl 6 rfl) ?_
    refine lv_iconst (v := 1) hx hb dL_law_1536 (by decide) ?_
    refine lv_iadd hx hb dL_law_1537 ?_
    obtain ⟨hi154, hf⟩ := chk_t hf
    refine va_sld hx hb hX hbl hbA hS (inb_in hi154) dL_law_1538 ?_
    refine lv_topi (fun y155 hy155 => ?_)
    replace hf := keep_e hf y155 hy155
    obtain ⟨u156, hc157, hf⟩ := bind_t hf
    refine k_VP (ws' := W_L cI cV cJ cD vf am a ad ao aod (wM_s x152 u156.1)) (As := [.int y155]) (rest := []) (n := 1) ⟨hx, hb, hml, hown, hts⟩ (met_X8_size l am (wM x152) y155 u156 hc157) w1125 w1126 w1127 w9 w1128 ⟨rfl, by decide +kernel, by decide +kernel, by decide +kernel⟩ ⟨Nat.le_of_ble_eq_true rfl, Nat.le_of_ble_eq_true rfl⟩ hK hE hP hD hS hA (cut_LM x152 u156.1) 0 7 rfl rfl rfl rfl hl.1 rfl (Nat.le_of_ble_eq_true rfl) dL_law_1539 ⟨show cb + 6 + 0 ≤ _ from Nat.le_trans (by omega) hcb, show sb + 36 + 0 ≤ _ from Nat.le_trans (by omega) hsb⟩ (fun H locs hP hD hS => ?_)
    try dsimp only at hf
    refine W.widen (k := cb + 6) (n := sb + 36) (show cb + 6 + 0 ≤ cb + 6 by omega) (show sb + 36 + 0 ≤ sb + 36 by omega) ?_
    refine W.eq (g2 := F0 m 1542 ls [.int u156.2]) rfl ?_
    obtain ⟨x158, hx158⟩ : ∃ z, z = (wM_s x152 u156.1) := ⟨_, rfl⟩
    replace hf := keep_e hf x158 hx158
    have hP : va_P D vwCl (W_L cI cV cJ cD vf am a ad ao aod x158) H := by rw [hx158]; exact hP
    have hD : va_D A (W_L cI cV cJ cD vf am a ad ao aod x158) := by rw [hx158]; exact hD
    refine lv_topi (fun y159 hy159 => ?_)
    replace hf := keep_e hf y159 hy159
    refine lv_istore (lv' := [(7, .int y159), (6, .int y153), (0, .ref (b)), (1, .ref (a 0)), (2, .ref (am 0)), (3, .ref (ao)), (4, .ref (aod)), (5, .int v5)]) hx hb dL_law_1542 hl (by decide) rfl (fun ls hl => ?_)
    refine lv_aload_n hx hb dL_law_1544 rfl (lv_at hl 4 rfl) ?_
    obtain ⟨u160, hc161, hf⟩ := bind_t hf
    refine k_VP (ws' := W_L cI cV cJ cD vf am a ad ao aod x158) (As := []) (rest := []) (n := 0) ⟨hx, hb, hml, hown, hts⟩ (met_X8_thrown l am (wM x158)  u160 hc161) w898 w899 w900 w9 w901 ⟨rfl, by decide +kernel, by decide +kernel, by decide +kernel⟩ ⟨Nat.le_of_ble_eq_true rfl, Nat.le_of_ble_eq_true rfl⟩ hK hE hP hD hS hA (cut_LMi x158) 0 7 rfl rfl rfl rfl hl.1 rfl (Nat.le_of_ble_eq_true rfl) dL_law_1545 ⟨show cb + 6 + 0 ≤ _ from Nat.le_trans (by omega) hcb, show sb + 36 + 0 ≤ _ from Nat.le_trans (by omega) hsb⟩ (fun H locs hP hD hS => ?_)
    try dsimp only at hf
    refine W.widen (k := cb + 6) (n := sb + 36) (show cb + 6 + 0 ≤ cb + 6 by omega) (show sb + 36 + 0 ≤ sb + 36 by omega) ?_
    refine W.eq (g2 := F0 m 1548 ls [.int u160]) rfl ?_
    refine lv_iload hx hb dL_law_1548 (lv_at hl 1 rfl) ?_
    refine lv_icmp_eq (tgt := 1555) hx hb dL_law_1550 (by decide) (fun c162 => ?_) (fun c162 => ?_)
    · replace hf := if_t c162 hf
      refine lv_iload hx hb dL_law_1555 (lv_at hl 1 rfl) ?_
      refine lv_if_ne (tgt := 1572) hx hb dL_law_1557 (by decide) (fun c163 => ?_) (fun c163 => ?_)
      · replace hf := if_f c163 hf
        refine lv_goto (tgt := 2017) hx hb dL_law_1572 (by decide) ?_
        exact L2017 rec cb sb hcb hsb hrec a x158 v5 H locs ls hf hP hD hS (lv_sub hl [2, 3, 4, 5, 6, 7] rfl)
      · replace hf := if_t c163 hf
        refine lv_aload_n hx hb dL_law_1560 rfl (lv_at hl 5 rfl) ?_
        refine lv_iconst (v := 0) hx hb dL_law_1561 (by decide) ?_
        refine va_lald hx hb hK hP 15 2 rfl rfl (inb_in (by decide : inb 0 1 = true)) dL_law_1562 ?_
        refine lv_iload hx hb dL_law_1563 (lv_at hl 0 rfl) ?_
        refine lv_i2l (v := (y159).toInt64) hx hb dL_law_1565 rfl ?_
        refine k_lcmp hx hb dL_law_1566 ?_
        refine lv_if_eq (tgt := 1572) hx hb dL_law_1567 (by decide) (fun c164 => ?_) (fun c164 => ?_)
        · replace hf := if_t c164 hf
          refine lv_goto (tgt := 2017) hx hb dL_law_1572 (by decide) ?_
          exact L2017 rec cb sb hcb hsb hrec a x158 v5 H locs ls hf hP hD hS (lv_sub hl [2, 3, 4, 5, 6, 7] rfl)
        · replace hf := if_f c164 hf
          refine lv_iconst (v := 0) hx hb dL_law_1570 (by decide) ?_
          exact absurd (Option.some.inj hf) (by decide)
    · replace hf := if_f c162 hf
      refine lv_iconst (v := 0) hx hb dL_law_1553 (by decide) ?_
      exact absurd (Option.some.inj hf) (by decide)
  have L1463 : ∀ (rec : LwSt × Int32 → Option Int32) (cb sb : Nat), cb + 6 ≤ room_1.cells → sb + 36 ≤ room_1.slots → (∀ (x : LwSt) (v5 : Int32) (a : Nat → Nat) (H : Heap) (locs : List Loc) (ls : Array Slot), rec (x, v5) = some 1 → va_P D vwCl (W_L cI cV cJ cD vf am a ad ao aod x) H → va_D A (W_L cI cV cJ cD vf am a ad ao aod x) → va_S A s.heap H locs → lv_has ls 8 [(0, .ref (b)), (1, .ref (a 0)), (2, .ref (am 0)), (3, .ref (ao)), (4, .ref (aod)), (5, .int v5)] → W p l e room_1 s m #[Value.ref b] below meth c H locs (cb + 6) (sb + 36) (lw_Z below #[Value.ref b] s) (F0 m 28 ls [])) → ∀ (a : Nat → Nat) (x : LwSt) (v5 : Int32) (H : Heap) (locs : List Loc) (ls : Array Slot), fL_law_1463 L xs rec x v5  = some 1 → va_P D vwCl (W_L cI cV cJ cD vf am a ad ao aod x) H → va_D A (W_L cI cV cJ cD vf am a ad ao aod x) → va_S A s.heap H locs → lv_has ls 8 [(0, .ref (b)), (1, .ref (a 0)), (2, .ref (am 0)), (3, .ref (ao)), (4, .ref (aod)), (5, .int v5)] → W p l e room_1 s m #[Value.ref b] below meth c H locs (cb + 0) (sb + 0) (lw_Z below #[Value.ref b] s) (F0 m 1463 ls []) := by
    intro rec cb sb hcb hsb hrec a x v5 H locs ls hf hP hD hS hl
    dsimp only [fL_law_1463] at hf
    refine lv_aload_n hx hb dL_law_1463 rfl (lv_at hl 1 rfl) ?_
    refine lv_aload_n hx hb dL_law_1464 rfl (lv_at hl 0 rfl) ?_
    refine lv_iload hx hb dL_law_1465 (lv_at hl 5 rfl) ?_
    refine lv_iconst (v := 1) hx hb dL_law_1467 (by decide) ?_
    refine lv_iadd hx hb dL_law_1468 ?_
    obtain ⟨hi165, hf⟩ := chk_t hf
    refine va_sld hx hb hX hbl hbA hS (inb_in hi165) dL_law_1469 ?_
    refine lv_topi (fun y166 hy166 => ?_)
    replace hf := keep_e hf y166 hy166
    refine lv_aload_n hx hb dL_law_1470 rfl (lv_at hl 3 rfl) ?_
    obtain ⟨hv169, hf⟩ := chk_t hf
    replace hv169 := of_decide_eq_true hv169
    obtain ⟨u167, hc168, hf⟩ := bind_t hf
    obtain ⟨hv170, hf⟩ := chk_t hf
    replace hv170 := of_decide_eq_true hv170
    refine k_SWP (ws' := W_L cI cV cJ cD vf am a ad ao aod (unf (fk y166) (wS x) (pF u167.1), wM x, pO u167.1, wD x)) (As := [.ref (a 0), .int y166, .ref (ao)]) (rest := []) (n := 3) ⟨hx, hb, hml, hown, hts⟩ (met_L_formOf l hlt (fk y166) vf (foO a (ad (fk y166)) ao) (hvf _ fk_lt) (foc (fk y166) (wS x), wO x) y166 u167 hc168) w723 w724 w0 w725 ⟨by decide +kernel, by decide +kernel, by decide +kernel⟩ ⟨Nat.le_of_ble_eq_true rfl, Nat.le_of_ble_eq_true rfl⟩ hK hE hP hD hS hA (cut_LO x fk_lt hv169 u167.1 hv170) rfl hl.1 rfl (Nat.le_of_ble_eq_true rfl) dL_law_1471 ⟨show cb + 0 + 1 ≤ _ from Nat.le_trans (by omega) hcb, show sb + 0 + 6 ≤ _ from Nat.le_trans (by omega) hsb⟩ (fun H locs hP hD hS => ?_)
    try dsimp only at hf
    refine W.widen (k := cb + 6) (n := sb + 36) (show cb + 0 + 1 ≤ cb + 6 by omega) (show sb + 0 + 6 ≤ sb + 36 by omega) ?_
    refine W.eq (g2 := F0 m 1474 ls [.int u167.2]) rfl ?_
    obtain ⟨x171, hx171⟩ : ∃ z, z = (unf (fk y166) (wS x) (pF u167.1), wM x, pO u167.1, wD x) := ⟨_, rfl⟩
    replace hf := keep_e hf x171 hx171
    have hP : va_P D vwCl (W_L cI cV cJ cD vf am a ad ao aod x171) H := by rw [hx171]; exact hP
    have hD : va_D A (W_L cI cV cJ cD vf am a ad ao aod x171) := by rw [hx171]; exact hD
    refine lv_topi (fun y172 hy172 => ?_)
    replace hf := keep_e hf y172 hy172
    refine lv_istore (lv' := [(6, .int y172), (0, .ref (b)), (1, .ref (a 0)), (2, .ref (am 0)), (3, .ref (ao)), (4, .ref (aod)), (5, .int v5)]) hx hb dL_law_1474 hl (by decide) rfl (fun ls hl => ?_)
    refine lv_aload_n hx hb dL_law_1476 rfl (lv_at hl 3 rfl) ?_
    refine lv_aload_n hx hb dL_law_1477 rfl (lv_at hl 1 rfl) ?_
    refine lv_iload hx hb dL_law_1478 (lv_at hl 6 rfl) ?_
    refine lv_iconst (v := 1) hx hb dL_law_1480 (by decide) ?_
    refine lv_iadd hx hb dL_law_1481 ?_
    obtain ⟨hi173, hf⟩ := chk_t hf
    refine va_sld hx hb hX hbl hbA hS (inb_in hi173) dL_law_1482 ?_
    refine lv_topi (fun y174 hy174 => ?_)
    replace hf := keep_e hf y174 hy174
    obtain ⟨u175, hc176, hf⟩ := bind_t hf
    refine k_VP (ws' := W_L cI cV cJ cD vf am a ad ao aod (wM_s x171 u175.1)) (As := [.int y174]) (rest := []) (n := 1) ⟨hx, hb, hml, hown, hts⟩ (met_X8_formOf l am (wM x171) y174 u175 hc176) w1121 w1122 w1123 w9 w1124 ⟨rfl, by decide +kernel, by decide +kernel, by decide +kernel⟩ ⟨Nat.le_of_ble_eq_true rfl, Nat.le_of_ble_eq_true rfl⟩ hK hE hP hD hS hA (cut_LM x171 u175.1) 0 7 rfl rfl rfl rfl hl.1 rfl (Nat.le_of_ble_eq_true rfl) dL_law_1483 ⟨show cb + 6 + 0 ≤ _ from Nat.le_trans (by omega) hcb, show sb + 36 + 0 ≤ _ from Nat.le_trans (by omega) hsb⟩ (fun H locs hP hD hS => ?_)
    try dsimp only at hf
    refine W.widen (k := cb + 6) (n := sb + 36) (show cb + 6 + 0 ≤ cb + 6 by omega) (show sb + 36 + 0 ≤ sb + 36 by omega) ?_
    refine W.eq (g2 := F0 m 1486 ls [.int u175.2]) rfl ?_
    obtain ⟨x177, hx177⟩ : ∃ z, z = (wM_s x171 u175.1) := ⟨_, rfl⟩
    replace hf := keep_e hf x177 hx177
    have hP : va_P D vwCl (W_L cI cV cJ cD vf am a ad ao aod x177) H := by rw [hx177]; exact hP
    have hD : va_D A (W_L cI cV cJ cD vf am a ad ao aod x177) := by rw [hx177]; exact hD
    refine lv_topi (fun y178 hy178 => ?_)
    replace hf := keep_e hf y178 hy178
    refine lv_istore (lv' := [(7, .int y178), (6, .int y172), (0, .ref (b)), (1, .ref (a 0)), (2, .ref (am 0)), (3, .ref (ao)), (4, .ref (aod)), (5, .int v5)]) hx hb dL_law_1486 hl (by decide) rfl (fun ls hl => ?_)
    refine lv_aload_n hx hb dL_law_1488 rfl (lv_at hl 4 rfl) ?_
    obtain ⟨u179, hc180, hf⟩ := bind_t hf
    refine k_VP (ws' := W_L cI cV cJ cD vf am a ad ao aod x177) (As := []) (rest := []) (n := 0) ⟨hx, hb, hml, hown, hts⟩ (met_X8_thrown l am (wM x177)  u179 hc180) w898 w899 w900 w9 w901 ⟨rfl, by decide +kernel, by decide +kernel, by decide +kernel⟩ ⟨Nat.le_of_ble_eq_true rfl, Nat.le_of_ble_eq_true rfl⟩ hK hE hP hD hS hA (cut_LMi x177) 0 7 rfl rfl rfl rfl hl.1 rfl (Nat.le_of_ble_eq_true rfl) dL_law_1489 ⟨show cb + 6 + 0 ≤ _ from Nat.le_trans (by omega) hcb, show sb + 36 + 0 ≤ _ from Nat.le_trans (by omega) hsb⟩ (fun H locs hP hD hS => ?_)
    try dsimp only at hf
    refine W.widen (k := cb + 6) (n := sb + 36) (show cb + 6 + 0 ≤ cb + 6 by omega) (show sb + 36 + 0 ≤ sb + 36 by omega) ?_
    refine W.eq (g2 := F0 m 1492 ls [.int u179]) rfl ?_
    refine lv_iload hx hb dL_law_1492 (lv_at hl 1 rfl) ?_
    refine lv_icmp_eq (tgt := 1499) hx hb dL_law_1494 (by decide) (fun c181 => ?_) (fun c181 => ?_)
    · replace hf := if_t c181 hf
      refine lv_iload hx hb dL_law_1499 (lv_at hl 1 rfl) ?_
      refine lv_if_ne (tgt := 1516) hx hb dL_law_1501 (by decide) (fun c182 => ?_) (fun c182 => ?_)
      · replace hf := if_f c182 hf
        refine lv_goto (tgt := 2017) hx hb dL_law_1516 (by decide) ?_
        exact L2017 rec cb sb hcb hsb hrec a x177 v5 H locs ls hf hP hD hS (lv_sub hl [2, 3, 4, 5, 6, 7] rfl)
      · replace hf := if_t c182 hf
        refine lv_aload_n hx hb dL_law_1504 rfl (lv_at hl 5 rfl) ?_
        refine lv_iconst (v := 0) hx hb dL_law_1505 (by decide) ?_
        refine va_lald hx hb hK hP 15 2 rfl rfl (inb_in (by decide : inb 0 1 = true)) dL_law_1506 ?_
        refine lv_iload hx hb dL_law_1507 (lv_at hl 0 rfl) ?_
        refine lv_i2l (v := (y178).toInt64) hx hb dL_law_1509 rfl ?_
        refine k_lcmp hx hb dL_law_1510 ?_
        refine lv_if_eq (tgt := 1516) hx hb dL_law_1511 (by decide) (fun c183 => ?_) (fun c183 => ?_)
        · replace hf := if_t c183 hf
          refine lv_goto (tgt := 2017) hx hb dL_law_1516 (by decide) ?_
          exact L2017 rec cb sb hcb hsb hrec a x177 v5 H locs ls hf hP hD hS (lv_sub hl [2, 3, 4, 5, 6, 7] rfl)
        · replace hf := if_f c183 hf
          refine lv_iconst (v := 0) hx hb dL_law_1514 (by decide) ?_
          exact absurd (Option.some.inj hf) (by decide)
    · replace hf := if_f c181 hf
      refine lv_iconst (v := 0) hx hb dL_law_1497 (by decide) ?_
      exact absurd (Option.some.inj hf) (by decide)
  have L1407 : ∀ (rec : LwSt × Int32 → Option Int32) (cb sb : Nat), cb + 6 ≤ room_1.cells → sb + 36 ≤ room_1.slots → (∀ (x : LwSt) (v5 : Int32) (a : Nat → Nat) (H : Heap) (locs : List Loc) (ls : Array Slot), rec (x, v5) = some 1 → va_P D vwCl (W_L cI cV cJ cD vf am a ad ao aod x) H → va_D A (W_L cI cV cJ cD vf am a ad ao aod x) → va_S A s.heap H locs → lv_has ls 8 [(0, .ref (b)), (1, .ref (a 0)), (2, .ref (am 0)), (3, .ref (ao)), (4, .ref (aod)), (5, .int v5)] → W p l e room_1 s m #[Value.ref b] below meth c H locs (cb + 6) (sb + 36) (lw_Z below #[Value.ref b] s) (F0 m 28 ls [])) → ∀ (a : Nat → Nat) (x : LwSt) (v5 : Int32) (H : Heap) (locs : List Loc) (ls : Array Slot), fL_law_1407 L xs rec x v5  = some 1 → va_P D vwCl (W_L cI cV cJ cD vf am a ad ao aod x) H → va_D A (W_L cI cV cJ cD vf am a ad ao aod x) → va_S A s.heap H locs → lv_has ls 8 [(0, .ref (b)), (1, .ref (a 0)), (2, .ref (am 0)), (3, .ref (ao)), (4, .ref (aod)), (5, .int v5)] → W p l e room_1 s m #[Value.ref b] below meth c H locs (cb + 0) (sb + 0) (lw_Z below #[Value.ref b] s) (F0 m 1407 ls []) := by
    intro rec cb sb hcb hsb hrec a x v5 H locs ls hf hP hD hS hl
    dsimp only [fL_law_1407] at hf
    refine lv_aload_n hx hb dL_law_1407 rfl (lv_at hl 1 rfl) ?_
    refine lv_aload_n hx hb dL_law_1408 rfl (lv_at hl 0 rfl) ?_
    refine lv_iload hx hb dL_law_1409 (lv_at hl 5 rfl) ?_
    refine lv_iconst (v := 1) hx hb dL_law_1411 (by decide) ?_
    refine lv_iadd hx hb dL_law_1412 ?_
    obtain ⟨hi184, hf⟩ := chk_t hf
    refine va_sld hx hb hX hbl hbA hS (inb_in hi184) dL_law_1413 ?_
    refine lv_topi (fun y185 hy185 => ?_)
    replace hf := keep_e hf y185 hy185
    refine lv_aload_n hx hb dL_law_1414 rfl (lv_at hl 3 rfl) ?_
    obtain ⟨hv188, hf⟩ := chk_t hf
    replace hv188 := of_decide_eq_true hv188
    obtain ⟨u186, hc187, hf⟩ := bind_t hf
    obtain ⟨hv189, hf⟩ := chk_t hf
    replace hv189 := of_decide_eq_true hv189
    refine k_SWP (ws' := W_L cI cV cJ cD vf am a ad ao aod (unf (fk y185) (wS x) (pF u186.1), wM x, pO u186.1, wD x)) (As := [.ref (a 0), .int y185, .ref (ao)]) (rest := []) (n := 3) ⟨hx, hb, hml, hown, hts⟩ (met_L_typeOf l hlt (fk y185) vf (foO a (ad (fk y185)) ao) (hvf _ fk_lt) (foc (fk y185) (wS x), wO x) y185 u186 hc187) w716 w717 w0 w718 ⟨by decide +kernel, by decide +kernel, by decide +kernel⟩ ⟨Nat.le_of_ble_eq_true rfl, Nat.le_of_ble_eq_true rfl⟩ hK hE hP hD hS hA (cut_LO x fk_lt hv188 u186.1 hv189) rfl hl.1 rfl (Nat.le_of_ble_eq_true rfl) dL_law_1415 ⟨show cb + 0 + 1 ≤ _ from Nat.le_trans (by omega) hcb, show sb + 0 + 6 ≤ _ from Nat.le_trans (by omega) hsb⟩ (fun H locs hP hD hS => ?_)
    try dsimp only at hf
    refine W.widen (k := cb + 6) (n := sb + 36) (show cb + 0 + 1 ≤ cb + 6 by omega) (show sb + 0 + 6 ≤ sb + 36 by omega) ?_
    refine W.eq (g2 := F0 m 1418 ls [.int u186.2]) rfl ?_
    obtain ⟨x190, hx190⟩ : ∃ z, z = (unf (fk y185) (wS x) (pF u186.1), wM x, pO u186.1, wD x) := ⟨_, rfl⟩
    replace hf := keep_e hf x190 hx190
    have hP : va_P D vwCl (W_L cI cV cJ cD vf am a ad ao aod x190) H := by rw [hx190]; exact hP
    have hD : va_D A (W_L cI cV cJ cD vf am a ad ao aod x190) := by rw [hx190]; exact hD
    refine lv_topi (fun y191 hy191 => ?_)
    replace hf := keep_e hf y191 hy191
    refine lv_istore (lv' := [(6, .int y191), (0, .ref (b)), (1, .ref (a 0)), (2, .ref (am 0)), (3, .ref (ao)), (4, .ref (aod)), (5, .int v5)]) hx hb dL_law_1418 hl (by decide) rfl (fun ls hl => ?_)
    refine lv_aload_n hx hb dL_law_1420 rfl (lv_at hl 3 rfl) ?_
    refine lv_aload_n hx hb dL_law_1421 rfl (lv_at hl 1 rfl) ?_
    refine lv_iload hx hb dL_law_1422 (lv_at hl 6 rfl) ?_
    refine lv_iconst (v := 1) hx hb dL_law_1424 (by decide) ?_
    refine lv_iadd hx hb dL_law_1425 ?_
    obtain ⟨hi192, hf⟩ := chk_t hf
    refine va_sld hx hb hX hbl hbA hS (inb_in hi192) dL_law_1426 ?_
    refine lv_topi (fun y193 hy193 => ?_)
    replace hf := keep_e hf y193 hy193
    obtain ⟨u194, hc195, hf⟩ := bind_t hf
    refine k_VP (ws' := W_L cI cV cJ cD vf am a ad ao aod (wM_s x190 u194.1)) (As := [.int y193]) (rest := []) (n := 1) ⟨hx, hb, hml, hown, hts⟩ (met_X8_typeOf l am (wM x190) y193 u194 hc195) w1117 w1118 w1119 w9 w1120 ⟨rfl, by decide +kernel, by decide +kernel, by decide +kernel⟩ ⟨Nat.le_of_ble_eq_true rfl, Nat.le_of_ble_eq_true rfl⟩ hK hE hP hD hS hA (cut_LM x190 u194.1) 0 7 rfl rfl rfl rfl hl.1 rfl (Nat.le_of_ble_eq_true rfl) dL_law_1427 ⟨show cb + 6 + 0 ≤ _ from Nat.le_trans (by omega) hcb, show sb + 36 + 0 ≤ _ from Nat.le_trans (by omega) hsb⟩ (fun H locs hP hD hS => ?_)
    try dsimp only at hf
    refine W.widen (k := cb + 6) (n := sb + 36) (show cb + 6 + 0 ≤ cb + 6 by omega) (show sb + 36 + 0 ≤ sb + 36 by omega) ?_
    refine W.eq (g2 := F0 m 1430 ls [.int u194.2]) rfl ?_
    obtain ⟨x196, hx196⟩ : ∃ z, z = (wM_s x190 u194.1) := ⟨_, rfl⟩
    replace hf := keep_e hf x196 hx196
    have hP : va_P D vwCl (W_L cI cV cJ cD vf am a ad ao aod x196) H := by rw [hx196]; exact hP
    have hD : va_D A (W_L cI cV cJ cD vf am a ad ao aod x196) := by rw [hx196]; exact hD
    refine lv_topi (fun y197 hy197 => ?_)
    replace hf := keep_e hf y197 hy197
    refine lv_istore (lv' := [(7, .int y197), (6, .int y191), (0, .ref (b)), (1, .ref (a 0)), (2, .ref (am 0)), (3, .ref (ao)), (4, .ref (aod)), (5, .int v5)]) hx hb dL_law_1430 hl (by decide) rfl (fun ls hl => ?_)
    refine lv_aload_n hx hb dL_law_1432 rfl (lv_at hl 4 rfl) ?_
    obtain ⟨u198, hc199, hf⟩ := bind_t hf
    refine k_VP (ws' := W_L cI cV cJ cD vf am a ad ao aod x196) (As := []) (rest := []) (n := 0) ⟨hx, hb, hml, hown, hts⟩ (met_X8_thrown l am (wM x196)  u198 hc199) w898 w899 w900 w9 w901 ⟨rfl, by decide +kernel, by decide +kernel, by decide +kernel⟩ ⟨Nat.le_of_ble_eq_true rfl, Nat.le_of_ble_eq_true rfl⟩ hK hE hP hD hS hA (cut_LMi x196) 0 7 rfl rfl rfl rfl hl.1 rfl (Nat.le_of_ble_eq_true rfl) dL_law_1433 ⟨show cb + 6 + 0 ≤ _ from Nat.le_trans (by omega) hcb, show sb + 36 + 0 ≤ _ from Nat.le_trans (by omega) hsb⟩ (fun H locs hP hD hS => ?_)
    try dsimp only at hf
    refine W.widen (k := cb + 6) (n := sb + 36) (show cb + 6 + 0 ≤ cb + 6 by omega) (show sb + 36 + 0 ≤ sb + 36 by omega) ?_
    refine W.eq (g2 := F0 m 1436 ls [.int u198]) rfl ?_
    refine lv_iload hx hb dL_law_1436 (lv_at hl 1 rfl) ?_
    refine lv_icmp_eq (tgt := 1443) hx hb dL_law_1438 (by decide) (fun c200 => ?_) (fun c200 => ?_)
    · replace hf := if_t c200 hf
      refine lv_iload hx hb dL_law_1443 (lv_at hl 1 rfl) ?_
      refine lv_if_ne (tgt := 1460) hx hb dL_law_1445 (by decide) (fun c201 => ?_) (fun c201 => ?_)
      · replace hf := if_f c201 hf
        refine lv_goto (tgt := 2017) hx hb dL_law_1460 (by decide) ?_
        exact L2017 rec cb sb hcb hsb hrec a x196 v5 H locs ls hf hP hD hS (lv_sub hl [2, 3, 4, 5, 6, 7] rfl)
      · replace hf := if_t c201 hf
        refine lv_aload_n hx hb dL_law_1448 rfl (lv_at hl 5 rfl) ?_
        refine lv_iconst (v := 0) hx hb dL_law_1449 (by decide) ?_
        refine va_lald hx hb hK hP 15 2 rfl rfl (inb_in (by decide : inb 0 1 = true)) dL_law_1450 ?_
        refine lv_iload hx hb dL_law_1451 (lv_at hl 0 rfl) ?_
        refine lv_i2l (v := (y197).toInt64) hx hb dL_law_1453 rfl ?_
        refine k_lcmp hx hb dL_law_1454 ?_
        refine lv_if_eq (tgt := 1460) hx hb dL_law_1455 (by decide) (fun c202 => ?_) (fun c202 => ?_)
        · replace hf := if_t c202 hf
          refine lv_goto (tgt := 2017) hx hb dL_law_1460 (by decide) ?_
          exact L2017 rec cb sb hcb hsb hrec a x196 v5 H locs ls hf hP hD hS (lv_sub hl [2, 3, 4, 5, 6, 7] rfl)
        · replace hf := if_f c202 hf
          refine lv_iconst (v := 0) hx hb dL_law_1458 (by decide) ?_
          exact absurd (Option.some.inj hf) (by decide)
    · replace hf := if_f c200 hf
      refine lv_iconst (v := 0) hx hb dL_law_1441 (by decide) ?_
      exact absurd (Option.some.inj hf) (by decide)
  have L1394 : ∀ (rec : LwSt × Int32 → Option Int32) (cb sb : Nat), cb + 6 ≤ room_1.cells → sb + 36 ≤ room_1.slots → (∀ (x : LwSt) (v5 : Int32) (a : Nat → Nat) (H : Heap) (locs : List Loc) (ls : Array Slot), rec (x, v5) = some 1 → va_P D vwCl (W_L cI cV cJ cD vf am a ad ao aod x) H → va_D A (W_L cI cV cJ cD vf am a ad ao aod x) → va_S A s.heap H locs → lv_has ls 8 [(0, .ref (b)), (1, .ref (a 0)), (2, .ref (am 0)), (3, .ref (ao)), (4, .ref (aod)), (5, .int v5)] → W p l e room_1 s m #[Value.ref b] below meth c H locs (cb + 6) (sb + 36) (lw_Z below #[Value.ref b] s) (F0 m 28 ls [])) → ∀ (a : Nat → Nat) (x : LwSt) (v5 : Int32) (H : Heap) (locs : List Loc) (ls : Array Slot), fL_law_1394 L xs rec x v5  = some 1 → va_P D vwCl (W_L cI cV cJ cD vf am a ad ao aod x) H → va_D A (W_L cI cV cJ cD vf am a ad ao aod x) → va_S A s.heap H locs → lv_has ls 8 [(0, .ref (b)), (1, .ref (a 0)), (2, .ref (am 0)), (3, .ref (ao)), (4, .ref (aod)), (5, .int v5)] → W p l e room_1 s m #[Value.ref b] below meth c H locs (cb + 0) (sb + 0) (lw_Z below #[Value.ref b] s) (F0 m 1394 ls []) := by
    intro rec cb sb hcb hsb hrec a x v5 H locs ls hf hP hD hS hl
    dsimp only [fL_law_1394] at hf
    refine lv_aload_n hx hb dL_law_1394 rfl (lv_at hl 1 rfl) ?_
    obtain ⟨u203, hc204, hf⟩ := bind_t hf
    refine k_VP (ws' := W_L cI cV cJ cD vf am a ad ao aod x) (As := []) (rest := []) (n := 0) ⟨hx, hb, hml, hown, hts⟩ (met_X7_rows l 0 vf (foA a (ad 0)) (hvf 0 (by decide)) (foc 0 (wS x))  u203 hc204) w435 w436 w437 w1 w438 ⟨rfl, by decide +kernel, by decide +kernel, by decide +kernel⟩ ⟨Nat.le_of_ble_eq_true rfl, Nat.le_of_ble_eq_true rfl⟩ hK hE hP hD hS hA (cut_LFi x (by decide : 0 < 16)) 0 6 rfl rfl rfl rfl hl.1 rfl (Nat.le_of_ble_eq_true rfl) dL_law_1395 ⟨show cb + 0 + 0 ≤ _ from Nat.le_trans (by omega) hcb, show sb + 0 + 0 ≤ _ from Nat.le_trans (by omega) hsb⟩ (fun H locs hP hD hS => ?_)
    try dsimp only at hf
    refine W.widen (k := cb + 0) (n := sb + 0) (show cb + 0 + 0 ≤ cb + 0 by omega) (show sb + 0 + 0 ≤ sb + 0 by omega) ?_
    refine W.eq (g2 := F0 m 1398 ls [.int u203]) rfl ?_
    refine lv_aload_n hx hb dL_law_1398 rfl (lv_at hl 2 rfl) ?_
    obtain ⟨u205, hc206, hf⟩ := bind_t hf
    refine k_VP (ws' := W_L cI cV cJ cD vf am a ad ao aod (wM_s x u205.1)) (As := []) (rest := [.int u203]) (n := 0) ⟨hx, hb, hml, hown, hts⟩ (met_X8_rows l am (wM x)  u205 hc206) w1113 w1114 w1115 w9 w1116 ⟨rfl, by decide +kernel, by decide +kernel, by decide +kernel⟩ ⟨Nat.le_of_ble_eq_true rfl, Nat.le_of_ble_eq_true rfl⟩ hK hE hP hD hS hA (cut_LM x u205.1) 0 7 rfl rfl rfl rfl hl.1 rfl (Nat.le_of_ble_eq_true rfl) dL_law_1399 ⟨show cb + 0 + 0 ≤ _ from Nat.le_trans (by omega) hcb, show sb + 0 + 0 ≤ _ from Nat.le_trans (by omega) hsb⟩ (fun H locs hP hD hS => ?_)
    try dsimp only at hf
    refine W.widen (k := cb + 0) (n := sb + 0) (show cb + 0 + 0 ≤ cb + 0 by omega) (show sb + 0 + 0 ≤ sb + 0 by omega) ?_
    refine W.eq (g2 := F0 m 1402 ls [.int u205.2, .int u203]) rfl ?_
    obtain ⟨x207, hx207⟩ : ∃ z, z = (wM_s x u205.1) := ⟨_, rfl⟩
    replace hf := keep_e hf x207 hx207
    have hP : va_P D vwCl (W_L cI cV cJ cD vf am a ad ao aod x207) H := by rw [hx207]; exact hP
    have hD : va_D A (W_L cI cV cJ cD vf am a ad ao aod x207) := by rw [hx207]; exact hD
    refine lv_icmp_eq (tgt := 2017) hx hb dL_law_1402 (by decide) (fun c208 => ?_) (fun c208 => ?_)
    · replace hf := if_t c208 hf
      refine W.widen (k := cb + 6) (n := sb + 36) (by omega) (by omega) ?_
      exact L2017 rec cb sb hcb hsb hrec a x207 v5 H locs ls hf hP hD hS (lv_sub hl [0, 1, 2, 3, 4, 5] rfl)
    · replace hf := if_f c208 hf
      refine lv_iconst (v := 0) hx hb dL_law_1405 (by decide) ?_
      exact absurd (Option.some.inj hf) (by decide)
  have L1381 : ∀ (rec : LwSt × Int32 → Option Int32) (cb sb : Nat), cb + 6 ≤ room_1.cells → sb + 36 ≤ room_1.slots → (∀ (x : LwSt) (v5 : Int32) (a : Nat → Nat) (H : Heap) (locs : List Loc) (ls : Array Slot), rec (x, v5) = some 1 → va_P D vwCl (W_L cI cV cJ cD vf am a ad ao aod x) H → va_D A (W_L cI cV cJ cD vf am a ad ao aod x) → va_S A s.heap H locs → lv_has ls 8 [(0, .ref (b)), (1, .ref (a 0)), (2, .ref (am 0)), (3, .ref (ao)), (4, .ref (aod)), (5, .int v5)] → W p l e room_1 s m #[Value.ref b] below meth c H locs (cb + 6) (sb + 36) (lw_Z below #[Value.ref b] s) (F0 m 28 ls [])) → ∀ (a : Nat → Nat) (x : LwSt) (v5 : Int32) (H : Heap) (locs : List Loc) (ls : Array Slot), fL_law_1381 L xs rec x v5  = some 1 → va_P D vwCl (W_L cI cV cJ cD vf am a ad ao aod x) H → va_D A (W_L cI cV cJ cD vf am a ad ao aod x) → va_S A s.heap H locs → lv_has ls 8 [(0, .ref (b)), (1, .ref (a 0)), (2, .ref (am 0)), (3, .ref (ao)), (4, .ref (aod)), (5, .int v5)] → W p l e room_1 s m #[Value.ref b] below meth c H locs (cb + 0) (sb + 0) (lw_Z below #[Value.ref b] s) (F0 m 1381 ls []) := by
    intro rec cb sb hcb hsb hrec a x v5 H locs ls hf hP hD hS hl
    dsimp only [fL_law_1381] at hf
    refine lv_aload_n hx hb dL_law_1381 rfl (lv_at hl 1 rfl) ?_
    obtain ⟨u209, hc210, hf⟩ := bind_t hf
    refine k_VP (ws' := W_L cI cV cJ cD vf am a ad ao aod (wS_s x u209.1)) (As := []) (rest := []) (n := 0) ⟨hx, hb, hml, hown, hts⟩ (met_X7_restart l vf ad a hvf (wS x)  u209 hc210) w254 w255 w256 w1 w257 ⟨rfl, by decide +kernel, by decide +kernel, by decide +kernel⟩ ⟨Nat.le_of_ble_eq_true rfl, Nat.le_of_ble_eq_true rfl⟩ hK hE hP hD hS hA (cut_LS x u209.1) 0 6 rfl rfl rfl rfl hl.1 rfl (Nat.le_of_ble_eq_true rfl) dL_law_1382 ⟨show cb + 0 + 0 ≤ _ from Nat.le_trans (by omega) hcb, show sb + 0 + 0 ≤ _ from Nat.le_trans (by omega) hsb⟩ (fun H locs hP hD hS => ?_)
    try dsimp only at hf
    refine W.widen (k := cb + 0) (n := sb + 0) (show cb + 0 + 0 ≤ cb + 0 by omega) (show sb + 0 + 0 ≤ sb + 0 by omega) ?_
    refine W.eq (g2 := F0 m 1385 ls [.int u209.2]) rfl ?_
    obtain ⟨x211, hx211⟩ : ∃ z, z = (wS_s x u209.1) := ⟨_, rfl⟩
    replace hf := keep_e hf x211 hx211
    have hP : va_P D vwCl (W_L cI cV cJ cD vf am a ad ao aod x211) H := by rw [hx211]; exact hP
    have hD : va_D A (W_L cI cV cJ cD vf am a ad ao aod x211) := by rw [hx211]; exact hD
    refine lv_aload_n hx hb dL_law_1385 rfl (lv_at hl 2 rfl) ?_
    obtain ⟨u212, hc213, hf⟩ := bind_t hf
    refine k_VP (ws' := W_L cI cV cJ cD vf am a ad ao aod (wM_s x211 u212.1)) (As := []) (rest := [.int u209.2]) (n := 0) ⟨hx, hb, hml, hown, hts⟩ (met_X8_restart l am (wM x211)  u212 hc213) w1105 w1106 w1107 w9 w1108 ⟨rfl, by decide +kernel, by decide +kernel, by decide +kernel⟩ ⟨Nat.le_of_ble_eq_true rfl, Nat.le_of_ble_eq_true rfl⟩ hK hE hP hD hS hA (cut_LM x211 u212.1) 0 7 rfl rfl rfl rfl hl.1 rfl (Nat.le_of_ble_eq_true rfl) dL_law_1386 ⟨show cb + 0 + 0 ≤ _ from Nat.le_trans (by omega) hcb, show sb + 0 + 0 ≤ _ from Nat.le_trans (by omega) hsb⟩ (fun H locs hP hD hS => ?_)
    try dsimp only at hf
    refine W.widen (k := cb + 0) (n := sb + 0) (show cb + 0 + 0 ≤ cb + 0 by omega) (show sb + 0 + 0 ≤ sb + 0 by omega) ?_
    refine W.eq (g2 := F0 m 1389 ls [.int u212.2, .int u209.2]) rfl ?_
    obtain ⟨x214, hx214⟩ : ∃ z, z = (wM_s x211 u212.1) := ⟨_, rfl⟩
    replace hf := keep_e hf x214 hx214
    have hP : va_P D vwCl (W_L cI cV cJ cD vf am a ad ao aod x214) H := by rw [hx214]; exact hP
    have hD : va_D A (W_L cI cV cJ cD vf am a ad ao aod x214) := by rw [hx214]; exact hD
    refine lv_icmp_eq (tgt := 2017) hx hb dL_law_1389 (by decide) (fun c215 => ?_) (fun c215 => ?_)
    · replace hf := if_t c215 hf
      refine W.widen (k := cb + 6) (n := sb + 36) (by omega) (by omega) ?_
      exact L2017 rec cb sb hcb hsb hrec a x214 v5 H locs ls hf hP hD hS (lv_sub hl [0, 1, 2, 3, 4, 5] rfl)
    · replace hf := if_f c215 hf
      refine lv_iconst (v := 0) hx hb dL_law_1392 (by decide) ?_
      exact absurd (Option.some.inj hf) (by decide)
  have L1325 : ∀ (rec : LwSt × Int32 → Option Int32) (cb sb : Nat), cb + 6 ≤ room_1.cells → sb + 36 ≤ room_1.slots → (∀ (x : LwSt) (v5 : Int32) (a : Nat → Nat) (H : Heap) (locs : List Loc) (ls : Array Slot), rec (x, v5) = some 1 → va_P D vwCl (W_L cI cV cJ cD vf am a ad ao aod x) H → va_D A (W_L cI cV cJ cD vf am a ad ao aod x) → va_S A s.heap H locs → lv_has ls 8 [(0, .ref (b)), (1, .ref (a 0)), (2, .ref (am 0)), (3, .ref (ao)), (4, .ref (aod)), (5, .int v5)] → W p l e room_1 s m #[Value.ref b] below meth c H locs (cb + 6) (sb + 36) (lw_Z below #[Value.ref b] s) (F0 m 28 ls [])) → ∀ (a : Nat → Nat) (x : LwSt) (v5 : Int32) (H : Heap) (locs : List Loc) (ls : Array Slot), fL_law_1325 L xs rec x v5  = some 1 → va_P D vwCl (W_L cI cV cJ cD vf am a ad ao aod x) H → va_D A (W_L cI cV cJ cD vf am a ad ao aod x) → va_S A s.heap H locs → lv_has ls 8 [(0, .ref (b)), (1, .ref (a 0)), (2, .ref (am 0)), (3, .ref (ao)), (4, .ref (aod)), (5, .int v5)] → W p l e room_1 s m #[Value.ref b] below meth c H locs (cb + 0) (sb + 0) (lw_Z below #[Value.ref b] s) (F0 m 1325 ls []) := by
    intro rec cb sb hcb hsb hrec a x v5 H locs ls hf hP hD hS hl
    dsimp only [fL_law_1325] at hf
    refine lv_aload_n hx hb dL_law_1325 rfl (lv_at hl 1 rfl) ?_
    refine lv_aload_n hx hb dL_law_1326 rfl (lv_at hl 0 rfl) ?_
    refine lv_iload hx hb dL_law_1327 (lv_at hl 5 rfl) ?_
    refine lv_iconst (v := 1) hx hb dL_law_1329 (by decide) ?_
    refine lv_iadd hx hb dL_law_1330 ?_
    obtain ⟨hi216, hf⟩ := chk_t hf
    refine va_sld hx hb hX hbl hbA hS (inb_in hi216) dL_law_1331 ?_
    refine lv_topi (fun y217 hy217 => ?_)
    replace hf := keep_e hf y217 hy217
    refine lv_aload_n hx hb dL_law_1332 rfl (lv_at hl 3 rfl) ?_
    obtain ⟨hv220, hf⟩ := chk_t hf
    replace hv220 := of_decide_eq_true hv220
    obtain ⟨u218, hc219, hf⟩ := bind_t hf
    obtain ⟨hv221, hf⟩ := chk_t hf
    replace hv221 := of_decide_eq_true hv221
    by_cases hl9 : u218.2.1 = 2
    · replace hf := if_t hl9 hf
      have hm223 := met_L_writeOn (D := D) (cI := cI) (cV := cV) (cJ := cJ) (cD := cD) l hlt (fk y217) vf (foO a (ad (fk y217)) ao) (hvf _ fk_lt) (foc (fk y217) (wS x), wO x) y217 u218 hc219
      rw [hl9] at hm223
      refine k_SWP (ws' := W_L cI cV cJ cD vf am a ad ao aod (unf (fk y217) (wS x) (pF u218.1), wM x, pO u218.1, wD x)) (As := [.ref (a 0), .int y217, .ref (ao)]) (rest := []) (n := 3) ⟨hx, hb, hml, hown, hts⟩ hm223 w708 w709 w0 w710 ⟨by decide +kernel, by decide +kernel, by decide +kernel⟩ ⟨Nat.le_of_ble_eq_true rfl, Nat.le_of_ble_eq_true rfl⟩ hK hE hP hD hS hA (cut_LX2 x fk_lt hv220 u218.1 hv221) rfl hl.1 rfl (Nat.le_of_ble_eq_true rfl) dL_law_1333 ⟨show cb + 0 + 2 ≤ _ from Nat.le_trans (by omega) hcb, show sb + 0 + 12 ≤ _ from Nat.le_trans (by omega) hsb⟩ (fun H locs hP hD hS => ?_)
      try dsimp only at hf
      refine W.widen (k := cb + 6) (n := sb + 36) (show cb + 0 + 2 ≤ cb + 6 by omega) (show sb + 0 + 12 ≤ sb + 36 by omega) ?_
      refine W.eq (g2 := F0 m 1336 ls [.int u218.2.2]) rfl ?_
      obtain ⟨x224, hx224⟩ : ∃ z, z = (unf (fk y217) (wS x) (pF u218.1), wM x, pO u218.1, wD x) := ⟨_, rfl⟩
      replace hf := keep_e hf x224 hx224
      have hP : va_P D vwCl (W_L cI cV cJ cD vf am a ad ao aod x224) H := by rw [hx224]; exact hP
      have hD : va_D A (W_L cI cV cJ cD vf am a ad ao aod x224) := by rw [hx224]; exact hD
      refine lv_topi (fun y228 hy228 => ?_)
      replace hf := keep_e hf y228 hy228
      refine lv_istore (lv' := [(6, .int y228), (0, .ref (b)), (1, .ref (a 0)), (2, .ref (am 0)), (3, .ref (ao)), (4, .ref (aod)), (5, .int v5)]) hx hb dL_law_1336 hl (by decide) rfl (fun ls hl => ?_)
      refine lv_aload_n hx hb dL_law_1338 rfl (lv_at hl 3 rfl) ?_
      refine lv_aload_n hx hb dL_law_1339 rfl (lv_at hl 1 rfl) ?_
      refine lv_iload hx hb dL_law_1340 (lv_at hl 6 rfl) ?_
      refine lv_iconst (v := 1) hx hb dL_law_1342 (by decide) ?_
      refine lv_iadd hx hb dL_law_1343 ?_
      obtain ⟨hi229, hf⟩ := chk_t hf
      refine va_sld hx hb hX hbl hbA hS (inb_in hi229) dL_law_1344 ?_
      refine lv_topi (fun y230 hy230 => ?_)
      replace hf := keep_e hf y230 hy230
      obtain ⟨u231, hc232, hf⟩ := bind_t hf
      refine k_VP (ws' := W_L cI cV cJ cD vf am a ad ao aod (wM_s x224 u231.1)) (As := [.int y230]) (rest := []) (n := 1) ⟨hx, hb, hml, hown, hts⟩ (met_X8_writeOn l am (wM x224) y230 u231 hc232) w1097 w1098 w1099 w9 w1100 ⟨rfl, by decide +kernel, by decide +kernel, by decide +kernel⟩ ⟨Nat.le_of_ble_eq_true rfl, Nat.le_of_ble_eq_true rfl⟩ hK hE hP hD hS hA (cut_LM x224 u231.1) 0 7 rfl rfl rfl rfl hl.1 rfl (Nat.le_of_ble_eq_true rfl) dL_law_1345 ⟨show cb + 6 + 0 ≤ _ from Nat.le_trans (by omega) hcb, show sb + 36 + 0 ≤ _ from Nat.le_trans (by omega) hsb⟩ (fun H locs hP hD hS => ?_)
      try dsimp only at hf
      refine W.widen (k := cb + 6) (n := sb + 36) (show cb + 6 + 0 ≤ cb + 6 by omega) (show sb + 36 + 0 ≤ sb + 36 by omega) ?_
      refine W.eq (g2 := F0 m 1348 ls [.int u231.2]) rfl ?_
      obtain ⟨x233, hx233⟩ : ∃ z, z = (wM_s x224 u231.1) := ⟨_, rfl⟩
      replace hf := keep_e hf x233 hx233
      have hP : va_P D vwCl (W_L cI cV cJ cD vf am a ad ao aod x233) H := by rw [hx233]; exact hP
      have hD : va_D A (W_L cI cV cJ cD vf am a ad ao aod x233) := by rw [hx233]; exact hD
      refine lv_topi (fun y234 hy234 => ?_)
      replace hf := keep_e hf y234 hy234
      refine lv_istore (lv' := [(7, .int y234), (6, .int y228), (0, .ref (b)), (1, .ref (a 0)), (2, .ref (am 0)), (3, .ref (ao)), (4, .ref (aod)), (5, .int v5)]) hx hb dL_law_1348 hl (by decide) rfl (fun ls hl => ?_)
      refine lv_aload_n hx hb dL_law_1350 rfl (lv_at hl 4 rfl) ?_
      obtain ⟨u235, hc236, hf⟩ := bind_t hf
      refine k_VP (ws' := W_L cI cV cJ cD vf am a ad ao aod x233) (As := []) (rest := []) (n := 0) ⟨hx, hb, hml, hown, hts⟩ (met_X8_thrown l am (wM x233)  u235 hc236) w898 w899 w900 w9 w901 ⟨rfl, by decide +kernel, by decide +kernel, by decide +kernel⟩ ⟨Nat.le_of_ble_eq_true rfl, Nat.le_of_ble_eq_true rfl⟩ hK hE hP hD hS hA (cut_LMi x233) 0 7 rfl rfl rfl rfl hl.1 rfl (Nat.le_of_ble_eq_true rfl) dL_law_1351 ⟨show cb + 6 + 0 ≤ _ from Nat.le_trans (by omega) hcb, show sb + 36 + 0 ≤ _ from Nat.le_trans (by omega) hsb⟩ (fun H locs hP hD hS => ?_)
      try dsimp only at hf
      refine W.widen (k := cb + 6) (n := sb + 36) (show cb + 6 + 0 ≤ cb + 6 by omega) (show sb + 36 + 0 ≤ sb + 36 by omega) ?_
      refine W.eq (g2 := F0 m 1354 ls [.int u235]) rfl ?_
      refine lv_iload hx hb dL_law_1354 (lv_at hl 1 rfl) ?_
      refine lv_icmp_eq (tgt := 1361) hx hb dL_law_1356 (by decide) (fun c237 => ?_) (fun c237 => ?_)
      · replace hf := if_t c237 hf
        refine lv_iload hx hb dL_law_1361 (lv_at hl 1 rfl) ?_
        refine lv_if_ne (tgt := 1378) hx hb dL_law_1363 (by decide) (fun c238 => ?_) (fun c238 => ?_)
        · replace hf := if_f c238 hf
          refine lv_goto (tgt := 2017) hx hb dL_law_1378 (by decide) ?_
          exact L2017 rec cb sb hcb hsb hrec a x233 v5 H locs ls hf hP hD hS (lv_sub hl [2, 3, 4, 5, 6, 7] rfl)
        · replace hf := if_t c238 hf
          refine lv_aload_n hx hb dL_law_1366 rfl (lv_at hl 5 rfl) ?_
          refine lv_iconst (v := 0) hx hb dL_law_1367 (by decide) ?_
          refine va_lald hx hb hK hP 15 2 rfl rfl (inb_in (by decide : inb 0 1 = true)) dL_law_1368 ?_
          refine lv_iload hx hb dL_law_1369 (lv_at hl 0 rfl) ?_
          refine lv_i2l (v := (y234).toInt64) hx hb dL_law_1371 rfl ?_
          refine k_lcmp hx hb dL_law_1372 ?_
          refine lv_if_eq (tgt := 1378) hx hb dL_law_1373 (by decide) (fun c239 => ?_) (fun c239 => ?_)
          · replace hf := if_t c239 hf
            refine lv_goto (tgt := 2017) hx hb dL_law_1378 (by decide) ?_
            exact L2017 rec cb sb hcb hsb hrec a x233 v5 H locs ls hf hP hD hS (lv_sub hl [2, 3, 4, 5, 6, 7] rfl)
          · replace hf := if_f c239 hf
            refine lv_iconst (v := 0) hx hb dL_law_1376 (by decide) ?_
            exact absurd (Option.some.inj hf) (by decide)
      · replace hf := if_f c237 hf
        refine lv_iconst (v := 0) hx hb dL_law_1359 (by decide) ?_
        exact absurd (Option.some.inj hf) (by decide)
    replace hf := if_f hl9 hf
    obtain ⟨hl9, hf⟩ := chk_t hf
    replace hl9 := of_decide_eq_true hl9
    have hm226 := met_L_writeOn (D := D) (cI := cI) (cV := cV) (cJ := cJ) (cD := cD) l hlt (fk y217) vf (foO a (ad (fk y217)) ao) (hvf _ fk_lt) (foc (fk y217) (wS x), wO x) y217 u218 hc219
    rw [hl9] at hm226
    refine k_SWP (ws' := W_L cI cV cJ cD vf am (swF a) ad ao aod (unf (fk y217) (wS x) (swL (pF u218.1)), wM x, pO u218.1, wD x)) (As := [.ref (a 0), .int y217, .ref (ao)]) (rest := []) (n := 3) ⟨hx, hb, hml, hown, hts⟩ hm226 w708 w709 w0 w710 ⟨by decide +kernel, by decide +kernel, by decide +kernel⟩ ⟨Nat.le_of_ble_eq_true rfl, Nat.le_of_ble_eq_true rfl⟩ hK hE hP hD hS hA (cut_LX4 x fk_lt hv220 u218.1 hv221) rfl hl.1 rfl (Nat.le_of_ble_eq_true rfl) dL_law_1333 ⟨show cb + 0 + 2 ≤ _ from Nat.le_trans (by omega) hcb, show sb + 0 + 12 ≤ _ from Nat.le_trans (by omega) hsb⟩ (fun H locs hP hD hS => ?_)
    try dsimp only at hf
    refine W.widen (k := cb + 6) (n := sb + 36) (show cb + 0 + 2 ≤ cb + 6 by omega) (show sb + 0 + 12 ≤ sb + 36 by omega) ?_
    refine W.eq (g2 := F0 m 1336 ls [.int u218.2.2]) rfl ?_
    obtain ⟨x227, hx227⟩ : ∃ z, z = (unf (fk y217) (wS x) (swL (pF u218.1)), wM x, pO u218.1, wD x) := ⟨_, rfl⟩
    replace hf := keep_e hf x227 hx227
    have hP : va_P D vwCl (W_L cI cV cJ cD vf am (swF a) ad ao aod x227) H := by rw [hx227]; exact hP
    have hD : va_D A (W_L cI cV cJ cD vf am (swF a) ad ao aod x227) := by rw [hx227]; exact hD
    refine lv_topi (fun y240 hy240 => ?_)
    replace hf := keep_e hf y240 hy240
    refine lv_istore (lv' := [(6, .int y240), (0, .ref (b)), (1, .ref ((swF a) 0)), (2, .ref (am 0)), (3, .ref (ao)), (4, .ref (aod)), (5, .int v5)]) hx hb dL_law_1336 hl (by decide) rfl (fun ls hl => ?_)
    refine lv_aload_n hx hb dL_law_1338 rfl (lv_at hl 3 rfl) ?_
    refine lv_aload_n hx hb dL_law_1339 rfl (lv_at hl 1 rfl) ?_
    refine lv_iload hx hb dL_law_1340 (lv_at hl 6 rfl) ?_
    refine lv_iconst (v := 1) hx hb dL_law_1342 (by decide) ?_
    refine lv_iadd hx hb dL_law_1343 ?_
    obtain ⟨hi241, hf⟩ := chk_t hf
    refine va_sld hx hb hX hbl hbA hS (inb_in hi241) dL_law_1344 ?_
    refine lv_topi (fun y242 hy242 => ?_)
    replace hf := keep_e hf y242 hy242
    obtain ⟨u243, hc244, hf⟩ := bind_t hf
    refine k_VP (ws' := W_L cI cV cJ cD vf am (swF a) ad ao aod (wM_s x227 u243.1)) (As := [.int y242]) (rest := []) (n := 1) ⟨hx, hb, hml, hown, hts⟩ (met_X8_writeOn l am (wM x227) y242 u243 hc244) w1097 w1098 w1099 w9 w1100 ⟨rfl, by decide +kernel, by decide +kernel, by decide +kernel⟩ ⟨Nat.le_of_ble_eq_true rfl, Nat.le_of_ble_eq_true rfl⟩ hK hE hP hD hS hA (cut_LM x227 u243.1) 0 7 rfl rfl rfl rfl hl.1 rfl (Nat.le_of_ble_eq_true rfl) dL_law_1345 ⟨show cb + 6 + 0 ≤ _ from Nat.le_trans (by omega) hcb, show sb + 36 + 0 ≤ _ from Nat.le_trans (by omega) hsb⟩ (fun H locs hP hD hS => ?_)
    try dsimp only at hf
    refine W.widen (k := cb + 6) (n := sb + 36) (show cb + 6 + 0 ≤ cb + 6 by omega) (show sb + 36 + 0 ≤ sb + 36 by omega) ?_
    refine W.eq (g2 := F0 m 1348 ls [.int u243.2]) rfl ?_
    obtain ⟨x245, hx245⟩ : ∃ z, z = (wM_s x227 u243.1) := ⟨_, rfl⟩
    replace hf := keep_e hf x245 hx245
    have hP : va_P D vwCl (W_L cI cV cJ cD vf am (swF a) ad ao aod x245) H := by rw [hx245]; exact hP
    have hD : va_D A (W_L cI cV cJ cD vf am (swF a) ad ao aod x245) := by rw [hx245]; exact hD
    refine lv_topi (fun y246 hy246 => ?_)
    replace hf := keep_e hf y246 hy246
    refine lv_istore (lv' := [(7, .int y246), (6, .int y240), (0, .ref (b)), (1, .ref ((swF a) 0)), (2, .ref (am 0)), (3, .ref (ao)), (4, .ref (aod)), (5, .int v5)]) hx hb dL_law_1348 hl (by decide) rfl (fun ls hl => ?_)
    refine lv_aload_n hx hb dL_law_1350 rfl (lv_at hl 4 rfl) ?_
    obtain ⟨u247, hc248, hf⟩ := bind_t hf
    refine k_VP (ws' := W_L cI cV cJ cD vf am (swF a) ad ao aod x245) (As := []) (rest := []) (n := 0) ⟨hx, hb, hml, hown, hts⟩ (met_X8_thrown l am (wM x245)  u247 hc248) w898 w899 w900 w9 w901 ⟨rfl, by decide +kernel, by decide +kernel, by decide +kernel⟩ ⟨Nat.le_of_ble_eq_true rfl, Nat.le_of_ble_eq_true rfl⟩ hK hE hP hD hS hA (cut_LMi x245) 0 7 rfl rfl rfl rfl hl.1 rfl (Nat.le_of_ble_eq_true rfl) dL_law_1351 ⟨show cb + 6 + 0 ≤ _ from Nat.le_trans (by omega) hcb, show sb + 36 + 0 ≤ _ from Nat.le_trans (by omega) hsb⟩ (fun H locs hP hD hS => ?_)
    try dsimp only at hf
    refine W.widen (k := cb + 6) (n := sb + 36) (show cb + 6 + 0 ≤ cb + 6 by omega) (show sb + 36 + 0 ≤ sb + 36 by omega) ?_
    refine W.eq (g2 := F0 m 1354 ls [.int u247]) rfl ?_
    refine lv_iload hx hb dL_law_1354 (lv_at hl 1 rfl) ?_
    refine lv_icmp_eq (tgt := 1361) hx hb dL_law_1356 (by decide) (fun c249 => ?_) (fun c249 => ?_)
    · replace hf := if_t c249 hf
      refine lv_iload hx hb dL_law_1361 (lv_at hl 1 rfl) ?_
      refine lv_if_ne (tgt := 1378) hx hb dL_law_1363 (by decide) (fun c250 => ?_) (fun c250 => ?_)
      · replace hf := if_f c250 hf
        refine lv_goto (tgt := 2017) hx hb dL_law_1378 (by decide) ?_
        exact L2017 rec cb sb hcb hsb hrec (swF a) x245 v5 H locs ls hf hP hD hS (lv_sub hl [2, 3, 4, 5, 6, 7] rfl)
      · replace hf := if_t c250 hf
        refine lv_aload_n hx hb dL_law_1366 rfl (lv_at hl 5 rfl) ?_
        refine lv_iconst (v := 0) hx hb dL_law_1367 (by decide) ?_
        refine va_lald hx hb hK hP 15 2 rfl rfl (inb_in (by decide : inb 0 1 = true)) dL_law_1368 ?_
        refine lv_iload hx hb dL_law_1369 (lv_at hl 0 rfl) ?_
        refine lv_i2l (v := (y246).toInt64) hx hb dL_law_1371 rfl ?_
        refine k_lcmp hx hb dL_law_1372 ?_
        refine lv_if_eq (tgt := 1378) hx hb dL_law_1373 (by decide) (fun c251 => ?_) (fun c251 => ?_)
        · replace hf := if_t c251 hf
          refine lv_goto (tgt := 2017) hx hb dL_law_1378 (by decide) ?_
          exact L2017 rec cb sb hcb hsb hrec (swF a) x245 v5 H locs ls hf hP hD hS (lv_sub hl [2, 3, 4, 5, 6, 7] rfl)
        · replace hf := if_f c251 hf
          refine lv_iconst (v := 0) hx hb dL_law_1376 (by decide) ?_
          exact absurd (Option.some.inj hf) (by decide)
    · replace hf := if_f c249 hf
      refine lv_iconst (v := 0) hx hb dL_law_1359 (by decide) ?_
      exact absurd (Option.some.inj hf) (by decide)
  have L1312 : ∀ (rec : LwSt × Int32 → Option Int32) (cb sb : Nat), cb + 6 ≤ room_1.cells → sb + 36 ≤ room_1.slots → (∀ (x : LwSt) (v5 : Int32) (a : Nat → Nat) (H : Heap) (locs : List Loc) (ls : Array Slot), rec (x, v5) = some 1 → va_P D vwCl (W_L cI cV cJ cD vf am a ad ao aod x) H → va_D A (W_L cI cV cJ cD vf am a ad ao aod x) → va_S A s.heap H locs → lv_has ls 8 [(0, .ref (b)), (1, .ref (a 0)), (2, .ref (am 0)), (3, .ref (ao)), (4, .ref (aod)), (5, .int v5)] → W p l e room_1 s m #[Value.ref b] below meth c H locs (cb + 6) (sb + 36) (lw_Z below #[Value.ref b] s) (F0 m 28 ls [])) → ∀ (a : Nat → Nat) (x : LwSt) (v5 : Int32) (H : Heap) (locs : List Loc) (ls : Array Slot), fL_law_1312 L xs rec x v5  = some 1 → va_P D vwCl (W_L cI cV cJ cD vf am a ad ao aod x) H → va_D A (W_L cI cV cJ cD vf am a ad ao aod x) → va_S A s.heap H locs → lv_has ls 8 [(0, .ref (b)), (1, .ref (a 0)), (2, .ref (am 0)), (3, .ref (ao)), (4, .ref (aod)), (5, .int v5)] → W p l e room_1 s m #[Value.ref b] below meth c H locs (cb + 0) (sb + 0) (lw_Z below #[Value.ref b] s) (F0 m 1312 ls []) := by
    intro rec cb sb hcb hsb hrec a x v5 H locs ls hf hP hD hS hl
    dsimp only [fL_law_1312] at hf
    refine lv_aload_n hx hb dL_law_1312 rfl (lv_at hl 1 rfl) ?_
    obtain ⟨u252, hc253, hf⟩ := bind_t hf
    refine k_VP (ws' := W_L cI cV cJ cD vf am a ad ao aod (wS_s x u252.1)) (As := []) (rest := []) (n := 0) ⟨hx, hb, hml, hown, hts⟩ (met_X7_rewrite l vf ad a hvf (wS x)  u252 hc253) w195 w196 w197 w1 w198 ⟨rfl, by decide +kernel, by decide +kernel, by decide +kernel⟩ ⟨Nat.le_of_ble_eq_true rfl, Nat.le_of_ble_eq_true rfl⟩ hK hE hP hD hS hA (cut_LS x u252.1) 0 6 rfl rfl rfl rfl hl.1 rfl (Nat.le_of_ble_eq_true rfl) dL_law_1313 ⟨show cb + 0 + 0 ≤ _ from Nat.le_trans (by omega) hcb, show sb + 0 + 0 ≤ _ from Nat.le_trans (by omega) hsb⟩ (fun H locs hP hD hS => ?_)
    try dsimp only at hf
    refine W.widen (k := cb + 0) (n := sb + 0) (show cb + 0 + 0 ≤ cb + 0 by omega) (show sb + 0 + 0 ≤ sb + 0 by omega) ?_
    refine W.eq (g2 := F0 m 1316 ls [.int u252.2]) rfl ?_
    obtain ⟨x254, hx254⟩ : ∃ z, z = (wS_s x u252.1) := ⟨_, rfl⟩
    replace hf := keep_e hf x254 hx254
    have hP : va_P D vwCl (W_L cI cV cJ cD vf am a ad ao aod x254) H := by rw [hx254]; exact hP
    have hD : va_D A (W_L cI cV cJ cD vf am a ad ao aod x254) := by rw [hx254]; exact hD
    refine lv_aload_n hx hb dL_law_1316 rfl (lv_at hl 2 rfl) ?_
    obtain ⟨u255, hc256, hf⟩ := bind_t hf
    refine k_VP (ws' := W_L cI cV cJ cD vf am a ad ao aod (wM_s x254 u255.1)) (As := []) (rest := [.int u252.2]) (n := 0) ⟨hx, hb, hml, hown, hts⟩ (met_X8_rewrite l am (wM x254)  u255 hc256) w1081 w1082 w1083 w9 w1084 ⟨rfl, by decide +kernel, by decide +kernel, by decide +kernel⟩ ⟨Nat.le_of_ble_eq_true rfl, Nat.le_of_ble_eq_true rfl⟩ hK hE hP hD hS hA (cut_LM x254 u255.1) 0 7 rfl rfl rfl rfl hl.1 rfl (Nat.le_of_ble_eq_true rfl) dL_law_1317 ⟨show cb + 0 + 0 ≤ _ from Nat.le_trans (by omega) hcb, show sb + 0 + 0 ≤ _ from Nat.le_trans (by omega) hsb⟩ (fun H locs hP hD hS => ?_)
    try dsimp only at hf
    refine W.widen (k := cb + 0) (n := sb + 0) (show cb + 0 + 0 ≤ cb + 0 by omega) (show sb + 0 + 0 ≤ sb + 0 by omega) ?_
    refine W.eq (g2 := F0 m 1320 ls [.int u255.2, .int u252.2]) rfl ?_
    obtain ⟨x257, hx257⟩ : ∃ z, z = (wM_s x254 u255.1) := ⟨_, rfl⟩
    replace hf := keep_e hf x257 hx257
    have hP : va_P D vwCl (W_L cI cV cJ cD vf am a ad ao aod x257) H := by rw [hx257]; exact hP
    have hD : va_D A (W_L cI cV cJ cD vf am a ad ao aod x257) := by rw [hx257]; exact hD
    refine lv_icmp_eq (tgt := 2017) hx hb dL_law_1320 (by decide) (fun c258 => ?_) (fun c258 => ?_)
    · replace hf := if_t c258 hf
      refine W.widen (k := cb + 6) (n := sb + 36) (by omega) (by omega) ?_
      exact L2017 rec cb sb hcb hsb hrec a x257 v5 H locs ls hf hP hD hS (lv_sub hl [0, 1, 2, 3, 4, 5] rfl)
    · replace hf := if_f c258 hf
      refine lv_iconst (v := 0) hx hb dL_law_1323 (by decide) ?_
      exact absurd (Option.some.inj hf) (by decide)
  have L1299 : ∀ (rec : LwSt × Int32 → Option Int32) (cb sb : Nat), cb + 6 ≤ room_1.cells → sb + 36 ≤ room_1.slots → (∀ (x : LwSt) (v5 : Int32) (a : Nat → Nat) (H : Heap) (locs : List Loc) (ls : Array Slot), rec (x, v5) = some 1 → va_P D vwCl (W_L cI cV cJ cD vf am a ad ao aod x) H → va_D A (W_L cI cV cJ cD vf am a ad ao aod x) → va_S A s.heap H locs → lv_has ls 8 [(0, .ref (b)), (1, .ref (a 0)), (2, .ref (am 0)), (3, .ref (ao)), (4, .ref (aod)), (5, .int v5)] → W p l e room_1 s m #[Value.ref b] below meth c H locs (cb + 6) (sb + 36) (lw_Z below #[Value.ref b] s) (F0 m 28 ls [])) → ∀ (a : Nat → Nat) (x : LwSt) (v5 : Int32) (H : Heap) (locs : List Loc) (ls : Array Slot), fL_law_1299 L xs rec x v5  = some 1 → va_P D vwCl (W_L cI cV cJ cD vf am a ad ao aod x) H → va_D A (W_L cI cV cJ cD vf am a ad ao aod x) → va_S A s.heap H locs → lv_has ls 8 [(0, .ref (b)), (1, .ref (a 0)), (2, .ref (am 0)), (3, .ref (ao)), (4, .ref (aod)), (5, .int v5)] → W p l e room_1 s m #[Value.ref b] below meth c H locs (cb + 0) (sb + 0) (lw_Z below #[Value.ref b] s) (F0 m 1299 ls []) := by
    intro rec cb sb hcb hsb hrec a x v5 H locs ls hf hP hD hS hl
    dsimp only [fL_law_1299] at hf
    refine lv_aload_n hx hb dL_law_1299 rfl (lv_at hl 1 rfl) ?_
    obtain ⟨u259, hc260, hf⟩ := bind_t hf
    refine k_VP (ws' := W_L cI cV cJ cD vf am a ad ao aod x) (As := []) (rest := []) (n := 0) ⟨hx, hb, hml, hown, hts⟩ (met_X7_held l vf ad a hvf (wS x)  u259 hc260) w191 w192 w193 w1 w194 ⟨rfl, by decide +kernel, by decide +kernel, by decide +kernel⟩ ⟨Nat.le_of_ble_eq_true rfl, Nat.le_of_ble_eq_true rfl⟩ hK hE hP hD hS hA (cut_LSi x) 0 6 rfl rfl rfl rfl hl.1 rfl (Nat.le_of_ble_eq_true rfl) dL_law_1300 ⟨show cb + 0 + 0 ≤ _ from Nat.le_trans (by omega) hcb, show sb + 0 + 0 ≤ _ from Nat.le_trans (by omega) hsb⟩ (fun H locs hP hD hS => ?_)
    try dsimp only at hf
    refine W.widen (k := cb + 0) (n := sb + 0) (show cb + 0 + 0 ≤ cb + 0 by omega) (show sb + 0 + 0 ≤ sb + 0 by omega) ?_
    refine W.eq (g2 := F0 m 1303 ls [.int u259]) rfl ?_
    refine lv_aload_n hx hb dL_law_1303 rfl (lv_at hl 2 rfl) ?_
    obtain ⟨u261, hc262, hf⟩ := bind_t hf
    refine k_VP (ws' := W_L cI cV cJ cD vf am a ad ao aod (wM_s x u261.1)) (As := []) (rest := [.int u259]) (n := 0) ⟨hx, hb, hml, hown, hts⟩ (met_X8_held l am (wM x)  u261 hc262) w1077 w1078 w1079 w9 w1080 ⟨rfl, by decide +kernel, by decide +kernel, by decide +kernel⟩ ⟨Nat.le_of_ble_eq_true rfl, Nat.le_of_ble_eq_true rfl⟩ hK hE hP hD hS hA (cut_LM x u261.1) 0 7 rfl rfl rfl rfl hl.1 rfl (Nat.le_of_ble_eq_true rfl) dL_law_1304 ⟨show cb + 0 + 0 ≤ _ from Nat.le_trans (by omega) hcb, show sb + 0 + 0 ≤ _ from Nat.le_trans (by omega) hsb⟩ (fun H locs hP hD hS => ?_)
    try dsimp only at hf
    refine W.widen (k := cb + 0) (n := sb + 0) (show cb + 0 + 0 ≤ cb + 0 by omega) (show sb + 0 + 0 ≤ sb + 0 by omega) ?_
    refine W.eq (g2 := F0 m 1307 ls [.int u261.2, .int u259]) rfl ?_
    obtain ⟨x263, hx263⟩ : ∃ z, z = (wM_s x u261.1) := ⟨_, rfl⟩
    replace hf := keep_e hf x263 hx263
    have hP : va_P D vwCl (W_L cI cV cJ cD vf am a ad ao aod x263) H := by rw [hx263]; exact hP
    have hD : va_D A (W_L cI cV cJ cD vf am a ad ao aod x263) := by rw [hx263]; exact hD
    refine lv_icmp_eq (tgt := 2017) hx hb dL_law_1307 (by decide) (fun c264 => ?_) (fun c264 => ?_)
    · replace hf := if_t c264 hf
      refine W.widen (k := cb + 6) (n := sb + 36) (by omega) (by omega) ?_
      exact L2017 rec cb sb hcb hsb hrec a x263 v5 H locs ls hf hP hD hS (lv_sub hl [0, 1, 2, 3, 4, 5] rfl)
    · replace hf := if_f c264 hf
      refine lv_iconst (v := 0) hx hb dL_law_1310 (by decide) ?_
      exact absurd (Option.some.inj hf) (by decide)
  have L1243 : ∀ (rec : LwSt × Int32 → Option Int32) (cb sb : Nat), cb + 6 ≤ room_1.cells → sb + 36 ≤ room_1.slots → (∀ (x : LwSt) (v5 : Int32) (a : Nat → Nat) (H : Heap) (locs : List Loc) (ls : Array Slot), rec (x, v5) = some 1 → va_P D vwCl (W_L cI cV cJ cD vf am a ad ao aod x) H → va_D A (W_L cI cV cJ cD vf am a ad ao aod x) → va_S A s.heap H locs → lv_has ls 8 [(0, .ref (b)), (1, .ref (a 0)), (2, .ref (am 0)), (3, .ref (ao)), (4, .ref (aod)), (5, .int v5)] → W p l e room_1 s m #[Value.ref b] below meth c H locs (cb + 6) (sb + 36) (lw_Z below #[Value.ref b] s) (F0 m 28 ls [])) → ∀ (a : Nat → Nat) (x : LwSt) (v5 : Int32) (H : Heap) (locs : List Loc) (ls : Array Slot), fL_law_1243 L xs rec x v5  = some 1 → va_P D vwCl (W_L cI cV cJ cD vf am a ad ao aod x) H → va_D A (W_L cI cV cJ cD vf am a ad ao aod x) → va_S A s.heap H locs → lv_has ls 8 [(0, .ref (b)), (1, .ref (a 0)), (2, .ref (am 0)), (3, .ref (ao)), (4, .ref (aod)), (5, .int v5)] → W p l e room_1 s m #[Value.ref b] below meth c H locs (cb + 0) (sb + 0) (lw_Z below #[Value.ref b] s) (F0 m 1243 ls []) := by
    intro rec cb sb hcb hsb hrec a x v5 H locs ls hf hP hD hS hl
    dsimp only [fL_law_1243] at hf
    refine lv_aload_n hx hb dL_law_1243 rfl (lv_at hl 1 rfl) ?_
    refine lv_aload_n hx hb dL_law_1244 rfl (lv_at hl 0 rfl) ?_
    refine lv_iload hx hb dL_law_1245 (lv_at hl 5 rfl) ?_
    refine lv_iconst (v := 1) hx hb dL_law_1247 (by decide) ?_
    refine lv_iadd hx hb dL_law_1248 ?_
    obtain ⟨hi265, hf⟩ := chk_t hf
    refine va_sld hx hb hX hbl hbA hS (inb_in hi265) dL_law_1249 ?_
    refine lv_topi (fun y266 hy266 => ?_)
    replace hf := keep_e hf y266 hy266
    refine lv_aload_n hx hb dL_law_1250 rfl (lv_at hl 3 rfl) ?_
    obtain ⟨u267, hc268, hf⟩ := bind_t hf
    refine k_SWP (ws' := W_L cI cV cJ cD vf am a ad ao aod (zS u267.1, wM x, zO u267.1, wD x)) (As := [.ref (a 0), .int y266, .ref (ao)]) (rest := []) (n := 3) ⟨hx, hb, hml, hown, hts⟩ (met_L_sample l hlt vf ad ao a hvf (wS x, wO x) y266 u267 hc268) w701 w702 w0 w703 ⟨by decide +kernel, by decide +kernel, by decide +kernel⟩ ⟨Nat.le_of_ble_eq_true rfl, Nat.le_of_ble_eq_true rfl⟩ hK hE hP hD hS hA (cut_LZ x u267.1) rfl hl.1 rfl (Nat.le_of_ble_eq_true rfl) dL_law_1251 ⟨show cb + 0 + 1 ≤ _ from Nat.le_trans (by omega) hcb, show sb + 0 + 6 ≤ _ from Nat.le_trans (by omega) hsb⟩ (fun H locs hP hD hS => ?_)
    try dsimp only at hf
    refine W.widen (k := cb + 6) (n := sb + 36) (show cb + 0 + 1 ≤ cb + 6 by omega) (show sb + 0 + 6 ≤ sb + 36 by omega) ?_
    refine W.eq (g2 := F0 m 1254 ls [.int u267.2]) rfl ?_
    obtain ⟨x269, hx269⟩ : ∃ z, z = (zS u267.1, wM x, zO u267.1, wD x) := ⟨_, rfl⟩
    replace hf := keep_e hf x269 hx269
    have hP : va_P D vwCl (W_L cI cV cJ cD vf am a ad ao aod x269) H := by rw [hx269]; exact hP
    have hD : va_D A (W_L cI cV cJ cD vf am a ad ao aod x269) := by rw [hx269]; exact hD
    refine lv_topi (fun y270 hy270 => ?_)
    replace hf := keep_e hf y270 hy270
    refine lv_istore (lv' := [(6, .int y270), (0, .ref (b)), (1, .ref (a 0)), (2, .ref (am 0)), (3, .ref (ao)), (4, .ref (aod)), (5, .int v5)]) hx hb dL_law_1254 hl (by decide) rfl (fun ls hl => ?_)
    refine lv_aload_n hx hb dL_law_1256 rfl (lv_at hl 3 rfl) ?_
    refine lv_aload_n hx hb dL_law_1257 rfl (lv_at hl 1 rfl) ?_
    refine lv_iload hx hb dL_law_1258 (lv_at hl 6 rfl) ?_
    refine lv_iconst (v := 1) hx hb dL_law_1260 (by decide) ?_
    refine lv_iadd hx hb dL_law_1261 ?_
    obtain ⟨hi271, hf⟩ := chk_t hf
    refine va_sld hx hb hX hbl hbA hS (inb_in hi271) dL_law_1262 ?_
    refine lv_topi (fun y272 hy272 => ?_)
    replace hf := keep_e hf y272 hy272
    obtain ⟨u273, hc274, hf⟩ := bind_t hf
    refine k_VP (ws' := W_L cI cV cJ cD vf am a ad ao aod (wM_s x269 u273.1)) (As := [.int y272]) (rest := []) (n := 1) ⟨hx, hb, hml, hown, hts⟩ (met_X8_sample l am (wM x269) y272 u273 hc274) w1073 w1074 w1075 w9 w1076 ⟨rfl, by decide +kernel, by decide +kernel, by decide +kernel⟩ ⟨Nat.le_of_ble_eq_true rfl, Nat.le_of_ble_eq_true rfl⟩ hK hE hP hD hS hA (cut_LM x269 u273.1) 0 7 rfl rfl rfl rfl hl.1 rfl (Nat.le_of_ble_eq_true rfl) dL_law_1263 ⟨show cb + 6 + 0 ≤ _ from Nat.le_trans (by omega) hcb, show sb + 36 + 0 ≤ _ from Nat.le_trans (by omega) hsb⟩ (fun H locs hP hD hS => ?_)
    try dsimp only at hf
    refine W.widen (k := cb + 6) (n := sb + 36) (show cb + 6 + 0 ≤ cb + 6 by omega) (show sb + 36 + 0 ≤ sb + 36 by omega) ?_
    refine W.eq (g2 := F0 m 1266 ls [.int u273.2]) rfl ?_
    obtain ⟨x275, hx275⟩ : ∃ z, z = (wM_s x269 u273.1) := ⟨_, rfl⟩
    replace hf := keep_e hf x275 hx275
    have hP : va_P D vwCl (W_L cI cV cJ cD vf am a ad ao aod x275) H := by rw [hx275]; exact hP
    have hD : va_D A (W_L cI cV cJ cD vf am a ad ao aod x275) := by rw [hx275]; exact hD
    refine lv_topi (fun y276 hy276 => ?_)
    replace hf := keep_e hf y276 hy276
    refine lv_istore (lv' := [(7, .int y276), (6, .int y270), (0, .ref (b)), (1, .ref (a 0)), (2, .ref (am 0)), (3, .ref (ao)), (4, .ref (aod)), (5, .int v5)]) hx hb dL_law_1266 hl (by decide) rfl (fun ls hl => ?_)
    refine lv_aload_n hx hb dL_law_1268 rfl (lv_at hl 4 rfl) ?_
    obtain ⟨u277, hc278, hf⟩ := bind_t hf
    refine k_VP (ws' := W_L cI cV cJ cD vf am a ad ao aod x275) (As := []) (rest := []) (n := 0) ⟨hx, hb, hml, hown, hts⟩ (met_X8_thrown l am (wM x275)  u277 hc278) w898 w899 w900 w9 w901 ⟨rfl, by decide +kernel, by decide +kernel, by decide +kernel⟩ ⟨Nat.le_of_ble_eq_true rfl, Nat.le_of_ble_eq_true rfl⟩ hK hE hP hD hS hA (cut_LMi x275) 0 7 rfl rfl rfl rfl hl.1 rfl (Nat.le_of_ble_eq_true rfl) dL_law_1269 ⟨show cb + 6 + 0 ≤ _ from Nat.le_trans (by omega) hcb, show sb + 36 + 0 ≤ _ from Nat.le_trans (by omega) hsb⟩ (fun H locs hP hD hS => ?_)
    try dsimp only at hf
    refine W.widen (k := cb + 6) (n := sb + 36) (show cb + 6 + 0 ≤ cb + 6 by omega) (show sb + 36 + 0 ≤ sb + 36 by omega) ?_
    refine W.eq (g2 := F0 m 1272 ls [.int u277]) rfl ?_
    refine lv_iload hx hb dL_law_1272 (lv_at hl 1 rfl) ?_
    refine lv_icmp_eq (tgt := 1279) hx hb dL_law_1274 (by decide) (fun c279 => ?_) (fun c279 => ?_)
    · replace hf := if_t c279 hf
      refine lv_iload hx hb dL_law_1279 (lv_at hl 1 rfl) ?_
      refine lv_if_ne (tgt := 1296) hx hb dL_law_1281 (by decide) (fun c280 => ?_) (fun c280 => ?_)
      · replace hf := if_f c280 hf
        refine lv_goto (tgt := 2017) hx hb dL_law_1296 (by decide) ?_
        exact L2017 rec cb sb hcb hsb hrec a x275 v5 H locs ls hf hP hD hS (lv_sub hl [2, 3, 4, 5, 6, 7] rfl)
      · replace hf := if_t c280 hf
        refine lv_aload_n hx hb dL_law_1284 rfl (lv_at hl 5 rfl) ?_
        refine lv_iconst (v := 0) hx hb dL_law_1285 (by decide) ?_
        refine va_lald hx hb hK hP 15 2 rfl rfl (inb_in (by decide : inb 0 1 = true)) dL_law_1286 ?_
        refine lv_iload hx hb dL_law_1287 (lv_at hl 0 rfl) ?_
        refine lv_i2l (v := (y276).toInt64) hx hb dL_law_1289 rfl ?_
        refine k_lcmp hx hb dL_law_1290 ?_
        refine lv_if_eq (tgt := 1296) hx hb dL_law_1291 (by decide) (fun c281 => ?_) (fun c281 => ?_)
        · replace hf := if_t c281 hf
          refine lv_goto (tgt := 2017) hx hb dL_law_1296 (by decide) ?_
          exact L2017 rec cb sb hcb hsb hrec a x275 v5 H locs ls hf hP hD hS (lv_sub hl [2, 3, 4, 5, 6, 7] rfl)
        · replace hf := if_f c281 hf
          refine lv_iconst (v := 0) hx hb dL_law_1294 (by decide) ?_
          exact absurd (Option.some.inj hf) (by decide)
    · replace hf := if_f c279 hf
      refine lv_iconst (v := 0) hx hb dL_law_1277 (by decide) ?_
      exact absurd (Option.some.inj hf) (by decide)
  have L1187 : ∀ (rec : LwSt × Int32 → Option Int32) (cb sb : Nat), cb + 6 ≤ room_1.cells → sb + 36 ≤ room_1.slots → (∀ (x : LwSt) (v5 : Int32) (a : Nat → Nat) (H : Heap) (locs : List Loc) (ls : Array Slot), rec (x, v5) = some 1 → va_P D vwCl (W_L cI cV cJ cD vf am a ad ao aod x) H → va_D A (W_L cI cV cJ cD vf am a ad ao aod x) → va_S A s.heap H locs → lv_has ls 8 [(0, .ref (b)), (1, .ref (a 0)), (2, .ref (am 0)), (3, .ref (ao)), (4, .ref (aod)), (5, .int v5)] → W p l e room_1 s m #[Value.ref b] below meth c H locs (cb + 6) (sb + 36) (lw_Z below #[Value.ref b] s) (F0 m 28 ls [])) → ∀ (a : Nat → Nat) (x : LwSt) (v5 : Int32) (H : Heap) (locs : List Loc) (ls : Array Slot), fL_law_1187 L xs rec x v5  = some 1 → va_P D vwCl (W_L cI cV cJ cD vf am a ad ao aod x) H → va_D A (W_L cI cV cJ cD vf am a ad ao aod x) → va_S A s.heap H locs → lv_has ls 8 [(0, .ref (b)), (1, .ref (a 0)), (2, .ref (am 0)), (3, .ref (ao)), (4, .ref (aod)), (5, .int v5)] → W p l e room_1 s m #[Value.ref b] below meth c H locs (cb + 0) (sb + 0) (lw_Z below #[Value.ref b] s) (F0 m 1187 ls []) := by
    intro rec cb sb hcb hsb hrec a x v5 H locs ls hf hP hD hS hl
    dsimp only [fL_law_1187] at hf
    refine lv_aload_n hx hb dL_law_1187 rfl (lv_at hl 1 rfl) ?_
    refine lv_aload_n hx hb dL_law_1188 rfl (lv_at hl 0 rfl) ?_
    refine lv_iload hx hb dL_law_1189 (lv_at hl 5 rfl) ?_
    refine lv_iconst (v := 1) hx hb dL_law_1191 (by decide) ?_
    refine lv_iadd hx hb dL_law_1192 ?_
    obtain ⟨hi282, hf⟩ := chk_t hf
    refine va_sld hx hb hX hbl hbA hS (inb_in hi282) dL_law_1193 ?_
    refine lv_topi (fun y283 hy283 => ?_)
    replace hf := keep_e hf y283 hy283
    refine lv_aload_n hx hb dL_law_1194 rfl (lv_at hl 3 rfl) ?_
    obtain ⟨hv286, hf⟩ := chk_t hf
    replace hv286 := of_decide_eq_true hv286
    obtain ⟨u284, hc285, hf⟩ := bind_t hf
    obtain ⟨hv287, hf⟩ := chk_t hf
    replace hv287 := of_decide_eq_true hv287
    refine k_SWP (ws' := W_L cI cV cJ cD vf am a ad ao aod (unf (fk y283) (wS x) (pF u284.1), wM x, pO u284.1, wD x)) (As := [.ref (a 0), .int y283, .ref (ao)]) (rest := []) (n := 3) ⟨hx, hb, hml, hown, hts⟩ (met_L_tick l hlt (fk y283) vf (foO a (ad (fk y283)) ao) (hvf _ fk_lt) (foc (fk y283) (wS x), wO x) y283 u284 hc285) w692 w693 w0 w694 ⟨by decide +kernel, by decide +kernel, by decide +kernel⟩ ⟨Nat.le_of_ble_eq_true rfl, Nat.le_of_ble_eq_true rfl⟩ hK hE hP hD hS hA (cut_LO x fk_lt hv286 u284.1 hv287) rfl hl.1 rfl (Nat.le_of_ble_eq_true rfl) dL_law_1195 ⟨show cb + 0 + 2 ≤ _ from Nat.le_trans (by omega) hcb, show sb + 0 + 12 ≤ _ from Nat.le_trans (by omega) hsb⟩ (fun H locs hP hD hS => ?_)
    try dsimp only at hf
    refine W.widen (k := cb + 6) (n := sb + 36) (show cb + 0 + 2 ≤ cb + 6 by omega) (show sb + 0 + 12 ≤ sb + 36 by omega) ?_
    refine W.eq (g2 := F0 m 1198 ls [.int u284.2]) rfl ?_
    obtain ⟨x288, hx288⟩ : ∃ z, z = (unf (fk y283) (wS x) (pF u284.1), wM x, pO u284.1, wD x) := ⟨_, rfl⟩
    replace hf := keep_e hf x288 hx288
    have hP : va_P D vwCl (W_L cI cV cJ cD vf am a ad ao aod x288) H := by rw [hx288]; exact hP
    have hD : va_D A (W_L cI cV cJ cD vf am a ad ao aod x288) := by rw [hx288]; exact hD
    refine lv_topi (fun y289 hy289 => ?_)
    replace hf := keep_e hf y289 hy289
    refine lv_istore (lv' := [(6, .int y289), (0, .ref (b)), (1, .ref (a 0)), (2, .ref (am 0)), (3, .ref (ao)), (4, .ref (aod)), (5, .int v5)]) hx hb dL_law_1198 hl (by decide) rfl (fun ls hl => ?_)
    refine lv_aload_n hx hb dL_law_1200 rfl (lv_at hl 3 rfl) ?_
    refine lv_aload_n hx hb dL_law_1201 rfl (lv_at hl 1 rfl) ?_
    refine lv_iload hx hb dL_law_1202 (lv_at hl 6 rfl) ?_
    refine lv_iconst (v := 1) hx hb dL_law_1204 (by decide) ?_
    refine lv_iadd hx hb dL_law_1205 ?_
    obtain ⟨hi290, hf⟩ := chk_t hf
    refine va_sld hx hb hX hbl hbA hS (inb_in hi290) dL_law_1206 ?_
    refine lv_topi (fun y291 hy291 => ?_)
    replace hf := keep_e hf y291 hy291
    obtain ⟨u292, hc293, hf⟩ := bind_t hf
    refine k_VP (ws' := W_L cI cV cJ cD vf am a ad ao aod (wM_s x288 u292.1)) (As := [.int y291]) (rest := []) (n := 1) ⟨hx, hb, hml, hown, hts⟩ (met_X8_tick l am (wM x288) y291 u292 hc293) w1068 w1069 w1070 w9 w1071 ⟨rfl, by decide +kernel, by decide +kernel, by decide +kernel⟩ ⟨Nat.le_of_ble_eq_true rfl, Nat.le_of_ble_eq_true rfl⟩ hK hE hP hD hS hA (cut_LM x288 u292.1) 0 7 rfl rfl rfl rfl hl.1 rfl (Nat.le_of_ble_eq_true rfl) dL_law_1207 ⟨show cb + 6 + 0 ≤ _ from Nat.le_trans (by omega) hcb, show sb + 36 + 0 ≤ _ from Nat.le_trans (by omega) hsb⟩ (fun H locs hP hD hS => ?_)
    try dsimp only at hf
    refine W.widen (k := cb + 6) (n := sb + 36) (show cb + 6 + 0 ≤ cb + 6 by omega) (show sb + 36 + 0 ≤ sb + 36 by omega) ?_
    refine W.eq (g2 := F0 m 1210 ls [.int u292.2]) rfl ?_
    obtain ⟨x294, hx294⟩ : ∃ z, z = (wM_s x288 u292.1) := ⟨_, rfl⟩
    replace hf := keep_e hf x294 hx294
    have hP : va_P D vwCl (W_L cI cV cJ cD vf am a ad ao aod x294) H := by rw [hx294]; exact hP
    have hD : va_D A (W_L cI cV cJ cD vf am a ad ao aod x294) := by rw [hx294]; exact hD
    refine lv_topi (fun y295 hy295 => ?_)
    replace hf := keep_e hf y295 hy295
    refine lv_istore (lv' := [(7, .int y295), (6, .int y289), (0, .ref (b)), (1, .ref (a 0)), (2, .ref (am 0)), (3, .ref (ao)), (4, .ref (aod)), (5, .int v5)]) hx hb dL_law_1210 hl (by decide) rfl (fun ls hl => ?_)
    refine lv_aload_n hx hb dL_law_1212 rfl (lv_at hl 4 rfl) ?_
    obtain ⟨u296, hc297, hf⟩ := bind_t hf
    refine k_VP (ws' := W_L cI cV cJ cD vf am a ad ao aod x294) (As := []) (rest := []) (n := 0) ⟨hx, hb, hml, hown, hts⟩ (met_X8_thrown l am (wM x294)  u296 hc297) w898 w899 w900 w9 w901 ⟨rfl, by decide +kernel, by decide +kernel, by decide +kernel⟩ ⟨Nat.le_of_ble_eq_true rfl, Nat.le_of_ble_eq_true rfl⟩ hK hE hP hD hS hA (cut_LMi x294) 0 7 rfl rfl rfl rfl hl.1 rfl (Nat.le_of_ble_eq_true rfl) dL_law_1213 ⟨show cb + 6 + 0 ≤ _ from Nat.le_trans (by omega) hcb, show sb + 36 + 0 ≤ _ from Nat.le_trans (by omega) hsb⟩ (fun H locs hP hD hS => ?_)
    try dsimp only at hf
    refine W.widen (k := cb + 6) (n := sb + 36) (show cb + 6 + 0 ≤ cb + 6 by omega) (show sb + 36 + 0 ≤ sb + 36 by omega) ?_
    refine W.eq (g2 := F0 m 1216 ls [.int u296]) rfl ?_
    refine lv_iload hx hb dL_law_1216 (lv_at hl 1 rfl) ?_
    refine lv_icmp_eq (tgt := 1223) hx hb dL_law_1218 (by decide) (fun c298 => ?_) (fun c298 => ?_)
    · replace hf := if_t c298 hf
      refine lv_iload hx hb dL_law_1223 (lv_at hl 1 rfl) ?_
      refine lv_if_ne (tgt := 1240) hx hb dL_law_1225 (by decide) (fun c299 => ?_) (fun c299 => ?_)
      · replace hf := if_f c299 hf
        refine lv_goto (tgt := 2017) hx hb dL_law_1240 (by decide) ?_
        exact L2017 rec cb sb hcb hsb hrec a x294 v5 H locs ls hf hP hD hS (lv_sub hl [2, 3, 4, 5, 6, 7] rfl)
      · replace hf := if_t c299 hf
        refine lv_aload_n hx hb dL_law_1228 rfl (lv_at hl 5 rfl) ?_
        refine lv_iconst (v := 0) hx hb dL_law_1229 (by decide) ?_
        refine va_lald hx hb hK hP 15 2 rfl rfl (inb_in (by decide : inb 0 1 = true)) dL_law_1230 ?_
        refine lv_iload hx hb dL_law_1231 (lv_at hl 0 rfl) ?_
        refine lv_i2l (v := (y295).toInt64) hx hb dL_law_1233 rfl ?_
        refine k_lcmp hx hb dL_law_1234 ?_
        refine lv_if_eq (tgt := 1240) hx hb dL_law_1235 (by decide) (fun c300 => ?_) (fun c300 => ?_)
        · replace hf := if_t c300 hf
          refine lv_goto (tgt := 2017) hx hb dL_law_1240 (by decide) ?_
          exact L2017 rec cb sb hcb hsb hrec a x294 v5 H locs ls hf hP hD hS (lv_sub hl [2, 3, 4, 5, 6, 7] rfl)
        · replace hf := if_f c300 hf
          refine lv_iconst (v := 0) hx hb dL_law_1238 (by decide) ?_
          exact absurd (Option.some.inj hf) (by decide)
    · replace hf := if_f c298 hf
      refine lv_iconst (v := 0) hx hb dL_law_1221 (by decide) ?_
      exact absurd (Option.some.inj hf) (by decide)
  have L1131 : ∀ (rec : LwSt × Int32 → Option Int32) (cb sb : Nat), cb + 6 ≤ room_1.cells → sb + 36 ≤ room_1.slots → (∀ (x : LwSt) (v5 : Int32) (a : Nat → Nat) (H : Heap) (locs : List Loc) (ls : Array Slot), rec (x, v5) = some 1 → va_P D vwCl (W_L cI cV cJ cD vf am a ad ao aod x) H → va_D A (W_L cI cV cJ cD vf am a ad ao aod x) → va_S A s.heap H locs → lv_has ls 8 [(0, .ref (b)), (1, .ref (a 0)), (2, .ref (am 0)), (3, .ref (ao)), (4, .ref (aod)), (5, .int v5)] → W p l e room_1 s m #[Value.ref b] below meth c H locs (cb + 6) (sb + 36) (lw_Z below #[Value.ref b] s) (F0 m 28 ls [])) → ∀ (a : Nat → Nat) (x : LwSt) (v5 : Int32) (H : Heap) (locs : List Loc) (ls : Array Slot), fL_law_1131 L xs rec x v5  = some 1 → va_P D vwCl (W_L cI cV cJ cD vf am a ad ao aod x) H → va_D A (W_L cI cV cJ cD vf am a ad ao aod x) → va_S A s.heap H locs → lv_has ls 8 [(0, .ref (b)), (1, .ref (a 0)), (2, .ref (am 0)), (3, .ref (ao)), (4, .ref (aod)), (5, .int v5)] → W p l e room_1 s m #[Value.ref b] below meth c H locs (cb + 0) (sb + 0) (lw_Z below #[Value.ref b] s) (F0 m 1131 ls []) := by
    intro rec cb sb hcb hsb hrec a x v5 H locs ls hf hP hD hS hl
    dsimp only [fL_law_1131] at hf
    refine lv_aload_n hx hb dL_law_1131 rfl (lv_at hl 1 rfl) ?_
    refine lv_aload_n hx hb dL_law_1132 rfl (lv_at hl 0 rfl) ?_
    refine lv_iload hx hb dL_law_1133 (lv_at hl 5 rfl) ?_
    refine lv_iconst (v := 1) hx hb dL_law_1135 (by decide) ?_
    refine lv_iadd hx hb dL_law_1136 ?_
    obtain ⟨hi301, hf⟩ := chk_t hf
    refine va_sld hx hb hX hbl hbA hS (inb_in hi301) dL_law_1137 ?_
    refine lv_topi (fun y302 hy302 => ?_)
    replace hf := keep_e hf y302 hy302
    refine lv_aload_n hx hb dL_law_1138 rfl (lv_at hl 3 rfl) ?_
    obtain ⟨hv305, hf⟩ := chk_t hf
    replace hv305 := of_decide_eq_true hv305
    obtain ⟨u303, hc304, hf⟩ := bind_t hf
    obtain ⟨hv306, hf⟩ := chk_t hf
    replace hv306 := of_decide_eq_true hv306
    refine k_SWP (ws' := W_L cI cV cJ cD vf am a ad ao aod (unf (fk y302) (wS x) (pF u303.1), wM x, pO u303.1, wD x)) (As := [.ref (a 0), .int y302, .ref (ao)]) (rest := []) (n := 3) ⟨hx, hb, hml, hown, hts⟩ (met_L_left l hlt (fk y302) vf (foO a (ad (fk y302)) ao) (hvf _ fk_lt) (foc (fk y302) (wS x), wO x) y302 u303 hc304) w685 w686 w0 w687 ⟨by decide +kernel, by decide +kernel, by decide +kernel⟩ ⟨Nat.le_of_ble_eq_true rfl, Nat.le_of_ble_eq_true rfl⟩ hK hE hP hD hS hA (cut_LO x fk_lt hv305 u303.1 hv306) rfl hl.1 rfl (Nat.le_of_ble_eq_true rfl) dL_law_1139 ⟨show cb + 0 + 1 ≤ _ from Nat.le_trans (by omega) hcb, show sb + 0 + 6 ≤ _ from Nat.le_trans (by omega) hsb⟩ (fun H locs hP hD hS => ?_)
    try dsimp only at hf
    refine W.widen (k := cb + 6) (n := sb + 36) (show cb + 0 + 1 ≤ cb + 6 by omega) (show sb + 0 + 6 ≤ sb + 36 by omega) ?_
    refine W.eq (g2 := F0 m 1142 ls [.int u303.2]) rfl ?_
    obtain ⟨x307, hx307⟩ : ∃ z, z = (unf (fk y302) (wS x) (pF u303.1), wM x, pO u303.1, wD x) := ⟨_, rfl⟩
    replace hf := keep_e hf x307 hx307
    have hP : va_P D vwCl (W_L cI cV cJ cD vf am a ad ao aod x307) H := by rw [hx307]; exact hP
    have hD : va_D A (W_L cI cV cJ cD vf am a ad ao aod x307) := by rw [hx307]; exact hD
    refine lv_topi (fun y308 hy308 => ?_)
    replace hf := keep_e hf y308 hy308
    refine lv_istore (lv' := [(6, .int y308), (0, .ref (b)), (1, .ref (a 0)), (2, .ref (am 0)), (3, .ref (ao)), (4, .ref (aod)), (5, .int v5)]) hx hb dL_law_1142 hl (by decide) rfl (fun ls hl => ?_)
    refine lv_aload_n hx hb dL_law_1144 rfl (lv_at hl 3 rfl) ?_
    refine lv_aload_n hx hb dL_law_1145 rfl (lv_at hl 1 rfl) ?_
    refine lv_iload hx hb dL_law_1146 (lv_at hl 6 rfl) ?_
    refine lv_iconst (v := 1) hx hb dL_law_1148 (by decide) ?_
    refine lv_iadd hx hb dL_law_1149 ?_
    obtain ⟨hi309, hf⟩ := chk_t hf
    refine va_sld hx hb hX hbl hbA hS (inb_in hi309) dL_law_1150 ?_
    refine lv_topi (fun y310 hy310 => ?_)
    replace hf := keep_e hf y310 hy310
    obtain ⟨u311, hc312, hf⟩ := bind_t hf
    refine k_VP (ws' := W_L cI cV cJ cD vf am a ad ao aod (wM_s x307 u311.1)) (As := [.int y310]) (rest := []) (n := 1) ⟨hx, hb, hml, hown, hts⟩ (met_X8_left l am (wM x307) y310 u311 hc312) w1064 w1065 w1066 w9 w1067 ⟨rfl, by decide +kernel, by decide +kernel, by decide +kernel⟩ ⟨Nat.le_of_ble_eq_true rfl, Nat.le_of_ble_eq_true rfl⟩ hK hE hP hD hS hA (cut_LM x307 u311.1) 0 7 rfl rfl rfl rfl hl.1 rfl (Nat.le_of_ble_eq_true rfl) dL_law_1151 ⟨show cb + 6 + 0 ≤ _ from Nat.le_trans (by omega) hcb, show sb + 36 + 0 ≤ _ from Nat.le_trans (by omega) hsb⟩ (fun H locs hP hD hS => ?_)
    try dsimp only at hf
    refine W.widen (k := cb + 6) (n := sb + 36) (show cb + 6 + 0 ≤ cb + 6 by omega) (show sb + 36 + 0 ≤ sb + 36 by omega) ?_
    refine W.eq (g2 := F0 m 1154 ls [.int u311.2]) rfl ?_
    obtain ⟨x313, hx313⟩ : ∃ z, z = (wM_s x307 u311.1) := ⟨_, rfl⟩
    replace hf := keep_e hf x313 hx313
    have hP : va_P D vwCl (W_L cI cV cJ cD vf am a ad ao aod x313) H := by rw [hx313]; exact hP
    have hD : va_D A (W_L cI cV cJ cD vf am a ad ao aod x313) := by rw [hx313]; exact hD
    refine lv_topi (fun y314 hy314 => ?_)
    replace hf := keep_e hf y314 hy314
    refine lv_istore (lv' := [(7, .int y314), (6, .int y308), (0, .ref (b)), (1, .ref (a 0)), (2, .ref (am 0)), (3, .ref (ao)), (4, .ref (aod)), (5, .int v5)]) hx hb dL_law_1154 hl (by decide) rfl (fun ls hl => ?_)
    refine lv_aload_n hx hb dL_law_1156 rfl (lv_at hl 4 rfl) ?_
    obtain ⟨u315, hc316, hf⟩ := bind_t hf
    refine k_VP (ws' := W_L cI cV cJ cD vf am a ad ao aod x313) (As := []) (rest := []) (n := 0) ⟨hx, hb, hml, hown, hts⟩ (met_X8_thrown l am (wM x313)  u315 hc316) w898 w899 w900 w9 w901 ⟨rfl, by decide +kernel, by decide +kernel, by decide +kernel⟩ ⟨Nat.le_of_ble_eq_true rfl, Nat.le_of_ble_eq_true rfl⟩ hK hE hP hD hS hA (cut_LMi x313) 0 7 rfl rfl rfl rfl hl.1 rfl (Nat.le_of_ble_eq_true rfl) dL_law_1157 ⟨show cb + 6 + 0 ≤ _ from Nat.le_trans (by omega) hcb, show sb + 36 + 0 ≤ _ from Nat.le_trans (by omega) hsb⟩ (fun H locs hP hD hS => ?_)
    try dsimp only at hf
    refine W.widen (k := cb + 6) (n := sb + 36) (show cb + 6 + 0 ≤ cb + 6 by omega) (show sb + 36 + 0 ≤ sb + 36 by omega) ?_
    refine W.eq (g2 := F0 m 1160 ls [.int u315]) rfl ?_
    refine lv_iload hx hb dL_law_1160 (lv_at hl 1 rfl) ?_
    refine lv_icmp_eq (tgt := 1167) hx hb dL_law_1162 (by decide) (fun c317 => ?_) (fun c317 => ?_)
    · replace hf := if_t c317 hf
      refine lv_iload hx hb dL_law_1167 (lv_at hl 1 rfl) ?_
      refine lv_if_ne (tgt := 1184) hx hb dL_law_1169 (by decide) (fun c318 => ?_) (fun c318 => ?_)
      · replace hf := if_f c318 hf
        refine lv_goto (tgt := 2017) hx hb dL_law_1184 (by decide) ?_
        exact L2017 rec cb sb hcb hsb hrec a x313 v5 H locs ls hf hP hD hS (lv_sub hl [2, 3, 4, 5, 6, 7] rfl)
      · replace hf := if_t c318 hf
        refine lv_aload_n hx hb dL_law_1172 rfl (lv_at hl 5 rfl) ?_
        refine lv_iconst (v := 0) hx hb dL_law_1173 (by decide) ?_
        refine va_lald hx hb hK hP 15 2 rfl rfl (inb_in (by decide : inb 0 1 = true)) dL_law_1174 ?_
        refine lv_iload hx hb dL_law_1175 (lv_at hl 0 rfl) ?_
        refine lv_i2l (v := (y314).toInt64) hx hb dL_law_1177 rfl ?_
        refine k_lcmp hx hb dL_law_1178 ?_
        refine lv_if_eq (tgt := 1184) hx hb dL_law_1179 (by decide) (fun c319 => ?_) (fun c319 => ?_)
        · replace hf := if_t c319 hf
          refine lv_goto (tgt := 2017) hx hb dL_law_1184 (by decide) ?_
          exact L2017 rec cb sb hcb hsb hrec a x313 v5 H locs ls hf hP hD hS (lv_sub hl [2, 3, 4, 5, 6, 7] rfl)
        · replace hf := if_f c319 hf
          refine lv_iconst (v := 0) hx hb dL_law_1182 (by decide) ?_
          exact absurd (Option.some.inj hf) (by decide)
    · replace hf := if_f c317 hf
      refine lv_iconst (v := 0) hx hb dL_law_1165 (by decide) ?_
      exact absurd (Option.some.inj hf) (by decide)
  have L1122 : ∀ (rec : LwSt × Int32 → Option Int32) (cb sb : Nat), cb + 6 ≤ room_1.cells → sb + 36 ≤ room_1.slots → (∀ (x : LwSt) (v5 : Int32) (a : Nat → Nat) (H : Heap) (locs : List Loc) (ls : Array Slot), rec (x, v5) = some 1 → va_P D vwCl (W_L cI cV cJ cD vf am a ad ao aod x) H → va_D A (W_L cI cV cJ cD vf am a ad ao aod x) → va_S A s.heap H locs → lv_has ls 8 [(0, .ref (b)), (1, .ref (a 0)), (2, .ref (am 0)), (3, .ref (ao)), (4, .ref (aod)), (5, .int v5)] → W p l e room_1 s m #[Value.ref b] below meth c H locs (cb + 6) (sb + 36) (lw_Z below #[Value.ref b] s) (F0 m 28 ls [])) → ∀ (a : Nat → Nat) (x : LwSt) (v5 : Int32) (s0 : Int64) (s1 : Int64) (H : Heap) (locs : List Loc) (ls : Array Slot), fL_law_1122 L xs rec x v5 s0 s1  = some 1 → va_P D vwCl (W_L cI cV cJ cD vf am a ad ao aod x) H → va_D A (W_L cI cV cJ cD vf am a ad ao aod x) → va_S A s.heap H locs → lv_has ls 8 [(0, .ref (b)), (1, .ref (a 0)), (2, .ref (am 0)), (3, .ref (ao)), (4, .ref (aod)), (5, .int v5)] → W p l e room_1 s m #[Value.ref b] below meth c H locs (cb + 6) (sb + 36) (lw_Z below #[Value.ref b] s) (F0 m 1122 ls [.long s0, .long s1]) := by
    intro rec cb sb hcb hsb hrec a x v5 s0 s1 H locs ls hf hP hD hS hl
    dsimp only [fL_law_1122] at hf
    refine k_lcmp hx hb dL_law_1122 ?_
    refine lv_if_eq (tgt := 1128) hx hb dL_law_1123 (by decide) (fun c320 => ?_) (fun c320 => ?_)
    · replace hf := if_t c320 hf
      refine lv_goto (tgt := 2017) hx hb dL_law_1128 (by decide) ?_
      exact L2017 rec cb sb hcb hsb hrec a x v5 H locs ls hf hP hD hS (lv_sub hl [0, 1, 2, 3, 4, 5] rfl)
    · replace hf := if_f c320 hf
      refine lv_iconst (v := 0) hx hb dL_law_1126 (by decide) ?_
      exact absurd (Option.some.inj hf) (by decide)
  have L1056 : ∀ (rec : LwSt × Int32 → Option Int32) (cb sb : Nat), cb + 6 ≤ room_1.cells → sb + 36 ≤ room_1.slots → (∀ (x : LwSt) (v5 : Int32) (a : Nat → Nat) (H : Heap) (locs : List Loc) (ls : Array Slot), rec (x, v5) = some 1 → va_P D vwCl (W_L cI cV cJ cD vf am a ad ao aod x) H → va_D A (W_L cI cV cJ cD vf am a ad ao aod x) → va_S A s.heap H locs → lv_has ls 8 [(0, .ref (b)), (1, .ref (a 0)), (2, .ref (am 0)), (3, .ref (ao)), (4, .ref (aod)), (5, .int v5)] → W p l e room_1 s m #[Value.ref b] below meth c H locs (cb + 6) (sb + 36) (lw_Z below #[Value.ref b] s) (F0 m 28 ls [])) → ∀ (a : Nat → Nat) (x : LwSt) (v5 : Int32) (H : Heap) (locs : List Loc) (ls : Array Slot), fL_law_1056 L xs rec x v5  = some 1 → va_P D vwCl (W_L cI cV cJ cD vf am a ad ao aod x) H → va_D A (W_L cI cV cJ cD vf am a ad ao aod x) → va_S A s.heap H locs → lv_has ls 8 [(0, .ref (b)), (1, .ref (a 0)), (2, .ref (am 0)), (3, .ref (ao)), (4, .ref (aod)), (5, .int v5)] → W p l e room_1 s m #[Value.ref b] below meth c H locs (cb + 0) (sb + 0) (lw_Z below #[Value.ref b] s) (F0 m 1056 ls []) := by
    intro rec cb sb hcb hsb hrec a x v5 H locs ls hf hP hD hS hl
    dsimp only [fL_law_1056] at hf
    refine lv_aload_n hx hb dL_law_1056 rfl (lv_at hl 1 rfl) ?_
    refine lv_aload_n hx hb dL_law_1057 rfl (lv_at hl 0 rfl) ?_
    refine lv_iload hx hb dL_law_1058 (lv_at hl 5 rfl) ?_
    refine lv_iconst (v := 1) hx hb dL_law_1060 (by decide) ?_
    refine lv_iadd hx hb dL_law_1061 ?_
    obtain ⟨hi321, hf⟩ := chk_t hf
    refine va_sld hx hb hX hbl hbA hS (inb_in hi321) dL_law_1062 ?_
    refine lv_topi (fun y322 hy322 => ?_)
    replace hf := keep_e hf y322 hy322
    refine lv_aload_n hx hb dL_law_1063 rfl (lv_at hl 0 rfl) ?_
    refine lv_iload hx hb dL_law_1064 (lv_at hl 5 rfl) ?_
    refine lv_iconst (v := 2) hx hb dL_law_1066 (by decide) ?_
    refine lv_iadd hx hb dL_law_1067 ?_
    obtain ⟨hi323, hf⟩ := chk_t hf
    refine va_sld hx hb hX hbl hbA hS (inb_in hi323) dL_law_1068 ?_
    refine lv_topi (fun y324 hy324 => ?_)
    replace hf := keep_e hf y324 hy324
    refine lv_aload_n hx hb dL_law_1069 rfl (lv_at hl 3 rfl) ?_
    obtain ⟨hv327, hf⟩ := chk_t hf
    replace hv327 := of_decide_eq_true hv327
    obtain ⟨u325, hc326, hf⟩ := bind_t hf
    obtain ⟨hv328, hf⟩ := chk_t hf
    replace hv328 := of_decide_eq_true hv328
    refine k_SWP (ws' := W_L cI cV cJ cD vf am a ad ao aod (unf (fk y322) (wS x) (pF u325.1), wM x, pO u325.1, wD x)) (As := [.ref (a 0), .int y322, .int y324, .ref (ao)]) (rest := []) (n := 4) ⟨hx, hb, hml, hown, hts⟩ (met_L_expire l hlt (fk y322) vf (foO a (ad (fk y322)) ao) (hvf _ fk_lt) (foc (fk y322) (wS x), wO x) y322 y324 u325 hc326) w678 w679 w0 w680 ⟨by decide +kernel, by decide +kernel, by decide +kernel⟩ ⟨Nat.le_of_ble_eq_true rfl, Nat.le_of_ble_eq_true rfl⟩ hK hE hP hD hS hA (cut_LO x fk_lt hv327 u325.1 hv328) rfl hl.1 rfl (Nat.le_of_ble_eq_true rfl) dL_law_1070 ⟨show cb + 0 + 3 ≤ _ from Nat.le_trans (by omega) hcb, show sb + 0 + 18 ≤ _ from Nat.le_trans (by omega) hsb⟩ (fun H locs hP hD hS => ?_)
    try dsimp only at hf
    refine W.widen (k := cb + 6) (n := sb + 36) (show cb + 0 + 3 ≤ cb + 6 by omega) (show sb + 0 + 18 ≤ sb + 36 by omega) ?_
    refine W.eq (g2 := F0 m 1073 ls [.int u325.2]) rfl ?_
    obtain ⟨x329, hx329⟩ : ∃ z, z = (unf (fk y322) (wS x) (pF u325.1), wM x, pO u325.1, wD x) := ⟨_, rfl⟩
    replace hf := keep_e hf x329 hx329
    have hP : va_P D vwCl (W_L cI cV cJ cD vf am a ad ao aod x329) H := by rw [hx329]; exact hP
    have hD : va_D A (W_L cI cV cJ cD vf am a ad ao aod x329) := by rw [hx329]; exact hD
    refine lv_topi (fun y330 hy330 => ?_)
    replace hf := keep_e hf y330 hy330
    refine lv_istore (lv' := [(6, .int y330), (0, .ref (b)), (1, .ref (a 0)), (2, .ref (am 0)), (3, .ref (ao)), (4, .ref (aod)), (5, .int v5)]) hx hb dL_law_1073 hl (by decide) rfl (fun ls hl => ?_)
    refine lv_aload_n hx hb dL_law_1075 rfl (lv_at hl 3 rfl) ?_
    refine lv_aload_n hx hb dL_law_1076 rfl (lv_at hl 1 rfl) ?_
    refine lv_iload hx hb dL_law_1077 (lv_at hl 6 rfl) ?_
    refine lv_iconst (v := 1) hx hb dL_law_1079 (by decide) ?_
    refine lv_iadd hx hb dL_law_1080 ?_
    obtain ⟨hi331, hf⟩ := chk_t hf
    refine va_sld hx hb hX hbl hbA hS (inb_in hi331) dL_law_1081 ?_
    refine lv_topi (fun y332 hy332 => ?_)
    replace hf := keep_e hf y332 hy332
    refine lv_aload_n hx hb dL_law_1082 rfl (lv_at hl 1 rfl) ?_
    refine lv_iload hx hb dL_law_1083 (lv_at hl 6 rfl) ?_
    refine lv_iconst (v := 2) hx hb dL_law_1085 (by decide) ?_
    refine lv_iadd hx hb dL_law_1086 ?_
    obtain ⟨hi333, hf⟩ := chk_t hf
    refine va_sld hx hb hX hbl hbA hS (inb_in hi333) dL_law_1087 ?_
    refine lv_topi (fun y334 hy334 => ?_)
    replace hf := keep_e hf y334 hy334
    obtain ⟨u335, hc336, hf⟩ := bind_t hf
    refine k_VP (ws' := W_L cI cV cJ cD vf am a ad ao aod (wM_s x329 u335.1)) (As := [.int y332, .int y334]) (rest := []) (n := 2) ⟨hx, hb, hml, hown, hts⟩ (met_X8_expire l am (wM x329) y332 y334 u335 hc336) w1060 w1061 w1062 w9 w1063 ⟨rfl, by decide +kernel, by decide +kernel, by decide +kernel⟩ ⟨Nat.le_of_ble_eq_true rfl, Nat.le_of_ble_eq_true rfl⟩ hK hE hP hD hS hA (cut_LM x329 u335.1) 0 7 rfl rfl rfl rfl hl.1 rfl (Nat.le_of_ble_eq_true rfl) dL_law_1088 ⟨show cb + 6 + 0 ≤ _ from Nat.le_trans (by omega) hcb, show sb + 36 + 0 ≤ _ from Nat.le_trans (by omega) hsb⟩ (fun H locs hP hD hS => ?_)
    try dsimp only at hf
    refine W.widen (k := cb + 6) (n := sb + 36) (show cb + 6 + 0 ≤ cb + 6 by omega) (show sb + 36 + 0 ≤ sb + 36 by omega) ?_
    refine W.eq (g2 := F0 m 1091 ls [.int u335.2]) rfl ?_
    obtain ⟨x337, hx337⟩ : ∃ z, z = (wM_s x329 u335.1) := ⟨_, rfl⟩
    replace hf := keep_e hf x337 hx337
    have hP : va_P D vwCl (W_L cI cV cJ cD vf am a ad ao aod x337) H := by rw [hx337]; exact hP
    have hD : va_D A (W_L cI cV cJ cD vf am a ad ao aod x337) := by rw [hx337]; exact hD
    refine lv_topi (fun y338 hy338 => ?_)
    replace hf := keep_e hf y338 hy338
    refine lv_istore (lv' := [(7, .int y338), (6, .int y330), (0, .ref (b)), (1, .ref (a 0)), (2, .ref (am 0)), (3, .ref (ao)), (4, .ref (aod)), (5, .int v5)]) hx hb dL_law_1091 hl (by decide) rfl (fun ls hl => ?_)
    refine lv_aload_n hx hb dL_law_1093 rfl (lv_at hl 4 rfl) ?_
    obtain ⟨u339, hc340, hf⟩ := bind_t hf
    refine k_VP (ws' := W_L cI cV cJ cD vf am a ad ao aod x337) (As := []) (rest := []) (n := 0) ⟨hx, hb, hml, hown, hts⟩ (met_X8_thrown l am (wM x337)  u339 hc340) w898 w899 w900 w9 w901 ⟨rfl, by decide +kernel, by decide +kernel, by decide +kernel⟩ ⟨Nat.le_of_ble_eq_true rfl, Nat.le_of_ble_eq_true rfl⟩ hK hE hP hD hS hA (cut_LMi x337) 0 7 rfl rfl rfl rfl hl.1 rfl (Nat.le_of_ble_eq_true rfl) dL_law_1094 ⟨show cb + 6 + 0 ≤ _ from Nat.le_trans (by omega) hcb, show sb + 36 + 0 ≤ _ from Nat.le_trans (by omega) hsb⟩ (fun H locs hP hD hS => ?_)
    try dsimp only at hf
    refine W.widen (k := cb + 6) (n := sb + 36) (show cb + 6 + 0 ≤ cb + 6 by omega) (show sb + 36 + 0 ≤ sb + 36 by omega) ?_
    refine W.eq (g2 := F0 m 1097 ls [.int u339]) rfl ?_
    refine lv_iload hx hb dL_law_1097 (lv_at hl 1 rfl) ?_
    refine lv_icmp_eq (tgt := 1104) hx hb dL_law_1099 (by decide) (fun c341 => ?_) (fun c341 => ?_)
    · replace hf := if_t c341 hf
      refine lv_iload hx hb dL_law_1104 (lv_at hl 1 rfl) ?_
      refine lv_if_ne (tgt := 1128) hx hb dL_law_1106 (by decide) (fun c342 => ?_) (fun c342 => ?_)
      · replace hf := if_f c342 hf
        refine lv_goto (tgt := 2017) hx hb dL_law_1128 (by decide) ?_
        exact L2017 rec cb sb hcb hsb hrec a x337 v5 H locs ls hf hP hD hS (lv_sub hl [2, 3, 4, 5, 6, 7] rfl)
      · replace hf := if_t c342 hf
        refine lv_aload_n hx hb dL_law_1109 rfl (lv_at hl 5 rfl) ?_
        refine lv_iconst (v := 0) hx hb dL_law_1110 (by decide) ?_
        refine va_lald hx hb hK hP 15 2 rfl rfl (inb_in (by decide : inb 0 1 = true)) dL_law_1111 ?_
        refine lv_iload hx hb dL_law_1112 (lv_at hl 0 rfl) ?_
        refine lv_if_eq (tgt := 1121) hx hb dL_law_1114 (by decide) (fun c343 => ?_) (fun c343 => ?_)
        · replace hf := if_t c343 hf
          refine lv_lconst (v := 0) hx hb dL_law_1121 (by decide) ?_
          exact L1122 rec cb sb hcb hsb hrec a x337 v5 0 (wO x337 (0 : Int32).toNatClampNeg) H locs ls hf hP hD hS (lv_sub hl [2, 3, 4, 5, 6, 7] rfl)
        · replace hf := if_f c343 hf
          refine lv_lconst (v := 1) hx hb dL_law_1117 (by decide) ?_
          refine lv_goto (tgt := 1122) hx hb dL_law_1118 (by decide) ?_
          exact L1122 rec cb sb hcb hsb hrec a x337 v5 1 (wO x337 (0 : Int32).toNatClampNeg) H locs ls hf hP hD hS (lv_sub hl [2, 3, 4, 5, 6, 7] rfl)
    · replace hf := if_f c341 hf
      refine lv_iconst (v := 0) hx hb dL_law_1102 (by decide) ?_
      exact absurd (Option.some.inj hf) (by decide)
  have L1047 : ∀ (rec : LwSt × Int32 → Option Int32) (cb sb : Nat), cb + 6 ≤ room_1.cells → sb + 36 ≤ room_1.slots → (∀ (x : LwSt) (v5 : Int32) (a : Nat → Nat) (H : Heap) (locs : List Loc) (ls : Array Slot), rec (x, v5) = some 1 → va_P D vwCl (W_L cI cV cJ cD vf am a ad ao aod x) H → va_D A (W_L cI cV cJ cD vf am a ad ao aod x) → va_S A s.heap H locs → lv_has ls 8 [(0, .ref (b)), (1, .ref (a 0)), (2, .ref (am 0)), (3, .ref (ao)), (4, .ref (aod)), (5, .int v5)] → W p l e room_1 s m #[Value.ref b] below meth c H locs (cb + 6) (sb + 36) (lw_Z below #[Value.ref b] s) (F0 m 28 ls [])) → ∀ (a : Nat → Nat) (x : LwSt) (v5 : Int32) (s0 : Int64) (s1 : Int64) (H : Heap) (locs : List Loc) (ls : Array Slot), fL_law_1047 L xs rec x v5 s0 s1  = some 1 → va_P D vwCl (W_L cI cV cJ cD vf am a ad ao aod x) H → va_D A (W_L cI cV cJ cD vf am a ad ao aod x) → va_S A s.heap H locs → lv_has ls 8 [(0, .ref (b)), (1, .ref (a 0)), (2, .ref (am 0)), (3, .ref (ao)), (4, .ref (aod)), (5, .int v5)] → W p l e room_1 s m #[Value.ref b] below meth c H locs (cb + 6) (sb + 36) (lw_Z below #[Value.ref b] s) (F0 m 1047 ls [.long s0, .long s1]) := by
    intro rec cb sb hcb hsb hrec a x v5 s0 s1 H locs ls hf hP hD hS hl
    dsimp only [fL_law_1047] at hf
    refine k_lcmp hx hb dL_law_1047 ?_
    refine lv_if_eq (tgt := 1053) hx hb dL_law_1048 (by decide) (fun c344 => ?_) (fun c344 => ?_)
    · replace hf := if_t c344 hf
      refine lv_goto (tgt := 2017) hx hb dL_law_1053 (by decide) ?_
      exact L2017 rec cb sb hcb hsb hrec a x v5 H locs ls hf hP hD hS (lv_sub hl [0, 1, 2, 3, 4, 5] rfl)
    · replace hf := if_f c344 hf
      refine lv_iconst (v := 0) hx hb dL_law_1051 (by decide) ?_
      exact absurd (Option.some.inj hf) (by decide)
  have L993 : ∀ (rec : LwSt × Int32 → Option Int32) (cb sb : Nat), cb + 6 ≤ room_1.cells → sb + 36 ≤ room_1.slots → (∀ (x : LwSt) (v5 : Int32) (a : Nat → Nat) (H : Heap) (locs : List Loc) (ls : Array Slot), rec (x, v5) = some 1 → va_P D vwCl (W_L cI cV cJ cD vf am a ad ao aod x) H → va_D A (W_L cI cV cJ cD vf am a ad ao aod x) → va_S A s.heap H locs → lv_has ls 8 [(0, .ref (b)), (1, .ref (a 0)), (2, .ref (am 0)), (3, .ref (ao)), (4, .ref (aod)), (5, .int v5)] → W p l e room_1 s m #[Value.ref b] below meth c H locs (cb + 6) (sb + 36) (lw_Z below #[Value.ref b] s) (F0 m 28 ls [])) → ∀ (a : Nat → Nat) (x : LwSt) (v5 : Int32) (H : Heap) (locs : List Loc) (ls : Array Slot), fL_law_993 L xs rec x v5  = some 1 → va_P D vwCl (W_L cI cV cJ cD vf am a ad ao aod x) H → va_D A (W_L cI cV cJ cD vf am a ad ao aod x) → va_S A s.heap H locs → lv_has ls 8 [(0, .ref (b)), (1, .ref (a 0)), (2, .ref (am 0)), (3, .ref (ao)), (4, .ref (aod)), (5, .int v5)] → W p l e room_1 s m #[Value.ref b] below meth c H locs (cb + 0) (sb + 0) (lw_Z below #[Value.ref b] s) (F0 m 993 ls []) := by
    intro rec cb sb hcb hsb hrec a x v5 H locs ls hf hP hD hS hl
    dsimp only [fL_law_993] at hf
    refine lv_aload_n hx hb dL_law_993 rfl (lv_at hl 1 rfl) ?_
    refine lv_aload_n hx hb dL_law_994 rfl (lv_at hl 0 rfl) ?_
    refine lv_iload hx hb dL_law_995 (lv_at hl 5 rfl) ?_
    refine lv_iconst (v := 1) hx hb dL_law_997 (by decide) ?_
    refine lv_iadd hx hb dL_law_998 ?_
    obtain ⟨hi345, hf⟩ := chk_t hf
    refine va_sld hx hb hX hbl hbA hS (inb_in hi345) dL_law_999 ?_
    refine lv_topi (fun y346 hy346 => ?_)
    replace hf := keep_e hf y346 hy346
    refine lv_aload_n hx hb dL_law_1000 rfl (lv_at hl 3 rfl) ?_
    obtain ⟨hv349, hf⟩ := chk_t hf
    replace hv349 := of_decide_eq_true hv349
    obtain ⟨u347, hc348, hf⟩ := bind_t hf
    obtain ⟨hv350, hf⟩ := chk_t hf
    replace hv350 := of_decide_eq_true hv350
    refine k_SWP (ws' := W_L cI cV cJ cD vf am a ad ao aod (unf (fk y346) (wS x) (pF u347.1), wM x, pO u347.1, wD x)) (As := [.ref (a 0), .int y346, .ref (ao)]) (rest := []) (n := 3) ⟨hx, hb, hml, hown, hts⟩ (met_L_remove l hlt (fk y346) vf (foO a (ad (fk y346)) ao) (hvf _ fk_lt) (foc (fk y346) (wS x), wO x) y346 u347 hc348) w671 w672 w0 w673 ⟨by decide +kernel, by decide +kernel, by decide +kernel⟩ ⟨Nat.le_of_ble_eq_true rfl, Nat.le_of_ble_eq_true rfl⟩ hK hE hP hD hS hA (cut_LO x fk_lt hv349 u347.1 hv350) rfl hl.1 rfl (Nat.le_of_ble_eq_true rfl) dL_law_1001 ⟨show cb + 0 + 2 ≤ _ from Nat.le_trans (by omega) hcb, show sb + 0 + 12 ≤ _ from Nat.le_trans (by omega) hsb⟩ (fun H locs hP hD hS => ?_)
    try dsimp only at hf
    refine W.widen (k := cb + 6) (n := sb + 36) (show cb + 0 + 2 ≤ cb + 6 by omega) (show sb + 0 + 12 ≤ sb + 36 by omega) ?_
    refine W.eq (g2 := F0 m 1004 ls [.int u347.2]) rfl ?_
    obtain ⟨x351, hx351⟩ : ∃ z, z = (unf (fk y346) (wS x) (pF u347.1), wM x, pO u347.1, wD x) := ⟨_, rfl⟩
    replace hf := keep_e hf x351 hx351
    have hP : va_P D vwCl (W_L cI cV cJ cD vf am a ad ao aod x351) H := by rw [hx351]; exact hP
    have hD : va_D A (W_L cI cV cJ cD vf am a ad ao aod x351) := by rw [hx351]; exact hD
    refine lv_topi (fun y352 hy352 => ?_)
    replace hf := keep_e hf y352 hy352
    refine lv_istore (lv' := [(6, .int y352), (0, .ref (b)), (1, .ref (a 0)), (2, .ref (am 0)), (3, .ref (ao)), (4, .ref (aod)), (5, .int v5)]) hx hb dL_law_1004 hl (by decide) rfl (fun ls hl => ?_)
    refine lv_aload_n hx hb dL_law_1006 rfl (lv_at hl 3 rfl) ?_
    refine lv_aload_n hx hb dL_law_1007 rfl (lv_at hl 1 rfl) ?_
    refine lv_iload hx hb dL_law_1008 (lv_at hl 6 rfl) ?_
    refine lv_iconst (v := 1) hx hb dL_law_1010 (by decide) ?_
    refine lv_iadd hx hb dL_law_1011 ?_
    obtain ⟨hi353, hf⟩ := chk_t hf
    refine va_sld hx hb hX hbl hbA hS (inb_in hi353) dL_law_1012 ?_
    refine lv_topi (fun y354 hy354 => ?_)
    replace hf := keep_e hf y354 hy354
    obtain ⟨u355, hc356, hf⟩ := bind_t hf
    refine k_VP (ws' := W_L cI cV cJ cD vf am a ad ao aod (wM_s x351 u355.1)) (As := [.int y354]) (rest := []) (n := 1) ⟨hx, hb, hml, hown, hts⟩ (met_X8_remove l am (wM x351) y354 u355 hc356) w1056 w1057 w1058 w9 w1059 ⟨rfl, by decide +kernel, by decide +kernel, by decide +kernel⟩ ⟨Nat.le_of_ble_eq_true rfl, Nat.le_of_ble_eq_true rfl⟩ hK hE hP hD hS hA (cut_LM x351 u355.1) 0 7 rfl rfl rfl rfl hl.1 rfl (Nat.le_of_ble_eq_true rfl) dL_law_1013 ⟨show cb + 6 + 0 ≤ _ from Nat.le_trans (by omega) hcb, show sb + 36 + 0 ≤ _ from Nat.le_trans (by omega) hsb⟩ (fun H locs hP hD hS => ?_)
    try dsimp only at hf
    refine W.widen (k := cb + 6) (n := sb + 36) (show cb + 6 + 0 ≤ cb + 6 by omega) (show sb + 36 + 0 ≤ sb + 36 by omega) ?_
    refine W.eq (g2 := F0 m 1016 ls [.int u355.2]) rfl ?_
    obtain ⟨x357, hx357⟩ : ∃ z, z = (wM_s x351 u355.1) := ⟨_, rfl⟩
    replace hf := keep_e hf x357 hx357
    have hP : va_P D vwCl (W_L cI cV cJ cD vf am a ad ao aod x357) H := by rw [hx357]; exact hP
    have hD : va_D A (W_L cI cV cJ cD vf am a ad ao aod x357) := by rw [hx357]; exact hD
    refine lv_topi (fun y358 hy358 => ?_)
    replace hf := keep_e hf y358 hy358
    refine lv_istore (lv' := [(7, .int y358), (6, .int y352), (0, .ref (b)), (1, .ref (a 0)), (2, .ref (am 0)), (3, .ref (ao)), (4, .ref (aod)), (5, .int v5)]) hx hb dL_law_1016 hl (by decide) rfl (fun ls hl => ?_)
    refine lv_aload_n hx hb dL_law_1018 rfl (lv_at hl 4 rfl) ?_
    obtain ⟨u359, hc360, hf⟩ := bind_t hf
    refine k_VP (ws' := W_L cI cV cJ cD vf am a ad ao aod x357) (As := []) (rest := []) (n := 0) ⟨hx, hb, hml, hown, hts⟩ (met_X8_thrown l am (wM x357)  u359 hc360) w898 w899 w900 w9 w901 ⟨rfl, by decide +kernel, by decide +kernel, by decide +kernel⟩ ⟨Nat.le_of_ble_eq_true rfl, Nat.le_of_ble_eq_true rfl⟩ hK hE hP hD hS hA (cut_LMi x357) 0 7 rfl rfl rfl rfl hl.1 rfl (Nat.le_of_ble_eq_true rfl) dL_law_1019 ⟨show cb + 6 + 0 ≤ _ from Nat.le_trans (by omega) hcb, show sb + 36 + 0 ≤ _ from Nat.le_trans (by omega) hsb⟩ (fun H locs hP hD hS => ?_)
    try dsimp only at hf
    refine W.widen (k := cb + 6) (n := sb + 36) (show cb + 6 + 0 ≤ cb + 6 by omega) (show sb + 36 + 0 ≤ sb + 36 by omega) ?_
    refine W.eq (g2 := F0 m 1022 ls [.int u359]) rfl ?_
    refine lv_iload hx hb dL_law_1022 (lv_at hl 1 rfl) ?_
    refine lv_icmp_eq (tgt := 1029) hx hb dL_law_1024 (by decide) (fun c361 => ?_) (fun c361 => ?_)
    · replace hf := if_t c361 hf
      refine lv_iload hx hb dL_law_1029 (lv_at hl 1 rfl) ?_
      refine lv_if_ne (tgt := 1053) hx hb dL_law_1031 (by decide) (fun c362 => ?_) (fun c362 => ?_)
      · replace hf := if_f c362 hf
        refine lv_goto (tgt := 2017) hx hb dL_law_1053 (by decide) ?_
        exact L2017 rec cb sb hcb hsb hrec a x357 v5 H locs ls hf hP hD hS (lv_sub hl [2, 3, 4, 5, 6, 7] rfl)
      · replace hf := if_t c362 hf
        refine lv_aload_n hx hb dL_law_1034 rfl (lv_at hl 5 rfl) ?_
        refine lv_iconst (v := 0) hx hb dL_law_1035 (by decide) ?_
        refine va_lald hx hb hK hP 15 2 rfl rfl (inb_in (by decide : inb 0 1 = true)) dL_law_1036 ?_
        refine lv_iload hx hb dL_law_1037 (lv_at hl 0 rfl) ?_
        refine lv_if_eq (tgt := 1046) hx hb dL_law_1039 (by decide) (fun c363 => ?_) (fun c363 => ?_)
        · replace hf := if_t c363 hf
          refine lv_lconst (v := 0) hx hb dL_law_1046 (by decide) ?_
          exact L1047 rec cb sb hcb hsb hrec a x357 v5 0 (wO x357 (0 : Int32).toNatClampNeg) H locs ls hf hP hD hS (lv_sub hl [2, 3, 4, 5, 6, 7] rfl)
        · replace hf := if_f c363 hf
          refine lv_lconst (v := 1) hx hb dL_law_1042 (by decide) ?_
          refine lv_goto (tgt := 1047) hx hb dL_law_1043 (by decide) ?_
          exact L1047 rec cb sb hcb hsb hrec a x357 v5 1 (wO x357 (0 : Int32).toNatClampNeg) H locs ls hf hP hD hS (lv_sub hl [2, 3, 4, 5, 6, 7] rfl)
    · replace hf := if_f c361 hf
      refine lv_iconst (v := 0) hx hb dL_law_1027 (by decide) ?_
      exact absurd (Option.some.inj hf) (by decide)
  have L913 : ∀ (rec : LwSt × Int32 → Option Int32) (cb sb : Nat), cb + 6 ≤ room_1.cells → sb + 36 ≤ room_1.slots → (∀ (x : LwSt) (v5 : Int32) (a : Nat → Nat) (H : Heap) (locs : List Loc) (ls : Array Slot), rec (x, v5) = some 1 → va_P D vwCl (W_L cI cV cJ cD vf am a ad ao aod x) H → va_D A (W_L cI cV cJ cD vf am a ad ao aod x) → va_S A s.heap H locs → lv_has ls 8 [(0, .ref (b)), (1, .ref (a 0)), (2, .ref (am 0)), (3, .ref (ao)), (4, .ref (aod)), (5, .int v5)] → W p l e room_1 s m #[Value.ref b] below meth c H locs (cb + 6) (sb + 36) (lw_Z below #[Value.ref b] s) (F0 m 28 ls [])) → ∀ (a : Nat → Nat) (x : LwSt) (v5 : Int32) (H : Heap) (locs : List Loc) (ls : Array Slot), fL_law_913 L xs rec x v5  = some 1 → va_P D vwCl (W_L cI cV cJ cD vf am a ad ao aod x) H → va_D A (W_L cI cV cJ cD vf am a ad ao aod x) → va_S A s.heap H locs → lv_has ls 8 [(0, .ref (b)), (1, .ref (a 0)), (2, .ref (am 0)), (3, .ref (ao)), (4, .ref (aod)), (5, .int v5)] → W p l e room_1 s m #[Value.ref b] below meth c H locs (cb + 0) (sb + 0) (lw_Z below #[Value.ref b] s) (F0 m 913 ls []) := by
    intro rec cb sb hcb hsb hrec a x v5 H locs ls hf hP hD hS hl
    dsimp only [fL_law_913] at hf
    refine lv_aload_n hx hb dL_law_913 rfl (lv_at hl 1 rfl) ?_
    refine lv_aload_n hx hb dL_law_914 rfl (lv_at hl 0 rfl) ?_
    refine lv_iload hx hb dL_law_915 (lv_at hl 5 rfl) ?_
    refine lv_iconst (v := 1) hx hb dL_law_917 (by decide) ?_
    refine lv_iadd hx hb dL_law_918 ?_
    obtain ⟨hi364, hf⟩ := chk_t hf
    refine va_sld hx hb hX hbl hbA hS (inb_in hi364) dL_law_919 ?_
    refine lv_topi (fun y365 hy365 => ?_)
    replace hf := keep_e hf y365 hy365
    refine lv_aload_n hx hb dL_law_920 rfl (lv_at hl 0 rfl) ?_
    refine lv_iload hx hb dL_law_921 (lv_at hl 5 rfl) ?_
    refine lv_iconst (v := 2) hx hb dL_law_923 (by decide) ?_
    refine lv_iadd hx hb dL_law_924 ?_
    obtain ⟨hi366, hf⟩ := chk_t hf
    refine va_sld hx hb hX hbl hbA hS (inb_in hi366) dL_law_925 ?_
    refine lv_topi (fun y367 hy367 => ?_)
    replace hf := keep_e hf y367 hy367
    refine lv_aload_n hx hb dL_law_926 rfl (lv_at hl 0 rfl) ?_
    refine lv_iload hx hb dL_law_927 (lv_at hl 5 rfl) ?_
    refine lv_iconst (v := 3) hx hb dL_law_929 (by decide) ?_
    refine lv_iadd hx hb dL_law_930 ?_
    obtain ⟨hi368, hf⟩ := chk_t hf
    refine va_sld hx hb hX hbl hbA hS (inb_in hi368) dL_law_931 ?_
    refine lv_topi (fun y369 hy369 => ?_)
    replace hf := keep_e hf y369 hy369
    refine lv_aload_n hx hb dL_law_932 rfl (lv_at hl 3 rfl) ?_
    obtain ⟨hv372, hf⟩ := chk_t hf
    replace hv372 := of_decide_eq_true hv372
    obtain ⟨u370, hc371, hf⟩ := bind_t hf
    obtain ⟨hv373, hf⟩ := chk_t hf
    replace hv373 := of_decide_eq_true hv373
    refine k_SWP (ws' := W_L cI cV cJ cD vf am a ad ao aod (unf (fk y365) (wS x) (pF u370.1), wM x, pO u370.1, wD x)) (As := [.ref (a 0), .int y365, .int y367, .int y369, .ref (ao)]) (rest := []) (n := 5) ⟨hx, hb, hml, hown, hts⟩ (met_L_waiting l hlt (fk y365) vf (foO a (ad (fk y365)) ao) (hvf _ fk_lt) (foc (fk y365) (wS x), wO x) y365 y367 y369 u370 hc371) w660 w661 w0 w662 ⟨by decide +kernel, by decide +kernel, by decide +kernel⟩ ⟨Nat.le_of_ble_eq_true rfl, Nat.le_of_ble_eq_true rfl⟩ hK hE hP hD hS hA (cut_LO x fk_lt hv372 u370.1 hv373) rfl hl.1 rfl (Nat.le_of_ble_eq_true rfl) dL_law_933 ⟨show cb + 0 + 3 ≤ _ from Nat.le_trans (by omega) hcb, show sb + 0 + 18 ≤ _ from Nat.le_trans (by omega) hsb⟩ (fun H locs hP hD hS => ?_)
    try dsimp only at hf
    refine W.widen (k := cb + 6) (n := sb + 36) (show cb + 0 + 3 ≤ cb + 6 by omega) (show sb + 0 + 18 ≤ sb + 36 by omega) ?_
    refine W.eq (g2 := F0 m 936 ls [.int u370.2]) rfl ?_
    obtain ⟨x374, hx374⟩ : ∃ z, z = (unf (fk y365) (wS x) (pF u370.1), wM x, pO u370.1, wD x) := ⟨_, rfl⟩
    replace hf := keep_e hf x374 hx374
    have hP : va_P D vwCl (W_L cI cV cJ cD vf am a ad ao aod x374) H := by rw [hx374]; exact hP
    have hD : va_D A (W_L cI cV cJ cD vf am a ad ao aod x374) := by rw [hx374]; exact hD
    refine lv_topi (fun y375 hy375 => ?_)
    replace hf := keep_e hf y375 hy375
    refine lv_istore (lv' := [(6, .int y375), (0, .ref (b)), (1, .ref (a 0)), (2, .ref (am 0)), (3, .ref (ao)), (4, .ref (aod)), (5, .int v5)]) hx hb dL_law_936 hl (by decide) rfl (fun ls hl => ?_)
    refine lv_aload_n hx hb dL_law_938 rfl (lv_at hl 3 rfl) ?_
    refine lv_aload_n hx hb dL_law_939 rfl (lv_at hl 1 rfl) ?_
    refine lv_iload hx hb dL_law_940 (lv_at hl 6 rfl) ?_
    refine lv_iconst (v := 1) hx hb dL_law_942 (by decide) ?_
    refine lv_iadd hx hb dL_law_943 ?_
    obtain ⟨hi376, hf⟩ := chk_t hf
    refine va_sld hx hb hX hbl hbA hS (inb_in hi376) dL_law_944 ?_
    refine lv_topi (fun y377 hy377 => ?_)
    replace hf := keep_e hf y377 hy377
    refine lv_aload_n hx hb dL_law_945 rfl (lv_at hl 1 rfl) ?_
    refine lv_iload hx hb dL_law_946 (lv_at hl 6 rfl) ?_
    refine lv_iconst (v := 2) hx hb dL_law_948 (by decide) ?_
    refine lv_iadd hx hb dL_law_949 ?_
    obtain ⟨hi378, hf⟩ := chk_t hf
    refine va_sld hx hb hX hbl hbA hS (inb_in hi378) dL_law_950 ?_
    refine lv_topi (fun y379 hy379 => ?_)
    replace hf := keep_e hf y379 hy379
    refine lv_aload_n hx hb dL_law_951 rfl (lv_at hl 1 rfl) ?_
    refine lv_iload hx hb dL_law_952 (lv_at hl 6 rfl) ?_
    refine lv_iconst (v := 3) hx hb dL_law_954 (by decide) ?_
    refine lv_iadd hx hb dL_law_955 ?_
    obtain ⟨hi380, hf⟩ := chk_t hf
    refine va_sld hx hb hX hbl hbA hS (inb_in hi380) dL_law_956 ?_
    refine lv_topi (fun y381 hy381 => ?_)
    replace hf := keep_e hf y381 hy381
    obtain ⟨u382, hc383, hf⟩ := bind_t hf
    refine k_VP (ws' := W_L cI cV cJ cD vf am a ad ao aod (wM_s x374 u382.1)) (As := [.int y377, .int y379, .int y381]) (rest := []) (n := 3) ⟨hx, hb, hml, hown, hts⟩ (met_X8_waiting l am (wM x374) y377 y379 y381 u382 hc383) w1052 w1053 w1054 w9 w1055 ⟨rfl, by decide +kernel, by decide +kernel, by decide +kernel⟩ ⟨Nat.le_of_ble_eq_true rfl, Nat.le_of_ble_eq_true rfl⟩ hK hE hP hD hS hA (cut_LM x374 u382.1) 0 7 rfl rfl rfl rfl hl.1 rfl (Nat.le_of_ble_eq_true rfl) dL_law_957 ⟨show cb + 6 + 0 ≤ _ from Nat.le_trans (by omega) hcb, show sb + 36 + 0 ≤ _ from Nat.le_trans (by omega) hsb⟩ (fun H locs hP hD hS => ?_)
    try dsimp only at hf
    refine W.widen (k := cb + 6) (n := sb + 36) (show cb + 6 + 0 ≤ cb + 6 by omega) (show sb + 36 + 0 ≤ sb + 36 by omega) ?_
    refine W.eq (g2 := F0 m 960 ls [.int u382.2]) rfl ?_
    obtain ⟨x384, hx384⟩ : ∃ z, z = (wM_s x374 u382.1) := ⟨_, rfl⟩
    replace hf := keep_e hf x384 hx384
    have hP : va_P D vwCl (W_L cI cV cJ cD vf am a ad ao aod x384) H := by rw [hx384]; exact hP
    have hD : va_D A (W_L cI cV cJ cD vf am a ad ao aod x384) := by rw [hx384]; exact hD
    refine lv_topi (fun y385 hy385 => ?_)
    replace hf := keep_e hf y385 hy385
    refine lv_istore (lv' := [(7, .int y385), (6, .int y375), (0, .ref (b)), (1, .ref (a 0)), (2, .ref (am 0)), (3, .ref (ao)), (4, .ref (aod)), (5, .int v5)]) hx hb dL_law_960 hl (by decide) rfl (fun ls hl => ?_)
    refine lv_aload_n hx hb dL_law_962 rfl (lv_at hl 4 rfl) ?_
    obtain ⟨u386, hc387, hf⟩ := bind_t hf
    refine k_VP (ws' := W_L cI cV cJ cD vf am a ad ao aod x384) (As := []) (rest := []) (n := 0) ⟨hx, hb, hml, hown, hts⟩ (met_X8_thrown l am (wM x384)  u386 hc387) w898 w899 w900 w9 w901 ⟨rfl, by decide +kernel, by decide +kernel, by decide +kernel⟩ ⟨Nat.le_of_ble_eq_true rfl, Nat.le_of_ble_eq_true rfl⟩ hK hE hP hD hS hA (cut_LMi x384) 0 7 rfl rfl rfl rfl hl.1 rfl (Nat.le_of_ble_eq_true rfl) dL_law_963 ⟨show cb + 6 + 0 ≤ _ from Nat.le_trans (by omega) hcb, show sb + 36 + 0 ≤ _ from Nat.le_trans (by omega) hsb⟩ (fun H locs hP hD hS => ?_)
    try dsimp only at hf
    refine W.widen (k := cb + 6) (n := sb + 36) (show cb + 6 + 0 ≤ cb + 6 by omega) (show sb + 36 + 0 ≤ sb + 36 by omega) ?_
    refine W.eq (g2 := F0 m 966 ls [.int u386]) rfl ?_
    refine lv_iload hx hb dL_law_966 (lv_at hl 1 rfl) ?_
    refine lv_icmp_eq (tgt := 973) hx hb dL_law_968 (by decide) (fun c388 => ?_) (fun c388 => ?_)
    · replace hf := if_t c388 hf
      refine lv_iload hx hb dL_law_973 (lv_at hl 1 rfl) ?_
      refine lv_if_ne (tgt := 990) hx hb dL_law_975 (by decide) (fun c389 => ?_) (fun c389 => ?_)
      · replace hf := if_f c389 hf
        refine lv_goto (tgt := 2017) hx hb dL_law_990 (by decide) ?_
        exact L2017 rec cb sb hcb hsb hrec a x384 v5 H locs ls hf hP hD hS (lv_sub hl [2, 3, 4, 5, 6, 7] rfl)
      · replace hf := if_t c389 hf
        refine lv_aload_n hx hb dL_law_978 rfl (lv_at hl 5 rfl) ?_
        refine lv_iconst (v := 0) hx hb dL_law_979 (by decide) ?_
        refine va_lald hx hb hK hP 15 2 rfl rfl (inb_in (by decide : inb 0 1 = true)) dL_law_980 ?_
        refine lv_iload hx hb dL_law_981 (lv_at hl 0 rfl) ?_
        refine lv_i2l (v := (y385).toInt64) hx hb dL_law_983 rfl ?_
        refine k_lcmp hx hb dL_law_984 ?_
        refine lv_if_eq (tgt := 990) hx hb dL_law_985 (by decide) (fun c390 => ?_) (fun c390 => ?_)
        · replace hf := if_t c390 hf
          refine lv_goto (tgt := 2017) hx hb dL_law_990 (by decide) ?_
          exact L2017 rec cb sb hcb hsb hrec a x384 v5 H locs ls hf hP hD hS (lv_sub hl [2, 3, 4, 5, 6, 7] rfl)
        · replace hf := if_f c390 hf
          refine lv_iconst (v := 0) hx hb dL_law_988 (by decide) ?_
          exact absurd (Option.some.inj hf) (by decide)
    · replace hf := if_f c388 hf
      refine lv_iconst (v := 0) hx hb dL_law_971 (by decide) ?_
      exact absurd (Option.some.inj hf) (by decide)
  have L821 : ∀ (rec : LwSt × Int32 → Option Int32) (cb sb : Nat), cb + 6 ≤ room_1.cells → sb + 36 ≤ room_1.slots → (∀ (x : LwSt) (v5 : Int32) (a : Nat → Nat) (H : Heap) (locs : List Loc) (ls : Array Slot), rec (x, v5) = some 1 → va_P D vwCl (W_L cI cV cJ cD vf am a ad ao aod x) H → va_D A (W_L cI cV cJ cD vf am a ad ao aod x) → va_S A s.heap H locs → lv_has ls 8 [(0, .ref (b)), (1, .ref (a 0)), (2, .ref (am 0)), (3, .ref (ao)), (4, .ref (aod)), (5, .int v5)] → W p l e room_1 s m #[Value.ref b] below meth c H locs (cb + 6) (sb + 36) (lw_Z below #[Value.ref b] s) (F0 m 28 ls [])) → ∀ (a : Nat → Nat) (x : LwSt) (v5 : Int32) (H : Heap) (locs : List Loc) (ls : Array Slot), fL_law_821 L xs rec x v5  = some 1 → va_P D vwCl (W_L cI cV cJ cD vf am a ad ao aod x) H → va_D A (W_L cI cV cJ cD vf am a ad ao aod x) → va_S A s.heap H locs → lv_has ls 8 [(0, .ref (b)), (1, .ref (a 0)), (2, .ref (am 0)), (3, .ref (ao)), (4, .ref (aod)), (5, .int v5)] → W p l e room_1 s m #[Value.ref b] below meth c H locs (cb + 0) (sb + 0) (lw_Z below #[Value.ref b] s) (F0 m 821 ls []) := by
    intro rec cb sb hcb hsb hrec a x v5 H locs ls hf hP hD hS hl
    dsimp only [fL_law_821] at hf
    refine lv_aload_n hx hb dL_law_821 rfl (lv_at hl 1 rfl) ?_
    refine lv_aload_n hx hb dL_law_822 rfl (lv_at hl 0 rfl) ?_
    refine lv_iload hx hb dL_law_823 (lv_at hl 5 rfl) ?_
    refine lv_iconst (v := 1) hx hb dL_law_825 (by decide) ?_
    refine lv_iadd hx hb dL_law_826 ?_
    obtain ⟨hi391, hf⟩ := chk_t hf
    refine va_sld hx hb hX hbl hbA hS (inb_in hi391) dL_law_827 ?_
    refine lv_topi (fun y392 hy392 => ?_)
    replace hf := keep_e hf y392 hy392
    refine lv_aload_n hx hb dL_law_828 rfl (lv_at hl 0 rfl) ?_
    refine lv_iload hx hb dL_law_829 (lv_at hl 5 rfl) ?_
    refine lv_iconst (v := 2) hx hb dL_law_831 (by decide) ?_
    refine lv_iadd hx hb dL_law_832 ?_
    obtain ⟨hi393, hf⟩ := chk_t hf
    refine va_sld hx hb hX hbl hbA hS (inb_in hi393) dL_law_833 ?_
    refine lv_topi (fun y394 hy394 => ?_)
    replace hf := keep_e hf y394 hy394
    refine lv_aload_n hx hb dL_law_834 rfl (lv_at hl 0 rfl) ?_
    refine lv_iload hx hb dL_law_835 (lv_at hl 5 rfl) ?_
    refine lv_iconst (v := 3) hx hb dL_law_837 (by decide) ?_
    refine lv_iadd hx hb dL_law_838 ?_
    obtain ⟨hi395, hf⟩ := chk_t hf
    refine va_sld hx hb hX hbl hbA hS (inb_in hi395) dL_law_839 ?_
    refine lv_topi (fun y396 hy396 => ?_)
    replace hf := keep_e hf y396 hy396
    refine lv_aload_n hx hb dL_law_840 rfl (lv_at hl 0 rfl) ?_
    refine lv_iload hx hb dL_law_841 (lv_at hl 5 rfl) ?_
    refine lv_iconst (v := 4) hx hb dL_law_843 (by decide) ?_
    refine lv_iadd hx hb dL_law_844 ?_
    obtain ⟨hi397, hf⟩ := chk_t hf
    refine va_sld hx hb hX hbl hbA hS (inb_in hi397) dL_law_845 ?_
    refine lv_topi (fun y398 hy398 => ?_)
    replace hf := keep_e hf y398 hy398
    refine lv_aload_n hx hb dL_law_846 rfl (lv_at hl 3 rfl) ?_
    obtain ⟨hv401, hf⟩ := chk_t hf
    replace hv401 := of_decide_eq_true hv401
    obtain ⟨u399, hc400, hf⟩ := bind_t hf
    obtain ⟨hv402, hf⟩ := chk_t hf
    replace hv402 := of_decide_eq_true hv402
    refine k_SWP (ws' := W_L cI cV cJ cD vf am a ad ao aod (unf (fk y392) (wS x) (pF u399.1), wM x, pO u399.1, wD x)) (As := [.ref (a 0), .int y392, .int y394, .int y396, .int y398, .ref (ao)]) (rest := []) (n := 6) ⟨hx, hb, hml, hown, hts⟩ (met_L_claim l hlt (fk y392) vf (foO a (ad (fk y392)) ao) (hvf _ fk_lt) (foc (fk y392) (wS x), wO x) y392 y394 y396 y398 u399 hc400) w653 w654 w0 w655 ⟨by decide +kernel, by decide +kernel, by decide +kernel⟩ ⟨Nat.le_of_ble_eq_true rfl, Nat.le_of_ble_eq_true rfl⟩ hK hE hP hD hS hA (cut_LO x fk_lt hv401 u399.1 hv402) rfl hl.1 rfl (Nat.le_of_ble_eq_true rfl) dL_law_847 ⟨show cb + 0 + 6 ≤ _ from Nat.le_trans (by omega) hcb, show sb + 0 + 36 ≤ _ from Nat.le_trans (by omega) hsb⟩ (fun H locs hP hD hS => ?_)
    try dsimp only at hf
    refine W.widen (k := cb + 6) (n := sb + 36) (show cb + 0 + 6 ≤ cb + 6 by omega) (show sb + 0 + 36 ≤ sb + 36 by omega) ?_
    refine W.eq (g2 := F0 m 850 ls [.int u399.2]) rfl ?_
    obtain ⟨x403, hx403⟩ : ∃ z, z = (unf (fk y392) (wS x) (pF u399.1), wM x, pO u399.1, wD x) := ⟨_, rfl⟩
    replace hf := keep_e hf x403 hx403
    have hP : va_P D vwCl (W_L cI cV cJ cD vf am a ad ao aod x403) H := by rw [hx403]; exact hP
    have hD : va_D A (W_L cI cV cJ cD vf am a ad ao aod x403) := by rw [hx403]; exact hD
    refine lv_topi (fun y404 hy404 => ?_)
    replace hf := keep_e hf y404 hy404
    refine lv_istore (lv' := [(6, .int y404), (0, .ref (b)), (1, .ref (a 0)), (2, .ref (am 0)), (3, .ref (ao)), (4, .ref (aod)), (5, .int v5)]) hx hb dL_law_850 hl (by decide) rfl (fun ls hl => ?_)
    refine lv_aload_n hx hb dL_law_852 rfl (lv_at hl 3 rfl) ?_
    refine lv_aload_n hx hb dL_law_853 rfl (lv_at hl 1 rfl) ?_
    refine lv_iload hx hb dL_law_854 (lv_at hl 6 rfl) ?_
    refine lv_iconst (v := 1) hx hb dL_law_856 (by decide) ?_
    refine lv_iadd hx hb dL_law_857 ?_
    obtain ⟨hi405, hf⟩ := chk_t hf
    refine va_sld hx hb hX hbl hbA hS (inb_in hi405) dL_law_858 ?_
    refine lv_topi (fun y406 hy406 => ?_)
    replace hf := keep_e hf y406 hy406
    refine lv_aload_n hx hb dL_law_859 rfl (lv_at hl 1 rfl) ?_
    refine lv_iload hx hb dL_law_860 (lv_at hl 6 rfl) ?_
    refine lv_iconst (v := 2) hx hb dL_law_862 (by decide) ?_
    refine lv_iadd hx hb dL_law_863 ?_
    obtain ⟨hi407, hf⟩ := chk_t hf
    refine va_sld hx hb hX hbl hbA hS (inb_in hi407) dL_law_864 ?_
    refine lv_topi (fun y408 hy408 => ?_)
    replace hf := keep_e hf y408 hy408
    refine lv_aload_n hx hb dL_law_865 rfl (lv_at hl 1 rfl) ?_
    refine lv_iload hx hb dL_law_866 (lv_at hl 6 rfl) ?_
    refine lv_iconst (v := 3) hx hb dL_law_868 (by decide) ?_
    refine lv_iadd hx hb dL_law_869 ?_
    obtain ⟨hi409, hf⟩ := chk_t hf
    refine va_sld hx hb hX hbl hbA hS (inb_in hi409) dL_law_870 ?_
    refine lv_topi (fun y410 hy410 => ?_)
    replace hf := keep_e hf y410 hy410
    refine lv_aload_n hx hb dL_law_871 rfl (lv_at hl 1 rfl) ?_
    refine lv_iload hx hb dL_law_872 (lv_at hl 6 rfl) ?_
    refine lv_iconst (v := 4) hx hb dL_law_874 (by decide) ?_
    refine lv_iadd hx hb dL_law_875 ?_
    obtain ⟨hi411, hf⟩ := chk_t hf
    refine va_sld hx hb hX hbl hbA hS (inb_in hi411) dL_law_876 ?_
    refine lv_topi (fun y412 hy412 => ?_)
    replace hf := keep_e hf y412 hy412
    obtain ⟨u413, hc414, hf⟩ := bind_t hf
    refine k_VP (ws' := W_L cI cV cJ cD vf am a ad ao aod (wM_s x403 u413.1)) (As := [.int y406, .int y408, .int y410, .int y412]) (rest := []) (n := 4) ⟨hx, hb, hml, hown, hts⟩ (met_X8_claim l am (wM x403) y406 y408 y410 y412 u413 hc414) w1044 w1045 w1046 w9 w1047 ⟨rfl, by decide +kernel, by decide +kernel, by decide +kernel⟩ ⟨Nat.le_of_ble_eq_true rfl, Nat.le_of_ble_eq_true rfl⟩ hK hE hP hD hS hA (cut_LM x403 u413.1) 0 7 rfl rfl rfl rfl hl.1 rfl (Nat.le_of_ble_eq_true rfl) dL_law_877 ⟨show cb + 6 + 0 ≤ _ from Nat.le_trans (by omega) hcb, show sb + 36 + 0 ≤ _ from Nat.le_trans (by omega) hsb⟩ (fun H locs hP hD hS => ?_)
    try dsimp only at hf
    refine W.widen (k := cb + 6) (n := sb + 36) (show cb + 6 + 0 ≤ cb + 6 by omega) (show sb + 36 + 0 ≤ sb + 36 by omega) ?_
    refine W.eq (g2 := F0 m 880 ls [.int u413.2]) rfl ?_
    obtain ⟨x415, hx415⟩ : ∃ z, z = (wM_s x403 u413.1) := ⟨_, rfl⟩
    replace hf := keep_e hf x415 hx415
    have hP : va_P D vwCl (W_L cI cV cJ cD vf am a ad ao aod x415) H := by rw [hx415]; exact hP
    have hD : va_D A (W_L cI cV cJ cD vf am a ad ao aod x415) := by rw [hx415]; exact hD
    refine lv_topi (fun y416 hy416 => ?_)
    replace hf := keep_e hf y416 hy416
    refine lv_istore (lv' := [(7, .int y416), (6, .int y404), (0, .ref (b)), (1, .ref (a 0)), (2, .ref (am 0)), (3, .ref (ao)), (4, .ref (aod)), (5, .int v5)]) hx hb dL_law_880 hl (by decide) rfl (fun ls hl => ?_)
    refine lv_aload_n hx hb dL_law_882 rfl (lv_at hl 4 rfl) ?_
    obtain ⟨u417, hc418, hf⟩ := bind_t hf
    refine k_VP (ws' := W_L cI cV cJ cD vf am a ad ao aod x415) (As := []) (rest := []) (n := 0) ⟨hx, hb, hml, hown, hts⟩ (met_X8_thrown l am (wM x415)  u417 hc418) w898 w899 w900 w9 w901 ⟨rfl, by decide +kernel, by decide +kernel, by decide +kernel⟩ ⟨Nat.le_of_ble_eq_true rfl, Nat.le_of_ble_eq_true rfl⟩ hK hE hP hD hS hA (cut_LMi x415) 0 7 rfl rfl rfl rfl hl.1 rfl (Nat.le_of_ble_eq_true rfl) dL_law_883 ⟨show cb + 6 + 0 ≤ _ from Nat.le_trans (by omega) hcb, show sb + 36 + 0 ≤ _ from Nat.le_trans (by omega) hsb⟩ (fun H locs hP hD hS => ?_)
    try dsimp only at hf
    refine W.widen (k := cb + 6) (n := sb + 36) (show cb + 6 + 0 ≤ cb + 6 by omega) (show sb + 36 + 0 ≤ sb + 36 by omega) ?_
    refine W.eq (g2 := F0 m 886 ls [.int u417]) rfl ?_
    refine lv_iload hx hb dL_law_886 (lv_at hl 1 rfl) ?_
    refine lv_icmp_eq (tgt := 893) hx hb dL_law_888 (by decide) (fun c419 => ?_) (fun c419 => ?_)
    · replace hf := if_t c419 hf
      refine lv_iload hx hb dL_law_893 (lv_at hl 1 rfl) ?_
      refine lv_if_ne (tgt := 910) hx hb dL_law_895 (by decide) (fun c420 => ?_) (fun c420 => ?_)
      · replace hf := if_f c420 hf
        refine lv_goto (tgt := 2017) hx hb dL_law_910 (by decide) ?_
        exact L2017 rec cb sb hcb hsb hrec a x415 v5 H locs ls hf hP hD hS (lv_sub hl [2, 3, 4, 5, 6, 7] rfl)
      · replace hf := if_t c420 hf
        refine lv_aload_n hx hb dL_law_898 rfl (lv_at hl 5 rfl) ?_
        refine lv_iconst (v := 0) hx hb dL_law_899 (by decide) ?_
        refine va_lald hx hb hK hP 15 2 rfl rfl (inb_in (by decide : inb 0 1 = true)) dL_law_900 ?_
        refine lv_iload hx hb dL_law_901 (lv_at hl 0 rfl) ?_
        refine lv_i2l (v := (y416).toInt64) hx hb dL_law_903 rfl ?_
        refine k_lcmp hx hb dL_law_904 ?_
        refine lv_if_eq (tgt := 910) hx hb dL_law_905 (by decide) (fun c421 => ?_) (fun c421 => ?_)
        · replace hf := if_t c421 hf
          refine lv_goto (tgt := 2017) hx hb dL_law_910 (by decide) ?_
          exact L2017 rec cb sb hcb hsb hrec a x415 v5 H locs ls hf hP hD hS (lv_sub hl [2, 3, 4, 5, 6, 7] rfl)
        · replace hf := if_f c421 hf
          refine lv_iconst (v := 0) hx hb dL_law_908 (by decide) ?_
          exact absurd (Option.some.inj hf) (by decide)
    · replace hf := if_f c419 hf
      refine lv_iconst (v := 0) hx hb dL_law_891 (by decide) ?_
      exact absurd (Option.some.inj hf) (by decide)
  have L812 : ∀ (rec : LwSt × Int32 → Option Int32) (cb sb : Nat), cb + 6 ≤ room_1.cells → sb + 36 ≤ room_1.slots → (∀ (x : LwSt) (v5 : Int32) (a : Nat → Nat) (H : Heap) (locs : List Loc) (ls : Array Slot), rec (x, v5) = some 1 → va_P D vwCl (W_L cI cV cJ cD vf am a ad ao aod x) H → va_D A (W_L cI cV cJ cD vf am a ad ao aod x) → va_S A s.heap H locs → lv_has ls 8 [(0, .ref (b)), (1, .ref (a 0)), (2, .ref (am 0)), (3, .ref (ao)), (4, .ref (aod)), (5, .int v5)] → W p l e room_1 s m #[Value.ref b] below meth c H locs (cb + 6) (sb + 36) (lw_Z below #[Value.ref b] s) (F0 m 28 ls [])) → ∀ (a : Nat → Nat) (x : LwSt) (v5 : Int32) (s0 : Int64) (s1 : Int64) (H : Heap) (locs : List Loc) (ls : Array Slot), fL_law_812 L xs rec x v5 s0 s1  = some 1 → va_P D vwCl (W_L cI cV cJ cD vf am a ad ao aod x) H → va_D A (W_L cI cV cJ cD vf am a ad ao aod x) → va_S A s.heap H locs → lv_has ls 8 [(0, .ref (b)), (1, .ref (a 0)), (2, .ref (am 0)), (3, .ref (ao)), (4, .ref (aod)), (5, .int v5)] → W p l e room_1 s m #[Value.ref b] below meth c H locs (cb + 6) (sb + 36) (lw_Z below #[Value.ref b] s) (F0 m 812 ls [.long s0, .long s1]) := by
    intro rec cb sb hcb hsb hrec a x v5 s0 s1 H locs ls hf hP hD hS hl
    dsimp only [fL_law_812] at hf
    refine k_lcmp hx hb dL_law_812 ?_
    refine lv_if_eq (tgt := 818) hx hb dL_law_813 (by decide) (fun c422 => ?_) (fun c422 => ?_)
    · replace hf := if_t c422 hf
      refine lv_goto (tgt := 2017) hx hb dL_law_818 (by decide) ?_
      exact L2017 rec cb sb hcb hsb hrec a x v5 H locs ls hf hP hD hS (lv_sub hl [0, 1, 2, 3, 4, 5] rfl)
    · replace hf := if_f c422 hf
      refine lv_iconst (v := 0) hx hb dL_law_816 (by decide) ?_
      exact absurd (Option.some.inj hf) (by decide)
  have L734 : ∀ (rec : LwSt × Int32 → Option Int32) (cb sb : Nat), cb + 6 ≤ room_1.cells → sb + 36 ≤ room_1.slots → (∀ (x : LwSt) (v5 : Int32) (a : Nat → Nat) (H : Heap) (locs : List Loc) (ls : Array Slot), rec (x, v5) = some 1 → va_P D vwCl (W_L cI cV cJ cD vf am a ad ao aod x) H → va_D A (W_L cI cV cJ cD vf am a ad ao aod x) → va_S A s.heap H locs → lv_has ls 8 [(0, .ref (b)), (1, .ref (a 0)), (2, .ref (am 0)), (3, .ref (ao)), (4, .ref (aod)), (5, .int v5)] → W p l e room_1 s m #[Value.ref b] below meth c H locs (cb + 6) (sb + 36) (lw_Z below #[Value.ref b] s) (F0 m 28 ls [])) → ∀ (a : Nat → Nat) (x : LwSt) (v5 : Int32) (H : Heap) (locs : List Loc) (ls : Array Slot), fL_law_734 L xs rec x v5  = some 1 → va_P D vwCl (W_L cI cV cJ cD vf am a ad ao aod x) H → va_D A (W_L cI cV cJ cD vf am a ad ao aod x) → va_S A s.heap H locs → lv_has ls 8 [(0, .ref (b)), (1, .ref (a 0)), (2, .ref (am 0)), (3, .ref (ao)), (4, .ref (aod)), (5, .int v5)] → W p l e room_1 s m #[Value.ref b] below meth c H locs (cb + 0) (sb + 0) (lw_Z below #[Value.ref b] s) (F0 m 734 ls []) := by
    intro rec cb sb hcb hsb hrec a x v5 H locs ls hf hP hD hS hl
    dsimp only [fL_law_734] at hf
    refine lv_aload_n hx hb dL_law_734 rfl (lv_at hl 1 rfl) ?_
    refine lv_aload_n hx hb dL_law_735 rfl (lv_at hl 0 rfl) ?_
    refine lv_iload hx hb dL_law_736 (lv_at hl 5 rfl) ?_
    refine lv_iconst (v := 1) hx hb dL_law_738 (by decide) ?_
    refine lv_iadd hx hb dL_law_739 ?_
    obtain ⟨hi423, hf⟩ := chk_t hf
    refine va_sld hx hb hX hbl hbA hS (inb_in hi423) dL_law_740 ?_
    refine lv_topi (fun y424 hy424 => ?_)
    replace hf := keep_e hf y424 hy424
    refine lv_aload_n hx hb dL_law_741 rfl (lv_at hl 0 rfl) ?_
    refine lv_iload hx hb dL_law_742 (lv_at hl 5 rfl) ?_
    refine lv_iconst (v := 2) hx hb dL_law_744 (by decide) ?_
    refine lv_iadd hx hb dL_law_745 ?_
    obtain ⟨hi425, hf⟩ := chk_t hf
    refine va_sld hx hb hX hbl hbA hS (inb_in hi425) dL_law_746 ?_
    refine lv_topi (fun y426 hy426 => ?_)
    replace hf := keep_e hf y426 hy426
    refine lv_aload_n hx hb dL_law_747 rfl (lv_at hl 0 rfl) ?_
    refine lv_iload hx hb dL_law_748 (lv_at hl 5 rfl) ?_
    refine lv_iconst (v := 3) hx hb dL_law_750 (by decide) ?_
    refine lv_iadd hx hb dL_law_751 ?_
    obtain ⟨hi427, hf⟩ := chk_t hf
    refine va_sld hx hb hX hbl hbA hS (inb_in hi427) dL_law_752 ?_
    refine lv_topi (fun y428 hy428 => ?_)
    replace hf := keep_e hf y428 hy428
    refine lv_aload_n hx hb dL_law_753 rfl (lv_at hl 3 rfl) ?_
    obtain ⟨hv431, hf⟩ := chk_t hf
    replace hv431 := of_decide_eq_true hv431
    obtain ⟨u429, hc430, hf⟩ := bind_t hf
    obtain ⟨hv432, hf⟩ := chk_t hf
    replace hv432 := of_decide_eq_true hv432
    refine k_SWP (ws' := W_L cI cV cJ cD vf am a ad ao aod (unf (fk y424) (wS x) (pF u429.1), wM x, pO u429.1, wD x)) (As := [.ref (a 0), .int y424, .int y426, .int y428, .ref (ao)]) (rest := []) (n := 5) ⟨hx, hb, hml, hown, hts⟩ (met_L_done l hlt (fk y424) vf (foO a (ad (fk y424)) ao) (hvf _ fk_lt) (foc (fk y424) (wS x), wO x) y424 y426 y428 u429 hc430) w646 w647 w0 w648 ⟨by decide +kernel, by decide +kernel, by decide +kernel⟩ ⟨Nat.le_of_ble_eq_true rfl, Nat.le_of_ble_eq_true rfl⟩ hK hE hP hD hS hA (cut_LO x fk_lt hv431 u429.1 hv432) rfl hl.1 rfl (Nat.le_of_ble_eq_true rfl) dL_law_754 ⟨show cb + 0 + 4 ≤ _ from Nat.le_trans (by omega) hcb, show sb + 0 + 24 ≤ _ from Nat.le_trans (by omega) hsb⟩ (fun H locs hP hD hS => ?_)
    try dsimp only at hf
    refine W.widen (k := cb + 6) (n := sb + 36) (show cb + 0 + 4 ≤ cb + 6 by omega) (show sb + 0 + 24 ≤ sb + 36 by omega) ?_
    refine W.eq (g2 := F0 m 757 ls [.int u429.2]) rfl ?_
    obtain ⟨x433, hx433⟩ : ∃ z, z = (unf (fk y424) (wS x) (pF u429.1), wM x, pO u429.1, wD x) := ⟨_, rfl⟩
    replace hf := keep_e hf x433 hx433
    have hP : va_P D vwCl (W_L cI cV cJ cD vf am a ad ao aod x433) H := by rw [hx433]; exact hP
    have hD : va_D A (W_L cI cV cJ cD vf am a ad ao aod x433) := by rw [hx433]; exact hD
    refine lv_topi (fun y434 hy434 => ?_)
    replace hf := keep_e hf y434 hy434
    refine lv_istore (lv' := [(6, .int y434), (0, .ref (b)), (1, .ref (a 0)), (2, .ref (am 0)), (3, .ref (ao)), (4, .ref (aod)), (5, .int v5)]) hx hb dL_law_757 hl (by decide) rfl (fun ls hl => ?_)
    refine lv_aload_n hx hb dL_law_759 rfl (lv_at hl 3 rfl) ?_
    refine lv_aload_n hx hb dL_law_760 rfl (lv_at hl 1 rfl) ?_
    refine lv_iload hx hb dL_law_761 (lv_at hl 6 rfl) ?_
    refine lv_iconst (v := 1) hx hb dL_law_763 (by decide) ?_
    refine lv_iadd hx hb dL_law_764 ?_
    obtain ⟨hi435, hf⟩ := chk_t hf
    refine va_sld hx hb hX hbl hbA hS (inb_in hi435) dL_law_765 ?_
    refine lv_topi (fun y436 hy436 => ?_)
    replace hf := keep_e hf y436 hy436
    refine lv_aload_n hx hb dL_law_766 rfl (lv_at hl 1 rfl) ?_
    refine lv_iload hx hb dL_law_767 (lv_at hl 6 rfl) ?_
    refine lv_iconst (v := 2) hx hb dL_law_769 (by decide) ?_
    refine lv_iadd hx hb dL_law_770 ?_
    obtain ⟨hi437, hf⟩ := chk_t hf
    refine va_sld hx hb hX hbl hbA hS (inb_in hi437) dL_law_771 ?_
    refine lv_topi (fun y438 hy438 => ?_)
    replace hf := keep_e hf y438 hy438
    refine lv_aload_n hx hb dL_law_772 rfl (lv_at hl 1 rfl) ?_
    refine lv_iload hx hb dL_law_773 (lv_at hl 6 rfl) ?_
    refine lv_iconst (v := 3) hx hb dL_law_775 (by decide) ?_
    refine lv_iadd hx hb dL_law_776 ?_
    obtain ⟨hi439, hf⟩ := chk_t hf
    refine va_sld hx hb hX hbl hbA hS (inb_in hi439) dL_law_777 ?_
    refine lv_topi (fun y440 hy440 => ?_)
    replace hf := keep_e hf y440 hy440
    obtain ⟨u441, hc442, hf⟩ := bind_t hf
    refine k_VP (ws' := W_L cI cV cJ cD vf am a ad ao aod (wM_s x433 u441.1)) (As := [.int y436, .int y438, .int y440]) (rest := []) (n := 3) ⟨hx, hb, hml, hown, hts⟩ (met_X8_done l am (wM x433) y436 y438 y440 u441 hc442) w1036 w1037 w1038 w9 w1039 ⟨rfl, by decide +kernel, by decide +kernel, by decide +kernel⟩ ⟨Nat.le_of_ble_eq_true rfl, Nat.le_of_ble_eq_true rfl⟩ hK hE hP hD hS hA (cut_LM x433 u441.1) 0 7 rfl rfl rfl rfl hl.1 rfl (Nat.le_of_ble_eq_true rfl) dL_law_778 ⟨show cb + 6 + 0 ≤ _ from Nat.le_trans (by omega) hcb, show sb + 36 + 0 ≤ _ from Nat.le_trans (by omega) hsb⟩ (fun H locs hP hD hS => ?_)
    try dsimp only at hf
    refine W.widen (k := cb + 6) (n := sb + 36) (show cb + 6 + 0 ≤ cb + 6 by omega) (show sb + 36 + 0 ≤ sb + 36 by omega) ?_
    refine W.eq (g2 := F0 m 781 ls [.int u441.2]) rfl ?_
    obtain ⟨x443, hx443⟩ : ∃ z, z = (wM_s x433 u441.1) := ⟨_, rfl⟩
    replace hf := keep_e hf x443 hx443
    have hP : va_P D vwCl (W_L cI cV cJ cD vf am a ad ao aod x443) H := by rw [hx443]; exact hP
    have hD : va_D A (W_L cI cV cJ cD vf am a ad ao aod x443) := by rw [hx443]; exact hD
    refine lv_topi (fun y444 hy444 => ?_)
    replace hf := keep_e hf y444 hy444
    refine lv_istore (lv' := [(7, .int y444), (6, .int y434), (0, .ref (b)), (1, .ref (a 0)), (2, .ref (am 0)), (3, .ref (ao)), (4, .ref (aod)), (5, .int v5)]) hx hb dL_law_781 hl (by decide) rfl (fun ls hl => ?_)
    refine lv_aload_n hx hb dL_law_783 rfl (lv_at hl 4 rfl) ?_
    obtain ⟨u445, hc446, hf⟩ := bind_t hf
    refine k_VP (ws' := W_L cI cV cJ cD vf am a ad ao aod x443) (As := []) (rest := []) (n := 0) ⟨hx, hb, hml, hown, hts⟩ (met_X8_thrown l am (wM x443)  u445 hc446) w898 w899 w900 w9 w901 ⟨rfl, by decide +kernel, by decide +kernel, by decide +kernel⟩ ⟨Nat.le_of_ble_eq_true rfl, Nat.le_of_ble_eq_true rfl⟩ hK hE hP hD hS hA (cut_LMi x443) 0 7 rfl rfl rfl rfl hl.1 rfl (Nat.le_of_ble_eq_true rfl) dL_law_784 ⟨show cb + 6 + 0 ≤ _ from Nat.le_trans (by omega) hcb, show sb + 36 + 0 ≤ _ from Nat.le_trans (by omega) hsb⟩ (fun H locs hP hD hS => ?_)
    try dsimp only at hf
    refine W.widen (k := cb + 6) (n := sb + 36) (show cb + 6 + 0 ≤ cb + 6 by omega) (show sb + 36 + 0 ≤ sb + 36 by omega) ?_
    refine W.eq (g2 := F0 m 787 ls [.int u445]) rfl ?_
    refine lv_iload hx hb dL_law_787 (lv_at hl 1 rfl) ?_
    refine lv_icmp_eq (tgt := 794) hx hb dL_law_789 (by decide) (fun c447 => ?_) (fun c447 => ?_)
    · replace hf := if_t c447 hf
      refine lv_iload hx hb dL_law_794 (lv_at hl 1 rfl) ?_
      refine lv_if_ne (tgt := 818) hx hb dL_law_796 (by decide) (fun c448 => ?_) (fun c448 => ?_)
      · replace hf := if_f c448 hf
        refine lv_goto (tgt := 2017) hx hb dL_law_818 (by decide) ?_
        exact L2017 rec cb sb hcb hsb hrec a x443 v5 H locs ls hf hP hD hS (lv_sub hl [2, 3, 4, 5, 6, 7] rfl)
      · replace hf := if_t c448 hf
        refine lv_aload_n hx hb dL_law_799 rfl (lv_at hl 5 rfl) ?_
        refine lv_iconst (v := 0) hx hb dL_law_800 (by decide) ?_
        refine va_lald hx hb hK hP 15 2 rfl rfl (inb_in (by decide : inb 0 1 = true)) dL_law_801 ?_
        refine lv_iload hx hb dL_law_802 (lv_at hl 0 rfl) ?_
        refine lv_if_eq (tgt := 811) hx hb dL_law_804 (by decide) (fun c449 => ?_) (fun c449 => ?_)
        · replace hf := if_t c449 hf
          refine lv_lconst (v := 0) hx hb dL_law_811 (by decide) ?_
          exact L812 rec cb sb hcb hsb hrec a x443 v5 0 (wO x443 (0 : Int32).toNatClampNeg) H locs ls hf hP hD hS (lv_sub hl [2, 3, 4, 5, 6, 7] rfl)
        · replace hf := if_f c449 hf
          refine lv_lconst (v := 1) hx hb dL_law_807 (by decide) ?_
          refine lv_goto (tgt := 812) hx hb dL_law_808 (by decide) ?_
          exact L812 rec cb sb hcb hsb hrec a x443 v5 1 (wO x443 (0 : Int32).toNatClampNeg) H locs ls hf hP hD hS (lv_sub hl [2, 3, 4, 5, 6, 7] rfl)
    · replace hf := if_f c447 hf
      refine lv_iconst (v := 0) hx hb dL_law_792 (by decide) ?_
      exact absurd (Option.some.inj hf) (by decide)
  have L654 : ∀ (rec : LwSt × Int32 → Option Int32) (cb sb : Nat), cb + 6 ≤ room_1.cells → sb + 36 ≤ room_1.slots → (∀ (x : LwSt) (v5 : Int32) (a : Nat → Nat) (H : Heap) (locs : List Loc) (ls : Array Slot), rec (x, v5) = some 1 → va_P D vwCl (W_L cI cV cJ cD vf am a ad ao aod x) H → va_D A (W_L cI cV cJ cD vf am a ad ao aod x) → va_S A s.heap H locs → lv_has ls 8 [(0, .ref (b)), (1, .ref (a 0)), (2, .ref (am 0)), (3, .ref (ao)), (4, .ref (aod)), (5, .int v5)] → W p l e room_1 s m #[Value.ref b] below meth c H locs (cb + 6) (sb + 36) (lw_Z below #[Value.ref b] s) (F0 m 28 ls [])) → ∀ (a : Nat → Nat) (x : LwSt) (v5 : Int32) (H : Heap) (locs : List Loc) (ls : Array Slot), fL_law_654 L xs rec x v5  = some 1 → va_P D vwCl (W_L cI cV cJ cD vf am a ad ao aod x) H → va_D A (W_L cI cV cJ cD vf am a ad ao aod x) → va_S A s.heap H locs → lv_has ls 8 [(0, .ref (b)), (1, .ref (a 0)), (2, .ref (am 0)), (3, .ref (ao)), (4, .ref (aod)), (5, .int v5)] → W p l e room_1 s m #[Value.ref b] below meth c H locs (cb + 0) (sb + 0) (lw_Z below #[Value.ref b] s) (F0 m 654 ls []) := by
    intro rec cb sb hcb hsb hrec a x v5 H locs ls hf hP hD hS hl
    dsimp only [fL_law_654] at hf
    refine lv_aload_n hx hb dL_law_654 rfl (lv_at hl 1 rfl) ?_
    refine lv_aload_n hx hb dL_law_655 rfl (lv_at hl 0 rfl) ?_
    refine lv_iload hx hb dL_law_656 (lv_at hl 5 rfl) ?_
    refine lv_iconst (v := 1) hx hb dL_law_658 (by decide) ?_
    refine lv_iadd hx hb dL_law_659 ?_
    obtain ⟨hi450, hf⟩ := chk_t hf
    refine va_sld hx hb hX hbl hbA hS (inb_in hi450) dL_law_660 ?_
    refine lv_topi (fun y451 hy451 => ?_)
    replace hf := keep_e hf y451 hy451
    refine lv_aload_n hx hb dL_law_661 rfl (lv_at hl 0 rfl) ?_
    refine lv_iload hx hb dL_law_662 (lv_at hl 5 rfl) ?_
    refine lv_iconst (v := 2) hx hb dL_law_664 (by decide) ?_
    refine lv_iadd hx hb dL_law_665 ?_
    obtain ⟨hi452, hf⟩ := chk_t hf
    refine va_sld hx hb hX hbl hbA hS (inb_in hi452) dL_law_666 ?_
    refine lv_topi (fun y453 hy453 => ?_)
    replace hf := keep_e hf y453 hy453
    refine lv_aload_n hx hb dL_law_667 rfl (lv_at hl 0 rfl) ?_
    refine lv_iload hx hb dL_law_668 (lv_at hl 5 rfl) ?_
    refine lv_iconst (v := 3) hx hb dL_law_670 (by decide) ?_
    refine lv_iadd hx hb dL_law_671 ?_
    obtain ⟨hi454, hf⟩ := chk_t hf
    refine va_sld hx hb hX hbl hbA hS (inb_in hi454) dL_law_672 ?_
    refine lv_topi (fun y455 hy455 => ?_)
    replace hf := keep_e hf y455 hy455
    refine lv_aload_n hx hb dL_law_673 rfl (lv_at hl 3 rfl) ?_
    obtain ⟨hv458, hf⟩ := chk_t hf
    replace hv458 := of_decide_eq_true hv458
    obtain ⟨u456, hc457, hf⟩ := bind_t hf
    obtain ⟨hv459, hf⟩ := chk_t hf
    replace hv459 := of_decide_eq_true hv459
    refine k_SWP (ws' := W_L cI cV cJ cD vf am a ad ao aod (unf (fk y451) (wS x) (pF u456.1), wM x, pO u456.1, wD x)) (As := [.ref (a 0), .int y451, .int y453, .int y455, .ref (ao)]) (rest := []) (n := 5) ⟨hx, hb, hml, hown, hts⟩ (met_L_read l hlt (fk y451) vf (foO a (ad (fk y451)) ao) (hvf _ fk_lt) (foc (fk y451) (wS x), wO x) y451 y453 y455 u456 hc457) w630 w631 w0 w632 ⟨by decide +kernel, by decide +kernel, by decide +kernel⟩ ⟨Nat.le_of_ble_eq_true rfl, Nat.le_of_ble_eq_true rfl⟩ hK hE hP hD hS hA (cut_LO x fk_lt hv458 u456.1 hv459) rfl hl.1 rfl (Nat.le_of_ble_eq_true rfl) dL_law_674 ⟨show cb + 0 + 5 ≤ _ from Nat.le_trans (by omega) hcb, show sb + 0 + 30 ≤ _ from Nat.le_trans (by omega) hsb⟩ (fun H locs hP hD hS => ?_)
    try dsimp only at hf
    refine W.widen (k := cb + 6) (n := sb + 36) (show cb + 0 + 5 ≤ cb + 6 by omega) (show sb + 0 + 30 ≤ sb + 36 by omega) ?_
    refine W.eq (g2 := F0 m 677 ls [.int u456.2]) rfl ?_
    obtain ⟨x460, hx460⟩ : ∃ z, z = (unf (fk y451) (wS x) (pF u456.1), wM x, pO u456.1, wD x) := ⟨_, rfl⟩
    replace hf := keep_e hf x460 hx460
    have hP : va_P D vwCl (W_L cI cV cJ cD vf am a ad ao aod x460) H := by rw [hx460]; exact hP
    have hD : va_D A (W_L cI cV cJ cD vf am a ad ao aod x460) := by rw [hx460]; exact hD
    refine lv_topi (fun y461 hy461 => ?_)
    replace hf := keep_e hf y461 hy461
    refine lv_istore (lv' := [(6, .int y461), (0, .ref (b)), (1, .ref (a 0)), (2, .ref (am 0)), (3, .ref (ao)), (4, .ref (aod)), (5, .int v5)]) hx hb dL_law_677 hl (by decide) rfl (fun ls hl => ?_)
    refine lv_aload_n hx hb dL_law_679 rfl (lv_at hl 3 rfl) ?_
    refine lv_aload_n hx hb dL_law_680 rfl (lv_at hl 1 rfl) ?_
    refine lv_iload hx hb dL_law_681 (lv_at hl 6 rfl) ?_
    refine lv_iconst (v := 1) hx hb dL_law_683 (by decide) ?_
    refine lv_iadd hx hb dL_law_684 ?_
    obtain ⟨hi462, hf⟩ := chk_t hf
    refine va_sld hx hb hX hbl hbA hS (inb_in hi462) dL_law_685 ?_
    refine lv_topi (fun y463 hy463 => ?_)
    replace hf := keep_e hf y463 hy463
    refine lv_aload_n hx hb dL_law_686 rfl (lv_at hl 1 rfl) ?_
    refine lv_iload hx hb dL_law_687 (lv_at hl 6 rfl) ?_
    refine lv_iconst (v := 2) hx hb dL_law_689 (by decide) ?_
    refine lv_iadd hx hb dL_law_690 ?_
    obtain ⟨hi464, hf⟩ := chk_t hf
    refine va_sld hx hb hX hbl hbA hS (inb_in hi464) dL_law_691 ?_
    refine lv_topi (fun y465 hy465 => ?_)
    replace hf := keep_e hf y465 hy465
    refine lv_aload_n hx hb dL_law_692 rfl (lv_at hl 1 rfl) ?_
    refine lv_iload hx hb dL_law_693 (lv_at hl 6 rfl) ?_
    refine lv_iconst (v := 3) hx hb dL_law_695 (by decide) ?_
    refine lv_iadd hx hb dL_law_696 ?_
    obtain ⟨hi466, hf⟩ := chk_t hf
    refine va_sld hx hb hX hbl hbA hS (inb_in hi466) dL_law_697 ?_
    refine lv_topi (fun y467 hy467 => ?_)
    replace hf := keep_e hf y467 hy467
    obtain ⟨u468, hc469, hf⟩ := bind_t hf
    refine k_VP (ws' := W_L cI cV cJ cD vf am a ad ao aod (wM_s x460 u468.1)) (As := [.int y463, .int y465, .int y467]) (rest := []) (n := 3) ⟨hx, hb, hml, hown, hts⟩ (met_X8_read l am (wM x460) y463 y465 y467 u468 hc469) w1015 w1016 w1017 w9 w1018 ⟨rfl, by decide +kernel, by decide +kernel, by decide +kernel⟩ ⟨Nat.le_of_ble_eq_true rfl, Nat.le_of_ble_eq_true rfl⟩ hK hE hP hD hS hA (cut_LM x460 u468.1) 0 7 rfl rfl rfl rfl hl.1 rfl (Nat.le_of_ble_eq_true rfl) dL_law_698 ⟨show cb + 6 + 0 ≤ _ from Nat.le_trans (by omega) hcb, show sb + 36 + 0 ≤ _ from Nat.le_trans (by omega) hsb⟩ (fun H locs hP hD hS => ?_)
    try dsimp only at hf
    refine W.widen (k := cb + 6) (n := sb + 36) (show cb + 6 + 0 ≤ cb + 6 by omega) (show sb + 36 + 0 ≤ sb + 36 by omega) ?_
    refine W.eq (g2 := F0 m 701 ls [.int u468.2]) rfl ?_
    obtain ⟨x470, hx470⟩ : ∃ z, z = (wM_s x460 u468.1) := ⟨_, rfl⟩
    replace hf := keep_e hf x470 hx470
    have hP : va_P D vwCl (W_L cI cV cJ cD vf am a ad ao aod x470) H := by rw [hx470]; exact hP
    have hD : va_D A (W_L cI cV cJ cD vf am a ad ao aod x470) := by rw [hx470]; exact hD
    refine lv_topi (fun y471 hy471 => ?_)
    replace hf := keep_e hf y471 hy471
    refine lv_istore (lv' := [(7, .int y471), (6, .int y461), (0, .ref (b)), (1, .ref (a 0)), (2, .ref (am 0)), (3, .ref (ao)), (4, .ref (aod)), (5, .int v5)]) hx hb dL_law_701 hl (by decide) rfl (fun ls hl => ?_)
    refine lv_aload_n hx hb dL_law_703 rfl (lv_at hl 4 rfl) ?_
    obtain ⟨u472, hc473, hf⟩ := bind_t hf
    refine k_VP (ws' := W_L cI cV cJ cD vf am a ad ao aod x470) (As := []) (rest := []) (n := 0) ⟨hx, hb, hml, hown, hts⟩ (met_X8_thrown l am (wM x470)  u472 hc473) w898 w899 w900 w9 w901 ⟨rfl, by decide +kernel, by decide +kernel, by decide +kernel⟩ ⟨Nat.le_of_ble_eq_true rfl, Nat.le_of_ble_eq_true rfl⟩ hK hE hP hD hS hA (cut_LMi x470) 0 7 rfl rfl rfl rfl hl.1 rfl (Nat.le_of_ble_eq_true rfl) dL_law_704 ⟨show cb + 6 + 0 ≤ _ from Nat.le_trans (by omega) hcb, show sb + 36 + 0 ≤ _ from Nat.le_trans (by omega) hsb⟩ (fun H locs hP hD hS => ?_)
    try dsimp only at hf
    refine W.widen (k := cb + 6) (n := sb + 36) (show cb + 6 + 0 ≤ cb + 6 by omega) (show sb + 36 + 0 ≤ sb + 36 by omega) ?_
    refine W.eq (g2 := F0 m 707 ls [.int u472]) rfl ?_
    refine lv_iload hx hb dL_law_707 (lv_at hl 1 rfl) ?_
    refine lv_icmp_eq (tgt := 714) hx hb dL_law_709 (by decide) (fun c474 => ?_) (fun c474 => ?_)
    · replace hf := if_t c474 hf
      refine lv_iload hx hb dL_law_714 (lv_at hl 1 rfl) ?_
      refine lv_if_ne (tgt := 731) hx hb dL_law_716 (by decide) (fun c475 => ?_) (fun c475 => ?_)
      · replace hf := if_f c475 hf
        refine lv_goto (tgt := 2017) hx hb dL_law_731 (by decide) ?_
        exact L2017 rec cb sb hcb hsb hrec a x470 v5 H locs ls hf hP hD hS (lv_sub hl [2, 3, 4, 5, 6, 7] rfl)
      · replace hf := if_t c475 hf
        refine lv_aload_n hx hb dL_law_719 rfl (lv_at hl 5 rfl) ?_
        refine lv_iconst (v := 0) hx hb dL_law_720 (by decide) ?_
        refine va_lald hx hb hK hP 15 2 rfl rfl (inb_in (by decide : inb 0 1 = true)) dL_law_721 ?_
        refine lv_iload hx hb dL_law_722 (lv_at hl 0 rfl) ?_
        refine lv_i2l (v := (y471).toInt64) hx hb dL_law_724 rfl ?_
        refine k_lcmp hx hb dL_law_725 ?_
        refine lv_if_eq (tgt := 731) hx hb dL_law_726 (by decide) (fun c476 => ?_) (fun c476 => ?_)
        · replace hf := if_t c476 hf
          refine lv_goto (tgt := 2017) hx hb dL_law_731 (by decide) ?_
          exact L2017 rec cb sb hcb hsb hrec a x470 v5 H locs ls hf hP hD hS (lv_sub hl [2, 3, 4, 5, 6, 7] rfl)
        · replace hf := if_f c476 hf
          refine lv_iconst (v := 0) hx hb dL_law_729 (by decide) ?_
          exact absurd (Option.some.inj hf) (by decide)
    · replace hf := if_f c474 hf
      refine lv_iconst (v := 0) hx hb dL_law_712 (by decide) ?_
      exact absurd (Option.some.inj hf) (by decide)
  have L586 : ∀ (rec : LwSt × Int32 → Option Int32) (cb sb : Nat), cb + 6 ≤ room_1.cells → sb + 36 ≤ room_1.slots → (∀ (x : LwSt) (v5 : Int32) (a : Nat → Nat) (H : Heap) (locs : List Loc) (ls : Array Slot), rec (x, v5) = some 1 → va_P D vwCl (W_L cI cV cJ cD vf am a ad ao aod x) H → va_D A (W_L cI cV cJ cD vf am a ad ao aod x) → va_S A s.heap H locs → lv_has ls 8 [(0, .ref (b)), (1, .ref (a 0)), (2, .ref (am 0)), (3, .ref (ao)), (4, .ref (aod)), (5, .int v5)] → W p l e room_1 s m #[Value.ref b] below meth c H locs (cb + 6) (sb + 36) (lw_Z below #[Value.ref b] s) (F0 m 28 ls [])) → ∀ (a : Nat → Nat) (x : LwSt) (v5 : Int32) (H : Heap) (locs : List Loc) (ls : Array Slot), fL_law_586 L xs rec x v5  = some 1 → va_P D vwCl (W_L cI cV cJ cD vf am a ad ao aod x) H → va_D A (W_L cI cV cJ cD vf am a ad ao aod x) → va_S A s.heap H locs → lv_has ls 8 [(0, .ref (b)), (1, .ref (a 0)), (2, .ref (am 0)), (3, .ref (ao)), (4, .ref (aod)), (5, .int v5)] → W p l e room_1 s m #[Value.ref b] below meth c H locs (cb + 0) (sb + 0) (lw_Z below #[Value.ref b] s) (F0 m 586 ls []) := by
    intro rec cb sb hcb hsb hrec a x v5 H locs ls hf hP hD hS hl
    dsimp only [fL_law_586] at hf
    refine lv_aload_n hx hb dL_law_586 rfl (lv_at hl 1 rfl) ?_
    refine lv_aload_n hx hb dL_law_587 rfl (lv_at hl 0 rfl) ?_
    refine lv_iload hx hb dL_law_588 (lv_at hl 5 rfl) ?_
    refine lv_iconst (v := 1) hx hb dL_law_590 (by decide) ?_
    refine lv_iadd hx hb dL_law_591 ?_
    obtain ⟨hi477, hf⟩ := chk_t hf
    refine va_sld hx hb hX hbl hbA hS (inb_in hi477) dL_law_592 ?_
    refine lv_topi (fun y478 hy478 => ?_)
    replace hf := keep_e hf y478 hy478
    refine lv_aload_n hx hb dL_law_593 rfl (lv_at hl 0 rfl) ?_
    refine lv_iload hx hb dL_law_594 (lv_at hl 5 rfl) ?_
    refine lv_iconst (v := 2) hx hb dL_law_596 (by decide) ?_
    refine lv_iadd hx hb dL_law_597 ?_
    obtain ⟨hi479, hf⟩ := chk_t hf
    refine va_sld hx hb hX hbl hbA hS (inb_in hi479) dL_law_598 ?_
    refine lv_topi (fun y480 hy480 => ?_)
    replace hf := keep_e hf y480 hy480
    refine lv_aload_n hx hb dL_law_599 rfl (lv_at hl 3 rfl) ?_
    obtain ⟨hv483, hf⟩ := chk_t hf
    replace hv483 := of_decide_eq_true hv483
    obtain ⟨u481, hc482, hf⟩ := bind_t hf
    obtain ⟨hv484, hf⟩ := chk_t hf
    replace hv484 := of_decide_eq_true hv484
    refine k_SWP (ws' := W_L cI cV cJ cD vf am a ad ao aod (unf (fk y478) (wS x) (pF u481.1), wM x, pO u481.1, wD x)) (As := [.ref (a 0), .int y478, .int y480, .ref (ao)]) (rest := []) (n := 4) ⟨hx, hb, hml, hown, hts⟩ (met_L_append l hlt (fk y478) vf (foO a (ad (fk y478)) ao) (hvf _ fk_lt) (foc (fk y478) (wS x), wO x) y478 y480 u481 hc482) w623 w624 w0 w625 ⟨by decide +kernel, by decide +kernel, by decide +kernel⟩ ⟨Nat.le_of_ble_eq_true rfl, Nat.le_of_ble_eq_true rfl⟩ hK hE hP hD hS hA (cut_LO x fk_lt hv483 u481.1 hv484) rfl hl.1 rfl (Nat.le_of_ble_eq_true rfl) dL_law_600 ⟨show cb + 0 + 5 ≤ _ from Nat.le_trans (by omega) hcb, show sb + 0 + 30 ≤ _ from Nat.le_trans (by omega) hsb⟩ (fun H locs hP hD hS => ?_)
    try dsimp only at hf
    refine W.widen (k := cb + 6) (n := sb + 36) (show cb + 0 + 5 ≤ cb + 6 by omega) (show sb + 0 + 30 ≤ sb + 36 by omega) ?_
    refine W.eq (g2 := F0 m 603 ls [.int u481.2]) rfl ?_
    obtain ⟨x485, hx485⟩ : ∃ z, z = (unf (fk y478) (wS x) (pF u481.1), wM x, pO u481.1, wD x) := ⟨_, rfl⟩
    replace hf := keep_e hf x485 hx485
    have hP : va_P D vwCl (W_L cI cV cJ cD vf am a ad ao aod x485) H := by rw [hx485]; exact hP
    have hD : va_D A (W_L cI cV cJ cD vf am a ad ao aod x485) := by rw [hx485]; exact hD
    refine lv_topi (fun y486 hy486 => ?_)
    replace hf := keep_e hf y486 hy486
    refine lv_istore (lv' := [(6, .int y486), (0, .ref (b)), (1, .ref (a 0)), (2, .ref (am 0)), (3, .ref (ao)), (4, .ref (aod)), (5, .int v5)]) hx hb dL_law_603 hl (by decide) rfl (fun ls hl => ?_)
    refine lv_aload_n hx hb dL_law_605 rfl (lv_at hl 3 rfl) ?_
    refine lv_aload_n hx hb dL_law_606 rfl (lv_at hl 1 rfl) ?_
    refine lv_iload hx hb dL_law_607 (lv_at hl 6 rfl) ?_
    refine lv_iconst (v := 1) hx hb dL_law_609 (by decide) ?_
    refine lv_iadd hx hb dL_law_610 ?_
    obtain ⟨hi487, hf⟩ := chk_t hf
    refine va_sld hx hb hX hbl hbA hS (inb_in hi487) dL_law_611 ?_
    refine lv_topi (fun y488 hy488 => ?_)
    replace hf := keep_e hf y488 hy488
    refine lv_aload_n hx hb dL_law_612 rfl (lv_at hl 1 rfl) ?_
    refine lv_iload hx hb dL_law_613 (lv_at hl 6 rfl) ?_
    refine lv_iconst (v := 2) hx hb dL_law_615 (by decide) ?_
    refine lv_iadd hx hb dL_law_616 ?_
    obtain ⟨hi489, hf⟩ := chk_t hf
    refine va_sld hx hb hX hbl hbA hS (inb_in hi489) dL_law_617 ?_
    refine lv_topi (fun y490 hy490 => ?_)
    replace hf := keep_e hf y490 hy490
    obtain ⟨u491, hc492, hf⟩ := bind_t hf
    refine k_VP (ws' := W_L cI cV cJ cD vf am a ad ao aod (wM_s x485 u491.1)) (As := [.int y488, .int y490]) (rest := []) (n := 2) ⟨hx, hb, hml, hown, hts⟩ (met_X8_append l am (wM x485) y488 y490 u491 hc492) w1007 w1008 w1009 w9 w1010 ⟨rfl, by decide +kernel, by decide +kernel, by decide +kernel⟩ ⟨Nat.le_of_ble_eq_true rfl, Nat.le_of_ble_eq_true rfl⟩ hK hE hP hD hS hA (cut_LM x485 u491.1) 0 7 rfl rfl rfl rfl hl.1 rfl (Nat.le_of_ble_eq_true rfl) dL_law_618 ⟨show cb + 6 + 0 ≤ _ from Nat.le_trans (by omega) hcb, show sb + 36 + 0 ≤ _ from Nat.le_trans (by omega) hsb⟩ (fun H locs hP hD hS => ?_)
    try dsimp only at hf
    refine W.widen (k := cb + 6) (n := sb + 36) (show cb + 6 + 0 ≤ cb + 6 by omega) (show sb + 36 + 0 ≤ sb + 36 by omega) ?_
    refine W.eq (g2 := F0 m 621 ls [.int u491.2]) rfl ?_
    obtain ⟨x493, hx493⟩ : ∃ z, z = (wM_s x485 u491.1) := ⟨_, rfl⟩
    replace hf := keep_e hf x493 hx493
    have hP : va_P D vwCl (W_L cI cV cJ cD vf am a ad ao aod x493) H := by rw [hx493]; exact hP
    have hD : va_D A (W_L cI cV cJ cD vf am a ad ao aod x493) := by rw [hx493]; exact hD
    refine lv_topi (fun y494 hy494 => ?_)
    replace hf := keep_e hf y494 hy494
    refine lv_istore (lv' := [(7, .int y494), (6, .int y486), (0, .ref (b)), (1, .ref (a 0)), (2, .ref (am 0)), (3, .ref (ao)), (4, .ref (aod)), (5, .int v5)]) hx hb dL_law_621 hl (by decide) rfl (fun ls hl => ?_)
    refine lv_aload_n hx hb dL_law_623 rfl (lv_at hl 4 rfl) ?_
    obtain ⟨u495, hc496, hf⟩ := bind_t hf
    refine k_VP (ws' := W_L cI cV cJ cD vf am a ad ao aod x493) (As := []) (rest := []) (n := 0) ⟨hx, hb, hml, hown, hts⟩ (met_X8_thrown l am (wM x493)  u495 hc496) w898 w899 w900 w9 w901 ⟨rfl, by decide +kernel, by decide +kernel, by decide +kernel⟩ ⟨Nat.le_of_ble_eq_true rfl, Nat.le_of_ble_eq_true rfl⟩ hK hE hP hD hS hA (cut_LMi x493) 0 7 rfl rfl rfl rfl hl.1 rfl (Nat.le_of_ble_eq_true rfl) dL_law_624 ⟨show cb + 6 + 0 ≤ _ from Nat.le_trans (by omega) hcb, show sb + 36 + 0 ≤ _ from Nat.le_trans (by omega) hsb⟩ (fun H locs hP hD hS => ?_)
    try dsimp only at hf
    refine W.widen (k := cb + 6) (n := sb + 36) (show cb + 6 + 0 ≤ cb + 6 by omega) (show sb + 36 + 0 ≤ sb + 36 by omega) ?_
    refine W.eq (g2 := F0 m 627 ls [.int u495]) rfl ?_
    refine lv_iload hx hb dL_law_627 (lv_at hl 1 rfl) ?_
    refine lv_icmp_eq (tgt := 634) hx hb dL_law_629 (by decide) (fun c497 => ?_) (fun c497 => ?_)
    · replace hf := if_t c497 hf
      refine lv_iload hx hb dL_law_634 (lv_at hl 1 rfl) ?_
      refine lv_if_ne (tgt := 651) hx hb dL_law_636 (by decide) (fun c498 => ?_) (fun c498 => ?_)
      · replace hf := if_f c498 hf
        refine lv_goto (tgt := 2017) hx hb dL_law_651 (by decide) ?_
        exact L2017 rec cb sb hcb hsb hrec a x493 v5 H locs ls hf hP hD hS (lv_sub hl [2, 3, 4, 5, 6, 7] rfl)
      · replace hf := if_t c498 hf
        refine lv_aload_n hx hb dL_law_639 rfl (lv_at hl 5 rfl) ?_
        refine lv_iconst (v := 0) hx hb dL_law_640 (by decide) ?_
        refine va_lald hx hb hK hP 15 2 rfl rfl (inb_in (by decide : inb 0 1 = true)) dL_law_641 ?_
        refine lv_iload hx hb dL_law_642 (lv_at hl 0 rfl) ?_
        refine lv_i2l (v := (y494).toInt64) hx hb dL_law_644 rfl ?_
        refine k_lcmp hx hb dL_law_645 ?_
        refine lv_if_eq (tgt := 651) hx hb dL_law_646 (by decide) (fun c499 => ?_) (fun c499 => ?_)
        · replace hf := if_t c499 hf
          refine lv_goto (tgt := 2017) hx hb dL_law_651 (by decide) ?_
          exact L2017 rec cb sb hcb hsb hrec a x493 v5 H locs ls hf hP hD hS (lv_sub hl [2, 3, 4, 5, 6, 7] rfl)
        · replace hf := if_f c499 hf
          refine lv_iconst (v := 0) hx hb dL_law_649 (by decide) ?_
          exact absurd (Option.some.inj hf) (by decide)
    · replace hf := if_f c497 hf
      refine lv_iconst (v := 0) hx hb dL_law_632 (by decide) ?_
      exact absurd (Option.some.inj hf) (by decide)
  have L506 : ∀ (rec : LwSt × Int32 → Option Int32) (cb sb : Nat), cb + 6 ≤ room_1.cells → sb + 36 ≤ room_1.slots → (∀ (x : LwSt) (v5 : Int32) (a : Nat → Nat) (H : Heap) (locs : List Loc) (ls : Array Slot), rec (x, v5) = some 1 → va_P D vwCl (W_L cI cV cJ cD vf am a ad ao aod x) H → va_D A (W_L cI cV cJ cD vf am a ad ao aod x) → va_S A s.heap H locs → lv_has ls 8 [(0, .ref (b)), (1, .ref (a 0)), (2, .ref (am 0)), (3, .ref (ao)), (4, .ref (aod)), (5, .int v5)] → W p l e room_1 s m #[Value.ref b] below meth c H locs (cb + 6) (sb + 36) (lw_Z below #[Value.ref b] s) (F0 m 28 ls [])) → ∀ (a : Nat → Nat) (x : LwSt) (v5 : Int32) (H : Heap) (locs : List Loc) (ls : Array Slot), fL_law_506 L xs rec x v5  = some 1 → va_P D vwCl (W_L cI cV cJ cD vf am a ad ao aod x) H → va_D A (W_L cI cV cJ cD vf am a ad ao aod x) → va_S A s.heap H locs → lv_has ls 8 [(0, .ref (b)), (1, .ref (a 0)), (2, .ref (am 0)), (3, .ref (ao)), (4, .ref (aod)), (5, .int v5)] → W p l e room_1 s m #[Value.ref b] below meth c H locs (cb + 0) (sb + 0) (lw_Z below #[Value.ref b] s) (F0 m 506 ls []) := by
    intro rec cb sb hcb hsb hrec a x v5 H locs ls hf hP hD hS hl
    dsimp only [fL_law_506] at hf
    refine lv_aload_n hx hb dL_law_506 rfl (lv_at hl 1 rfl) ?_
    refine lv_aload_n hx hb dL_law_507 rfl (lv_at hl 0 rfl) ?_
    refine lv_iload hx hb dL_law_508 (lv_at hl 5 rfl) ?_
    refine lv_iconst (v := 1) hx hb dL_law_510 (by decide) ?_
    refine lv_iadd hx hb dL_law_511 ?_
    obtain ⟨hi500, hf⟩ := chk_t hf
    refine va_sld hx hb hX hbl hbA hS (inb_in hi500) dL_law_512 ?_
    refine lv_topi (fun y501 hy501 => ?_)
    replace hf := keep_e hf y501 hy501
    refine lv_aload_n hx hb dL_law_513 rfl (lv_at hl 0 rfl) ?_
    refine lv_iload hx hb dL_law_514 (lv_at hl 5 rfl) ?_
    refine lv_iconst (v := 2) hx hb dL_law_516 (by decide) ?_
    refine lv_iadd hx hb dL_law_517 ?_
    obtain ⟨hi502, hf⟩ := chk_t hf
    refine va_sld hx hb hX hbl hbA hS (inb_in hi502) dL_law_518 ?_
    refine lv_topi (fun y503 hy503 => ?_)
    replace hf := keep_e hf y503 hy503
    refine lv_aload_n hx hb dL_law_519 rfl (lv_at hl 0 rfl) ?_
    refine lv_iload hx hb dL_law_520 (lv_at hl 5 rfl) ?_
    refine lv_iconst (v := 3) hx hb dL_law_522 (by decide) ?_
    refine lv_iadd hx hb dL_law_523 ?_
    obtain ⟨hi504, hf⟩ := chk_t hf
    refine va_sld hx hb hX hbl hbA hS (inb_in hi504) dL_law_524 ?_
    refine lv_topi (fun y505 hy505 => ?_)
    replace hf := keep_e hf y505 hy505
    refine lv_aload_n hx hb dL_law_525 rfl (lv_at hl 3 rfl) ?_
    obtain ⟨hv508, hf⟩ := chk_t hf
    replace hv508 := of_decide_eq_true hv508
    obtain ⟨u506, hc507, hf⟩ := bind_t hf
    obtain ⟨hv509, hf⟩ := chk_t hf
    replace hv509 := of_decide_eq_true hv509
    refine k_SWP (ws' := W_L cI cV cJ cD vf am a ad ao aod (unf (fk y501) (wS x) (pF u506.1), wM x, pO u506.1, wD x)) (As := [.ref (a 0), .int y501, .int y503, .int y505, .ref (ao)]) (rest := []) (n := 5) ⟨hx, hb, hml, hown, hts⟩ (met_L_rate l hlt (fk y501) vf (foO a (ad (fk y501)) ao) (hvf _ fk_lt) (foc (fk y501) (wS x), wO x) y501 y503 y505 u506 hc507) w613 w614 w0 w615 ⟨by decide +kernel, by decide +kernel, by decide +kernel⟩ ⟨Nat.le_of_ble_eq_true rfl, Nat.le_of_ble_eq_true rfl⟩ hK hE hP hD hS hA (cut_LO x fk_lt hv508 u506.1 hv509) rfl hl.1 rfl (Nat.le_of_ble_eq_true rfl) dL_law_526 ⟨show cb + 0 + 5 ≤ _ from Nat.le_trans (by omega) hcb, show sb + 0 + 30 ≤ _ from Nat.le_trans (by omega) hsb⟩ (fun H locs hP hD hS => ?_)
    try dsimp only at hf
    refine W.widen (k := cb + 6) (n := sb + 36) (show cb + 0 + 5 ≤ cb + 6 by omega) (show sb + 0 + 30 ≤ sb + 36 by omega) ?_
    refine W.eq (g2 := F0 m 529 ls [.int u506.2]) rfl ?_
    obtain ⟨x510, hx510⟩ : ∃ z, z = (unf (fk y501) (wS x) (pF u506.1), wM x, pO u506.1, wD x) := ⟨_, rfl⟩
    replace hf := keep_e hf x510 hx510
    have hP : va_P D vwCl (W_L cI cV cJ cD vf am a ad ao aod x510) H := by rw [hx510]; exact hP
    have hD : va_D A (W_L cI cV cJ cD vf am a ad ao aod x510) := by rw [hx510]; exact hD
    refine lv_topi (fun y511 hy511 => ?_)
    replace hf := keep_e hf y511 hy511
    refine lv_istore (lv' := [(6, .int y511), (0, .ref (b)), (1, .ref (a 0)), (2, .ref (am 0)), (3, .ref (ao)), (4, .ref (aod)), (5, .int v5)]) hx hb dL_law_529 hl (by decide) rfl (fun ls hl => ?_)
    refine lv_aload_n hx hb dL_law_531 rfl (lv_at hl 3 rfl) ?_
    refine lv_aload_n hx hb dL_law_532 rfl (lv_at hl 1 rfl) ?_
    refine lv_iload hx hb dL_law_533 (lv_at hl 6 rfl) ?_
    refine lv_iconst (v := 1) hx hb dL_law_535 (by decide) ?_
    refine lv_iadd hx hb dL_law_536 ?_
    obtain ⟨hi512, hf⟩ := chk_t hf
    refine va_sld hx hb hX hbl hbA hS (inb_in hi512) dL_law_537 ?_
    refine lv_topi (fun y513 hy513 => ?_)
    replace hf := keep_e hf y513 hy513
    refine lv_aload_n hx hb dL_law_538 rfl (lv_at hl 1 rfl) ?_
    refine lv_iload hx hb dL_law_539 (lv_at hl 6 rfl) ?_
    refine lv_iconst (v := 2) hx hb dL_law_541 (by decide) ?_
    refine lv_iadd hx hb dL_law_542 ?_
    obtain ⟨hi514, hf⟩ := chk_t hf
    refine va_sld hx hb hX hbl hbA hS (inb_in hi514) dL_law_543 ?_
    refine lv_topi (fun y515 hy515 => ?_)
    replace hf := keep_e hf y515 hy515
    refine lv_aload_n hx hb dL_law_544 rfl (lv_at hl 1 rfl) ?_
    refine lv_iload hx hb dL_law_545 (lv_at hl 6 rfl) ?_
    refine lv_iconst (v := 3) hx hb dL_law_547 (by decide) ?_
    refine lv_iadd hx hb dL_law_548 ?_
    obtain ⟨hi516, hf⟩ := chk_t hf
    refine va_sld hx hb hX hbl hbA hS (inb_in hi516) dL_law_549 ?_
    refine lv_topi (fun y517 hy517 => ?_)
    replace hf := keep_e hf y517 hy517
    obtain ⟨u518, hc519, hf⟩ := bind_t hf
    refine k_VP (ws' := W_L cI cV cJ cD vf am a ad ao aod (wM_s x510 u518.1)) (As := [.int y513, .int y515, .int y517]) (rest := []) (n := 3) ⟨hx, hb, hml, hown, hts⟩ (met_X8_rate l am (wM x510) y513 y515 y517 u518 hc519) w991 w992 w993 w9 w994 ⟨rfl, by decide +kernel, by decide +kernel, by decide +kernel⟩ ⟨Nat.le_of_ble_eq_true rfl, Nat.le_of_ble_eq_true rfl⟩ hK hE hP hD hS hA (cut_LM x510 u518.1) 0 7 rfl rfl rfl rfl hl.1 rfl (Nat.le_of_ble_eq_true rfl) dL_law_550 ⟨show cb + 6 + 0 ≤ _ from Nat.le_trans (by omega) hcb, show sb + 36 + 0 ≤ _ from Nat.le_trans (by omega) hsb⟩ (fun H locs hP hD hS => ?_)
    try dsimp only at hf
    refine W.widen (k := cb + 6) (n := sb + 36) (show cb + 6 + 0 ≤ cb + 6 by omega) (show sb + 36 + 0 ≤ sb + 36 by omega) ?_
    refine W.eq (g2 := F0 m 553 ls [.int u518.2]) rfl ?_
    obtain ⟨x520, hx520⟩ : ∃ z, z = (wM_s x510 u518.1) := ⟨_, rfl⟩
    replace hf := keep_e hf x520 hx520
    have hP : va_P D vwCl (W_L cI cV cJ cD vf am a ad ao aod x520) H := by rw [hx520]; exact hP
    have hD : va_D A (W_L cI cV cJ cD vf am a ad ao aod x520) := by rw [hx520]; exact hD
    refine lv_topi (fun y521 hy521 => ?_)
    replace hf := keep_e hf y521 hy521
    refine lv_istore (lv' := [(7, .int y521), (6, .int y511), (0, .ref (b)), (1, .ref (a 0)), (2, .ref (am 0)), (3, .ref (ao)), (4, .ref (aod)), (5, .int v5)]) hx hb dL_law_553 hl (by decide) rfl (fun ls hl => ?_)
    refine lv_aload_n hx hb dL_law_555 rfl (lv_at hl 4 rfl) ?_
    obtain ⟨u522, hc523, hf⟩ := bind_t hf
    refine k_VP (ws' := W_L cI cV cJ cD vf am a ad ao aod x520) (As := []) (rest := []) (n := 0) ⟨hx, hb, hml, hown, hts⟩ (met_X8_thrown l am (wM x520)  u522 hc523) w898 w899 w900 w9 w901 ⟨rfl, by decide +kernel, by decide +kernel, by decide +kernel⟩ ⟨Nat.le_of_ble_eq_true rfl, Nat.le_of_ble_eq_true rfl⟩ hK hE hP hD hS hA (cut_LMi x520) 0 7 rfl rfl rfl rfl hl.1 rfl (Nat.le_of_ble_eq_true rfl) dL_law_556 ⟨show cb + 6 + 0 ≤ _ from Nat.le_trans (by omega) hcb, show sb + 36 + 0 ≤ _ from Nat.le_trans (by omega) hsb⟩ (fun H locs hP hD hS => ?_)
    try dsimp only at hf
    refine W.widen (k := cb + 6) (n := sb + 36) (show cb + 6 + 0 ≤ cb + 6 by omega) (show sb + 36 + 0 ≤ sb + 36 by omega) ?_
    refine W.eq (g2 := F0 m 559 ls [.int u522]) rfl ?_
    refine lv_iload hx hb dL_law_559 (lv_at hl 1 rfl) ?_
    refine lv_icmp_eq (tgt := 566) hx hb dL_law_561 (by decide) (fun c524 => ?_) (fun c524 => ?_)
    · replace hf := if_t c524 hf
      refine lv_iload hx hb dL_law_566 (lv_at hl 1 rfl) ?_
      refine lv_if_ne (tgt := 583) hx hb dL_law_568 (by decide) (fun c525 => ?_) (fun c525 => ?_)
      · replace hf := if_f c525 hf
        refine lv_goto (tgt := 2017) hx hb dL_law_583 (by decide) ?_
        exact L2017 rec cb sb hcb hsb hrec a x520 v5 H locs ls hf hP hD hS (lv_sub hl [2, 3, 4, 5, 6, 7] rfl)
      · replace hf := if_t c525 hf
        refine lv_aload_n hx hb dL_law_571 rfl (lv_at hl 5 rfl) ?_
        refine lv_iconst (v := 0) hx hb dL_law_572 (by decide) ?_
        refine va_lald hx hb hK hP 15 2 rfl rfl (inb_in (by decide : inb 0 1 = true)) dL_law_573 ?_
        refine lv_iload hx hb dL_law_574 (lv_at hl 0 rfl) ?_
        refine lv_i2l (v := (y521).toInt64) hx hb dL_law_576 rfl ?_
        refine k_lcmp hx hb dL_law_577 ?_
        refine lv_if_eq (tgt := 583) hx hb dL_law_578 (by decide) (fun c526 => ?_) (fun c526 => ?_)
        · replace hf := if_t c526 hf
          refine lv_goto (tgt := 2017) hx hb dL_law_583 (by decide) ?_
          exact L2017 rec cb sb hcb hsb hrec a x520 v5 H locs ls hf hP hD hS (lv_sub hl [2, 3, 4, 5, 6, 7] rfl)
        · replace hf := if_f c526 hf
          refine lv_iconst (v := 0) hx hb dL_law_581 (by decide) ?_
          exact absurd (Option.some.inj hf) (by decide)
    · replace hf := if_f c524 hf
      refine lv_iconst (v := 0) hx hb dL_law_564 (by decide) ?_
      exact absurd (Option.some.inj hf) (by decide)
  have L497 : ∀ (rec : LwSt × Int32 → Option Int32) (cb sb : Nat), cb + 6 ≤ room_1.cells → sb + 36 ≤ room_1.slots → (∀ (x : LwSt) (v5 : Int32) (a : Nat → Nat) (H : Heap) (locs : List Loc) (ls : Array Slot), rec (x, v5) = some 1 → va_P D vwCl (W_L cI cV cJ cD vf am a ad ao aod x) H → va_D A (W_L cI cV cJ cD vf am a ad ao aod x) → va_S A s.heap H locs → lv_has ls 8 [(0, .ref (b)), (1, .ref (a 0)), (2, .ref (am 0)), (3, .ref (ao)), (4, .ref (aod)), (5, .int v5)] → W p l e room_1 s m #[Value.ref b] below meth c H locs (cb + 6) (sb + 36) (lw_Z below #[Value.ref b] s) (F0 m 28 ls [])) → ∀ (a : Nat → Nat) (x : LwSt) (v5 : Int32) (s0 : Int64) (s1 : Int64) (H : Heap) (locs : List Loc) (ls : Array Slot), fL_law_497 L xs rec x v5 s0 s1  = some 1 → va_P D vwCl (W_L cI cV cJ cD vf am a ad ao aod x) H → va_D A (W_L cI cV cJ cD vf am a ad ao aod x) → va_S A s.heap H locs → lv_has ls 8 [(0, .ref (b)), (1, .ref (a 0)), (2, .ref (am 0)), (3, .ref (ao)), (4, .ref (aod)), (5, .int v5)] → W p l e room_1 s m #[Value.ref b] below meth c H locs (cb + 6) (sb + 36) (lw_Z below #[Value.ref b] s) (F0 m 497 ls [.long s0, .long s1]) := by
    intro rec cb sb hcb hsb hrec a x v5 s0 s1 H locs ls hf hP hD hS hl
    dsimp only [fL_law_497] at hf
    refine k_lcmp hx hb dL_law_497 ?_
    refine lv_if_eq (tgt := 503) hx hb dL_law_498 (by decide) (fun c527 => ?_) (fun c527 => ?_)
    · replace hf := if_t c527 hf
      refine lv_goto (tgt := 2017) hx hb dL_law_503 (by decide) ?_
      exact L2017 rec cb sb hcb hsb hrec a x v5 H locs ls hf hP hD hS (lv_sub hl [0, 1, 2, 3, 4, 5] rfl)
    · replace hf := if_f c527 hf
      refine lv_iconst (v := 0) hx hb dL_law_501 (by decide) ?_
      exact absurd (Option.some.inj hf) (by decide)
  have L431 : ∀ (rec : LwSt × Int32 → Option Int32) (cb sb : Nat), cb + 6 ≤ room_1.cells → sb + 36 ≤ room_1.slots → (∀ (x : LwSt) (v5 : Int32) (a : Nat → Nat) (H : Heap) (locs : List Loc) (ls : Array Slot), rec (x, v5) = some 1 → va_P D vwCl (W_L cI cV cJ cD vf am a ad ao aod x) H → va_D A (W_L cI cV cJ cD vf am a ad ao aod x) → va_S A s.heap H locs → lv_has ls 8 [(0, .ref (b)), (1, .ref (a 0)), (2, .ref (am 0)), (3, .ref (ao)), (4, .ref (aod)), (5, .int v5)] → W p l e room_1 s m #[Value.ref b] below meth c H locs (cb + 6) (sb + 36) (lw_Z below #[Value.ref b] s) (F0 m 28 ls [])) → ∀ (a : Nat → Nat) (x : LwSt) (v5 : Int32) (H : Heap) (locs : List Loc) (ls : Array Slot), fL_law_431 L xs rec x v5  = some 1 → va_P D vwCl (W_L cI cV cJ cD vf am a ad ao aod x) H → va_D A (W_L cI cV cJ cD vf am a ad ao aod x) → va_S A s.heap H locs → lv_has ls 8 [(0, .ref (b)), (1, .ref (a 0)), (2, .ref (am 0)), (3, .ref (ao)), (4, .ref (aod)), (5, .int v5)] → W p l e room_1 s m #[Value.ref b] below meth c H locs (cb + 0) (sb + 0) (lw_Z below #[Value.ref b] s) (F0 m 431 ls []) := by
    intro rec cb sb hcb hsb hrec a x v5 H locs ls hf hP hD hS hl
    dsimp only [fL_law_431] at hf
    refine lv_aload_n hx hb dL_law_431 rfl (lv_at hl 1 rfl) ?_
    refine lv_aload_n hx hb dL_law_432 rfl (lv_at hl 0 rfl) ?_
    refine lv_iload hx hb dL_law_433 (lv_at hl 5 rfl) ?_
    refine lv_iconst (v := 1) hx hb dL_law_435 (by decide) ?_
    refine lv_iadd hx hb dL_law_436 ?_
    obtain ⟨hi528, hf⟩ := chk_t hf
    refine va_sld hx hb hX hbl hbA hS (inb_in hi528) dL_law_437 ?_
    refine lv_topi (fun y529 hy529 => ?_)
    replace hf := keep_e hf y529 hy529
    refine lv_aload_n hx hb dL_law_438 rfl (lv_at hl 0 rfl) ?_
    refine lv_iload hx hb dL_law_439 (lv_at hl 5 rfl) ?_
    refine lv_iconst (v := 2) hx hb dL_law_441 (by decide) ?_
    refine lv_iadd hx hb dL_law_442 ?_
    obtain ⟨hi530, hf⟩ := chk_t hf
    refine va_sld hx hb hX hbl hbA hS (inb_in hi530) dL_law_443 ?_
    refine lv_topi (fun y531 hy531 => ?_)
    replace hf := keep_e hf y531 hy531
    refine lv_aload_n hx hb dL_law_444 rfl (lv_at hl 3 rfl) ?_
    obtain ⟨hv534, hf⟩ := chk_t hf
    replace hv534 := of_decide_eq_true hv534
    obtain ⟨u532, hc533, hf⟩ := bind_t hf
    obtain ⟨hv535, hf⟩ := chk_t hf
    replace hv535 := of_decide_eq_true hv535
    refine k_SWP (ws' := W_L cI cV cJ cD vf am a ad ao aod (unf (fk y529) (wS x) (pF u532.1), wM x, pO u532.1, wD x)) (As := [.ref (a 0), .int y529, .int y531, .ref (ao)]) (rest := []) (n := 4) ⟨hx, hb, hml, hown, hts⟩ (met_L_take l hlt (fk y529) vf (foO a (ad (fk y529)) ao) (hvf _ fk_lt) (foc (fk y529) (wS x), wO x) y529 y531 u532 hc533) w606 w607 w0 w608 ⟨by decide +kernel, by decide +kernel, by decide +kernel⟩ ⟨Nat.le_of_ble_eq_true rfl, Nat.le_of_ble_eq_true rfl⟩ hK hE hP hD hS hA (cut_LO x fk_lt hv534 u532.1 hv535) rfl hl.1 rfl (Nat.le_of_ble_eq_true rfl) dL_law_445 ⟨show cb + 0 + 4 ≤ _ from Nat.le_trans (by omega) hcb, show sb + 0 + 24 ≤ _ from Nat.le_trans (by omega) hsb⟩ (fun H locs hP hD hS => ?_)
    try dsimp only at hf
    refine W.widen (k := cb + 6) (n := sb + 36) (show cb + 0 + 4 ≤ cb + 6 by omega) (show sb + 0 + 24 ≤ sb + 36 by omega) ?_
    refine W.eq (g2 := F0 m 448 ls [.int u532.2]) rfl ?_
    obtain ⟨x536, hx536⟩ : ∃ z, z = (unf (fk y529) (wS x) (pF u532.1), wM x, pO u532.1, wD x) := ⟨_, rfl⟩
    replace hf := keep_e hf x536 hx536
    have hP : va_P D vwCl (W_L cI cV cJ cD vf am a ad ao aod x536) H := by rw [hx536]; exact hP
    have hD : va_D A (W_L cI cV cJ cD vf am a ad ao aod x536) := by rw [hx536]; exact hD
    refine lv_topi (fun y537 hy537 => ?_)
    replace hf := keep_e hf y537 hy537
    refine lv_istore (lv' := [(6, .int y537), (0, .ref (b)), (1, .ref (a 0)), (2, .ref (am 0)), (3, .ref (ao)), (4, .ref (aod)), (5, .int v5)]) hx hb dL_law_448 hl (by decide) rfl (fun ls hl => ?_)
    refine lv_aload_n hx hb dL_law_450 rfl (lv_at hl 3 rfl) ?_
    refine lv_aload_n hx hb dL_law_451 rfl (lv_at hl 1 rfl) ?_
    refine lv_iload hx hb dL_law_452 (lv_at hl 6 rfl) ?_
    refine lv_iconst (v := 1) hx hb dL_law_454 (by decide) ?_
    refine lv_iadd hx hb dL_law_455 ?_
    obtain ⟨hi538, hf⟩ := chk_t hf
    refine va_sld hx hb hX hbl hbA hS (inb_in hi538) dL_law_456 ?_
    refine lv_topi (fun y539 hy539 => ?_)
    replace hf := keep_e hf y539 hy539
    refine lv_aload_n hx hb dL_law_457 rfl (lv_at hl 1 rfl) ?_
    refine lv_iload hx hb dL_law_458 (lv_at hl 6 rfl) ?_
    refine lv_iconst (v := 2) hx hb dL_law_460 (by decide) ?_
    refine lv_iadd hx hb dL_law_461 ?_
    obtain ⟨hi540, hf⟩ := chk_t hf
    refine va_sld hx hb hX hbl hbA hS (inb_in hi540) dL_law_462 ?_
    refine lv_topi (fun y541 hy541 => ?_)
    replace hf := keep_e hf y541 hy541
    obtain ⟨u542, hc543, hf⟩ := bind_t hf
    refine k_VP (ws' := W_L cI cV cJ cD vf am a ad ao aod (wM_s x536 u542.1)) (As := [.int y539, .int y541]) (rest := []) (n := 2) ⟨hx, hb, hml, hown, hts⟩ (met_X8_take l am (wM x536) y539 y541 u542 hc543) w983 w984 w985 w9 w986 ⟨rfl, by decide +kernel, by decide +kernel, by decide +kernel⟩ ⟨Nat.le_of_ble_eq_true rfl, Nat.le_of_ble_eq_true rfl⟩ hK hE hP hD hS hA (cut_LM x536 u542.1) 0 7 rfl rfl rfl rfl hl.1 rfl (Nat.le_of_ble_eq_true rfl) dL_law_463 ⟨show cb + 6 + 0 ≤ _ from Nat.le_trans (by omega) hcb, show sb + 36 + 0 ≤ _ from Nat.le_trans (by omega) hsb⟩ (fun H locs hP hD hS => ?_)
    try dsimp only at hf
    refine W.widen (k := cb + 6) (n := sb + 36) (show cb + 6 + 0 ≤ cb + 6 by omega) (show sb + 36 + 0 ≤ sb + 36 by omega) ?_
    refine W.eq (g2 := F0 m 466 ls [.int u542.2]) rfl ?_
    obtain ⟨x544, hx544⟩ : ∃ z, z = (wM_s x536 u542.1) := ⟨_, rfl⟩
    replace hf := keep_e hf x544 hx544
    have hP : va_P D vwCl (W_L cI cV cJ cD vf am a ad ao aod x544) H := by rw [hx544]; exact hP
    have hD : va_D A (W_L cI cV cJ cD vf am a ad ao aod x544) := by rw [hx544]; exact hD
    refine lv_topi (fun y545 hy545 => ?_)
    replace hf := keep_e hf y545 hy545
    refine lv_istore (lv' := [(7, .int y545), (6, .int y537), (0, .ref (b)), (1, .ref (a 0)), (2, .ref (am 0)), (3, .ref (ao)), (4, .ref (aod)), (5, .int v5)]) hx hb dL_law_466 hl (by decide) rfl (fun ls hl => ?_)
    refine lv_aload_n hx hb dL_law_468 rfl (lv_at hl 4 rfl) ?_
    obtain ⟨u546, hc547, hf⟩ := bind_t hf
    refine k_VP (ws' := W_L cI cV cJ cD vf am a ad ao aod x544) (As := []) (rest := []) (n := 0) ⟨hx, hb, hml, hown, hts⟩ (met_X8_thrown l am (wM x544)  u546 hc547) w898 w899 w900 w9 w901 ⟨rfl, by decide +kernel, by decide +kernel, by decide +kernel⟩ ⟨Nat.le_of_ble_eq_true rfl, Nat.le_of_ble_eq_true rfl⟩ hK hE hP hD hS hA (cut_LMi x544) 0 7 rfl rfl rfl rfl hl.1 rfl (Nat.le_of_ble_eq_true rfl) dL_law_469 ⟨show cb + 6 + 0 ≤ _ from Nat.le_trans (by omega) hcb, show sb + 36 + 0 ≤ _ from Nat.le_trans (by omega) hsb⟩ (fun H locs hP hD hS => ?_)
    try dsimp only at hf
    refine W.widen (k := cb + 6) (n := sb + 36) (show cb + 6 + 0 ≤ cb + 6 by omega) (show sb + 36 + 0 ≤ sb + 36 by omega) ?_
    refine W.eq (g2 := F0 m 472 ls [.int u546]) rfl ?_
    refine lv_iload hx hb dL_law_472 (lv_at hl 1 rfl) ?_
    refine lv_icmp_eq (tgt := 479) hx hb dL_law_474 (by decide) (fun c548 => ?_) (fun c548 => ?_)
    · replace hf := if_t c548 hf
      refine lv_iload hx hb dL_law_479 (lv_at hl 1 rfl) ?_
      refine lv_if_ne (tgt := 503) hx hb dL_law_481 (by decide) (fun c549 => ?_) (fun c549 => ?_)
      · replace hf := if_f c549 hf
        refine lv_goto (tgt := 2017) hx hb dL_law_503 (by decide) ?_
        exact L2017 rec cb sb hcb hsb hrec a x544 v5 H locs ls hf hP hD hS (lv_sub hl [2, 3, 4, 5, 6, 7] rfl)
      · replace hf := if_t c549 hf
        refine lv_aload_n hx hb dL_law_484 rfl (lv_at hl 5 rfl) ?_
        refine lv_iconst (v := 0) hx hb dL_law_485 (by decide) ?_
        refine va_lald hx hb hK hP 15 2 rfl rfl (inb_in (by decide : inb 0 1 = true)) dL_law_486 ?_
        refine lv_iload hx hb dL_law_487 (lv_at hl 0 rfl) ?_
        refine lv_if_eq (tgt := 496) hx hb dL_law_489 (by decide) (fun c550 => ?_) (fun c550 => ?_)
        · replace hf := if_t c550 hf
          refine lv_lconst (v := 0) hx hb dL_law_496 (by decide) ?_
          exact L497 rec cb sb hcb hsb hrec a x544 v5 0 (wO x544 (0 : Int32).toNatClampNeg) H locs ls hf hP hD hS (lv_sub hl [2, 3, 4, 5, 6, 7] rfl)
        · replace hf := if_f c550 hf
          refine lv_lconst (v := 1) hx hb dL_law_492 (by decide) ?_
          refine lv_goto (tgt := 497) hx hb dL_law_493 (by decide) ?_
          exact L497 rec cb sb hcb hsb hrec a x544 v5 1 (wO x544 (0 : Int32).toNatClampNeg) H locs ls hf hP hD hS (lv_sub hl [2, 3, 4, 5, 6, 7] rfl)
    · replace hf := if_f c548 hf
      refine lv_iconst (v := 0) hx hb dL_law_477 (by decide) ?_
      exact absurd (Option.some.inj hf) (by decide)
  have L422 : ∀ (rec : LwSt × Int32 → Option Int32) (cb sb : Nat), cb + 6 ≤ room_1.cells → sb + 36 ≤ room_1.slots → (∀ (x : LwSt) (v5 : Int32) (a : Nat → Nat) (H : Heap) (locs : List Loc) (ls : Array Slot), rec (x, v5) = some 1 → va_P D vwCl (W_L cI cV cJ cD vf am a ad ao aod x) H → va_D A (W_L cI cV cJ cD vf am a ad ao aod x) → va_S A s.heap H locs → lv_has ls 8 [(0, .ref (b)), (1, .ref (a 0)), (2, .ref (am 0)), (3, .ref (ao)), (4, .ref (aod)), (5, .int v5)] → W p l e room_1 s m #[Value.ref b] below meth c H locs (cb + 6) (sb + 36) (lw_Z below #[Value.ref b] s) (F0 m 28 ls [])) → ∀ (a : Nat → Nat) (x : LwSt) (v5 : Int32) (s0 : Int64) (s1 : Int64) (H : Heap) (locs : List Loc) (ls : Array Slot), fL_law_422 L xs rec x v5 s0 s1  = some 1 → va_P D vwCl (W_L cI cV cJ cD vf am a ad ao aod x) H → va_D A (W_L cI cV cJ cD vf am a ad ao aod x) → va_S A s.heap H locs → lv_has ls 8 [(0, .ref (b)), (1, .ref (a 0)), (2, .ref (am 0)), (3, .ref (ao)), (4, .ref (aod)), (5, .int v5)] → W p l e room_1 s m #[Value.ref b] below meth c H locs (cb + 6) (sb + 36) (lw_Z below #[Value.ref b] s) (F0 m 422 ls [.long s0, .long s1]) := by
    intro rec cb sb hcb hsb hrec a x v5 s0 s1 H locs ls hf hP hD hS hl
    dsimp only [fL_law_422] at hf
    refine k_lcmp hx hb dL_law_422 ?_
    refine lv_if_eq (tgt := 428) hx hb dL_law_423 (by decide) (fun c551 => ?_) (fun c551 => ?_)
    · replace hf := if_t c551 hf
      refine lv_goto (tgt := 2017) hx hb dL_law_428 (by decide) ?_
      exact L2017 rec cb sb hcb hsb hrec a x v5 H locs ls hf hP hD hS (lv_sub hl [0, 1, 2, 3, 4, 5] rfl)
    · replace hf := if_f c551 hf
      refine lv_iconst (v := 0) hx hb dL_law_426 (by decide) ?_
      exact absurd (Option.some.inj hf) (by decide)
  have L356 : ∀ (rec : LwSt × Int32 → Option Int32) (cb sb : Nat), cb + 6 ≤ room_1.cells → sb + 36 ≤ room_1.slots → (∀ (x : LwSt) (v5 : Int32) (a : Nat → Nat) (H : Heap) (locs : List Loc) (ls : Array Slot), rec (x, v5) = some 1 → va_P D vwCl (W_L cI cV cJ cD vf am a ad ao aod x) H → va_D A (W_L cI cV cJ cD vf am a ad ao aod x) → va_S A s.heap H locs → lv_has ls 8 [(0, .ref (b)), (1, .ref (a 0)), (2, .ref (am 0)), (3, .ref (ao)), (4, .ref (aod)), (5, .int v5)] → W p l e room_1 s m #[Value.ref b] below meth c H locs (cb + 6) (sb + 36) (lw_Z below #[Value.ref b] s) (F0 m 28 ls [])) → ∀ (a : Nat → Nat) (x : LwSt) (v5 : Int32) (H : Heap) (locs : List Loc) (ls : Array Slot), fL_law_356 L xs rec x v5  = some 1 → va_P D vwCl (W_L cI cV cJ cD vf am a ad ao aod x) H → va_D A (W_L cI cV cJ cD vf am a ad ao aod x) → va_S A s.heap H locs → lv_has ls 8 [(0, .ref (b)), (1, .ref (a 0)), (2, .ref (am 0)), (3, .ref (ao)), (4, .ref (aod)), (5, .int v5)] → W p l e room_1 s m #[Value.ref b] below meth c H locs (cb + 0) (sb + 0) (lw_Z below #[Value.ref b] s) (F0 m 356 ls []) := by
    intro rec cb sb hcb hsb hrec a x v5 H locs ls hf hP hD hS hl
    dsimp only [fL_law_356] at hf
    refine lv_aload_n hx hb dL_law_356 rfl (lv_at hl 1 rfl) ?_
    refine lv_aload_n hx hb dL_law_357 rfl (lv_at hl 0 rfl) ?_
    refine lv_iload hx hb dL_law_358 (lv_at hl 5 rfl) ?_
    refine lv_iconst (v := 1) hx hb dL_law_360 (by decide) ?_
    refine lv_iadd hx hb dL_law_361 ?_
    obtain ⟨hi552, hf⟩ := chk_t hf
    refine va_sld hx hb hX hbl hbA hS (inb_in hi552) dL_law_362 ?_
    refine lv_topi (fun y553 hy553 => ?_)
    replace hf := keep_e hf y553 hy553
    refine lv_aload_n hx hb dL_law_363 rfl (lv_at hl 0 rfl) ?_
    refine lv_iload hx hb dL_law_364 (lv_at hl 5 rfl) ?_
    refine lv_iconst (v := 2) hx hb dL_law_366 (by decide) ?_
    refine lv_iadd hx hb dL_law_367 ?_
    obtain ⟨hi554, hf⟩ := chk_t hf
    refine va_sld hx hb hX hbl hbA hS (inb_in hi554) dL_law_368 ?_
    refine lv_topi (fun y555 hy555 => ?_)
    replace hf := keep_e hf y555 hy555
    refine lv_aload_n hx hb dL_law_369 rfl (lv_at hl 3 rfl) ?_
    obtain ⟨hv558, hf⟩ := chk_t hf
    replace hv558 := of_decide_eq_true hv558
    obtain ⟨u556, hc557, hf⟩ := bind_t hf
    obtain ⟨hv559, hf⟩ := chk_t hf
    replace hv559 := of_decide_eq_true hv559
    refine k_SWP (ws' := W_L cI cV cJ cD vf am a ad ao aod (unf (fk y553) (wS x) (pF u556.1), wM x, pO u556.1, wD x)) (As := [.ref (a 0), .int y553, .int y555, .ref (ao)]) (rest := []) (n := 4) ⟨hx, hb, hml, hown, hts⟩ (met_L_add l hlt (fk y553) vf (foO a (ad (fk y553)) ao) (hvf _ fk_lt) (foc (fk y553) (wS x), wO x) y553 y555 u556 hc557) w595 w596 w0 w597 ⟨by decide +kernel, by decide +kernel, by decide +kernel⟩ ⟨Nat.le_of_ble_eq_true rfl, Nat.le_of_ble_eq_true rfl⟩ hK hE hP hD hS hA (cut_LO x fk_lt hv558 u556.1 hv559) rfl hl.1 rfl (Nat.le_of_ble_eq_true rfl) dL_law_370 ⟨show cb + 0 + 5 ≤ _ from Nat.le_trans (by omega) hcb, show sb + 0 + 30 ≤ _ from Nat.le_trans (by omega) hsb⟩ (fun H locs hP hD hS => ?_)
    try dsimp only at hf
    refine W.widen (k := cb + 6) (n := sb + 36) (show cb + 0 + 5 ≤ cb + 6 by omega) (show sb + 0 + 30 ≤ sb + 36 by omega) ?_
    refine W.eq (g2 := F0 m 373 ls [.int u556.2]) rfl ?_
    obtain ⟨x560, hx560⟩ : ∃ z, z = (unf (fk y553) (wS x) (pF u556.1), wM x, pO u556.1, wD x) := ⟨_, rfl⟩
    replace hf := keep_e hf x560 hx560
    have hP : va_P D vwCl (W_L cI cV cJ cD vf am a ad ao aod x560) H := by rw [hx560]; exact hP
    have hD : va_D A (W_L cI cV cJ cD vf am a ad ao aod x560) := by rw [hx560]; exact hD
    refine lv_topi (fun y561 hy561 => ?_)
    replace hf := keep_e hf y561 hy561
    refine lv_istore (lv' := [(6, .int y561), (0, .ref (b)), (1, .ref (a 0)), (2, .ref (am 0)), (3, .ref (ao)), (4, .ref (aod)), (5, .int v5)]) hx hb dL_law_373 hl (by decide) rfl (fun ls hl => ?_)
    refine lv_aload_n hx hb dL_law_375 rfl (lv_at hl 3 rfl) ?_
    refine lv_aload_n hx hb dL_law_376 rfl (lv_at hl 1 rfl) ?_
    refine lv_iload hx hb dL_law_377 (lv_at hl 6 rfl) ?_
    refine lv_iconst (v := 1) hx hb dL_law_379 (by decide) ?_
    refine lv_iadd hx hb dL_law_380 ?_
    obtain ⟨hi562, hf⟩ := chk_t hf
    refine va_sld hx hb hX hbl hbA hS (inb_in hi562) dL_law_381 ?_
    refine lv_topi (fun y563 hy563 => ?_)
    replace hf := keep_e hf y563 hy563
    refine lv_aload_n hx hb dL_law_382 rfl (lv_at hl 1 rfl) ?_
    refine lv_iload hx hb dL_law_383 (lv_at hl 6 rfl) ?_
    refine lv_iconst (v := 2) hx hb dL_law_385 (by decide) ?_
    refine lv_iadd hx hb dL_law_386 ?_
    obtain ⟨hi564, hf⟩ := chk_t hf
    refine va_sld hx hb hX hbl hbA hS (inb_in hi564) dL_law_387 ?_
    refine lv_topi (fun y565 hy565 => ?_)
    replace hf := keep_e hf y565 hy565
    obtain ⟨u566, hc567, hf⟩ := bind_t hf
    refine k_VP (ws' := W_L cI cV cJ cD vf am a ad ao aod (wM_s x560 u566.1)) (As := [.int y563, .int y565]) (rest := []) (n := 2) ⟨hx, hb, hml, hown, hts⟩ (met_X8_add l am (wM x560) y563 y565 u566 hc567) w967 w968 w969 w9 w970 ⟨rfl, by decide +kernel, by decide +kernel, by decide +kernel⟩ ⟨Nat.le_of_ble_eq_true rfl, Nat.le_of_ble_eq_true rfl⟩ hK hE hP hD hS hA (cut_LM x560 u566.1) 0 7 rfl rfl rfl rfl hl.1 rfl (Nat.le_of_ble_eq_true rfl) dL_law_388 ⟨show cb + 6 + 0 ≤ _ from Nat.le_trans (by omega) hcb, show sb + 36 + 0 ≤ _ from Nat.le_trans (by omega) hsb⟩ (fun H locs hP hD hS => ?_)
    try dsimp only at hf
    refine W.widen (k := cb + 6) (n := sb + 36) (show cb + 6 + 0 ≤ cb + 6 by omega) (show sb + 36 + 0 ≤ sb + 36 by omega) ?_
    refine W.eq (g2 := F0 m 391 ls [.int u566.2]) rfl ?_
    obtain ⟨x568, hx568⟩ : ∃ z, z = (wM_s x560 u566.1) := ⟨_, rfl⟩
    replace hf := keep_e hf x568 hx568
    have hP : va_P D vwCl (W_L cI cV cJ cD vf am a ad ao aod x568) H := by rw [hx568]; exact hP
    have hD : va_D A (W_L cI cV cJ cD vf am a ad ao aod x568) := by rw [hx568]; exact hD
    refine lv_topi (fun y569 hy569 => ?_)
    replace hf := keep_e hf y569 hy569
    refine lv_istore (lv' := [(7, .int y569), (6, .int y561), (0, .ref (b)), (1, .ref (a 0)), (2, .ref (am 0)), (3, .ref (ao)), (4, .ref (aod)), (5, .int v5)]) hx hb dL_law_391 hl (by decide) rfl (fun ls hl => ?_)
    refine lv_aload_n hx hb dL_law_393 rfl (lv_at hl 4 rfl) ?_
    obtain ⟨u570, hc571, hf⟩ := bind_t hf
    refine k_VP (ws' := W_L cI cV cJ cD vf am a ad ao aod x568) (As := []) (rest := []) (n := 0) ⟨hx, hb, hml, hown, hts⟩ (met_X8_thrown l am (wM x568)  u570 hc571) w898 w899 w900 w9 w901 ⟨rfl, by decide +kernel, by decide +kernel, by decide +kernel⟩ ⟨Nat.le_of_ble_eq_true rfl, Nat.le_of_ble_eq_true rfl⟩ hK hE hP hD hS hA (cut_LMi x568) 0 7 rfl rfl rfl rfl hl.1 rfl (Nat.le_of_ble_eq_true rfl) dL_law_394 ⟨show cb + 6 + 0 ≤ _ from Nat.le_trans (by omega) hcb, show sb + 36 + 0 ≤ _ from Nat.le_trans (by omega) hsb⟩ (fun H locs hP hD hS => ?_)
    try dsimp only at hf
    refine W.widen (k := cb + 6) (n := sb + 36) (show cb + 6 + 0 ≤ cb + 6 by omega) (show sb + 36 + 0 ≤ sb + 36 by omega) ?_
    refine W.eq (g2 := F0 m 397 ls [.int u570]) rfl ?_
    refine lv_iload hx hb dL_law_397 (lv_at hl 1 rfl) ?_
    refine lv_icmp_eq (tgt := 404) hx hb dL_law_399 (by decide) (fun c572 => ?_) (fun c572 => ?_)
    · replace hf := if_t c572 hf
      refine lv_iload hx hb dL_law_404 (lv_at hl 1 rfl) ?_
      refine lv_if_ne (tgt := 428) hx hb dL_law_406 (by decide) (fun c573 => ?_) (fun c573 => ?_)
      · replace hf := if_f c573 hf
        refine lv_goto (tgt := 2017) hx hb dL_law_428 (by decide) ?_
        exact L2017 rec cb sb hcb hsb hrec a x568 v5 H locs ls hf hP hD hS (lv_sub hl [2, 3, 4, 5, 6, 7] rfl)
      · replace hf := if_t c573 hf
        refine lv_aload_n hx hb dL_law_409 rfl (lv_at hl 5 rfl) ?_
        refine lv_iconst (v := 0) hx hb dL_law_410 (by decide) ?_
        refine va_lald hx hb hK hP 15 2 rfl rfl (inb_in (by decide : inb 0 1 = true)) dL_law_411 ?_
        refine lv_iload hx hb dL_law_412 (lv_at hl 0 rfl) ?_
        refine lv_if_eq (tgt := 421) hx hb dL_law_414 (by decide) (fun c574 => ?_) (fun c574 => ?_)
        · replace hf := if_t c574 hf
          refine lv_lconst (v := 0) hx hb dL_law_421 (by decide) ?_
          exact L422 rec cb sb hcb hsb hrec a x568 v5 0 (wO x568 (0 : Int32).toNatClampNeg) H locs ls hf hP hD hS (lv_sub hl [2, 3, 4, 5, 6, 7] rfl)
        · replace hf := if_f c574 hf
          refine lv_lconst (v := 1) hx hb dL_law_417 (by decide) ?_
          refine lv_goto (tgt := 422) hx hb dL_law_418 (by decide) ?_
          exact L422 rec cb sb hcb hsb hrec a x568 v5 1 (wO x568 (0 : Int32).toNatClampNeg) H locs ls hf hP hD hS (lv_sub hl [2, 3, 4, 5, 6, 7] rfl)
    · replace hf := if_f c572 hf
      refine lv_iconst (v := 0) hx hb dL_law_402 (by decide) ?_
      exact absurd (Option.some.inj hf) (by decide)
  have L320 : ∀ (rec : LwSt × Int32 → Option Int32) (cb sb : Nat), cb + 6 ≤ room_1.cells → sb + 36 ≤ room_1.slots → (∀ (x : LwSt) (v5 : Int32) (a : Nat → Nat) (H : Heap) (locs : List Loc) (ls : Array Slot), rec (x, v5) = some 1 → va_P D vwCl (W_L cI cV cJ cD vf am a ad ao aod x) H → va_D A (W_L cI cV cJ cD vf am a ad ao aod x) → va_S A s.heap H locs → lv_has ls 8 [(0, .ref (b)), (1, .ref (a 0)), (2, .ref (am 0)), (3, .ref (ao)), (4, .ref (aod)), (5, .int v5)] → W p l e room_1 s m #[Value.ref b] below meth c H locs (cb + 6) (sb + 36) (lw_Z below #[Value.ref b] s) (F0 m 28 ls [])) → ∀ (a : Nat → Nat) (x : LwSt) (v5 : Int32) (v6 : Int32) (s0 : Int32) (s1 : Int32) (H : Heap) (locs : List Loc) (ls : Array Slot), fL_law_320 L xs rec x v5 v6 s0 s1  = some 1 → va_P D vwCl (W_L cI cV cJ cD vf am a ad ao aod x) H → va_D A (W_L cI cV cJ cD vf am a ad ao aod x) → va_S A s.heap H locs → lv_has ls 8 [(0, .ref (b)), (1, .ref (a 0)), (2, .ref (am 0)), (3, .ref (ao)), (4, .ref (aod)), (5, .int v5), (6, .int v6)] → W p l e room_1 s m #[Value.ref b] below meth c H locs (cb + 6) (sb + 36) (lw_Z below #[Value.ref b] s) (F0 m 320 ls [.int s0, .int s1, .ref (am 0)]) := by
    intro rec cb sb hcb hsb hrec a x v5 v6 s0 s1 H locs ls hf hP hD hS hl
    dsimp only [fL_law_320] at hf
    obtain ⟨u575, hc576, hf⟩ := bind_t hf
    refine k_VP (ws' := W_L cI cV cJ cD vf am a ad ao aod (wM_s x u575.1)) (As := [.int s1, .int s0]) (rest := []) (n := 2) ⟨hx, hb, hml, hown, hts⟩ (met_X8_pop l am (wM x) s1 s0 u575 hc576) w951 w952 w953 w9 w954 ⟨rfl, by decide +kernel, by decide +kernel, by decide +kernel⟩ ⟨Nat.le_of_ble_eq_true rfl, Nat.le_of_ble_eq_true rfl⟩ hK hE hP hD hS hA (cut_LM x u575.1) 0 7 rfl rfl rfl rfl hl.1 rfl (Nat.le_of_ble_eq_true rfl) dL_law_320 ⟨show cb + 6 + 0 ≤ _ from Nat.le_trans (by omega) hcb, show sb + 36 + 0 ≤ _ from Nat.le_trans (by omega) hsb⟩ (fun H locs hP hD hS => ?_)
    try dsimp only at hf
    refine W.widen (k := cb + 6) (n := sb + 36) (show cb + 6 + 0 ≤ cb + 6 by omega) (show sb + 36 + 0 ≤ sb + 36 by omega) ?_
    refine W.eq (g2 := F0 m 323 ls [.int u575.2]) rfl ?_
    obtain ⟨x577, hx577⟩ : ∃ z, z = (wM_s x u575.1) := ⟨_, rfl⟩
    replace hf := keep_e hf x577 hx577
    have hP : va_P D vwCl (W_L cI cV cJ cD vf am a ad ao aod x577) H := by rw [hx577]; exact hP
    have hD : va_D A (W_L cI cV cJ cD vf am a ad ao aod x577) := by rw [hx577]; exact hD
    refine lv_topi (fun y578 hy578 => ?_)
    replace hf := keep_e hf y578 hy578
    refine lv_istore (lv' := [(7, .int y578), (0, .ref (b)), (1, .ref (a 0)), (2, .ref (am 0)), (3, .ref (ao)), (4, .ref (aod)), (5, .int v5), (6, .int v6)]) hx hb dL_law_323 hl (by decide) rfl (fun ls hl => ?_)
    refine lv_aload_n hx hb dL_law_325 rfl (lv_at hl 3 rfl) ?_
    obtain ⟨u579, hc580, hf⟩ := bind_t hf
    refine k_VP (ws' := W_L cI cV cJ cD vf am a ad ao aod x577) (As := []) (rest := []) (n := 0) ⟨hx, hb, hml, hown, hts⟩ (met_X8_thrown l am (wM x577)  u579 hc580) w898 w899 w900 w9 w901 ⟨rfl, by decide +kernel, by decide +kernel, by decide +kernel⟩ ⟨Nat.le_of_ble_eq_true rfl, Nat.le_of_ble_eq_true rfl⟩ hK hE hP hD hS hA (cut_LMi x577) 0 7 rfl rfl rfl rfl hl.1 rfl (Nat.le_of_ble_eq_true rfl) dL_law_326 ⟨show cb + 6 + 0 ≤ _ from Nat.le_trans (by omega) hcb, show sb + 36 + 0 ≤ _ from Nat.le_trans (by omega) hsb⟩ (fun H locs hP hD hS => ?_)
    try dsimp only at hf
    refine W.widen (k := cb + 6) (n := sb + 36) (show cb + 6 + 0 ≤ cb + 6 by omega) (show sb + 36 + 0 ≤ sb + 36 by omega) ?_
    refine W.eq (g2 := F0 m 329 ls [.int u579]) rfl ?_
    refine lv_iload hx hb dL_law_329 (lv_at hl 7 rfl) ?_
    refine lv_icmp_eq (tgt := 336) hx hb dL_law_331 (by decide) (fun c581 => ?_) (fun c581 => ?_)
    · replace hf := if_t c581 hf
      refine lv_iload hx hb dL_law_336 (lv_at hl 7 rfl) ?_
      refine lv_if_ne (tgt := 353) hx hb dL_law_338 (by decide) (fun c582 => ?_) (fun c582 => ?_)
      · replace hf := if_f c582 hf
        refine lv_goto (tgt := 2017) hx hb dL_law_353 (by decide) ?_
        exact L2017 rec cb sb hcb hsb hrec a x577 v5 H locs ls hf hP hD hS (lv_sub hl [1, 2, 3, 4, 5, 6] rfl)
      · replace hf := if_t c582 hf
        refine lv_aload_n hx hb dL_law_341 rfl (lv_at hl 4 rfl) ?_
        refine lv_iconst (v := 0) hx hb dL_law_342 (by decide) ?_
        refine va_lald hx hb hK hP 15 2 rfl rfl (inb_in (by decide : inb 0 1 = true)) dL_law_343 ?_
        refine lv_iload hx hb dL_law_344 (lv_at hl 0 rfl) ?_
        refine lv_i2l (v := (y578).toInt64) hx hb dL_law_346 rfl ?_
        refine k_lcmp hx hb dL_law_347 ?_
        refine lv_if_eq (tgt := 353) hx hb dL_law_348 (by decide) (fun c583 => ?_) (fun c583 => ?_)
        · replace hf := if_t c583 hf
          refine lv_goto (tgt := 2017) hx hb dL_law_353 (by decide) ?_
          exact L2017 rec cb sb hcb hsb hrec a x577 v5 H locs ls hf hP hD hS (lv_sub hl [1, 2, 3, 4, 5, 6] rfl)
        · replace hf := if_f c583 hf
          refine lv_iconst (v := 0) hx hb dL_law_351 (by decide) ?_
          exact absurd (Option.some.inj hf) (by decide)
    · replace hf := if_f c581 hf
      refine lv_iconst (v := 0) hx hb dL_law_334 (by decide) ?_
      exact absurd (Option.some.inj hf) (by decide)
  have L293 : ∀ (rec : LwSt × Int32 → Option Int32) (cb sb : Nat), cb + 6 ≤ room_1.cells → sb + 36 ≤ room_1.slots → (∀ (x : LwSt) (v5 : Int32) (a : Nat → Nat) (H : Heap) (locs : List Loc) (ls : Array Slot), rec (x, v5) = some 1 → va_P D vwCl (W_L cI cV cJ cD vf am a ad ao aod x) H → va_D A (W_L cI cV cJ cD vf am a ad ao aod x) → va_S A s.heap H locs → lv_has ls 8 [(0, .ref (b)), (1, .ref (a 0)), (2, .ref (am 0)), (3, .ref (ao)), (4, .ref (aod)), (5, .int v5)] → W p l e room_1 s m #[Value.ref b] below meth c H locs (cb + 6) (sb + 36) (lw_Z below #[Value.ref b] s) (F0 m 28 ls [])) → ∀ (a : Nat → Nat) (x : LwSt) (v5 : Int32) (s0 : Int32) (s1 : Int32) (H : Heap) (locs : List Loc) (ls : Array Slot), fL_law_293 L xs rec x v5 s0 s1  = some 1 → va_P D vwCl (W_L cI cV cJ cD vf am a ad ao aod x) H → va_D A (W_L cI cV cJ cD vf am a ad ao aod x) → va_S A s.heap H locs → lv_has ls 8 [(0, .ref (b)), (1, .ref (a 0)), (2, .ref (am 0)), (3, .ref (ao)), (4, .ref (aod)), (5, .int v5)] → W p l e room_1 s m #[Value.ref b] below meth c H locs (cb + 0) (sb + 0) (lw_Z below #[Value.ref b] s) (F0 m 293 ls [.int s0, .int s1, .ref (a 0)]) := by
    intro rec cb sb hcb hsb hrec a x v5 s0 s1 H locs ls hf hP hD hS hl
    dsimp only [fL_law_293] at hf
    refine lv_aload_n hx hb dL_law_293 rfl (lv_at hl 3 rfl) ?_
    obtain ⟨hv586, hf⟩ := chk_t hf
    replace hv586 := of_decide_eq_true hv586
    obtain ⟨u584, hc585, hf⟩ := bind_t hf
    obtain ⟨hv587, hf⟩ := chk_t hf
    replace hv587 := of_decide_eq_true hv587
    refine k_SWP (ws' := W_L cI cV cJ cD vf am a ad ao aod (unf (fk s1) (wS x) (pF u584.1), wM x, pO u584.1, wD x)) (As := [.ref (a 0), .int s1, .int s0, .ref (ao)]) (rest := []) (n := 4) ⟨hx, hb, hml, hown, hts⟩ (met_L_pop l hlt (fk s1) vf (foO a (ad (fk s1)) ao) (hvf _ fk_lt) (foc (fk s1) (wS x), wO x) s1 s0 u584 hc585) w588 w589 w0 w590 ⟨by decide +kernel, by decide +kernel, by decide +kernel⟩ ⟨Nat.le_of_ble_eq_true rfl, Nat.le_of_ble_eq_true rfl⟩ hK hE hP hD hS hA (cut_LO x fk_lt hv586 u584.1 hv587) rfl hl.1 rfl (Nat.le_of_ble_eq_true rfl) dL_law_294 ⟨show cb + 0 + 3 ≤ _ from Nat.le_trans (by omega) hcb, show sb + 0 + 18 ≤ _ from Nat.le_trans (by omega) hsb⟩ (fun H locs hP hD hS => ?_)
    try dsimp only at hf
    refine W.widen (k := cb + 6) (n := sb + 36) (show cb + 0 + 3 ≤ cb + 6 by omega) (show sb + 0 + 18 ≤ sb + 36 by omega) ?_
    refine W.eq (g2 := F0 m 297 ls [.int u584.2]) rfl ?_
    obtain ⟨x588, hx588⟩ : ∃ z, z = (unf (fk s1) (wS x) (pF u584.1), wM x, pO u584.1, wD x) := ⟨_, rfl⟩
    replace hf := keep_e hf x588 hx588
    have hP : va_P D vwCl (W_L cI cV cJ cD vf am a ad ao aod x588) H := by rw [hx588]; exact hP
    have hD : va_D A (W_L cI cV cJ cD vf am a ad ao aod x588) := by rw [hx588]; exact hD
    refine lv_topi (fun y589 hy589 => ?_)
    replace hf := keep_e hf y589 hy589
    refine lv_istore (lv' := [(6, .int y589), (0, .ref (b)), (1, .ref (a 0)), (2, .ref (am 0)), (3, .ref (ao)), (4, .ref (aod)), (5, .int v5)]) hx hb dL_law_297 hl (by decide) rfl (fun ls hl => ?_)
    refine lv_aload_n hx hb dL_law_299 rfl (lv_at hl 3 rfl) ?_
    refine lv_aload_n hx hb dL_law_300 rfl (lv_at hl 1 rfl) ?_
    refine lv_iload hx hb dL_law_301 (lv_at hl 6 rfl) ?_
    refine lv_iconst (v := 1) hx hb dL_law_303 (by decide) ?_
    refine lv_iadd hx hb dL_law_304 ?_
    obtain ⟨hi590, hf⟩ := chk_t hf
    refine va_sld hx hb hX hbl hbA hS (inb_in hi590) dL_law_305 ?_
    refine lv_topi (fun y591 hy591 => ?_)
    replace hf := keep_e hf y591 hy591
    refine lv_aload_n hx hb dL_law_306 rfl (lv_at hl 1 rfl) ?_
    refine lv_iload hx hb dL_law_307 (lv_at hl 6 rfl) ?_
    refine lv_iconst (v := 2) hx hb dL_law_309 (by decide) ?_
    refine lv_iadd hx hb dL_law_310 ?_
    obtain ⟨hi592, hf⟩ := chk_t hf
    refine va_sld hx hb hX hbl hbA hS (inb_in hi592) dL_law_311 ?_
    refine lv_topi (fun y593 hy593 => ?_)
    replace hf := keep_e hf y593 hy593
    refine lv_if_eq (tgt := 319) hx hb dL_law_312 (by decide) (fun c594 => ?_) (fun c594 => ?_)
    · replace hf := if_t c594 hf
      refine lv_iconst (v := 0) hx hb dL_law_319 (by decide) ?_
      exact L320 rec cb sb hcb hsb hrec a x588 v5 y589 0 y591 H locs ls hf hP hD hS (lv_sub hl [1, 2, 3, 4, 5, 6, 0] rfl)
    · replace hf := if_f c594 hf
      refine lv_iconst (v := 1) hx hb dL_law_315 (by decide) ?_
      refine lv_goto (tgt := 320) hx hb dL_law_316 (by decide) ?_
      exact L320 rec cb sb hcb hsb hrec a x588 v5 y589 1 y591 H locs ls hf hP hD hS (lv_sub hl [1, 2, 3, 4, 5, 6, 0] rfl)
  have L272 : ∀ (rec : LwSt × Int32 → Option Int32) (cb sb : Nat), cb + 6 ≤ room_1.cells → sb + 36 ≤ room_1.slots → (∀ (x : LwSt) (v5 : Int32) (a : Nat → Nat) (H : Heap) (locs : List Loc) (ls : Array Slot), rec (x, v5) = some 1 → va_P D vwCl (W_L cI cV cJ cD vf am a ad ao aod x) H → va_D A (W_L cI cV cJ cD vf am a ad ao aod x) → va_S A s.heap H locs → lv_has ls 8 [(0, .ref (b)), (1, .ref (a 0)), (2, .ref (am 0)), (3, .ref (ao)), (4, .ref (aod)), (5, .int v5)] → W p l e room_1 s m #[Value.ref b] below meth c H locs (cb + 6) (sb + 36) (lw_Z below #[Value.ref b] s) (F0 m 28 ls [])) → ∀ (a : Nat → Nat) (x : LwSt) (v5 : Int32) (H : Heap) (locs : List Loc) (ls : Array Slot), fL_law_272 L xs rec x v5  = some 1 → va_P D vwCl (W_L cI cV cJ cD vf am a ad ao aod x) H → va_D A (W_L cI cV cJ cD vf am a ad ao aod x) → va_S A s.heap H locs → lv_has ls 8 [(0, .ref (b)), (1, .ref (a 0)), (2, .ref (am 0)), (3, .ref (ao)), (4, .ref (aod)), (5, .int v5)] → W p l e room_1 s m #[Value.ref b] below meth c H locs (cb + 0) (sb + 0) (lw_Z below #[Value.ref b] s) (F0 m 272 ls []) := by
    intro rec cb sb hcb hsb hrec a x v5 H locs ls hf hP hD hS hl
    dsimp only [fL_law_272] at hf
    refine lv_aload_n hx hb dL_law_272 rfl (lv_at hl 1 rfl) ?_
    refine lv_aload_n hx hb dL_law_273 rfl (lv_at hl 0 rfl) ?_
    refine lv_iload hx hb dL_law_274 (lv_at hl 5 rfl) ?_
    refine lv_iconst (v := 1) hx hb dL_law_276 (by decide) ?_
    refine lv_iadd hx hb dL_law_277 ?_
    obtain ⟨hi595, hf⟩ := chk_t hf
    refine va_sld hx hb hX hbl hbA hS (inb_in hi595) dL_law_278 ?_
    refine lv_topi (fun y596 hy596 => ?_)
    replace hf := keep_e hf y596 hy596
    refine lv_aload_n hx hb dL_law_279 rfl (lv_at hl 0 rfl) ?_
    refine lv_iload hx hb dL_law_280 (lv_at hl 5 rfl) ?_
    refine lv_iconst (v := 2) hx hb dL_law_282 (by decide) ?_
    refine lv_iadd hx hb dL_law_283 ?_
    obtain ⟨hi597, hf⟩ := chk_t hf
    refine va_sld hx hb hX hbl hbA hS (inb_in hi597) dL_law_284 ?_
    refine lv_topi (fun y598 hy598 => ?_)
    replace hf := keep_e hf y598 hy598
    refine lv_if_eq (tgt := 292) hx hb dL_law_285 (by decide) (fun c599 => ?_) (fun c599 => ?_)
    · replace hf := if_t c599 hf
      refine lv_iconst (v := 0) hx hb dL_law_292 (by decide) ?_
      exact L293 rec cb sb hcb hsb hrec a x v5 0 y596 H locs ls hf hP hD hS (lv_sub hl [0, 1, 2, 3, 4, 5] rfl)
    · replace hf := if_f c599 hf
      refine lv_iconst (v := 1) hx hb dL_law_288 (by decide) ?_
      refine lv_goto (tgt := 293) hx hb dL_law_289 (by decide) ?_
      exact L293 rec cb sb hcb hsb hrec a x v5 1 y596 H locs ls hf hP hD hS (lv_sub hl [0, 1, 2, 3, 4, 5] rfl)
  have L236 : ∀ (rec : LwSt × Int32 → Option Int32) (cb sb : Nat), cb + 6 ≤ room_1.cells → sb + 36 ≤ room_1.slots → (∀ (x : LwSt) (v5 : Int32) (a : Nat → Nat) (H : Heap) (locs : List Loc) (ls : Array Slot), rec (x, v5) = some 1 → va_P D vwCl (W_L cI cV cJ cD vf am a ad ao aod x) H → va_D A (W_L cI cV cJ cD vf am a ad ao aod x) → va_S A s.heap H locs → lv_has ls 8 [(0, .ref (b)), (1, .ref (a 0)), (2, .ref (am 0)), (3, .ref (ao)), (4, .ref (aod)), (5, .int v5)] → W p l e room_1 s m #[Value.ref b] below meth c H locs (cb + 6) (sb + 36) (lw_Z below #[Value.ref b] s) (F0 m 28 ls [])) → ∀ (a : Nat → Nat) (x : LwSt) (v5 : Int32) (v6 : Int32) (s0 : Int32) (s1 : Int32) (s2 : Int32) (H : Heap) (locs : List Loc) (ls : Array Slot), fL_law_236 L xs rec x v5 v6 s0 s1 s2  = some 1 → va_P D vwCl (W_L cI cV cJ cD vf am a ad ao aod x) H → va_D A (W_L cI cV cJ cD vf am a ad ao aod x) → va_S A s.heap H locs → lv_has ls 8 [(0, .ref (b)), (1, .ref (a 0)), (2, .ref (am 0)), (3, .ref (ao)), (4, .ref (aod)), (5, .int v5), (6, .int v6)] → W p l e room_1 s m #[Value.ref b] below meth c H locs (cb + 6) (sb + 36) (lw_Z below #[Value.ref b] s) (F0 m 236 ls [.int s0, .int s1, .int s2, .ref (am 0)]) := by
    intro rec cb sb hcb hsb hrec a x v5 v6 s0 s1 s2 H locs ls hf hP hD hS hl
    dsimp only [fL_law_236] at hf
    obtain ⟨u600, hc601, hf⟩ := bind_t hf
    refine k_VP (ws' := W_L cI cV cJ cD vf am a ad ao aod (wM_s x u600.1)) (As := [.int s2, .int s1, .int s0]) (rest := []) (n := 3) ⟨hx, hb, hml, hown, hts⟩ (met_X8_push l am (wM x) s2 s1 s0 u600 hc601) w902 w903 w904 w9 w905 ⟨rfl, by decide +kernel, by decide +kernel, by decide +kernel⟩ ⟨Nat.le_of_ble_eq_true rfl, Nat.le_of_ble_eq_true rfl⟩ hK hE hP hD hS hA (cut_LM x u600.1) 0 7 rfl rfl rfl rfl hl.1 rfl (Nat.le_of_ble_eq_true rfl) dL_law_236 ⟨show cb + 6 + 0 ≤ _ from Nat.le_trans (by omega) hcb, show sb + 36 + 0 ≤ _ from Nat.le_trans (by omega) hsb⟩ (fun H locs hP hD hS => ?_)
    try dsimp only at hf
    refine W.widen (k := cb + 6) (n := sb + 36) (show cb + 6 + 0 ≤ cb + 6 by omega) (show sb + 36 + 0 ≤ sb + 36 by omega) ?_
    refine W.eq (g2 := F0 m 239 ls [.int u600.2]) rfl ?_
    obtain ⟨x602, hx602⟩ : ∃ z, z = (wM_s x u600.1) := ⟨_, rfl⟩
    replace hf := keep_e hf x602 hx602
    have hP : va_P D vwCl (W_L cI cV cJ cD vf am a ad ao aod x602) H := by rw [hx602]; exact hP
    have hD : va_D A (W_L cI cV cJ cD vf am a ad ao aod x602) := by rw [hx602]; exact hD
    refine lv_topi (fun y603 hy603 => ?_)
    replace hf := keep_e hf y603 hy603
    refine lv_istore (lv' := [(7, .int y603), (0, .ref (b)), (1, .ref (a 0)), (2, .ref (am 0)), (3, .ref (ao)), (4, .ref (aod)), (5, .int v5), (6, .int v6)]) hx hb dL_law_239 hl (by decide) rfl (fun ls hl => ?_)
    refine lv_aload_n hx hb dL_law_241 rfl (lv_at hl 3 rfl) ?_
    obtain ⟨u604, hc605, hf⟩ := bind_t hf
    refine k_VP (ws' := W_L cI cV cJ cD vf am a ad ao aod x602) (As := []) (rest := []) (n := 0) ⟨hx, hb, hml, hown, hts⟩ (met_X8_thrown l am (wM x602)  u604 hc605) w898 w899 w900 w9 w901 ⟨rfl, by decide +kernel, by decide +kernel, by decide +kernel⟩ ⟨Nat.le_of_ble_eq_true rfl, Nat.le_of_ble_eq_true rfl⟩ hK hE hP hD hS hA (cut_LMi x602) 0 7 rfl rfl rfl rfl hl.1 rfl (Nat.le_of_ble_eq_true rfl) dL_law_242 ⟨show cb + 6 + 0 ≤ _ from Nat.le_trans (by omega) hcb, show sb + 36 + 0 ≤ _ from Nat.le_trans (by omega) hsb⟩ (fun H locs hP hD hS => ?_)
    try dsimp only at hf
    refine W.widen (k := cb + 6) (n := sb + 36) (show cb + 6 + 0 ≤ cb + 6 by omega) (show sb + 36 + 0 ≤ sb + 36 by omega) ?_
    refine W.eq (g2 := F0 m 245 ls [.int u604]) rfl ?_
    refine lv_iload hx hb dL_law_245 (lv_at hl 7 rfl) ?_
    refine lv_icmp_eq (tgt := 252) hx hb dL_law_247 (by decide) (fun c606 => ?_) (fun c606 => ?_)
    · replace hf := if_t c606 hf
      refine lv_iload hx hb dL_law_252 (lv_at hl 7 rfl) ?_
      refine lv_if_ne (tgt := 269) hx hb dL_law_254 (by decide) (fun c607 => ?_) (fun c607 => ?_)
      · replace hf := if_f c607 hf
        refine lv_goto (tgt := 2017) hx hb dL_law_269 (by decide) ?_
        exact L2017 rec cb sb hcb hsb hrec a x602 v5 H locs ls hf hP hD hS (lv_sub hl [1, 2, 3, 4, 5, 6] rfl)
      · replace hf := if_t c607 hf
        refine lv_aload_n hx hb dL_law_257 rfl (lv_at hl 4 rfl) ?_
        refine lv_iconst (v := 0) hx hb dL_law_258 (by decide) ?_
        refine va_lald hx hb hK hP 15 2 rfl rfl (inb_in (by decide : inb 0 1 = true)) dL_law_259 ?_
        refine lv_iload hx hb dL_law_260 (lv_at hl 0 rfl) ?_
        refine lv_i2l (v := (y603).toInt64) hx hb dL_law_262 rfl ?_
        refine k_lcmp hx hb dL_law_263 ?_
        refine lv_if_eq (tgt := 269) hx hb dL_law_264 (by decide) (fun c608 => ?_) (fun c608 => ?_)
        · replace hf := if_t c608 hf
          refine lv_goto (tgt := 2017) hx hb dL_law_269 (by decide) ?_
          exact L2017 rec cb sb hcb hsb hrec a x602 v5 H locs ls hf hP hD hS (lv_sub hl [1, 2, 3, 4, 5, 6] rfl)
        · replace hf := if_f c608 hf
          refine lv_iconst (v := 0) hx hb dL_law_267 (by decide) ?_
          exact absurd (Option.some.inj hf) (by decide)
    · replace hf := if_f c606 hf
      refine lv_iconst (v := 0) hx hb dL_law_250 (by decide) ?_
      exact absurd (Option.some.inj hf) (by decide)
  have L203 : ∀ (rec : LwSt × Int32 → Option Int32) (cb sb : Nat), cb + 6 ≤ room_1.cells → sb + 36 ≤ room_1.slots → (∀ (x : LwSt) (v5 : Int32) (a : Nat → Nat) (H : Heap) (locs : List Loc) (ls : Array Slot), rec (x, v5) = some 1 → va_P D vwCl (W_L cI cV cJ cD vf am a ad ao aod x) H → va_D A (W_L cI cV cJ cD vf am a ad ao aod x) → va_S A s.heap H locs → lv_has ls 8 [(0, .ref (b)), (1, .ref (a 0)), (2, .ref (am 0)), (3, .ref (ao)), (4, .ref (aod)), (5, .int v5)] → W p l e room_1 s m #[Value.ref b] below meth c H locs (cb + 6) (sb + 36) (lw_Z below #[Value.ref b] s) (F0 m 28 ls [])) → ∀ (a : Nat → Nat) (x : LwSt) (v5 : Int32) (s0 : Int32) (s1 : Int32) (s2 : Int32) (H : Heap) (locs : List Loc) (ls : Array Slot), fL_law_203 L xs rec x v5 s0 s1 s2  = some 1 → va_P D vwCl (W_L cI cV cJ cD vf am a ad ao aod x) H → va_D A (W_L cI cV cJ cD vf am a ad ao aod x) → va_S A s.heap H locs → lv_has ls 8 [(0, .ref (b)), (1, .ref (a 0)), (2, .ref (am 0)), (3, .ref (ao)), (4, .ref (aod)), (5, .int v5)] → W p l e room_1 s m #[Value.ref b] below meth c H locs (cb + 0) (sb + 0) (lw_Z below #[Value.ref b] s) (F0 m 203 ls [.int s0, .int s1, .int s2, .ref (a 0)]) := by
    intro rec cb sb hcb hsb hrec a x v5 s0 s1 s2 H locs ls hf hP hD hS hl
    dsimp only [fL_law_203] at hf
    refine lv_aload_n hx hb dL_law_203 rfl (lv_at hl 3 rfl) ?_
    obtain ⟨hv611, hf⟩ := chk_t hf
    replace hv611 := of_decide_eq_true hv611
    obtain ⟨u609, hc610, hf⟩ := bind_t hf
    obtain ⟨hv612, hf⟩ := chk_t hf
    replace hv612 := of_decide_eq_true hv612
    refine k_SWP (ws' := W_L cI cV cJ cD vf am a ad ao aod (unf (fk s2) (wS x) (pF u609.1), wM x, pO u609.1, wD x)) (As := [.ref (a 0), .int s2, .int s1, .int s0, .ref (ao)]) (rest := []) (n := 5) ⟨hx, hb, hml, hown, hts⟩ (met_L_push l hlt (fk s2) vf (foO a (ad (fk s2)) ao) (hvf _ fk_lt) (foc (fk s2) (wS x), wO x) s2 s1 s0 u609 hc610) w439 w440 w0 w441 ⟨by decide +kernel, by decide +kernel, by decide +kernel⟩ ⟨Nat.le_of_ble_eq_true rfl, Nat.le_of_ble_eq_true rfl⟩ hK hE hP hD hS hA (cut_LO x fk_lt hv611 u609.1 hv612) rfl hl.1 rfl (Nat.le_of_ble_eq_true rfl) dL_law_204 ⟨show cb + 0 + 5 ≤ _ from Nat.le_trans (by omega) hcb, show sb + 0 + 30 ≤ _ from Nat.le_trans (by omega) hsb⟩ (fun H locs hP hD hS => ?_)
    try dsimp only at hf
    refine W.widen (k := cb + 6) (n := sb + 36) (show cb + 0 + 5 ≤ cb + 6 by omega) (show sb + 0 + 30 ≤ sb + 36 by omega) ?_
    refine W.eq (g2 := F0 m 207 ls [.int u609.2]) rfl ?_
    obtain ⟨x613, hx613⟩ : ∃ z, z = (unf (fk s2) (wS x) (pF u609.1), wM x, pO u609.1, wD x) := ⟨_, rfl⟩
    replace hf := keep_e hf x613 hx613
    have hP : va_P D vwCl (W_L cI cV cJ cD vf am a ad ao aod x613) H := by rw [hx613]; exact hP
    have hD : va_D A (W_L cI cV cJ cD vf am a ad ao aod x613) := by rw [hx613]; exact hD
    refine lv_topi (fun y614 hy614 => ?_)
    replace hf := keep_e hf y614 hy614
    refine lv_istore (lv' := [(6, .int y614), (0, .ref (b)), (1, .ref (a 0)), (2, .ref (am 0)), (3, .ref (ao)), (4, .ref (aod)), (5, .int v5)]) hx hb dL_law_207 hl (by decide) rfl (fun ls hl => ?_)
    refine lv_aload_n hx hb dL_law_209 rfl (lv_at hl 3 rfl) ?_
    refine lv_aload_n hx hb dL_law_210 rfl (lv_at hl 1 rfl) ?_
    refine lv_iload hx hb dL_law_211 (lv_at hl 6 rfl) ?_
    refine lv_iconst (v := 1) hx hb dL_law_213 (by decide) ?_
    refine lv_iadd hx hb dL_law_214 ?_
    obtain ⟨hi615, hf⟩ := chk_t hf
    refine va_sld hx hb hX hbl hbA hS (inb_in hi615) dL_law_215 ?_
    refine lv_topi (fun y616 hy616 => ?_)
    replace hf := keep_e hf y616 hy616
    refine lv_aload_n hx hb dL_law_216 rfl (lv_at hl 1 rfl) ?_
    refine lv_iload hx hb dL_law_217 (lv_at hl 6 rfl) ?_
    refine lv_iconst (v := 2) hx hb dL_law_219 (by decide) ?_
    refine lv_iadd hx hb dL_law_220 ?_
    obtain ⟨hi617, hf⟩ := chk_t hf
    refine va_sld hx hb hX hbl hbA hS (inb_in hi617) dL_law_221 ?_
    refine lv_topi (fun y618 hy618 => ?_)
    replace hf := keep_e hf y618 hy618
    refine lv_aload_n hx hb dL_law_222 rfl (lv_at hl 1 rfl) ?_
    refine lv_iload hx hb dL_law_223 (lv_at hl 6 rfl) ?_
    refine lv_iconst (v := 3) hx hb dL_law_225 (by decide) ?_
    refine lv_iadd hx hb dL_law_226 ?_
    obtain ⟨hi619, hf⟩ := chk_t hf
    refine va_sld hx hb hX hbl hbA hS (inb_in hi619) dL_law_227 ?_
    refine lv_topi (fun y620 hy620 => ?_)
    replace hf := keep_e hf y620 hy620
    refine lv_if_eq (tgt := 235) hx hb dL_law_228 (by decide) (fun c621 => ?_) (fun c621 => ?_)
    · replace hf := if_t c621 hf
      refine lv_iconst (v := 0) hx hb dL_law_235 (by decide) ?_
      exact L236 rec cb sb hcb hsb hrec a x613 v5 y614 0 y618 y616 H locs ls hf hP hD hS (lv_sub hl [1, 2, 3, 4, 5, 6, 0] rfl)
    · replace hf := if_f c621 hf
      refine lv_iconst (v := 1) hx hb dL_law_231 (by decide) ?_
      refine lv_goto (tgt := 236) hx hb dL_law_232 (by decide) ?_
      exact L236 rec cb sb hcb hsb hrec a x613 v5 y614 1 y618 y616 H locs ls hf hP hD hS (lv_sub hl [1, 2, 3, 4, 5, 6, 0] rfl)
  have L176 : ∀ (rec : LwSt × Int32 → Option Int32) (cb sb : Nat), cb + 6 ≤ room_1.cells → sb + 36 ≤ room_1.slots → (∀ (x : LwSt) (v5 : Int32) (a : Nat → Nat) (H : Heap) (locs : List Loc) (ls : Array Slot), rec (x, v5) = some 1 → va_P D vwCl (W_L cI cV cJ cD vf am a ad ao aod x) H → va_D A (W_L cI cV cJ cD vf am a ad ao aod x) → va_S A s.heap H locs → lv_has ls 8 [(0, .ref (b)), (1, .ref (a 0)), (2, .ref (am 0)), (3, .ref (ao)), (4, .ref (aod)), (5, .int v5)] → W p l e room_1 s m #[Value.ref b] below meth c H locs (cb + 6) (sb + 36) (lw_Z below #[Value.ref b] s) (F0 m 28 ls [])) → ∀ (a : Nat → Nat) (x : LwSt) (v5 : Int32) (H : Heap) (locs : List Loc) (ls : Array Slot), fL_law_176 L xs rec x v5  = some 1 → va_P D vwCl (W_L cI cV cJ cD vf am a ad ao aod x) H → va_D A (W_L cI cV cJ cD vf am a ad ao aod x) → va_S A s.heap H locs → lv_has ls 8 [(0, .ref (b)), (1, .ref (a 0)), (2, .ref (am 0)), (3, .ref (ao)), (4, .ref (aod)), (5, .int v5)] → W p l e room_1 s m #[Value.ref b] below meth c H locs (cb + 0) (sb + 0) (lw_Z below #[Value.ref b] s) (F0 m 176 ls []) := by
    intro rec cb sb hcb hsb hrec a x v5 H locs ls hf hP hD hS hl
    dsimp only [fL_law_176] at hf
    refine lv_aload_n hx hb dL_law_176 rfl (lv_at hl 1 rfl) ?_
    refine lv_aload_n hx hb dL_law_177 rfl (lv_at hl 0 rfl) ?_
    refine lv_iload hx hb dL_law_178 (lv_at hl 5 rfl) ?_
    refine lv_iconst (v := 1) hx hb dL_law_180 (by decide) ?_
    refine lv_iadd hx hb dL_law_181 ?_
    obtain ⟨hi622, hf⟩ := chk_t hf
    refine va_sld hx hb hX hbl hbA hS (inb_in hi622) dL_law_182 ?_
    refine lv_topi (fun y623 hy623 => ?_)
    replace hf := keep_e hf y623 hy623
    refine lv_aload_n hx hb dL_law_183 rfl (lv_at hl 0 rfl) ?_
    refine lv_iload hx hb dL_law_184 (lv_at hl 5 rfl) ?_
    refine lv_iconst (v := 2) hx hb dL_law_186 (by decide) ?_
    refine lv_iadd hx hb dL_law_187 ?_
    obtain ⟨hi624, hf⟩ := chk_t hf
    refine va_sld hx hb hX hbl hbA hS (inb_in hi624) dL_law_188 ?_
    refine lv_topi (fun y625 hy625 => ?_)
    replace hf := keep_e hf y625 hy625
    refine lv_aload_n hx hb dL_law_189 rfl (lv_at hl 0 rfl) ?_
    refine lv_iload hx hb dL_law_190 (lv_at hl 5 rfl) ?_
    refine lv_iconst (v := 3) hx hb dL_law_192 (by decide) ?_
    refine lv_iadd hx hb dL_law_193 ?_
    obtain ⟨hi626, hf⟩ := chk_t hf
    refine va_sld hx hb hX hbl hbA hS (inb_in hi626) dL_law_194 ?_
    refine lv_topi (fun y627 hy627 => ?_)
    replace hf := keep_e hf y627 hy627
    refine lv_if_eq (tgt := 202) hx hb dL_law_195 (by decide) (fun c628 => ?_) (fun c628 => ?_)
    · replace hf := if_t c628 hf
      refine lv_iconst (v := 0) hx hb dL_law_202 (by decide) ?_
      exact L203 rec cb sb hcb hsb hrec a x v5 0 y625 y623 H locs ls hf hP hD hS (lv_sub hl [0, 1, 2, 3, 4, 5] rfl)
    · replace hf := if_f c628 hf
      refine lv_iconst (v := 1) hx hb dL_law_198 (by decide) ?_
      refine lv_goto (tgt := 203) hx hb dL_law_199 (by decide) ?_
      exact L203 rec cb sb hcb hsb hrec a x v5 1 y625 y623 H locs ls hf hP hD hS (lv_sub hl [0, 1, 2, 3, 4, 5] rfl)
  have L28 : ∀ (rec : LwSt × Int32 → Option Int32) (cb sb : Nat), cb + 6 ≤ room_1.cells → sb + 36 ≤ room_1.slots → (∀ (x : LwSt) (v5 : Int32) (a : Nat → Nat) (H : Heap) (locs : List Loc) (ls : Array Slot), rec (x, v5) = some 1 → va_P D vwCl (W_L cI cV cJ cD vf am a ad ao aod x) H → va_D A (W_L cI cV cJ cD vf am a ad ao aod x) → va_S A s.heap H locs → lv_has ls 8 [(0, .ref (b)), (1, .ref (a 0)), (2, .ref (am 0)), (3, .ref (ao)), (4, .ref (aod)), (5, .int v5)] → W p l e room_1 s m #[Value.ref b] below meth c H locs (cb + 6) (sb + 36) (lw_Z below #[Value.ref b] s) (F0 m 28 ls [])) → ∀ (a : Nat → Nat) (x : LwSt) (v5 : Int32) (H : Heap) (locs : List Loc) (ls : Array Slot), fL_law_28 L xs rec (x, v5) = some 1 → va_P D vwCl (W_L cI cV cJ cD vf am a ad ao aod x) H → va_D A (W_L cI cV cJ cD vf am a ad ao aod x) → va_S A s.heap H locs → lv_has ls 8 [(0, .ref (b)), (1, .ref (a 0)), (2, .ref (am 0)), (3, .ref (ao)), (4, .ref (aod)), (5, .int v5)] → W p l e room_1 s m #[Value.ref b] below meth c H locs (cb + 0) (sb + 0) (lw_Z below #[Value.ref b] s) (F0 m 28 ls []) := by
    intro rec cb sb hcb hsb hrec a x v5 H locs ls hf hP hD hS hl
    dsimp only [fL_law_28] at hf
    refine lv_iload hx hb dL_law_28 (lv_at hl 5 rfl) ?_
    refine lv_aload_n hx hb dL_law_30 rfl (lv_at hl 0 rfl) ?_
    refine va_slen hx hb hX hbl hbA hS dL_law_31 ?_
    refine lv_iconst (v := 5) hx hb dL_law_32 (by decide) ?_
    refine lv_isub hx hb dL_law_33 ?_
    refine lv_icmp_gt (tgt := 2023) hx hb dL_law_34 (by decide) (fun c629 => ?_) (fun c629 => ?_)
    · replace hf := if_t c629 hf
      refine lv_iconst (v := 1) hx hb dL_law_2023 (by decide) ?_
      refine W.widen (k := 601024) (n := 7293034) (Nat.le_trans (by omega) hcb) (Nat.le_trans (by omega) hsb) ?_
      refine va_forget (fun q h9 => hAs _ (hS.2.2 q h9)) ?_
      exact lw_ret (d0 := s.drawn) (Drawn.sameBut.refl s.drawn lw_cs) hx hb hr hlocks dL_law_2024
    · replace hf := if_f c629 hf
      refine lv_aload_n hx hb dL_law_37 rfl (lv_at hl 0 rfl) ?_
      refine lv_iload hx hb dL_law_38 (lv_at hl 5 rfl) ?_
      obtain ⟨hi630, hf⟩ := chk_t hf
      refine va_sld hx hb hX hbl hbA hS (inb_in hi630) dL_law_40 ?_
      refine lv_topi (fun y631 hy631 => ?_)
      replace hf := keep_e hf y631 hy631
      refine lv_bipush (v := 31) hx hb dL_law_41 (by decide) ?_
      refine lv_iand hx hb dL_law_43 ?_
      refine lv_topi (fun y632 hy632 => ?_)
      replace hf := keep_e hf y632 hy632
      by_cases c633 : y632 = 0
      · replace hf := if_t c633 hf
        refine k_tsw (tgt := 176) hx hb dL_law_44 0 c633 (by decide) (by decide) rfl (by decide) ?_
        exact L176 rec cb sb hcb hsb hrec a x v5 H locs ls hf hP hD hS (lv_sub hl [0, 1, 2, 3, 4, 5] rfl)
      replace hf := if_f c633 hf
      by_cases c634 : y632 = 1
      · replace hf := if_t c634 hf
        refine k_tsw (tgt := 272) hx hb dL_law_44 1 c634 (by decide) (by decide) rfl (by decide) ?_
        exact L272 rec cb sb hcb hsb hrec a x v5 H locs ls hf hP hD hS (lv_sub hl [0, 1, 2, 3, 4, 5] rfl)
      replace hf := if_f c634 hf
      by_cases c635 : y632 = 2
      · replace hf := if_t c635 hf
        refine k_tsw (tgt := 356) hx hb dL_law_44 2 c635 (by decide) (by decide) rfl (by decide) ?_
        exact L356 rec cb sb hcb hsb hrec a x v5 H locs ls hf hP hD hS (lv_sub hl [0, 1, 2, 3, 4, 5] rfl)
      replace hf := if_f c635 hf
      by_cases c636 : y632 = 3
      · replace hf := if_t c636 hf
        refine k_tsw (tgt := 431) hx hb dL_law_44 3 c636 (by decide) (by decide) rfl (by decide) ?_
        exact L431 rec cb sb hcb hsb hrec a x v5 H locs ls hf hP hD hS (lv_sub hl [0, 1, 2, 3, 4, 5] rfl)
      replace hf := if_f c636 hf
      by_cases c637 : y632 = 4
      · replace hf := if_t c637 hf
        refine k_tsw (tgt := 506) hx hb dL_law_44 4 c637 (by decide) (by decide) rfl (by decide) ?_
        exact L506 rec cb sb hcb hsb hrec a x v5 H locs ls hf hP hD hS (lv_sub hl [0, 1, 2, 3, 4, 5] rfl)
      replace hf := if_f c637 hf
      by_cases c638 : y632 = 5
      · replace hf := if_t c638 hf
        refine k_tsw (tgt := 586) hx hb dL_law_44 5 c638 (by decide) (by decide) rfl (by decide) ?_
        exact L586 rec cb sb hcb hsb hrec a x v5 H locs ls hf hP hD hS (lv_sub hl [0, 1, 2, 3, 4, 5] rfl)
      replace hf := if_f c638 hf
      by_cases c639 : y632 = 6
      · replace hf := if_t c639 hf
        refine k_tsw (tgt := 654) hx hb dL_law_44 6 c639 (by decide) (by decide) rfl (by decide) ?_
        exact L654 rec cb sb hcb hsb hrec a x v5 H locs ls hf hP hD hS (lv_sub hl [0, 1, 2, 3, 4, 5] rfl)
      replace hf := if_f c639 hf
      by_cases c640 : y632 = 7
      · replace hf := if_t c640 hf
        refine k_tsw (tgt := 734) hx hb dL_law_44 7 c640 (by decide) (by decide) rfl (by decide) ?_
        exact L734 rec cb sb hcb hsb hrec a x v5 H locs ls hf hP hD hS (lv_sub hl [0, 1, 2, 3, 4, 5] rfl)
      replace hf := if_f c640 hf
      by_cases c641 : y632 = 8
      · replace hf := if_t c641 hf
        refine k_tsw (tgt := 821) hx hb dL_law_44 8 c641 (by decide) (by decide) rfl (by decide) ?_
        exact L821 rec cb sb hcb hsb hrec a x v5 H locs ls hf hP hD hS (lv_sub hl [0, 1, 2, 3, 4, 5] rfl)
      replace hf := if_f c641 hf
      by_cases c642 : y632 = 9
      · replace hf := if_t c642 hf
        refine k_tsw (tgt := 913) hx hb dL_law_44 9 c642 (by decide) (by decide) rfl (by decide) ?_
        exact L913 rec cb sb hcb hsb hrec a x v5 H locs ls hf hP hD hS (lv_sub hl [0, 1, 2, 3, 4, 5] rfl)
      replace hf := if_f c642 hf
      by_cases c643 : y632 = 10
      · replace hf := if_t c643 hf
        refine k_tsw (tgt := 993) hx hb dL_law_44 10 c643 (by decide) (by decide) rfl (by decide) ?_
        exact L993 rec cb sb hcb hsb hrec a x v5 H locs ls hf hP hD hS (lv_sub hl [0, 1, 2, 3, 4, 5] rfl)
      replace hf := if_f c643 hf
      by_cases c644 : y632 = 11
      · replace hf := if_t c644 hf
        refine k_tsw (tgt := 1056) hx hb dL_law_44 11 c644 (by decide) (by decide) rfl (by decide) ?_
        exact L1056 rec cb sb hcb hsb hrec a x v5 H locs ls hf hP hD hS (lv_sub hl [0, 1, 2, 3, 4, 5] rfl)
      replace hf := if_f c644 hf
      by_cases c645 : y632 = 12
      · replace hf := if_t c645 hf
        refine k_tsw (tgt := 1131) hx hb dL_law_44 12 c645 (by decide) (by decide) rfl (by decide) ?_
        exact L1131 rec cb sb hcb hsb hrec a x v5 H locs ls hf hP hD hS (lv_sub hl [0, 1, 2, 3, 4, 5] rfl)
      replace hf := if_f c645 hf
      by_cases c646 : y632 = 13
      · replace hf := if_t c646 hf
        refine k_tsw (tgt := 1187) hx hb dL_law_44 13 c646 (by decide) (by decide) rfl (by decide) ?_
        exact L1187 rec cb sb hcb hsb hrec a x v5 H locs ls hf hP hD hS (lv_sub hl [0, 1, 2, 3, 4, 5] rfl)
      replace hf := if_f c646 hf
      by_cases c647 : y632 = 14
      · replace hf := if_t c647 hf
        refine k_tsw (tgt := 1243) hx hb dL_law_44 14 c647 (by decide) (by decide) rfl (by decide) ?_
        exact L1243 rec cb sb hcb hsb hrec a x v5 H locs ls hf hP hD hS (lv_sub hl [0, 1, 2, 3, 4, 5] rfl)
      replace hf := if_f c647 hf
      by_cases c648 : y632 = 15
      · replace hf := if_t c648 hf
        refine k_tsw (tgt := 1299) hx hb dL_law_44 15 c648 (by decide) (by decide) rfl (by decide) ?_
        exact L1299 rec cb sb hcb hsb hrec a x v5 H locs ls hf hP hD hS (lv_sub hl [0, 1, 2, 3, 4, 5] rfl)
      replace hf := if_f c648 hf
      by_cases c649 : y632 = 16
      · replace hf := if_t c649 hf
        refine k_tsw (tgt := 1312) hx hb dL_law_44 16 c649 (by decide) (by decide) rfl (by decide) ?_
        exact L1312 rec cb sb hcb hsb hrec a x v5 H locs ls hf hP hD hS (lv_sub hl [0, 1, 2, 3, 4, 5] rfl)
      replace hf := if_f c649 hf
      by_cases c650 : y632 = 17
      · replace hf := if_t c650 hf
        refine k_tsw (tgt := 1325) hx hb dL_law_44 17 c650 (by decide) (by decide) rfl (by decide) ?_
        exact L1325 rec cb sb hcb hsb hrec a x v5 H locs ls hf hP hD hS (lv_sub hl [0, 1, 2, 3, 4, 5] rfl)
      replace hf := if_f c650 hf
      by_cases c651 : y632 = 18
      · replace hf := if_t c651 hf
        refine k_tsw (tgt := 1381) hx hb dL_law_44 18 c651 (by decide) (by decide) rfl (by decide) ?_
        exact L1381 rec cb sb hcb hsb hrec a x v5 H locs ls hf hP hD hS (lv_sub hl [0, 1, 2, 3, 4, 5] rfl)
      replace hf := if_f c651 hf
      by_cases c652 : y632 = 19
      · replace hf := if_t c652 hf
        refine k_tsw (tgt := 1394) hx hb dL_law_44 19 c652 (by decide) (by decide) rfl (by decide) ?_
        exact L1394 rec cb sb hcb hsb hrec a x v5 H locs ls hf hP hD hS (lv_sub hl [0, 1, 2, 3, 4, 5] rfl)
      replace hf := if_f c652 hf
      by_cases c653 : y632 = 20
      · replace hf := if_t c653 hf
        refine k_tsw (tgt := 1407) hx hb dL_law_44 20 c653 (by decide) (by decide) rfl (by decide) ?_
        exact L1407 rec cb sb hcb hsb hrec a x v5 H locs ls hf hP hD hS (lv_sub hl [0, 1, 2, 3, 4, 5] rfl)
      replace hf := if_f c653 hf
      by_cases c654 : y632 = 21
      · replace hf := if_t c654 hf
        refine k_tsw (tgt := 1463) hx hb dL_law_44 21 c654 (by decide) (by decide) rfl (by decide) ?_
        exact L1463 rec cb sb hcb hsb hrec a x v5 H locs ls hf hP hD hS (lv_sub hl [0, 1, 2, 3, 4, 5] rfl)
      replace hf := if_f c654 hf
      by_cases c655 : y632 = 22
      · replace hf := if_t c655 hf
        refine k_tsw (tgt := 1519) hx hb dL_law_44 22 c655 (by decide) (by decide) rfl (by decide) ?_
        exact L1519 rec cb sb hcb hsb hrec a x v5 H locs ls hf hP hD hS (lv_sub hl [0, 1, 2, 3, 4, 5] rfl)
      replace hf := if_f c655 hf
      by_cases c656 : y632 = 23
      · replace hf := if_t c656 hf
        refine k_tsw (tgt := 1575) hx hb dL_law_44 23 c656 (by decide) (by decide) rfl (by decide) ?_
        exact L1575 rec cb sb hcb hsb hrec a x v5 H locs ls hf hP hD hS (lv_sub hl [0, 1, 2, 3, 4, 5] rfl)
      replace hf := if_f c656 hf
      by_cases c657 : y632 = 24
      · replace hf := if_t c657 hf
        refine k_tsw (tgt := 1643) hx hb dL_law_44 24 c657 (by decide) (by decide) rfl (by decide) ?_
        exact L1643 rec cb sb hcb hsb hrec a x v5 H locs ls hf hP hD hS (lv_sub hl [0, 1, 2, 3, 4, 5] rfl)
      replace hf := if_f c657 hf
      by_cases c658 : y632 = 25
      · replace hf := if_t c658 hf
        refine k_tsw (tgt := 1711) hx hb dL_law_44 25 c658 (by decide) (by decide) rfl (by decide) ?_
        exact L1711 rec cb sb hcb hsb hrec a x v5 H locs ls hf hP hD hS (lv_sub hl [0, 1, 2, 3, 4, 5] rfl)
      replace hf := if_f c658 hf
      by_cases c659 : y632 = 26
      · replace hf := if_t c659 hf
        refine k_tsw (tgt := 1779) hx hb dL_law_44 26 c659 (by decide) (by decide) rfl (by decide) ?_
        exact L1779 rec cb sb hcb hsb hrec a x v5 H locs ls hf hP hD hS (lv_sub hl [0, 1, 2, 3, 4, 5] rfl)
      replace hf := if_f c659 hf
      by_cases c660 : y632 = 27
      · replace hf := if_t c660 hf
        refine k_tsw (tgt := 1869) hx hb dL_law_44 27 c660 (by decide) (by decide) rfl (by decide) ?_
        exact L1869 rec cb sb hcb hsb hrec a x v5 H locs ls hf hP hD hS (lv_sub hl [0, 1, 2, 3, 4, 5] rfl)
      replace hf := if_f c660 hf
      by_cases c661 : y632 = 28
      · replace hf := if_t c661 hf
        refine k_tsw (tgt := 1937) hx hb dL_law_44 28 c661 (by decide) (by decide) rfl (by decide) ?_
        exact L1937 rec cb sb hcb hsb hrec a x v5 H locs ls hf hP hD hS (lv_sub hl [0, 1, 2, 3, 4, 5] rfl)
      replace hf := if_f c661 hf
      refine lv_tableOut (tgt := 2017) hx hb dL_law_44 (by have q0 := lv_neT c633 (show (0 : Int32).toInt = 0 by decide); have q1 := lv_neT c634 (show (1 : Int32).toInt = 1 by decide); have q2 := lv_neT c635 (show (2 : Int32).toInt = 2 by decide); have q3 := lv_neT c636 (show (3 : Int32).toInt = 3 by decide); have q4 := lv_neT c637 (show (4 : Int32).toInt = 4 by decide); have q5 := lv_neT c638 (show (5 : Int32).toInt = 5 by decide); have q6 := lv_neT c639 (show (6 : Int32).toInt = 6 by decide); have q7 := lv_neT c640 (show (7 : Int32).toInt = 7 by decide); have q8 := lv_neT c641 (show (8 : Int32).toInt = 8 by decide); have q9 := lv_neT c642 (show (9 : Int32).toInt = 9 by decide); have q10 := lv_neT c643 (show (10 : Int32).toInt = 10 by decide); have q11 := lv_neT c644 (show (11 : Int32).toInt = 11 by decide); have q12 := lv_neT c645 (show (12 : Int32).toInt = 12 by decide); have q13 := lv_neT c646 (show (13 : Int32).toInt = 13 by decide); have q14 := lv_neT c647 (show (14 : Int32).toInt = 14 by decide); have q15 := lv_neT c648 (show (15 : Int32).toInt = 15 by decide); have q16 := lv_neT c649 (show (16 : Int32).toInt = 16 by decide); have q17 := lv_neT c650 (show (17 : Int32).toInt = 17 by decide); have q18 := lv_neT c651 (show (18 : Int32).toInt = 18 by decide); have q19 := lv_neT c652 (show (19 : Int32).toInt = 19 by decide); have q20 := lv_neT c653 (show (20 : Int32).toInt = 20 by decide); have q21 := lv_neT c654 (show (21 : Int32).toInt = 21 by decide); have q22 := lv_neT c655 (show (22 : Int32).toInt = 22 by decide); have q23 := lv_neT c656 (show (23 : Int32).toInt = 23 by decide); have q24 := lv_neT c657 (show (24 : Int32).toInt = 24 by decide); have q25 := lv_neT c658 (show (25 : Int32).toInt = 25 by decide); have q26 := lv_neT c659 (show (26 : Int32).toInt = 26 by decide); have q27 := lv_neT c660 (show (27 : Int32).toInt = 27 by decide); have q28 := lv_neT c661 (show (28 : Int32).toInt = 28 by decide); omega) (by decide) ?_
      refine W.widen (k := cb + 6) (n := sb + 36) (by omega) (by omega) ?_
      exact L2017 rec cb sb hcb hsb hrec a x v5 H locs ls hf hP hD hS (lv_sub hl [0, 1, 2, 3, 4, 5] rfl)
  have LL : ∀ (fu cb sb : Nat), cb + 6 * (fu + 1) ≤ 601024 → sb + 36 * (fu + 1) ≤ 7293034 → ∀ (x : LwSt) (v5 : Int32) (a : Nat → Nat) (H : Heap) (locs : List Loc) (ls : Array Slot), iterK fu (fL_law_28 L xs) (x, v5) = some 1 → va_P D vwCl (W_L cI cV cJ cD vf am a ad ao aod x) H → va_D A (W_L cI cV cJ cD vf am a ad ao aod x) → va_S A s.heap H locs → lv_has ls 8 [(0, .ref (b)), (1, .ref (a 0)), (2, .ref (am 0)), (3, .ref (ao)), (4, .ref (aod)), (5, .int v5)] → W p l e room_1 s m #[Value.ref b] below meth c H locs cb sb (lw_Z below #[Value.ref b] s) (F0 m 28 ls []) := by
    intro fu
    induction fu with
    | zero =>
      intro cb sb _ _ x v5 a H locs ls hf
      cases hf
    | succ fu ih =>
      intro cb sb hcb hsb x v5 a H locs ls hf hP hD hS hl
      exact L28 (iterK fu (fL_law_28 L xs)) cb sb (show cb + 6 ≤ 601024 by omega) (show sb + 36 ≤ 7293034 by omega) (ih (cb + 6) (sb + 36) (by omega) (by omega)) a x v5 H locs ls hf hP hD hS hl
  exact LL fu cb sb hcb hsb x v5 a H locs ls hf hP hD hS hl
