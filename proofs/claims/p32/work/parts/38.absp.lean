/-! what a key holds, without its form (CK), its form (FK); rows of the log (RW) and what they do -/
abbrev CK : Type := Int32 × Int32 × LL × (Nat → Nat) × WF
def cT (c : CK) : Int32 := c.1
def cE (c : CK) : Int32 := c.2.1
def cL (c : CK) : LL := c.2.2.1
def cP (c : CK) : Nat → Nat := c.2.2.2.1
def cW (c : CK) : WF := c.2.2.2.2
abbrev FK : Type := Int32 × Nat
def c00 (t : Int32) : CK := (t, -1, [], fun _ => 0, fun _ => none)
def thC (c : CK) (now : Int32) : Bool := decide (cT c ≠ 0) && (decide (cE c = -1) || decide (now < cE c))
def mkC (t : Int32) (c : CK) (now : Int32) : CK := if thC c now = true then c else c00 t
def mkF (c : CK) (f : FK) (now : Int32) : FK := if thC c now = true then f else (1, 4)
def setL (c : CK) (L : LL) : CK := (cT c, cE c, L, cP c, cW c)
def drpE (c : CK) : CK := if (cL c).length = 0 then (0, c.2) else c
def b2i (b : Bool) : Int32 := if b = true then 1 else 0
def AscL (L : LL) : Prop := (∀ q ∈ L, isV q.1 ∧ q.2 = 0) ∧ L.Pairwise (fun a b => a.1 < b.1)
def isNum (b : Int32) : Prop := ¬ 2139095040 < (b &&& 2147483647)
def SrtL (L : LL) : Prop := (∀ q ∈ L, isNum q.2) ∧ L.Pairwise (fun a b => ahd a b = true) ∧ L.Pairwise (fun a b => a.1 ≠ b.1)
def GrpOk (n : Nat) (pl : Nat → Nat) (w : WF) : Prop := wOk w ∧ (∀ g, g < 3 → pl g ≤ n) ∧ ∀ g j, g < 3 → j < 40 → w (40 * g + j) ≠ none → j < pl g
def noG (c : CK) : Prop := cP c = (fun _ => 0) ∧ cW c = (fun _ => none)
def okCK (c : CK) : Prop := cT c = 0 ∨ ((cT c = 1 ∨ cT c = 2 ∨ cT c = 3 ∨ cT c = 4) ∧ (cT c ≠ 4 → noG c) ∧ (cL c).length ≤ 40 ∧ (cT c ≠ 4 → 0 < (cL c).length) ∧ (∀ q ∈ cL c, isV q.1) ∧ (cT c = 2 → AscL (cL c)) ∧ (cT c = 3 → SrtL (cL c)) ∧ (cT c = 4 → GrpOk (cL c).length (cP c) (cW c)))
def fnd (L : LL) (v : Int32) : Bool := decide (fi L v < L.length)
-- what the commands do
def pshC (a b now : Int32) (c : CK) : CK := setL (mkC 1 c now) ((cL (mkC 1 c now)).insertIdx (if b = 0 then 0 else (cL (mkC 1 c now)).length) (a, 0))
def popI (b : Int32) (c : CK) : Nat := if b = 0 then 0 else (cL c).length - 1
def popC (b : Int32) (c : CK) : CK := drpE (setL c ((cL c).eraseIdx (popI b c)))
def addC (a now : Int32) (c : CK) : CK := if fnd (cL (mkC 2 c now)) a = true then mkC 2 c now else setL (mkC 2 c now) (sins (cL (mkC 2 c now)) a)
def tkeC (a : Int32) (c : CK) : CK := if fnd (cL c) a = true then drpE (setL c ((cL c).eraseIdx (fi (cL c) a))) else c
def ratL (a : Int32) (L : LL) : LL := if fnd L a = true then L.eraseIdx (fi L a) else L
def ratI (a b now : Int32) (c : CK) : Nat := rnk (ratL a (cL (mkC 3 c now))) (a, b)
def ratC (a b now : Int32) (c : CK) : CK := setL (mkC 3 c now) ((ratL a (cL (mkC 3 c now))).insertIdx (ratI a b now c) (a, b))
def appC (a now : Int32) (c : CK) : CK := setL (mkC 4 c now) (cL (mkC 4 c now) ++ [(a, 0)])
def rdC (g r now : Nat) (c : CK) : CK := if cP c g + 1 ≤ (cL c).length then (cT c, cE c, cL c, upN (cP c) g (cP c g + 1), upN (cW c) (40 * g + cP c g) (some (now, r))) else c
def dnC (g : Nat) (e : Int32) (c : CK) : CK := match eno e with
  | some j => (cT c, cE c, cL c, cP c, upN (cW c) (40 * g + j) none)
  | none => c
def dnA (g : Nat) (e : Int32) (c : CK) : Int32 := match eno e with
  | some j => if cW c (40 * g + j) = none then 0 else 1
  | none => 0
def clC (g r ticks now : Nat) (c : CK) : CK := (cT c, cE c, cL c, cP c, mvw (cW c) g r ticks now)
def rmC (c : CK) : CK := (0, c.2)
def enC (e : Int32) (c : CK) : CK := (cT c, e, c.2.2)
-- and to the forms
def pshF (a now : Int32) (c : CK) (f : FK) : FK := (if 8 < (cL (mkC 1 c now)).length + 1 ∨ 255 < a then 2 else (mkF c f now).1, (mkF c f now).2)
def addF (a now : Int32) (c : CK) (f : FK) : FK := if fnd (cL (mkC 2 c now)) a = true then mkF c f now else (if 8 < (cL (mkC 2 c now)).length + 1 then 2 else (mkF c f now).1, bup (cL (mkC 2 c now)) (mkF c f now).2)
def ratF (a now : Int32) (c : CK) (f : FK) : FK := (if 6 < (ratL a (cL (mkC 3 c now))).length + 1 then 2 else (mkF c f now).1, (mkF c f now).2)
def appF (now : Int32) (c : CK) (f : FK) : FK := (if 16 < (cL (mkC 4 c now)).length + 1 then 2 else (mkF c f now).1, (mkF c f now).2)
-- rows of the log
abbrev RW : Type := Int32 × Int32 × Int32 × Int32 × Int32 × Int32
def wK (r : RW) : Int32 := r.1
def wY (r : RW) : Int32 := r.2.1
def wA (r : RW) : Int32 := r.2.2.1
def wB (r : RW) : Int32 := r.2.2.2.1
def wC (r : RW) : Int32 := r.2.2.2.2.1
def wT (r : RW) : Int32 := r.2.2.2.2.2
def cl (x : Int32) : Nat := x.toNatClampNeg
def opC (r : RW) (c : CK) : CK :=
  if wK r = 1 then pshC (wA r) (wB r) (wT r) c else if wK r = 2 then popC (wA r) c else if wK r = 3 then addC (wA r) (wT r) c else if wK r = 4 then tkeC (wA r) c
  else if wK r = 5 then ratC (wA r) (wB r) (wT r) c else if wK r = 6 then appC (wA r) (wT r) c else if wK r = 7 then rdC (cl (wA r)) (cl (wB r)) (cl (wT r)) c
  else if wK r = 8 then dnC (cl (wA r)) (wB r) c else if wK r = 9 then clC (cl (wA r)) (cl (wB r)) (cl (wC r)) (cl (wT r)) c else if wK r = 10 then rmC c else enC (wA r) c
def opF (r : RW) (c : CK) (f : FK) : FK :=
  if wK r = 1 then pshF (wA r) (wT r) c f else if wK r = 3 then addF (wA r) (wT r) c f else if wK r = 5 then ratF (wA r) (wT r) c f else if wK r = 6 then appF (wT r) c f else f
def bit (b : Int32) : Prop := b = 0 ∨ b = 1
def isN (x : Int32) (n : Nat) : Prop := ∃ m : Nat, m < n ∧ x = nI m
/-- a row that can be done -/
def okR (r : RW) (c : CK) : Prop := isN (wY r) 16 ∧ isN (wT r) 1000001 ∧
  ((wK r = 1 ∧ isV (wA r) ∧ bit (wB r) ∧ wC r = 0 ∧ (thC c (wT r) = true → cT c = 1 ∧ (cL c).length < 40)) ∨
  (wK r = 2 ∧ bit (wA r) ∧ wB r = 0 ∧ wC r = 0 ∧ thC c (wT r) = true ∧ cT c = 1) ∨
  (wK r = 3 ∧ isV (wA r) ∧ wB r = 0 ∧ wC r = 0 ∧ (thC c (wT r) = true → cT c = 2 ∧ ((cL c).length < 40 ∨ fnd (cL c) (wA r) = true))) ∨
  (wK r = 4 ∧ isV (wA r) ∧ wB r = 0 ∧ wC r = 0 ∧ thC c (wT r) = true ∧ (cT c = 2 ∨ cT c = 3)) ∨
  (wK r = 5 ∧ isV (wA r) ∧ isNum (wB r) ∧ wC r = 0 ∧ (thC c (wT r) = true → cT c = 3 ∧ ((cL c).length < 40 ∨ fnd (cL c) (wA r) = true))) ∨
  (wK r = 6 ∧ isV (wA r) ∧ wB r = 0 ∧ wC r = 0 ∧ (thC c (wT r) = true → cT c = 4 ∧ (cL c).length < 40)) ∨
  (wK r = 7 ∧ isN (wA r) 3 ∧ isN (wB r) 4 ∧ wC r = 0 ∧ thC c (wT r) = true ∧ cT c = 4) ∨
  (wK r = 8 ∧ isN (wA r) 3 ∧ wC r = 0 ∧ thC c (wT r) = true ∧ cT c = 4) ∨
  (wK r = 9 ∧ isN (wA r) 3 ∧ isN (wB r) 4 ∧ isN (wC r) 1001 ∧ thC c (wT r) = true ∧ cT c = 4) ∨
  (wK r = 10 ∧ wA r = 0 ∧ wB r = 0 ∧ wC r = 0 ∧ thC c (wT r) = true) ∨
  (wK r = 11 ∧ wB r = 0 ∧ wC r = 0 ∧ thC c (wT r) = true))
-- values of the class
def cap (t : Int32) : Nat := if t = 3 then 6 else if t = 4 then 16 else 8
def FrmR (v : VSt) (t : Int32) (L : LL) (f : FK) : Prop :=
  (f.1 = 1 ∧ vlFm v = 1 ∧ RowR 16 (vlSm v) L ∧ L.length ≤ cap t ∧ f.2 = 4) ∨ (f.1 = 2 ∧ t ≠ 2 ∧ vlFm v = 4 ∧ ChnR (vlCh v) L) ∨ (f.1 = 2 ∧ t = 2 ∧ vlFm v = 8 ∧ TabR (vlTb v) L f.2)
def VL (v : VSt) (t : Int32) (L : LL) (f : FK) : Prop := vlTyp v = t ∧ RowR 40 (vlPl v) L ∧ FrmR v t L f
def fmOk (v : VSt) : Prop := vlFm v = 1 ∨ vlFm v = 4 ∨ vlFm v = 8
def VR (v : VSt) (c : CK) (f : FK) : Prop := fmOk v ∧ bit (vlHeld v) ∧ (cT c = 0 ↔ vlHeld v = 0) ∧ (cT c ≠ 0 → vlEnd v = cE c ∧ VL v (cT c) (cL c) f ∧ (cT c = 4 → GrpR (vlGr v) (cP c) (cW c)))
