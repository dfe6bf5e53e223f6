/-! THE PURE PART: what the partial functions answer. Ok o Q: o answers, and its answer has Q -/
def Ok {α : Type} (o : Option α) (Q : α → Prop) : Prop := ∃ r, o = some r ∧ Q r
section PURE
variable {α β σ ρ : Type}
theorem ok_some {a : α} {Q : α → Prop} : Ok (some a) Q = Q a := by
  unfold Ok
  exact propext ⟨fun ⟨r, h, hq⟩ => by cases h; exact hq, fun h => ⟨a, rfl, h⟩⟩
theorem ok_bind {o : Option α} {k : α → Option β} {Q : β → Prop} : Ok (o.bind k) Q = Ok o (fun u => Ok (k u) Q) := by
  unfold Ok
  refine propext ⟨fun ⟨r, h, hq⟩ => ?_, fun ⟨u, h, r, h2, hq⟩ => ⟨r, by rw [h]; exact h2, hq⟩⟩
  obtain ⟨u, h1, h2⟩ := Option.bind_eq_some_iff.mp h
  exact ⟨u, h1, r, h2, hq⟩
theorem ok_keep {a : α} {k : α → Option β} {Q : β → Prop} : Ok (keep a k) Q = Ok (k a) Q := rfl
theorem keep_r {a : α} {k : α → Option β} : keep a k = k a := rfl
theorem chk_r {k : Option α} : chk true k = k := rfl
theorem ok_chk {b : Bool} {k : Option α} {Q : α → Prop} : Ok (chk b k) Q = (b = true ∧ Ok k Q) := by
  unfold chk
  cases b
  · refine propext ⟨fun ⟨r, h, _⟩ => ?_, fun h => absurd h.1 (by decide)⟩
    simp at h
  · simp
theorem ok_if {c : Prop} [Decidable c] {a b : Option α} {Q : α → Prop} : Ok (if c then a else b) Q = ((c → Ok a Q) ∧ (¬ c → Ok b Q)) := by
  by_cases h : c
  · rw [if_pos h]; exact propext ⟨fun x => ⟨fun _ => x, fun g => absurd h g⟩, fun x => x.1 h⟩
  · rw [if_neg h]; exact propext ⟨fun x => ⟨fun g => absurd g h, fun _ => x⟩, fun x => x.2 h⟩
theorem ok_mono {o : Option α} {P Q : α → Prop} (h : Ok o P) (g : ∀ r, P r → Q r) : Ok o Q := by
  obtain ⟨r, h1, h2⟩ := h
  exact ⟨r, h1, g r h2⟩
theorem ok_eq {o : Option α} {r : α} {Q : α → Prop} (h : o = some r) (g : Q r) : Ok o Q := ⟨r, h, g⟩
theorem ok_is {o : Option α} {r : α} (h : Ok o (fun u => u = r)) : o = some r := by
  obtain ⟨u, h1, h2⟩ := h
  rw [h1, h2]
/-- a loop: I n s, n a measure that falls -/
theorem ok_iter {F : (σ → Option ρ) → σ → Option ρ} (I : Nat → σ → Prop) (Q : ρ → Prop) (hs : ∀ n s rec, I n s → (∀ m s', m < n → I m s' → Ok (rec s') Q) → Ok (F rec s) Q) : ∀ fu n s, I n s → n < fu → Ok (iterK fu F s) Q := by
  intro fu
  induction fu with
  | zero => intro n s _ h; exact absurd h (Nat.not_lt_zero n)
  | succ fu ih =>
    intro n s hI h
    rw [iterK_s]
    exact hs n s _ hI (fun m s' hm hI' => ih m s' hI' (Nat.lt_of_lt_of_le hm (Nat.le_of_lt_succ h)))
theorem ok_thr {r : α ⊕ Nat} {kx : Nat → Option β} {k : α → Option β} {Q : β → Prop} : Ok (thr r kx k) Q = ((∀ n, r = .inr n → Ok (kx n) Q) ∧ (∀ a, r = .inl a → Ok (k a) Q)) := by
  cases r with
  | inl a => exact propext ⟨fun h => ⟨fun n e => (by cases e), fun b e => by cases e; exact h⟩, fun h => h.2 a rfl⟩
  | inr n => exact propext ⟨fun h => ⟨fun b e => (by cases e; exact h), fun a e => (by cases e)⟩, fun h => h.1 n rfl⟩
theorem thrL {a : α} {kx : Nat → Option β} {k : α → Option β} : thr (.inl a) kx k = k a := rfl
theorem thrR {n : Nat} {kx : Nat → Option β} {k : α → Option β} : thr (.inr n) kx k = kx n := rfl
end PURE
-- numbers
theorem ilt_irr (a : Int32) : ¬ a < a := Int32.lt_irrefl
theorem inb_nI {i n : Nat} (h : i < n) (hn : n < 2 ^ 31) : inb (nI i) n = true := by
  unfold inb
  rw [nI_clamp (by omega)]
  simp [nI_pos (show i < 2 ^ 31 by omega), h]
theorem nI_nm1 {i : Nat} (h : i < 2 ^ 31) : (nI i = -1) = False := by
  refine eq_false (fun e => ?_)
  have h1 := congrArg Int32.toInt e
  rw [nI_toInt h] at h1
  have h2 : (-1 : Int32).toInt = -1 := by decide
  omega
theorem nI_lt0 {i : Nat} (h : i < 2 ^ 31) : (nI i < 0) = False := eq_false (nI_pos h)
theorem nI_ge0 {i : Nat} (h : i < 2 ^ 31) : ((0 : Int32) ≤ nI i) = True := eq_true (nI_pos' h)
theorem nI_eq0 {i : Nat} (h : i < 2 ^ 31) : (nI i = 0) = (i = 0) := propext (nI_eq (b := 0) h (by decide))
theorem nI_leE {a b : Nat} (ha : a < 2 ^ 31) (hb : b < 2 ^ 31) : (nI a ≤ nI b) = (a ≤ b) := propext (nI_leI ha hb)
theorem nI_ltE {a b : Nat} (ha : a < 2 ^ 31) (hb : b < 2 ^ 31) : (nI a < nI b) = (a < b) := propext (nI_ltI ha hb)
theorem nI_eqE {a b : Nat} (ha : a < 2 ^ 31) (hb : b < 2 ^ 31) : (nI a = nI b) = (a = b) := propext (nI_eq ha hb)
theorem nI_le_m1 {i : Nat} (h : i < 2 ^ 31) : (nI i ≤ -1) = False := by
  refine eq_false (fun e => ?_)
  have h1 := Int32.le_iff_toInt_le.mp e
  rw [nI_toInt h] at h1
  have h2 : (-1 : Int32).toInt = -1 := by decide
  omega
theorem m1_lt0 : ((-1 : Int32) < 0) = True := eq_true (by decide)
theorem m1_eq : ((-1 : Int32) = -1) = True := eq_true rfl
theorem nI_s1 {n : Nat} (h : 0 < n) : nI n - 1 = nI (n - 1) := by
  obtain ⟨m, rfl⟩ : ∃ m, n = m + 1 := ⟨n - 1, by omega⟩
  exact nI_pred m
theorem nI_a1 {n : Nat} (h : 0 < n) : nI n + (-1) = nI (n - 1) := sb_m1 h
theorem z_1 : (0 : Int32) - 1 = -1 := by decide
theorem d0 : (0 : Int32) = nI 0 := rfl
theorem d1 : (1 : Int32) = nI 1 := rfl
theorem d2 : (2 : Int32) = nI 2 := rfl
theorem d3 : (3 : Int32) = nI 3 := rfl
theorem d4 : (4 : Int32) = nI 4 := rfl
theorem d5 : (5 : Int32) = nI 5 := rfl
theorem d6 : (6 : Int32) = nI 6 := rfl
theorem d7 : (7 : Int32) = nI 7 := rfl
theorem d8 : (8 : Int32) = nI 8 := rfl
theorem d15 : (15 : Int32) = nI 15 := rfl
theorem d16 : (16 : Int32) = nI 16 := rfl
theorem d31 : (31 : Int32) = nI 31 := rfl
theorem d32 : (32 : Int32) = nI 32 := rfl
theorem d40 : (40 : Int32) = nI 40 := rfl
theorem d64 : (64 : Int32) = nI 64 := rfl
theorem d120 : (120 : Int32) = nI 120 := rfl
theorem d193 : (193 : Int32) = nI 193 := rfl
theorem d300 : (300 : Int32) = nI 300 := rfl
theorem upd_s {f : Nat → Int32} {k : Nat} {x : Int32} : upd f k x k = x := if_pos rfl
theorem upd_o {f : Nat → Int32} {k : Nat} {x : Int32} {j : Nat} (h : j ≠ k) : upd f k x j = f j := if_neg h
theorem upd_a (f : Nat → Int32) (k : Nat) (x : Int32) (j : Nat) : upd f k x j = if j = k then x else f j := rfl
theorem cpy_a {α : Type} (f g : Nat → α) (sp dp n j : Nat) : va_cpy f g sp dp n j = if dp ≤ j ∧ j < dp + n then f (sp + (j - dp)) else g j := rfl
theorem cpyok_nI {a b n A B : Nat} (h1 : a + n ≤ A) (h2 : b + n ≤ B) (hA : A < 2 ^ 31) (hB : B < 2 ^ 31) : cpyok (nI a) (nI b) (nI n) A B = true := by
  unfold cpyok
  rw [nI_clamp (show a < 2 ^ 31 by omega), nI_clamp (show b < 2 ^ 31 by omega), nI_clamp (show n < 2 ^ 31 by omega)]
  simp [nI_pos (show a < 2 ^ 31 by omega), nI_pos (show b < 2 ^ 31 by omega), nI_pos (show n < 2 ^ 31 by omega), h1, h2]
/-- fill of a whole row -/
theorem ok_fill {n : Nat} (hn : n < 5000) (x : IA) (c : Int32) : Ok (fJ7_fill_53178 n x c) (fun y => ∀ i, i < n → y i = c) := by
  unfold fJ7_fill_53178
  rw [ok_keep]
  refine ok_iter (fun m s => ∃ i, m = n - i ∧ i ≤ n ∧ s.2 = nI i ∧ ∀ j, j < i → s.1 j = c) _ ?_ FU n (x, 0) ⟨0, by omega, by omega, rfl, fun j h => by omega⟩ (by unfold FU; omega)
  rintro m ⟨x, v⟩ rec ⟨i, hm, hi, hv, hc⟩ hrec
  dsimp only at hv hc
  subst hv
  unfold fJ7_fill_53178_5
  simp (disch := omega) only [ok_if, ok_chk, ok_keep, ok_some, nI_leE, nI_clamp, nI_1]
  refine ⟨fun h j hj => hc j (by omega), fun h => ⟨inb_nI (by omega) (by omega), hrec (n - (i + 1)) _ (by omega) ⟨i + 1, rfl, by omega, rfl, fun j hj => ?_⟩⟩⟩
  dsimp only
  by_cases e : j = i
  · subst e; exact upd_s
  · rw [upd_o e]; exact hc j (by omega)
