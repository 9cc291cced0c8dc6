theorem pk_us {f : Nat → Int32} {k : Nat} {x : Int32} : upd f k x k = x := if_pos rfl
theorem pk_un {f : Nat → Int32} {k j : Nat} {x : Int32} (h : j ≠ k) : upd f k x j = f j := if_neg h
theorem pk_sub {a b : Nat} (h : b ≤ a) : nI a - nI b = nI (a - b) := by
  obtain ⟨c, rfl⟩ : ∃ c, a = c + b := ⟨a - b, by omega⟩
  rw [← nI_add, Int32.add_sub_cancel, Nat.add_sub_cancel]
theorem pk_m1 (n : Nat) : nI (n + 1) + (-1) = nI n := by
  rw [← nI_1, Int32.add_assoc, show (1 : Int32) + (-1) = 0 from rfl, Int32.add_zero]
theorem pk_ix (x : Int32) {n : Nat} (hn : n < 2 ^ 31) : x < 0 ∨ nI n ≤ x ∨ ∃ j : Nat, j < n ∧ x = nI j := by
  by_cases h : x < 0
  · exact Or.inl h
  · obtain ⟨j, hj, rfl⟩ := nI_of h
    by_cases h2 : j < n
    · exact Or.inr (Or.inr ⟨j, h2, rfl⟩)
    · exact Or.inr (Or.inl (nI_le (by omega) hj))
def bt (x : Int32) (i : Nat) : Bool := x.toBitVec.getLsbD i
theorem b_ext {x y : Int32} (h : ∀ i, i < 32 → bt x i = bt y i) : x = y := Int32.toBitVec_inj.mp (BitVec.eq_of_getLsbD_eq (fun i hi => h i hi))
theorem b_or (x y : Int32) (i : Nat) : bt (x ||| y) i = (bt x i || bt y i) := by unfold bt; rw [Int32.toBitVec_or, BitVec.getLsbD_or]
theorem b_and (x y : Int32) (i : Nat) : bt (x &&& y) i = (bt x i && bt y i) := by unfold bt; rw [Int32.toBitVec_and, BitVec.getLsbD_and]
theorem b_xor (x y : Int32) (i : Nat) : bt (x ^^^ y) i = (bt x i ^^ bt y i) := by unfold bt; rw [Int32.toBitVec_xor, BitVec.getLsbD_xor]
theorem b_big {x : Int32} {i : Nat} (h : 32 ≤ i) : bt x i = false := BitVec.getLsbD_of_ge _ _ h
theorem b_m1 : ∀ i, i < 32 → bt (-1) i = true := by decide +kernel
theorem b_0 (i : Nat) : bt 0 i = false := BitVec.getLsbD_zero
theorem s_l : ∀ n, n < 32 → ((nI n &&& 31).toBitVec.smod 32).toNat = n := by decide +kernel
theorem b_shl (n : Nat) (hn : n < 32) (x : Int32) {i : Nat} (hi : i < 32) : bt (x <<< (nI n &&& 31)) i = (decide (n ≤ i) && bt x (i - n)) := by
  unfold bt
  rw [Int32.toBitVec_shiftLeft]
  show (x.toBitVec <<< ((nI n &&& 31).toBitVec.smod 32).toNat).getLsbD i = _
  rw [s_l n hn, BitVec.getLsbD_shiftLeft]
  rcases Nat.lt_or_ge i n with h | h
  · simp [h, Nat.not_le.mpr h]
  · simp [hi, h, Nat.not_lt.mpr h]
theorem b_sshr (n : Nat) (hn : n < 32) (x : Int32) {i : Nat} (hi : i < 32) : bt (x >>> (nI n &&& 31)) i = if n + i < 32 then bt x (n + i) else bt x 31 := by
  unfold bt
  rw [Int32.toBitVec_shiftRight]
  show (x.toBitVec.sshiftRight ((nI n &&& 31).toBitVec.smod 32).toNat).getLsbD i = _
  rw [s_l n hn, BitVec.getLsbD_sshiftRight, BitVec.msb_eq_getLsbD_last]
  simp [hi]
theorem gs_b1 (i : Nat) : bt 1 i = decide (i = 0) := by
  rcases Nat.lt_or_ge i 32 with h | h
  · exact (by decide +kernel : ∀ i, i < 32 → bt 1 i = decide (i = 0)) i h
  · rw [b_big h, decide_eq_false (by omega)]
theorem gs_sh1 {j : Nat} (hj : j < 16) (i : Nat) : bt ((1 : Int32) <<< (nI j &&& 31)) i = decide (i = j) := by
  rcases Nat.lt_or_ge i 32 with h | h
  · rw [b_shl j (by omega) 1 h, gs_b1]
    by_cases e : i = j
    · subst e; simp
    · rcases Nat.lt_or_ge i j with l | l
      · simp [Nat.not_le.mpr l, e]
      · have z : ¬ (i - j = 0) := by omega
        simp [z, e]
  · rw [b_big h, decide_eq_false (by omega)]
theorem gs_bit {j : Nat} (hj : j < 16) (m : Int32) : (m >>> (nI j &&& 31)) &&& 1 = if bt m j = true then 1 else 0 := by
  apply b_ext
  intro i hi
  rw [b_and, gs_b1, b_sshr j (by omega) m hi]
  by_cases e : i = 0
  · subst e
    rw [Nat.add_zero, if_pos (by omega)]
    cases bt m j
    · simp [b_0]
    · simp [gs_b1]
  · cases bt m j
    · simp [b_0, e]
    · simp [gs_b1, e]
theorem gs_bit1 {j : Nat} (hj : j < 16) (m : Int32) : (m >>> (nI j &&& 31)) &&& 1 = 1 ↔ bt m j = true := by
  rw [gs_bit hj]
  cases bt m j
  · exact ⟨fun h => absurd h (by decide), fun h => absurd h (by decide)⟩
  · exact ⟨fun _ => rfl, fun _ => rfl⟩
/-- bit j set -/
theorem gs_bor {j : Nat} (hj : j < 16) (m : Int32) (i : Nat) : bt (m ||| ((1 : Int32) <<< (nI j &&& 31))) i = (bt m i || decide (i = j)) := by
  rw [b_or, gs_sh1 hj]
/-- bit j cleared -/
theorem gs_bcl {j : Nat} (hj : j < 16) (m : Int32) (i : Nat) : bt (m &&& (((1 : Int32) <<< (nI j &&& 31)) ^^^ (-1))) i = (bt m i && !decide (i = j)) := by
  rcases Nat.lt_or_ge i 32 with h | h
  · rw [b_and, b_xor, gs_sh1 hj, b_m1 i h, Bool.xor_true]
  · rw [b_big h, b_big h, Bool.false_and]
theorem gs_nm1 {i : Nat} (h : i < 2 ^ 31) : ¬ nI i = -1 := fun e => nI_pos h (by rw [e]; decide)
theorem gs_16 : nI 16 = 16 := by decide +kernel
/-- the row of records -/
def gs_rc (K V P : Nat → Int32) (j : Nat) : Int32 × Int32 × Int32 := (K j, V j, P j)
def gs_last (R : Nat → Int32 × Int32 × Int32) (k : Int32) : Nat → Option Nat
  | 0 => none
  | n + 1 => if (R n).1 = k then some n else gs_last R k n
def gs_val (r : Int32 × Int32 × Int32) : Option Int32 := if r.2.2 = 0 then none else some r.2.1
/-- what the first n records tell -/
def gs_pic (R : Nat → Int32 × Int32 × Int32) : Nat → Int32 → Option Int32
  | 0 => fun _ => none
  | n + 1 => fun k => if (R n).1 = k then gs_val (R n) else gs_pic R n k
theorem gs_l0 {R : Nat → Int32 × Int32 × Int32} {k : Int32} : ∀ {n : Nat}, gs_last R k n = none → gs_pic R n k = none := by
  intro n
  induction n with
  | zero => exact fun _ => rfl
  | succ n ih =>
    intro h
    unfold gs_last at h
    unfold gs_pic
    by_cases e : (R n).1 = k
    · rw [if_pos e] at h; exact nomatch h
    · rw [if_neg e] at h ⊢; exact ih h
theorem gs_l1 {R : Nat → Int32 × Int32 × Int32} {k : Int32} {i : Nat} : ∀ {n : Nat}, gs_last R k n = some i → i < n ∧ (R i).1 = k ∧ gs_pic R n k = gs_val (R i) := by
  intro n
  induction n with
  | zero => exact fun h => nomatch h
  | succ n ih =>
    intro h
    unfold gs_last at h
    unfold gs_pic
    by_cases e : (R n).1 = k
    · rw [if_pos e] at h
      cases h
      exact ⟨by omega, e, if_pos e⟩
    · rw [if_neg e] at h
      have ⟨a, b, c⟩ := ih h
      exact ⟨by omega, b, (if_neg e).trans c⟩
theorem gs_fr {R S : Nat → Int32 × Int32 × Int32} (k : Int32) : ∀ n : Nat, (∀ j, j < n → R j = S j) → gs_pic R n k = gs_pic S n k := by
  intro n
  induction n with
  | zero => exact fun _ => rfl
  | succ n ih =>
    intro h
    unfold gs_pic
    rw [h n (by omega), ih (fun j hj => h j (by omega))]
/-- a look back that meets k at i at the latest sees nothing below i -/
theorem gs_ag {R S : Nat → Int32 × Int32 × Int32} {k : Int32} {i : Nat} : ∀ {e : Nat}, i < e → (∀ j, i ≤ j → R j = S j) → (S i).1 = k → gs_last R k e = gs_last S k e ∧ ∃ m, gs_last S k e = some m ∧ i ≤ m := by
  intro e
  induction e with
  | zero => exact fun h => absurd h (by omega)
  | succ e ih =>
    intro hi h hk
    unfold gs_last
    rw [h e (by omega)]
    by_cases z : (S e).1 = k
    · rw [if_pos z, if_pos z]; exact ⟨rfl, e, rfl, by omega⟩
    · rw [if_neg z, if_neg z]
      have ne : i ≠ e := fun q => z (by rw [← q]; exact hk)
      exact ih (by omega) h hk
theorem gs_seg {R : Nat → Int32 × Int32 × Int32} {k : Int32} {f : Nat} : ∀ {e : Nat}, f ≤ e → (∀ m, gs_last R k e = some m → m < f) → gs_pic R e k = gs_pic R f k := by
  intro e
  induction e with
  | zero => intro h _; cases Nat.le_zero.mp h; rfl
  | succ e ih =>
    intro hf h
    rcases Nat.lt_or_ge e f with l | l
    · have q : f = e + 1 := by omega
      rw [q]
    · unfold gs_last at h
      by_cases z : (R e).1 = k
      · rw [if_pos z] at h
        exact absurd (h e rfl) (by omega)
      · rw [if_neg z] at h
        have q : gs_pic R (e + 1) k = gs_pic R e k := if_neg z
        rw [q]
        exact ih l h
theorem gs_s {R : Nat → Int32 × Int32 × Int32} {n : Nat} {k : Int32} (h : (R n).1 = k) : gs_pic R (n + 1) k = gs_val (R n) := if_pos h
theorem gs_n {R : Nat → Int32 × Int32 × Int32} {n : Nat} {k : Int32} (h : ¬ (R n).1 = k) : gs_pic R (n + 1) k = gs_pic R n k := if_neg h
/-- a record stored at t -/
theorem gs_us {K V P : Nat → Int32} {t : Nat} {a b c : Int32} : gs_rc (upd K t a) (upd V t b) (upd P t c) t = (a, b, c) := by
  unfold gs_rc; rw [pk_us, pk_us, pk_us]
theorem gs_un {K V P : Nat → Int32} {t j : Nat} {a b c : Int32} (h : j ≠ t) : gs_rc (upd K t a) (upd V t b) (upd P t c) j = gs_rc K V P j := by
  unfold gs_rc; rw [pk_un h, pk_un h, pk_un h]
/-- a mask and an array tell f -/
def gs_Y (m : Int32) (a : Nat → Int32) (f : Int32 → Option Int32) : Prop :=
  (∀ j, j < 16 → bt m j = (f (nI j)).isSome) ∧ (∀ j x, j < 16 → f (nI j) = some x → a j = x) ∧ (∀ j, 16 ≤ j → bt m j = false) ∧ (∀ k, (k < 0 ∨ nI 16 ≤ k) → f k = none)
theorem gs_Yc {m : Int32} {a b : Nat → Int32} {f g : Int32 → Option Int32} (h : gs_Y m a f) (hb : ∀ j, j < 16 → b j = a j) (hf : ∀ k, g k = f k) : gs_Y m b g :=
  ⟨fun j hj => by rw [hf]; exact h.1 j hj, fun j x hj e => (hb j hj).trans (h.2.1 j x hj (by rw [← hf]; exact e)), h.2.2.1, fun k hk => (hf k).trans (h.2.2.2 k hk)⟩
theorem gs_eq16 {i j : Nat} (hi : i < 16) (hj : j < 16) : nI i = nI j ↔ i = j := nI_eq (by omega) (by omega)
/-- put -/
theorem gs_Yp {m : Int32} {a : Nat → Int32} {f g : Int32 → Option Int32} {j : Nat} {x : Int32} (hj : j < 16) (h : gs_Y m a f) (h1 : g (nI j) = some x) (h2 : ∀ k, k ≠ nI j → g k = f k) : gs_Y (m ||| ((1 : Int32) <<< (nI j &&& 31))) (upd a j x) g := by
  refine ⟨fun i hi => ?_, fun i y hi e => ?_, fun i hi => ?_, fun k hk => ?_⟩
  · rw [gs_bor hj]
    by_cases q : i = j
    · subst q; rw [h1]; simp
    · rw [h2 _ (fun z => q ((gs_eq16 hi hj).mp z)), h.1 i hi, decide_eq_false q, Bool.or_false]
  · by_cases q : i = j
    · subst q; rw [h1] at e; cases e; exact pk_us
    · rw [h2 _ (fun z => q ((gs_eq16 hi hj).mp z))] at e
      rw [pk_un q]; exact h.2.1 i y hi e
  · rw [gs_bor hj, h.2.2.1 i hi, decide_eq_false (by omega)]; rfl
  · refine (h2 k (fun z => ?_)).trans (h.2.2.2 k hk)
    subst z
    rcases hk with l | l
    · exact nI_pos (by omega) l
    · exact nI_ge hj (by omega) l
/-- remove -/
theorem gs_Yr {m : Int32} {a : Nat → Int32} {f g : Int32 → Option Int32} {j : Nat} (hj : j < 16) (h : gs_Y m a f) (h1 : g (nI j) = none) (h2 : ∀ k, k ≠ nI j → g k = f k) : gs_Y (m &&& (((1 : Int32) <<< (nI j &&& 31)) ^^^ (-1))) a g := by
  refine ⟨fun i hi => ?_, fun i y hi e => ?_, fun i hi => ?_, fun k hk => ?_⟩
  · rw [gs_bcl hj]
    by_cases q : i = j
    · subst q; rw [h1]; simp
    · rw [h2 _ (fun z => q ((gs_eq16 hi hj).mp z)), h.1 i hi, decide_eq_false q, Bool.not_false, Bool.and_true]
  · by_cases q : i = j
    · subst q; rw [h1] at e; exact nomatch e
    · rw [h2 _ (fun z => q ((gs_eq16 hi hj).mp z))] at e
      exact h.2.1 i y hi e
  · rw [gs_bcl hj, h.2.2.1 i hi, Bool.false_and]
  · refine (h2 k (fun z => ?_)).trans (h.2.2.2 k hk)
    subst z
    rcases hk with l | l
    · exact nI_pos (by omega) l
    · exact nI_ge hj (by omega) l
