section
theorem pk_us {f : Nat → Int32} {k : Nat} {x : Int32} : upd f k x k = x := if_pos rfl
theorem pk_un {f : Nat → Int32} {k j : Nat} {x : Int32} (h : j ≠ k) : upd f k x j = f j := if_neg h
theorem pk_sub {a b : Nat} (h : b ≤ a) : nI a - nI b = nI (a - b) := by
  obtain ⟨c, rfl⟩ : ∃ c, a = c + b := ⟨a - b, by omega⟩
  rw [← nI_add, Int32.add_sub_cancel, Nat.add_sub_cancel]
theorem pk_m1 (n : Nat) : nI (n + 1) + (-1) = nI n := by
  rw [← nI_1, Int32.add_assoc, show (1 : Int32) + (-1) = 0 from rfl, Int32.add_zero]
theorem pk_ix (x : Int32) {n : Nat} (hn : n < 2 ^ 31) : x < 0 ∨ nI n ≤ x ∨ ∃ j : Nat, j < n ∧ x = nI j := by
  by_cases h : x < 0
  · exact Or.inl h
  · obtain ⟨j, hj, rfl⟩ := nI_of h
    by_cases h2 : j < n
    · exact Or.inr (Or.inr ⟨j, h2, rfl⟩)
    · exact Or.inr (Or.inl (nI_le (by omega) hj))
def bt (x : Int32) (i : Nat) : Bool := x.toBitVec.getLsbD i
theorem b_ext {x y : Int32} (h : ∀ i, i < 32 → bt x i = bt y i) : x = y := Int32.toBitVec_inj.mp (BitVec.eq_of_getLsbD_eq (fun i hi => h i hi))
theorem b_or (x y : Int32) (i : Nat) : bt (x ||| y) i = (bt x i || bt y i) := by unfold bt; rw [Int32.toBitVec_or, BitVec.getLsbD_or]
theorem b_and (x y : Int32) (i : Nat) : bt (x &&& y) i = (bt x i && bt y i) := by unfold bt; rw [Int32.toBitVec_and, BitVec.getLsbD_and]
theorem b_xor (x y : Int32) (i : Nat) : bt (x ^^^ y) i = (bt x i ^^ bt y i) := by unfold bt; rw [Int32.toBitVec_xor, BitVec.getLsbD_xor]
theorem b_big {x : Int32} {i : Nat} (h : 32 ≤ i) : bt x i = false := BitVec.getLsbD_of_ge _ _ h
theorem b_m1 : ∀ i, i < 32 → bt (-1) i = true := by decide +kernel
theorem b_0 (i : Nat) : bt 0 i = false := BitVec.getLsbD_zero
theorem s_l : ∀ n, n < 32 → ((nI n &&& 31).toBitVec.smod 32).toNat = n := by decide +kernel
theorem b_shl (n : Nat) (hn : n < 32) (x : Int32) {i : Nat} (hi : i < 32) : bt (x <<< (nI n &&& 31)) i = (decide (n ≤ i) && bt x (i - n)) := by
  unfold bt
  rw [Int32.toBitVec_shiftLeft]
  show (x.toBitVec <<< ((nI n &&& 31).toBitVec.smod 32).toNat).getLsbD i = _
  rw [s_l n hn, BitVec.getLsbD_shiftLeft]
  rcases Nat.lt_or_ge i n with h | h
  · simp [h, Nat.not_le.mpr h]
  · simp [hi, h, Nat.not_lt.mpr h]
theorem b_sshr (n : Nat) (hn : n < 32) (x : Int32) {i : Nat} (hi : i < 32) : bt (x >>> (nI n &&& 31)) i = if n + i < 32 then bt x (n + i) else bt x 31 := by
  unfold bt
  rw [Int32.toBitVec_shiftRight]
  show (x.toBitVec.sshiftRight ((nI n &&& 31).toBitVec.smod 32).toNat).getLsbD i = _
  rw [s_l n hn, BitVec.getLsbD_sshiftRight, BitVec.msb_eq_getLsbD_last]
  simp [hi]
theorem gs_b1 (i : Nat) : bt 1 i = decide (i = 0) := by
  rcases Nat.lt_or_ge i 32 with h | h
  · exact (by decide +kernel : ∀ i, i < 32 → bt 1 i = decide (i = 0)) i h
  · rw [b_big h, decide_eq_false (by omega)]
theorem gs_sh1 {j : Nat} (hj : j < 16) (i : Nat) : bt ((1 : Int32) <<< (nI j &&& 31)) i = decide (i = j) := by
  rcases Nat.lt_or_ge i 32 with h | h
  · rw [b_shl j (by omega) 1 h, gs_b1]
    by_cases e : i = j
    · subst e; simp
    · rcases Nat.lt_or_ge i j with l | l
      · simp [Nat.not_le.mpr l, e]
      · have z : ¬ (i - j = 0) := by omega
        simp [z, e]
  · rw [b_big h, decide_eq_false (by omega)]
theorem gs_bit {j : Nat} (hj : j < 16) (m : Int32) : (m >>> (nI j &&& 31)) &&& 1 = if bt m j = true then 1 else 0 := by
  apply b_ext
  intro i hi
  rw [b_and, gs_b1, b_sshr j (by omega) m hi]
  by_cases e : i = 0
  · subst e
    rw [Nat.add_zero, if_pos (by omega)]
    cases bt m j
    · simp [b_0]
    · simp [gs_b1]
  · cases bt m j
    · simp [b_0, e]
    · simp [gs_b1, e]
theorem gs_bit1 {j : Nat} (hj : j < 16) (m : Int32) : (m >>> (nI j &&& 31)) &&& 1 = 1 ↔ bt m j = true := by
  rw [gs_bit hj]
  cases bt m j
  · exact ⟨fun h => absurd h (by decide), fun h => absurd h (by decide)⟩
  · exact ⟨fun _ => rfl, fun _ => rfl⟩
/-- bit j set -/
theorem gs_bor {j : Nat} (hj : j < 16) (m : Int32) (i : Nat) : bt (m ||| ((1 : Int32) <<< (nI j &&& 31))) i = (bt m i || decide (i = j)) := by
  rw [b_or, gs_sh1 hj]
/-- bit j cleared -/
theorem gs_bcl {j : Nat} (hj : j < 16) (m : Int32) (i : Nat) : bt (m &&& (((1 : Int32) <<< (nI j &&& 31)) ^^^ (-1))) i = (bt m i && !decide (i = j)) := by
  rcases Nat.lt_or_ge i 32 with h | h
  · rw [b_and, b_xor, gs_sh1 hj, b_m1 i h, Bool.xor_true]
  · rw [b_big h, b_big h, Bool.false_and]
theorem gs_nm1 {i : Nat} (h : i < 2 ^ 31) : ¬ nI i = -1 := fun e => nI_pos h (by rw [e]; decide)
theorem gs_16 : nI 16 = 16 := by decide +kernel
/-- the row of records -/
def gs_rc (K V P : Nat → Int32) (j : Nat) : Int32 × Int32 × Int32 := (K j, V j, P j)
def gs_last (R : Nat → Int32 × Int32 × Int32) (k : Int32) : Nat → Option Nat
  | 0 => none
  | n + 1 => if (R n).1 = k then some n else gs_last R k n
def gs_val (r : Int32 × Int32 × Int32) : Option Int32 := if r.2.2 = 0 then none else some r.2.1
/-- what the first n records tell -/
def gs_pic (R : Nat → Int32 × Int32 × Int32) : Nat → Int32 → Option Int32
  | 0 => fun _ => none
  | n + 1 => fun k => if (R n).1 = k then gs_val (R n) else gs_pic R n k
theorem gs_l0 {R : Nat → Int32 × Int32 × Int32} {k : Int32} : ∀ {n : Nat}, gs_last R k n = none → gs_pic R n k = none := by
  intro n
  induction n with
  | zero => exact fun _ => rfl
  | succ n ih =>
    intro h
    unfold gs_last at h
    unfold gs_pic
    by_cases e : (R n).1 = k
    · rw [if_pos e] at h; exact nomatch h
    · rw [if_neg e] at h ⊢; exact ih h
theorem gs_l1 {R : Nat → Int32 × Int32 × Int32} {k : Int32} {i : Nat} : ∀ {n : Nat}, gs_last R k n = some i → i < n ∧ (R i).1 = k ∧ gs_pic R n k = gs_val (R i) := by
  intro n
  induction n with
  | zero => exact fun h => nomatch h
  | succ n ih =>
    intro h
    unfold gs_last at h
    unfold gs_pic
    by_cases e : (R n).1 = k
    · rw [if_pos e] at h
      cases h
      exact ⟨by omega, e, if_pos e⟩
    · rw [if_neg e] at h
      have ⟨a, b, c⟩ := ih h
      exact ⟨by omega, b, (if_neg e).trans c⟩
theorem gs_fr {R S : Nat → Int32 × Int32 × Int32} (k : Int32) : ∀ n : Nat, (∀ j, j < n → R j = S j) → gs_pic R n k = gs_pic S n k := by
  intro n
  induction n with
  | zero => exact fun _ => rfl
  | succ n ih =>
    intro h
    unfold gs_pic
    rw [h n (by omega), ih (fun j hj => h j (by omega))]
/-- a look back that meets k at i at the latest sees nothing below i -/
theorem gs_ag {R S : Nat → Int32 × Int32 × Int32} {k : Int32} {i : Nat} : ∀ {e : Nat}, i < e → (∀ j, i ≤ j → R j = S j) → (S i).1 = k → gs_last R k e = gs_last S k e ∧ ∃ m, gs_last S k e = some m ∧ i ≤ m := by
  intro e
  induction e with
  | zero => exact fun h => absurd h (by omega)
  | succ e ih =>
    intro hi h hk
    unfold gs_last
    rw [h e (by omega)]
    by_cases z : (S e).1 = k
    · rw [if_pos z, if_pos z]; exact ⟨rfl, e, rfl, by omega⟩
    · rw [if_neg z, if_neg z]
      have ne : i ≠ e := fun q => z (by rw [← q]; exact hk)
      exact ih (by omega) h hk
theorem gs_seg {R : Nat → Int32 × Int32 × Int32} {k : Int32} {f : Nat} : ∀ {e : Nat}, f ≤ e → (∀ m, gs_last R k e = some m → m < f) → gs_pic R e k = gs_pic R f k := by
  intro e
  induction e with
  | zero => intro h _; cases Nat.le_zero.mp h; rfl
  | succ e ih =>
    intro hf h
    rcases Nat.lt_or_ge e f with l | l
    · have q : f = e + 1 := by omega
      rw [q]
    · unfold gs_last at h
      by_cases z : (R e).1 = k
      · rw [if_pos z] at h
        exact absurd (h e rfl) (by omega)
      · rw [if_neg z] at h
        have q : gs_pic R (e + 1) k = gs_pic R e k := if_neg z
        rw [q]
        exact ih l h
theorem gs_s {R : Nat → Int32 × Int32 × Int32} {n : Nat} {k : Int32} (h : (R n).1 = k) : gs_pic R (n + 1) k = gs_val (R n) := if_pos h
theorem gs_n {R : Nat → Int32 × Int32 × Int32} {n : Nat} {k : Int32} (h : ¬ (R n).1 = k) : gs_pic R (n + 1) k = gs_pic R n k := if_neg h
/-- a record stored at t -/
theorem gs_us {K V P : Nat → Int32} {t : Nat} {a b c : Int32} : gs_rc (upd K t a) (upd V t b) (upd P t c) t = (a, b, c) := by
  unfold gs_rc; rw [pk_us, pk_us, pk_us]
theorem gs_un {K V P : Nat → Int32} {t j : Nat} {a b c : Int32} (h : j ≠ t) : gs_rc (upd K t a) (upd V t b) (upd P t c) j = gs_rc K V P j := by
  unfold gs_rc; rw [pk_un h, pk_un h, pk_un h]
/-- a mask and an array tell f -/
def gs_Y (m : Int32) (a : Nat → Int32) (f : Int32 → Option Int32) : Prop :=
  (∀ j, j < 16 → bt m j = (f (nI j)).isSome) ∧ (∀ j x, j < 16 → f (nI j) = some x → a j = x) ∧ (∀ j, 16 ≤ j → bt m j = false) ∧ (∀ k, (k < 0 ∨ nI 16 ≤ k) → f k = none)
theorem gs_Yc {m : Int32} {a b : Nat → Int32} {f g : Int32 → Option Int32} (h : gs_Y m a f) (hb : ∀ j, j < 16 → b j = a j) (hf : ∀ k, g k = f k) : gs_Y m b g :=
  ⟨fun j hj => by rw [hf]; exact h.1 j hj, fun j x hj e => (hb j hj).trans (h.2.1 j x hj (by rw [← hf]; exact e)), h.2.2.1, fun k hk => (hf k).trans (h.2.2.2 k hk)⟩
theorem gs_eq16 {i j : Nat} (hi : i < 16) (hj : j < 16) : nI i = nI j ↔ i = j := nI_eq (by omega) (by omega)
/-- put -/
theorem gs_Yp {m : Int32} {a : Nat → Int32} {f g : Int32 → Option Int32} {j : Nat} {x : Int32} (hj : j < 16) (h : gs_Y m a f) (h1 : g (nI j) = some x) (h2 : ∀ k, k ≠ nI j → g k = f k) : gs_Y (m ||| ((1 : Int32) <<< (nI j &&& 31))) (upd a j x) g := by
  refine ⟨fun i hi => ?_, fun i y hi e => ?_, fun i hi => ?_, fun k hk => ?_⟩
  · rw [gs_bor hj]
    by_cases q : i = j
    · subst q; rw [h1]; simp
    · rw [h2 _ (fun z => q ((gs_eq16 hi hj).mp z)), h.1 i hi, decide_eq_false q, Bool.or_false]
  · by_cases q : i = j
    · subst q; rw [h1] at e; cases e; exact pk_us
    · rw [h2 _ (fun z => q ((gs_eq16 hi hj).mp z))] at e
      rw [pk_un q]; exact h.2.1 i y hi e
  · rw [gs_bor hj, h.2.2.1 i hi, decide_eq_false (by omega)]; rfl
  · refine (h2 k (fun z => ?_)).trans (h.2.2.2 k hk)
    subst z
    rcases hk with l | l
    · exact nI_pos (by omega) l
    · exact nI_ge hj (by omega) l
/-- remove -/
theorem gs_Yr {m : Int32} {a : Nat → Int32} {f g : Int32 → Option Int32} {j : Nat} (hj : j < 16) (h : gs_Y m a f) (h1 : g (nI j) = none) (h2 : ∀ k, k ≠ nI j → g k = f k) : gs_Y (m &&& (((1 : Int32) <<< (nI j &&& 31)) ^^^ (-1))) a g := by
  refine ⟨fun i hi => ?_, fun i y hi e => ?_, fun i hi => ?_, fun k hk => ?_⟩
  · rw [gs_bcl hj]
    by_cases q : i = j
    · subst q; rw [h1]; simp
    · rw [h2 _ (fun z => q ((gs_eq16 hi hj).mp z)), h.1 i hi, decide_eq_false q, Bool.not_false, Bool.and_true]
  · by_cases q : i = j
    · subst q; rw [h1] at e; exact nomatch e
    · rw [h2 _ (fun z => q ((gs_eq16 hi hj).mp z))] at e
      exact h.2.1 i y hi e
  · rw [gs_bcl hj, h.2.2.1 i hi, Bool.false_and]
  · refine (h2 k (fun z => ?_)).trans (h.2.2.2 k hk)
    subst z
    rcases hk with l | l
    · exact nI_pos (by omega) l
    · exact nI_ge hj (by omega) l
end
section
theorem gx_lr (fs fc fw fo : Int32) (K V P : Nat → Int32) (k : Int32) (post : Int32 → Prop) : ∀ n : Nat, n ≤ 512 → (gs_last (gs_rc K V P) k n = none → post (-1)) → (∀ i, gs_last (gs_rc K V P) k n = some i → post (nI i)) → wX_lastRecord_4 post k fs fc fw fo K V P (n + 1) (nI n - 1) := by
  intro n
  induction n with
  | zero =>
    intro _ h0 _
    exact br_t (by decide +kernel) (h0 rfl)
  | succ n ih =>
    intro hn h0 h1
    rw [nI_pred]
    have hc : (nI n).toNatClampNeg = n := nI_clamp (by omega)
    refine br_f (nI_pos (by omega)) ⟨vp_in_nI (by omega) (by omega), ?_⟩
    by_cases e : K (nI n).toNatClampNeg = k
    · refine br_t e (h1 n ?_)
      rw [hc] at e
      exact if_pos e
    · refine br_f e (fun y ey => ?_)
      rw [hc] at e
      have q : gs_last (gs_rc K V P) k (n + 1) = gs_last (gs_rc K V P) k n := if_neg e
      rw [ey, ← Int32.sub_eq_add_neg]
      exact ih (by omega) (fun h => h0 (q.trans h)) (fun i h => h1 i (q.trans h))
theorem gx_last (fs fc fw fo : Int32) (K V P : Nat → Int32) (k : Int32) (post : Int32 → Prop) {n : Nat} (hn : n ≤ 512) (h0 : gs_last (gs_rc K V P) k n = none → post (-1)) (h1 : ∀ i, gs_last (gs_rc K V P) k n = some i → post (nI i)) : wpX_lastRecord post (fs, fc, fw, fo, K, V, P) k (nI n) :=
  fun y ey => ⟨n + 1, by rw [ey]; exact gx_lr fs fc fw fo K V P k post n hn h0 h1⟩
theorem gx_there (fs fc fw fo : Int32) (K V P : Nat → Int32) (k : Int32) (post : Int32 → Prop) {n : Nat} (hn : n ≤ 512) (h0 : gs_pic (gs_rc K V P) n k = none → post 0) (h1 : ∀ x, gs_pic (gs_rc K V P) n k = some x → post 1) : wpX_isThere post (fs, fc, fw, fo, K, V, P) k (nI n) := by
  unfold wpX_isThere
  dsimp only
  refine gx_last fs fc fw fo K V P k _ hn (fun h => br_t rfl (h0 (gs_l0 h))) (fun i h => ?_)
  obtain ⟨hi, _, hp⟩ := gs_l1 h
  have hc : (nI i).toNatClampNeg = i := nI_clamp (by omega)
  refine br_f (gs_nm1 (by omega)) ⟨vp_in_nI (by omega) (by omega), ?_⟩
  rw [hc]
  by_cases z : P i = 0
  · exact br_t z (h0 (hp.trans (if_pos z)))
  · exact br_f z (h1 (V i) (hp.trans (if_neg z)))
theorem gx_value (fs fc fw fo : Int32) (K V P : Nat → Int32) (k : Int32) (post : Int32 → Prop) {n : Nat} (hn : n ≤ 512) (h : post ((gs_pic (gs_rc K V P) n k).getD 0)) : wpX_valueOf post (fs, fc, fw, fo, K, V, P) k (nI n) := by
  unfold wpX_valueOf
  dsimp only
  refine gx_last fs fc fw fo K V P k _ hn (fun q => br_t rfl (by rw [gs_l0 q] at h; exact h)) (fun i q => ?_)
  obtain ⟨hi, _, hp⟩ := gs_l1 q
  have hc : (nI i).toNatClampNeg = i := nI_clamp (by omega)
  have hv : vp_in (nI i) 512 := vp_in_nI (by omega) (by omega)
  refine br_f (gs_nm1 (by omega)) ⟨hv, ?_⟩
  rw [hc]
  rw [hp] at h
  by_cases z : P i = 0
  · rw [show gs_val (gs_rc K V P i) = none from if_pos z] at h
    exact br_t z h
  · rw [show gs_val (gs_rc K V P i) = some (V i) from if_neg z] at h
    exact br_f z ⟨hv, h⟩
theorem gx_differs (fc fo : Int32) (K V P : Nat → Int32) (k : Int32) (post : Int32 → Prop) {s w : Nat} (hs : s ≤ 512) (hw : w ≤ 512) (h0 : gs_pic (gs_rc K V P) w k = gs_pic (gs_rc K V P) s k → post 0) (h1 : gs_pic (gs_rc K V P) w k ≠ gs_pic (gs_rc K V P) s k → post 1) : wpX_differs post (nI s, fc, nI w, fo, K, V, P) k := by
  unfold wpX_differs
  dsimp only
  have g : ∀ a b : Option Int32, (a = b → post 0) → (a ≠ b → post 1) → a.isSome = b.isSome → (a.getD 0 = b.getD 0 → post 0) ∧ (¬ a.getD 0 = b.getD 0 → post 1) := by
    intro a b p0 p1 e
    cases a with
    | none =>
      cases b with
      | none => exact ⟨fun _ => p0 rfl, fun z => absurd rfl z⟩
      | some y => exact nomatch e
    | some x =>
      cases b with
      | none => exact nomatch e
      | some y => exact ⟨fun z => p0 (congrArg some z), fun z => p1 (fun q => z (Option.some.inj q))⟩
  refine gx_there _ _ _ _ K V P k _ hw (fun a => ?_) (fun x a => ?_)
  · refine gx_there _ _ _ _ K V P k _ hs (fun b => ?_) (fun y b => ?_)
    · refine br_t rfl (gx_value _ _ _ _ K V P k _ hw (gx_value _ _ _ _ K V P k _ hs (g _ _ h0 h1 ?_)))
      rw [a, b]
    · exact br_f (by decide) (h1 (by rw [a, b]; exact fun z => nomatch z))
  · refine gx_there _ _ _ _ K V P k _ hs (fun b => ?_) (fun y b => ?_)
    · exact br_f (by decide) (h1 (by rw [a, b]; exact fun z => nomatch z))
    · refine br_t rfl (gx_value _ _ _ _ K V P k _ hw (gx_value _ _ _ _ K V P k _ hs (g _ _ h0 h1 ?_)))
      rw [a, b]; rfl
end
section
def gs_B (P : Nat → Int32) : Prop := ∀ j, P j = 0 ∨ P j = 1
theorem gs_nar {x : Int32} (h : x = 0 ∨ x = 1) : vp_nar .boolean x = x := by
  rcases h with rfl | rfl
  · exact (by decide +kernel : (0 : Int32) &&& 1 = 0)
  · exact (by decide +kernel : (1 : Int32) &&& 1 = 1)
theorem gs_Bu {P : Nat → Int32} {t : Nat} {x : Int32} (h : gs_B P) (hx : x = 0 ∨ x = 1) : gs_B (upd P t x) := by
  intro j
  by_cases e : j = t
  · subst e; rw [pk_us]; exact hx
  · rw [pk_un e]; exact h j
theorem gx_needed (fs fc fw fo : Int32) (K V P : Nat → Int32) (post : Int32 → Prop) {i e t : Nat} (hi : i < e) (he : e ≤ 512) (ht : t ≤ 512)
    (hA : gs_last (gs_rc K V P) (K i) e ≠ some i → post 0)
    (hB : gs_last (gs_rc K V P) (K i) e = some i → P i = 0 → gs_pic (gs_rc K V P) t (K i) = none → post 0)
    (hC : gs_last (gs_rc K V P) (K i) e = some i → post 1) : wpX_isNeeded post (fs, fc, fw, fo, K, V, P) (nI i) (nI e) (nI t) := by
  have hv : vp_in (nI i) 512 := vp_in_nI (by omega) (by omega)
  have hc : (nI i).toNatClampNeg = i := nI_clamp (by omega)
  unfold wpX_isNeeded
  dsimp only
  refine ⟨hv, ?_⟩
  rw [hc]
  intro k ek
  subst ek
  refine gx_last fs fc fw fo K V P (K i) _ he (fun h => ?_) (fun m h => ?_)
  · exact br_f (fun z => gs_nm1 (by omega) z.symm) (hA (by rw [h]; exact fun z => nomatch z))
  · have hm := (gs_l1 h).1
    by_cases q : m = i
    · subst q
      refine br_t rfl ⟨hv, ?_⟩
      by_cases z : P m = 0
      · refine br_t z (gx_there fs fc fw fo K V P (K m) _ ht (fun a => br_t rfl (hB h z a)) (fun x a => br_f (by decide) (hC h)))
      · exact br_f z (hC h)
    · exact br_f (fun z => q ((nI_eq (by omega) (by omega)).mp z)) (hA (by rw [h]; exact fun z => q (Option.some.inj z)))
theorem gx_move (fs fc fw fo : Int32) (K V P : Nat → Int32) (post : SX → Prop) {i t : Nat} (hi : i < 512) (ht : t < 512) (hP : P i = 0 ∨ P i = 1) (h : post (fs, fc, fw, fo, upd K t (K i), upd V t (V i), upd P t (P i))) : wpX_move post (fs, fc, fw, fo, K, V, P) (nI i) (nI t) := by
  have hv : vp_in (nI i) 512 := vp_in_nI (by omega) (by omega)
  have hw : vp_in (nI t) 512 := vp_in_nI (by omega) (by omega)
  have hc : (nI i).toNatClampNeg = i := nI_clamp (by omega)
  have hd : (nI t).toNatClampNeg = t := nI_clamp (by omega)
  unfold wpX_move
  dsimp only
  rw [hc, hd, gs_nar hP]
  exact ⟨hv, hw, nm_e ⟨hv, hw, nm_e ⟨hv, hw, nm_e h⟩⟩⟩
def gc_Inv (O S : Nat → Int32 × Int32 × Int32) (f e q i t : Nat) (R : Nat → Int32 × Int32 × Int32) : Prop :=
  q ≤ t ∧ t ≤ i ∧ f ≤ i ∧ i ≤ e ∧ (∀ j, t ≤ j → R j = O j) ∧ (∀ j, j < q → R j = S j) ∧ (∀ k m, gs_last O k e = some m → i ≤ m → gs_pic R t k = gs_pic O f k) ∧ (∀ k, (∀ m, gs_last O k e = some m → m < i) → gs_pic R t k = gs_pic O e k)
theorem gc_skip {O S R : Nat → Int32 × Int32 × Int32} {f e q i t : Nat} (h : gc_Inv O S f e q i t R) (hi : i < e) (hk : gs_last O (O i).1 e = some i → gs_pic R t (O i).1 = gs_val (O i)) : gc_Inv O S f e q (i + 1) t R := by
  obtain ⟨h1, h2, h3, h4, h5, h6, h7, h8⟩ := h
  refine ⟨h1, by omega, by omega, by omega, h5, h6, fun k m hm hl => h7 k m hm (by omega), fun k hm => ?_⟩
  by_cases z : gs_last O k e = some i
  · obtain ⟨_, b, c⟩ := gs_l1 z
    subst b
    rw [c]
    exact hk z
  · refine h8 k (fun m q => ?_)
    have a := hm m q
    have b : m ≠ i := fun y => z (by rw [← y]; exact q)
    omega
theorem gc_move {O S R T : Nat → Int32 × Int32 × Int32} {f e q i t : Nat} (h : gc_Inv O S f e q i t R) (hi : i < e) (hk : gs_last O (O i).1 e = some i) (hs : T t = O i) (hn : ∀ j, j ≠ t → T j = R j) : gc_Inv O S f e q (i + 1) (t + 1) T := by
  obtain ⟨h1, h2, h3, h4, h5, h6, h7, h8⟩ := h
  have fr : ∀ k, gs_pic T t k = gs_pic R t k := fun k => gs_fr k t (fun j hj => hn j (by omega))
  refine ⟨by omega, by omega, by omega, by omega, fun j hj => ?_, fun j hj => ?_, fun k m hm hl => ?_, fun k hm => ?_⟩
  · rw [hn j (by omega)]; exact h5 j (by omega)
  · rw [hn j (by omega)]; exact h6 j hj
  · have z : ¬ (T t).1 = k := by
      rw [hs]
      intro y
      rw [y, hm] at hk
      have := Option.some.inj hk
      omega
    rw [gs_n z, fr]
    exact h7 k m hm (by omega)
  · by_cases z : (T t).1 = k
    · rw [gs_s z]
      rw [hs] at z ⊢
      subst z
      exact (gs_l1 hk).2.2.symm
    · rw [gs_n z, fr]
      refine h8 k (fun m q => ?_)
      have a := hm m q
      have b : m ≠ i := fun y => by
        rw [y] at q
        have c := (gs_l1 q).2.1
        rw [hs] at z
        exact z c
      omega
theorem gx_keepN6 (fs fc fw fo : Int32) (O S : Nat → Int32 × Int32 × Int32) {f e q : Nat} (he : e ≤ 512) (post : Int32 → SX → Prop)
    (hp : ∀ (t : Nat) (K V P : Nat → Int32), gc_Inv O S f e q e t (gs_rc K V P) → gs_B P → post (nI t) (fs, fc, fw, fo, K, V, P)) :
    ∀ (d i t : Nat) (K V P : Nat → Int32), i + d = e → gc_Inv O S f e q i t (gs_rc K V P) → gs_B P → wX_keepNeeded_6 post (nI e) (d + 1) (nI t) (nI i) fs fc fw fo K V P := by
  intro d
  induction d with
  | zero =>
    intro i t K V P hd h hB
    have q : i = e := by omega
    subst q
    exact br_t (nI_le (by omega) (by omega)) (hp t K V P h hB)
  | succ d ih =>
    intro i t K V P hd h hB
    have hi : i < e := by omega
    have hI := h
    obtain ⟨h1, h2, h3, h4, h5, h6, h7, h8⟩ := h
    have ei : gs_rc K V P i = O i := h5 i h2
    have ek : K i = (O i).1 := congrArg Prod.fst ei
    have ep : P i = (O i).2.2 := congrArg (fun z => z.2.2) ei
    obtain ⟨a, m, hm, hl⟩ := gs_ag (R := gs_rc K V P) (S := O) (k := K i) hi (fun j hj => h5 j (by omega)) ek.symm
    refine br_f (nI_ge hi (by omega)) (gx_needed fs fc fw fo K V P _ hi he (by omega) (fun z => ?_) (fun z p n => ?_) (fun z => ?_))
    · refine br_t rfl (nm_r (nI_1 i) (ih (i + 1) t K V P (by omega) (gc_skip hI hi (fun y => ?_)) hB))
      rw [a, ek] at z
      exact absurd y z
    · refine br_t rfl (nm_r (nI_1 i) (ih (i + 1) t K V P (by omega) (gc_skip hI hi (fun y => ?_)) hB))
      rw [← ek, n]
      exact (if_pos (by rw [← ep]; exact p)).symm
    · refine br_f (by decide) (gx_move fs fc fw fo K V P _ (by omega) (by omega) (hB i) ?_)
      refine nm_r (nI_1 t) (nm_r (nI_1 i) (ih (i + 1) (t + 1) _ _ _ (by omega) (gc_move hI hi ?_ ?_ ?_) (gs_Bu hB (hB i))))
      · rw [a, ek] at z; exact z
      · rw [gs_us]; exact ei
      · exact fun j hj => gs_un hj
theorem gx_keepN (fs fc fw fo : Int32) (K V P : Nat → Int32) (O : Nat → Int32 × Int32 × Int32) {f e q : Nat} (hq : q ≤ f) (hf : f ≤ e) (he : e ≤ 512) (post : Int32 → SX → Prop) (hB : gs_B P) (hO : ∀ j, q ≤ j → gs_rc K V P j = O j) (hk : ∀ k, gs_pic (gs_rc K V P) q k = gs_pic O f k)
    (hp : ∀ (t : Nat) (K' V' P' : Nat → Int32), q ≤ t → t ≤ e → (∀ j, t ≤ j → gs_rc K' V' P' j = O j) → (∀ j, j < q → gs_rc K' V' P' j = gs_rc K V P j) → (∀ k, gs_pic (gs_rc K' V' P') t k = gs_pic O e k) → gs_B P' → post (nI t) (fs, fc, fw, fo, K', V', P')) :
    wpX_keepNeeded post (fs, fc, fw, fo, K, V, P) (nI f) (nI e) (nI q) := by
  refine ⟨(e - f) + 1, gx_keepN6 fs fc fw fo O (gs_rc K V P) (f := f) (q := q) he post ?_ (e - f) f q K V P (by omega) ?_ hB⟩
  · intro t K' V' P' h hb
    obtain ⟨h1, h2, h3, h4, h5, h6, h7, h8⟩ := h
    exact hp t K' V' P' h1 h2 h5 h6 (fun k => h8 k (fun m z => (gs_l1 z).1)) hb
  · refine ⟨Nat.le_refl _, hq, Nat.le_refl _, hf, hO, fun j _ => rfl, fun k m _ _ => hk k, fun k h => ?_⟩
    rw [hk k]
    exact (gs_seg hf h).symm
theorem gx_keepA6 (fs fc fw fo : Int32) (O S : Nat → Int32 × Int32 × Int32) {f e q : Nat} (hq : q ≤ f) (he : e ≤ 512) (post : Int32 → SX → Prop)
    (hp : ∀ (t : Nat) (K V P : Nat → Int32), t + f = q + e → (∀ j, j < q → gs_rc K V P j = S j) → (∀ k, gs_pic (gs_rc K V P) t k = gs_pic O e k) → gs_B P → post (nI t) (fs, fc, fw, fo, K, V, P)) :
    ∀ (d i t : Nat) (K V P : Nat → Int32), i + d = e → t + f = q + i → f ≤ i → (∀ j, t ≤ j → gs_rc K V P j = O j) → (∀ j, j < q → gs_rc K V P j = S j) → (∀ k, gs_pic (gs_rc K V P) t k = gs_pic O i k) → gs_B P → wX_keepAll_6 post (nI e) (d + 1) (nI t) (nI i) fs fc fw fo K V P := by
  intro d
  induction d with
  | zero =>
    intro i t K V P hd ht hf h5 h6 h7 hB
    have q : i = e := by omega
    subst q
    exact br_t (nI_le (by omega) (by omega)) (hp t K V P ht h6 h7 hB)
  | succ d ih =>
    intro i t K V P hd ht hf h5 h6 h7 hB
    have ei : gs_rc K V P i = O i := h5 i (by omega)
    refine br_f (nI_ge (by omega) (by omega)) (gx_move fs fc fw fo K V P _ (by omega) (by omega) (hB i) ?_)
    have hs : gs_rc (upd K t (K i)) (upd V t (V i)) (upd P t (P i)) t = O i := by rw [gs_us]; exact ei
    have hn : ∀ j, j ≠ t → gs_rc (upd K t (K i)) (upd V t (V i)) (upd P t (P i)) j = gs_rc K V P j := fun j hj => gs_un hj
    refine nm_r (nI_1 t) (nm_r (nI_1 i) (ih (i + 1) (t + 1) _ _ _ (by omega) (by omega) (by omega) (fun j hj => ?_) (fun j hj => ?_) (fun k => ?_) (gs_Bu hB (hB i))))
    · rw [hn j (by omega)]; exact h5 j (by omega)
    · rw [hn j (by omega)]; exact h6 j hj
    · have fr : gs_pic (gs_rc (upd K t (K i)) (upd V t (V i)) (upd P t (P i))) t k = gs_pic (gs_rc K V P) t k := gs_fr k t (fun j hj => hn j (by omega))
      unfold gs_pic
      rw [hs, fr, h7 k]
theorem gx_keepA (fs fc fw fo : Int32) (K V P : Nat → Int32) (O : Nat → Int32 × Int32 × Int32) {f e q : Nat} (hq : q ≤ f) (hf : f ≤ e) (he : e ≤ 512) (post : Int32 → SX → Prop) (hB : gs_B P) (hO : ∀ j, q ≤ j → gs_rc K V P j = O j) (hk : ∀ k, gs_pic (gs_rc K V P) q k = gs_pic O f k)
    (hp : ∀ (t : Nat) (K' V' P' : Nat → Int32), t + f = q + e → (∀ j, j < q → gs_rc K' V' P' j = gs_rc K V P j) → (∀ k, gs_pic (gs_rc K' V' P') t k = gs_pic O e k) → gs_B P' → post (nI t) (fs, fc, fw, fo, K', V', P')) :
    wpX_keepAll post (fs, fc, fw, fo, K, V, P) (nI f) (nI e) (nI q) :=
  ⟨(e - f) + 1, gx_keepA6 fs fc fw fo O (gs_rc K V P) hq he post hp (e - f) f q K V P (by omega) (by omega) (Nat.le_refl _) hO (fun j _ => rfl) hk hB⟩
/-- the row closed up: the three pictures and the count of the last part stay -/
theorem gx_clean (fo : Int32) (K V P : Nat → Int32) {s c w : Nat} (hs : s ≤ c) (hc : c ≤ w) (hw : w ≤ 512) (post : SX → Prop) (hB : gs_B P)
    (hp : ∀ (s' c' w' : Nat) (K' V' P' : Nat → Int32), s' ≤ c' → c' ≤ w' → w' + c = c' + w → w' ≤ w → (∀ k, gs_pic (gs_rc K' V' P') s' k = gs_pic (gs_rc K V P) s k) → (∀ k, gs_pic (gs_rc K' V' P') c' k = gs_pic (gs_rc K V P) c k) → (∀ k, gs_pic (gs_rc K' V' P') w' k = gs_pic (gs_rc K V P) w k) → gs_B P' → post (nI s', nI c', nI w', fo, K', V', P')) :
    wpX_clean post (nI s, nI c, nI w, fo, K, V, P) := by
  unfold wpX_clean
  dsimp only
  refine gx_keepN _ _ _ _ K V P (gs_rc K V P) (f := 0) (e := s) (q := 0) (Nat.le_refl _) (Nat.zero_le _) (by omega) _ hB (fun _ _ => rfl) (fun _ => rfl) ?_
  intro s' K1 V1 P1 _ a2 a3 a4 a5 a6
  refine gx_keepN _ _ _ _ K1 V1 P1 (gs_rc K V P) (f := s) (e := c) (q := s') a2 hs (by omega) _ a6 a3 a5 ?_
  intro c' K2 V2 P2 b1 b2 b3 b4 b5 b6
  refine gx_keepA _ _ _ _ K2 V2 P2 (gs_rc K V P) (f := c) (e := w) (q := c') b2 hc hw _ b6 b3 b5 ?_
  intro w' K3 V3 P3 c1 c2 c3 c4
  refine hp s' c' w' K3 V3 P3 b1 (by omega) (by omega) (by omega) (fun k => ?_) (fun k => ?_) c3 c4
  · rw [← a5 k]
    exact gs_fr k s' (fun j hj => (c2 j (by omega)).trans (b4 j hj))
  · rw [← b5 k]
    exact gs_fr k c' (fun j hj => c2 j hj)
end
section
theorem gy_in {i : Nat} (h : i < 16) : vp_in (nI i) 16 := vp_in_nI h (by omega)
theorem gy_lo {i : Nat} (h : i < 16) : ¬ (16 : Int32) ≤ nI i := by rw [← gs_16]; exact nI_ge h (by omega)
theorem gy_hi : (16 : Int32) ≤ nI 16 := by decide +kernel
theorem gy_cl {i : Nat} (h : i < 16) : (nI i).toNatClampNeg = i := nI_clamp (by omega)
theorem gy_15 {k : Int32} (h : nI 16 ≤ k) : 15 < k := Int32.lt_of_lt_of_le (by decide +kernel : (15 : Int32) < nI 16) h
theorem gy_15n {j : Nat} (h : j < 16) : ¬ 15 < nI j := by
  rw [show (15 : Int32) = nI 15 from by decide +kernel]
  exact nI_nlt (by omega) (by omega)
theorem gs_cp {x y : Nat → Int32} {i : Nat} (h : ∀ j, j < i → x j = y j) : ∀ j, j < i + 1 → upd x i (y i) j = y j := by
  intro j hj
  by_cases e : j = i
  · subst e; exact pk_us
  · rw [pk_un e]; exact h j (by omega)
theorem gy_settle10 (ks bk kk o ch : Int32) (a d : Nat → Int32) (post : SY → Prop) (hp : ∀ b : Nat → Int32, (∀ j, j < 16 → b j = a j) → post (ks, bk, kk, o, ch, a, b, d)) : ∀ (n i : Nat) (b : Nat → Int32), i + n = 16 → (∀ j, j < i → b j = a j) → wY_settle_10 post ks bk kk o ch (n + 1) (nI i) a b d := by
  intro n
  induction n with
  | zero =>
    intro i b hi h
    have q : i = 16 := by omega
    subst q
    exact br_t gy_hi (hp b h)
  | succ n ih =>
    intro i b hi h
    have l : i < 16 := by omega
    refine br_f (gy_lo l) ⟨gy_in l, gy_in l, ?_⟩
    rw [gy_cl l]
    exact nm_e (nm_r (nI_1 i) (ih (i + 1) _ (by omega) (gs_cp h)))
theorem gy_settle (ks bk kk o ch : Int32) (a b d : Nat → Int32) (post : SY → Prop) (hp : ∀ b' : Nat → Int32, (∀ j, j < 16 → b' j = a j) → post (ks, ks, kk, o, ch, a, b', d)) : wpY_settle post (ks, bk, kk, o, ch, a, b, d) :=
  ⟨17, gy_settle10 ks ks kk o ch a d post hp 16 0 b rfl (fun j hj => absurd hj (by omega))⟩
theorem gy_back10 (ks bk kk o ch : Int32) (b d : Nat → Int32) (post : SY → Prop) (hp : ∀ a : Nat → Int32, (∀ j, j < 16 → a j = b j) → post (ks, bk, kk, o, ch, a, b, d)) : ∀ (n i : Nat) (a : Nat → Int32), i + n = 16 → (∀ j, j < i → a j = b j) → wY_back_10 post ks bk kk o ch (n + 1) (nI i) a b d := by
  intro n
  induction n with
  | zero =>
    intro i a hi h
    have q : i = 16 := by omega
    subst q
    exact br_t gy_hi (hp a h)
  | succ n ih =>
    intro i a hi h
    have l : i < 16 := by omega
    refine br_f (gy_lo l) ⟨gy_in l, gy_in l, ?_⟩
    rw [gy_cl l]
    exact nm_e (nm_r (nI_1 i) (ih (i + 1) _ (by omega) (gs_cp h)))
theorem gy_back (ks bk kk o ch : Int32) (a b d : Nat → Int32) (post : SY → Prop) (hp : ∀ a' : Nat → Int32, (∀ j, j < 16 → a' j = b j) → post (bk, bk, kk, o, ch, a', b, d)) : wpY_back post (ks, bk, kk, o, ch, a, b, d) :=
  ⟨17, gy_back10 bk bk kk o ch b d post hp 16 0 a rfl (fun j hj => absurd hj (by omega))⟩
theorem gy_sync10 (ks bk kk o ch : Int32) (a b : Nat → Int32) (post : SY → Prop) (hp : ∀ d : Nat → Int32, (∀ j, j < 16 → d j = b j) → post (ks, bk, kk, o, ch, a, b, d)) : ∀ (n i : Nat) (d : Nat → Int32), i + n = 16 → (∀ j, j < i → d j = b j) → wY_sync_10 post ks bk kk o ch (n + 1) (nI i) a b d := by
  intro n
  induction n with
  | zero =>
    intro i d hi h
    have q : i = 16 := by omega
    subst q
    exact br_t gy_hi (hp d h)
  | succ n ih =>
    intro i d hi h
    have l : i < 16 := by omega
    refine br_f (gy_lo l) ⟨gy_in l, gy_in l, ?_⟩
    rw [gy_cl l]
    exact nm_e (nm_r (nI_1 i) (ih (i + 1) _ (by omega) (gs_cp h)))
theorem gy_sync (ks bk kk o ch : Int32) (a b d : Nat → Int32) (post : SY → Prop) (hp : ∀ d' : Nat → Int32, (∀ j, j < 16 → d' j = b j) → post (ks, bk, bk, o, ch, a, b, d')) : wpY_sync post (ks, bk, kk, o, ch, a, b, d) :=
  ⟨17, gy_sync10 ks bk bk o ch a b post hp 16 0 d rfl (fun j hj => absurd hj (by omega))⟩
theorem gy_crash15 (ks bk kk o ch : Int32) (a d : Nat → Int32) (post : SY → Prop) (hp : ∀ a' b : Nat → Int32, (∀ j, j < 16 → a' j = d j) → (∀ j, j < 16 → b j = d j) → post (bk, bk, kk, o, ch, a', b, d)) : ∀ (n i : Nat) (b : Nat → Int32), i + n = 16 → (∀ j, j < i → b j = d j) → wY_crash_15 post ks bk kk o ch (n + 1) (nI i) a b d := by
  intro n
  induction n with
  | zero =>
    intro i b hi h
    have q : i = 16 := by omega
    subst q
    exact br_t gy_hi (gy_back ks bk kk o ch a b d _ (fun a' h' => hp a' b (fun j hj => (h' j hj).trans (h j hj)) h))
  | succ n ih =>
    intro i b hi h
    have l : i < 16 := by omega
    refine br_f (gy_lo l) ⟨gy_in l, gy_in l, ?_⟩
    rw [gy_cl l]
    exact nm_e (nm_r (nI_1 i) (ih (i + 1) _ (by omega) (gs_cp h)))
theorem gy_crash (ks bk kk o ch : Int32) (a b d : Nat → Int32) (post : SY → Prop) (hp : ∀ a' b' : Nat → Int32, (∀ j, j < 16 → a' j = d j) → (∀ j, j < 16 → b' j = d j) → post (kk, kk, kk, 0, ch, a', b', d)) : wpY_crash post (ks, bk, kk, o, ch, a, b, d) :=
  ⟨17, gy_crash15 ks kk kk 0 ch a d post hp 16 0 b rfl (fun j hj => absurd hj (by omega))⟩
theorem gy_change (ks bk kk o ch : Int32) (a b d : Nat → Int32) (post : SY → Prop) (hp0 : o = 0 → ∀ b' : Nat → Int32, (∀ j, j < 16 → b' j = a j) → post (ks, ks, kk, o, ch, a, b', d)) (hp1 : ¬ o = 0 → post (ks, bk, kk, o, ch + 1, a, b, d)) : wpY_change post (ks, bk, kk, o, ch, a, b, d) :=
  br_c (fun h => gy_settle ks bk kk o ch a b d _ (hp0 h)) (fun h => nm_e (hp1 h))
theorem gy_key0 (v : SY) {k : Int32} (h : k < 0 ∨ nI 16 ≤ k) (post : Int32 → Prop) (hp : post 0) : wpY_key post v k := by
  obtain ⟨ks, bk, kk, o, ch, a, b, d⟩ := v
  by_cases z : k < 0
  · exact br_t z hp
  · exact br_f z (br_t (gy_15 (h.resolve_left z)) hp)
theorem gy_key1 (v : SY) {j : Nat} (h : j < 16) (post : Int32 → Prop) (hp : post 1) : wpY_key post v (nI j) := by
  obtain ⟨ks, bk, kk, o, ch, a, b, d⟩ := v
  exact br_f (nI_pos (by omega)) (br_f (gy_15n h) hp)
theorem gx_key0 (u : SX) {k : Int32} (h : k < 0 ∨ nI 16 ≤ k) (post : Int32 → Prop) (hp : post 0) : wpX_isKey post u k := by
  obtain ⟨fs, fc, fw, fo, K, V, P⟩ := u
  by_cases z : k < 0
  · exact br_t z hp
  · exact br_f z (br_t (by rw [← gs_16]; exact h.resolve_left z) hp)
theorem gx_key1 (u : SX) {j : Nat} (h : j < 16) (post : Int32 → Prop) (hp : post 1) : wpX_isKey post u (nI j) := by
  obtain ⟨fs, fc, fw, fo, K, V, P⟩ := u
  exact br_f (nI_pos (by omega)) (br_f (gy_lo h) hp)
theorem gy_has0 (v : SY) {k : Int32} (h : k < 0 ∨ nI 16 ≤ k) (post : Int32 → Prop) (hp : post 0) : wpY_has post v k := by
  obtain ⟨ks, bk, kk, o, ch, a, b, d⟩ := v
  unfold wpY_has
  dsimp only
  exact gy_key0 _ h _ (br_t rfl hp)
theorem gy_has1 (ks bk kk o ch : Int32) (a b d : Nat → Int32) {j : Nat} (h : j < 16) (post : Int32 → Prop) (hp0 : bt ks j = false → post 0) (hp1 : bt ks j = true → post 1) : wpY_has post (ks, bk, kk, o, ch, a, b, d) (nI j) := by
  unfold wpY_has
  dsimp only
  refine gy_key1 _ h _ (br_f (by decide) ?_)
  exact br_c (fun z => hp1 ((gs_bit1 h ks).mp z)) (fun z => hp0 (Bool.not_eq_true _ ▸ (fun q => z ((gs_bit1 h ks).mpr q))))
theorem gy_has (ks bk kk o ch : Int32) (a b d : Nat → Int32) {f : Int32 → Option Int32} (hY : gs_Y ks a f) (k : Int32) (post : Int32 → Prop) (hp0 : f k = none → post 0) (hp1 : ∀ x, f k = some x → post 1) : wpY_has post (ks, bk, kk, o, ch, a, b, d) k := by
  rcases pk_ix k (n := 16) (by omega) with h | h | ⟨j, hj, rfl⟩
  · exact gy_has0 _ (Or.inl h) _ (hp0 (hY.2.2.2 k (Or.inl h)))
  · exact gy_has0 _ (Or.inr h) _ (hp0 (hY.2.2.2 k (Or.inr h)))
  · have e := hY.1 j hj
    refine gy_has1 ks bk kk o ch a b d hj _ (fun z => ?_) (fun z => ?_)
    · cases q : f (nI j) with
      | none => exact hp0 q
      | some x => rw [q, z] at e; exact nomatch e
    · cases q : f (nI j) with
      | none => rw [q, z] at e; exact nomatch e
      | some x => exact hp1 x q
theorem gy_get (ks bk kk o ch : Int32) (a b d : Nat → Int32) {f : Int32 → Option Int32} (hY : gs_Y ks a f) (k : Int32) (post : Int32 → Prop) (hp : post ((f k).getD 0)) : wpY_get post (ks, bk, kk, o, ch, a, b, d) k := by
  unfold wpY_get
  dsimp only
  refine gy_has ks bk kk o ch a b d hY k _ (fun z => br_t rfl (by rw [z] at hp; exact hp)) (fun x z => br_f (by decide) ?_)
  rcases pk_ix k (n := 16) (by omega) with h | h | ⟨j, hj, rfl⟩
  · rw [hY.2.2.2 k (Or.inl h)] at z; exact nomatch z
  · rw [hY.2.2.2 k (Or.inr h)] at z; exact nomatch z
  · refine ⟨gy_in hj, ?_⟩
    rw [gy_cl hj, hY.2.1 j x hj z]
    rw [z] at hp
    exact hp
theorem gy_sval (ks bk kk o ch : Int32) (a b d : Nat → Int32) {f : Int32 → Option Int32} (hY : gs_Y kk d f) (k : Int32) (post : Int32 → Prop) (hp : post ((f k).getD 0)) : wpY_safeValue post (ks, bk, kk, o, ch, a, b, d) k := by
  unfold wpY_safeValue
  dsimp only
  rcases pk_ix k (n := 16) (by omega) with h | h | ⟨j, hj, rfl⟩
  · rw [hY.2.2.2 k (Or.inl h)] at hp
    exact gy_key0 _ (Or.inl h) _ (br_t rfl hp)
  · rw [hY.2.2.2 k (Or.inr h)] at hp
    exact gy_key0 _ (Or.inr h) _ (br_t rfl hp)
  · have e := hY.1 j hj
    refine gy_key1 _ hj _ (br_f (by decide) (br_c (fun z => ⟨gy_in hj, ?_⟩) (fun z => ?_)))
    · rw [(gs_bit1 hj kk).mp z] at e
      cases q : f (nI j) with
      | none => rw [q] at e; exact nomatch e
      | some x =>
        rw [q] at hp
        rw [gy_cl hj, hY.2.1 j x hj q]
        exact hp
    · rw [gs_bit1 hj kk, e] at z
      cases q : f (nI j) with
      | none => rw [q] at hp; exact hp
      | some x => rw [q] at z; exact absurd rfl z
theorem gx_write (fs fc fo : Int32) (K V P : Nat → Int32) {w : Nat} (hw : w < 512) (p0 p1 p2 : Int32) (hb : p2 = 0 ∨ p2 = 1) (post : Int32 → SX → Prop)
    (h0 : fo = 0 → post 1 (fs, nI (w + 1), nI (w + 1), fo, upd K w p0, upd V w p1, upd P w p2)) (h1 : ¬ fo = 0 → post 1 (fs, fc, nI (w + 1), fo, upd K w p0, upd V w p1, upd P w p2)) : wpX_write post (fs, fc, nI w, fo, K, V, P) p0 p1 p2 := by
  have hv : vp_in (nI w) 512 := vp_in_nI (by omega) (by omega)
  have hc : (nI w).toNatClampNeg = w := nI_clamp (by omega)
  unfold wpX_write
  dsimp only
  rw [hc, gs_nar hb]
  refine br_t (nI_lt (b := 512) hw (by omega)) ⟨hv, nm_e ⟨hv, nm_e ⟨hv, nm_e (nm_r (nI_1 w) (br_c h0 h1))⟩⟩⟩
theorem gs_nb {x : Int32} (h : x = 0 ∨ x = 1) : narrow .boolean (.int x) = .int x := by
  rcases h with rfl | rfl
  · rfl
  · rfl
end
section
theorem gs_st0 {p : Nat → Bool} {x : Int32} {i : Nat} (h : ∀ j, bt x j = (decide (j < i) && p j)) (hp : p i = false) : ∀ j, bt x j = (decide (j < i + 1) && p j) := by
  intro j
  rw [h j]
  by_cases e : j = i
  · subst e; rw [hp, Bool.and_false, Bool.and_false]
  · have q : (j < i) = (j < i + 1) := propext ⟨fun z => by omega, fun z => by omega⟩
    simp only [q]
theorem gs_st1 {p : Nat → Bool} {x : Int32} {i : Nat} (hi : i < 16) (h : ∀ j, bt x j = (decide (j < i) && p j)) (hp : p i = true) : ∀ j, bt (x ||| ((1 : Int32) <<< (nI i &&& 31))) j = (decide (j < i + 1) && p j) := by
  intro j
  rw [gs_bor hi, h j]
  by_cases e : j = i
  · subst e; rw [hp, decide_eq_true rfl, decide_eq_true (Nat.lt_succ_self j), Bool.or_true]; rfl
  · have q : (j < i) = (j < i + 1) := propext ⟨fun z => by omega, fun z => by omega⟩
    rw [decide_eq_false e, Bool.or_false]
    simp only [q]
theorem gs_su0 {p q : Nat → Bool} {x : Int32} {i : Nat} (h : ∀ j, bt x j = if j < i then p j else q j) (hp : q i = p i) : ∀ j, bt x j = if j < i + 1 then p j else q j := by
  intro j
  rw [h j]
  by_cases e : j = i
  · subst e; rw [if_neg (Nat.lt_irrefl j), if_pos (Nat.lt_succ_self j), hp]
  · by_cases l : j < i
    · rw [if_pos l, if_pos (by omega)]
    · rw [if_neg l, if_neg (by omega)]
theorem gs_su1 {p q : Nat → Bool} {x : Int32} {i : Nat} (hi : i < 16) (h : ∀ j, bt x j = if j < i then p j else q j) (hp : p i = true) : ∀ j, bt (x ||| ((1 : Int32) <<< (nI i &&& 31))) j = if j < i + 1 then p j else q j := by
  intro j
  rw [gs_bor hi, h j]
  by_cases e : j = i
  · subst e; rw [if_pos (Nat.lt_succ_self j), hp, decide_eq_true rfl, Bool.or_true]
  · rw [decide_eq_false e, Bool.or_false]
    by_cases l : j < i
    · rw [if_pos l, if_pos (by omega)]
    · rw [if_neg l, if_neg (by omega)]
theorem gx_sk4 (fc fw fo : Int32) (K V P : Nat → Int32) {s : Nat} (hs : s ≤ 512) (post : Int32 → Prop) (hp : ∀ r, (∀ j, bt r j = (decide (j < 16) && (gs_pic (gs_rc K V P) s (nI j)).isSome)) → post r) : ∀ (n i : Nat) (x : Int32), i + n = 16 → (∀ j, bt x j = (decide (j < i) && (gs_pic (gs_rc K V P) s (nI j)).isSome)) → wX_safeKeys_4 post (nI s) fc fw fo K V P (n + 1) x (nI i) := by
  intro n
  induction n with
  | zero =>
    intro i x hi h
    have q : i = 16 := by omega
    subst q
    exact br_t gy_hi (hp x h)
  | succ n ih =>
    intro i x hi h
    have l : i < 16 := by omega
    refine br_f (gy_lo l) (gx_there (nI s) fc fw fo K V P (nI i) _ hs (fun z => ?_) (fun y z => ?_))
    · exact br_t rfl (nm_r (nI_1 i) (ih (i + 1) x (by omega) (gs_st0 (p := fun j => (gs_pic (gs_rc K V P) s (nI j)).isSome) h (by rw [z]; rfl))))
    · exact br_f (by decide) (nm_e (nm_r (nI_1 i) (ih (i + 1) _ (by omega) (gs_st1 (p := fun j => (gs_pic (gs_rc K V P) s (nI j)).isSome) l h (by rw [z]; rfl)))))
theorem gx_un4 (fc fo : Int32) (K V P : Nat → Int32) {s w : Nat} (hs : s ≤ 512) (hw : w ≤ 512) (post : Int32 → Prop) (hp : ∀ r, (∀ j, bt r j = (decide (j < 16) && decide (gs_pic (gs_rc K V P) w (nI j) ≠ gs_pic (gs_rc K V P) s (nI j)))) → post r) : ∀ (n i : Nat) (x : Int32), i + n = 16 → (∀ j, bt x j = (decide (j < i) && decide (gs_pic (gs_rc K V P) w (nI j) ≠ gs_pic (gs_rc K V P) s (nI j)))) → wX_unsafe_4 post (nI s) fc (nI w) fo K V P (n + 1) x (nI i) := by
  intro n
  induction n with
  | zero =>
    intro i x hi h
    have q : i = 16 := by omega
    subst q
    exact br_t gy_hi (hp x h)
  | succ n ih =>
    intro i x hi h
    have l : i < 16 := by omega
    refine br_f (gy_lo l) (gx_differs fc fo K V P (nI i) _ hs hw (fun z => ?_) (fun z => ?_))
    · exact br_t rfl (nm_r (nI_1 i) (ih (i + 1) x (by omega) (gs_st0 (p := fun j => decide (gs_pic (gs_rc K V P) w (nI j) ≠ gs_pic (gs_rc K V P) s (nI j))) h (decide_eq_false (fun q => q z)))))
    · exact br_f (by decide) (nm_e (nm_r (nI_1 i) (ih (i + 1) _ (by omega) (gs_st1 (p := fun j => decide (gs_pic (gs_rc K V P) w (nI j) ≠ gs_pic (gs_rc K V P) s (nI j))) l h (decide_eq_true z)))))
theorem gy_un12 (ks bk kk o ch : Int32) (a b d : Nat → Int32) {f g : Int32 → Option Int32} (hf : gs_Y ks a f) (hg : gs_Y kk d g) (post : Int32 → Prop) (hp : ∀ r, (∀ j, bt r j = if j < 16 then decide (f (nI j) ≠ g (nI j)) else (bt ks j ^^ bt kk j)) → post r) : ∀ (n i : Nat) (x : Int32), i + n = 16 → (∀ j, bt x j = if j < i then decide (f (nI j) ≠ g (nI j)) else (bt ks j ^^ bt kk j)) → wY_unsafe_12 post ks bk kk o ch a b d (n + 1) x (nI i) := by
  intro n
  induction n with
  | zero =>
    intro i x hi h
    have q : i = 16 := by omega
    subst q
    exact br_t gy_hi (hp x h)
  | succ n ih =>
    intro i x hi h
    have l : i < 16 := by omega
    have ef := hf.1 i l
    have eg := hg.1 i l
    refine br_f (gy_lo l) ?_
    by_cases z : bt ks i = true
    · refine br_t ((gs_bit1 l ks).mpr z) ?_
      cases qf : f (nI i) with
      | none => rw [qf, z] at ef; exact nomatch ef
      | some x1 =>
        by_cases y : bt kk i = true
        · refine br_t ((gs_bit1 l kk).mpr y) ?_
          cases qg : g (nI i) with
          | none => rw [qg, y] at eg; exact nomatch eg
          | some x2 =>
            refine br_f (by decide) ⟨gy_in l, gy_in l, ?_⟩
            rw [gy_cl l, hf.2.1 i x1 l qf, hg.2.1 i x2 l qg]
            by_cases t : x1 = x2
            · refine br_t t (nm_r (nI_1 i) (ih (i + 1) x (by omega) (gs_su0 (p := fun j => decide (f (nI j) ≠ g (nI j))) (q := fun j => (bt ks j ^^ bt kk j)) h ?_)))
              rw [z, y, qf, qg, decide_eq_false (fun q => q (congrArg some t))]; rfl
            · refine br_f t (nm_e (nm_r (nI_1 i) (ih (i + 1) _ (by omega) (gs_su1 (p := fun j => decide (f (nI j) ≠ g (nI j))) (q := fun j => (bt ks j ^^ bt kk j)) l h ?_))))
              rw [qf, qg]
              exact decide_eq_true (fun q => t (Option.some.inj q))
        · refine br_f (fun q => y ((gs_bit1 l kk).mp q)) (br_t rfl (nm_r (nI_1 i) (ih (i + 1) x (by omega) (gs_su0 (p := fun j => decide (f (nI j) ≠ g (nI j))) (q := fun j => (bt ks j ^^ bt kk j)) h ?_))))
          have y' : bt kk i = false := by simpa using y
          cases qg : g (nI i) with
          | none => rw [z, y', qf, decide_eq_true (fun q => nomatch q)]; rfl
          | some x2 => rw [qg, y'] at eg; exact nomatch eg
    · have z' : bt ks i = false := by simpa using z
      refine br_f (fun q => z ((gs_bit1 l ks).mp q)) (br_t rfl (nm_r (nI_1 i) (ih (i + 1) x (by omega) (gs_su0 (p := fun j => decide (f (nI j) ≠ g (nI j))) (q := fun j => (bt ks j ^^ bt kk j)) h ?_))))
      cases qf : f (nI i) with
      | some x1 => rw [qf, z'] at ef; exact nomatch ef
      | none =>
        cases qg : g (nI i) with
        | none =>
          rw [qg] at eg
          rw [z', eg, decide_eq_false (fun q => q rfl)]; rfl
        | some x2 =>
          rw [qg] at eg
          rw [z', eg, decide_eq_true (fun q => nomatch q)]; rfl
theorem gz_count (fs fc fo : Int32) (K V P : Nat → Int32) {w : Nat} (hw : w ≤ 512) (ks bk kk o ch : Int32) (a b d : Nat → Int32) (hY : gs_Y ks a (gs_pic (gs_rc K V P) w)) : ∀ (n i : Nat) (x : Int32), i + n = 16 → ∃ r : Int32, (∀ post : Int32 → Prop, post r → wX_count_4 post fs fc (nI w) fo K V P (n + 1) x (nI i)) ∧ (∀ post : Int32 → Prop, post r → wY_count_4 post ks bk kk o ch a b d (n + 1) x (nI i)) := by
  intro n
  induction n with
  | zero =>
    intro i x hi
    have q : i = 16 := by omega
    subst q
    exact ⟨x, fun _ h => br_t gy_hi h, fun _ h => br_t gy_hi h⟩
  | succ n ih =>
    intro i x hi
    have l : i < 16 := by omega
    have e := hY.1 i l
    cases q : gs_pic (gs_rc K V P) w (nI i) with
    | none =>
      rw [q] at e
      obtain ⟨r, hX, hZ⟩ := ih (i + 1) x (by omega)
      refine ⟨r, fun post h => br_f (gy_lo l) (gx_there fs fc (nI w) fo K V P (nI i) _ hw (fun _ => br_t rfl (nm_r (nI_1 i) (hX post h))) (fun y z => ?_)), fun post h => br_f (gy_lo l) (nm_r (e' := x) ?_ (nm_r (nI_1 i) (hZ post h)))⟩
      · rw [q] at z; exact nomatch z
      · rw [gs_bit l, e]; exact Int32.add_zero x
    | some y =>
      rw [q] at e
      obtain ⟨r, hX, hZ⟩ := ih (i + 1) (x + 1) (by omega)
      refine ⟨r, fun post h => br_f (gy_lo l) (gx_there fs fc (nI w) fo K V P (nI i) _ hw (fun z => ?_) (fun _ _ => br_f (by decide) (nm_e (nm_r (nI_1 i) (hX post h))))), fun post h => br_f (gy_lo l) (nm_r (e' := x + 1) ?_ (nm_r (nI_1 i) (hZ post h)))⟩
      · rw [q] at z; exact nomatch z
      · rw [gs_bit l, e]; rfl
theorem gz_next (fs fc fo : Int32) (K V P : Nat → Int32) {w : Nat} (hw : w ≤ 512) (ks bk kk o ch : Int32) (a b d : Nat → Int32) (hY : gs_Y ks a (gs_pic (gs_rc K V P) w)) (k : Int32) : ∀ (n i : Nat), i + n = 16 → (∀ j, i ≤ j → j < 16 → ¬ nI j < k) → ∃ r : Int32, (∀ post : Int32 → Prop, post r → wX_next_12 post fs fc (nI w) fo K V P (n + 1) (nI i)) ∧ (∀ post : Int32 → Prop, post r → wY_next_2 post k ks bk kk o ch a b d (n + 1) (nI i)) := by
  intro n
  induction n with
  | zero =>
    intro i hi _
    have q : i = 16 := by omega
    subst q
    exact ⟨-1, fun _ h => br_t gy_hi h, fun _ h => br_t gy_hi h⟩
  | succ n ih =>
    intro i hi hk
    have l : i < 16 := by omega
    have e := hY.1 i l
    have g := hk i (Nat.le_refl i) l
    cases q : gs_pic (gs_rc K V P) w (nI i) with
    | none =>
      rw [q] at e
      obtain ⟨r, hX, hZ⟩ := ih (i + 1) (by omega) (fun j h1 h2 => hk j (by omega) h2)
      refine ⟨r, fun post h => br_f (gy_lo l) (gx_there fs fc (nI w) fo K V P (nI i) _ hw (fun _ => br_t rfl (nm_r (nI_1 i) (hX post h))) (fun y z => ?_)), fun post h => br_f (gy_lo l) (br_f g (br_f (fun z => ?_) (nm_r (nI_1 i) (hZ post h))))⟩
      · rw [q] at z; exact nomatch z
      · rw [gs_bit1 l, e] at z; exact nomatch z
    | some y =>
      rw [q] at e
      refine ⟨nI i, fun post h => br_f (gy_lo l) (gx_there fs fc (nI w) fo K V P (nI i) _ hw (fun z => ?_) (fun _ _ => br_f (by decide) h)), fun post h => br_f (gy_lo l) (br_f g (br_t ?_ h))⟩
      · rw [q] at z; exact nomatch z
      · rw [gs_bit1 l, e]; rfl
theorem gy_nskip (ks bk kk o ch : Int32) (a b d : Nat → Int32) {m : Nat} (hm : m < 2 ^ 31) (post : Int32 → Prop) (f : Nat) : ∀ (n i : Nat), i + n ≤ 16 → i + n ≤ m → wY_next_2 post (nI m) ks bk kk o ch a b d f (nI (i + n)) → wY_next_2 post (nI m) ks bk kk o ch a b d (f + n) (nI i) := by
  intro n
  induction n with
  | zero => exact fun i _ _ h => h
  | succ n ih =>
    intro i h1 h2 h
    have l : i < 16 := by omega
    refine br_f (gy_lo l) (br_t (nI_lt (by omega) hm) (nm_r (nI_1 i) (ih (i + 1) (by omega) (by omega) ?_)))
    rw [show i + 1 + n = i + (n + 1) from by omega]
    exact h
end
section
/-- the three pictures of the row are the model's three states; at most one record a call -/
def i_Rel (k : Nat) (u : SX) (v : SY) : Prop :=
  ∃ (s c w : Nat) (o : Int32) (K V P : Nat → Int32) (ks bk kk ch : Int32) (a b d : Nat → Int32),
    u = (nI s, nI c, nI w, o, K, V, P) ∧ v = (ks, bk, kk, o, ch, a, b, d) ∧ s ≤ c ∧ c ≤ w ∧ 3 * w ≤ k ∧ (o = 0 → c = w) ∧ (¬ o = 0 → ch = nI (w - c)) ∧ gs_B P ∧
    gs_Y ks a (gs_pic (gs_rc K V P) w) ∧ gs_Y bk b (gs_pic (gs_rc K V P) c) ∧ gs_Y kk d (gs_pic (gs_rc K V P) s)
theorem i_up {k : Nat} {u : SX} {v : SY} (h : i_Rel k u v) : i_Rel (k + 3) u v := by
  obtain ⟨s, c, w, o, K, V, P, ks, bk, kk, ch, a, b, d, e1, e2, h1, h2, h3, h⟩ := h
  exact ⟨s, c, w, o, K, V, P, ks, bk, kk, ch, a, b, d, e1, e2, h1, h2, by omega, h⟩
theorem gr_0 (R : Nat → Int32 × Int32 × Int32) : gs_Y 0 (fun _ => 0) (gs_pic R 0) := ⟨fun j _ => b_0 j, (fun _ _ _ e => nomatch e), fun j _ => b_0 j, fun _ _ => rfl⟩
theorem i_vc0 : wpX_init (fun u => wpY_init (fun v => i_Rel 0 u v)) :=
  ⟨0, 0, 0, 0, (fun _ => 0), (fun _ => 0), (fun _ => 0), 0, 0, 0, 0, (fun _ => 0), (fun _ => 0), (fun _ => 0), by rw [nI_0], rfl, Nat.le_refl _, Nat.le_refl _, Nat.le_refl _, fun _ => rfl, fun z => absurd rfl z, fun _ => Or.inl rfl, gr_0 _, gr_0 _, gr_0 _⟩
theorem i_vc_begin {k : Nat} {u : SX} {v : SY} (I : i_Rel k u v) (hk : k + 3 ≤ 1536) : wpX_begin (fun r u' => wpY_begin (fun r' v' => r' = r ∧ i_Rel (k + 3) u' v') v) u := by
  have I' := i_up I
  obtain ⟨s, c, w, o, K, V, P, ks, bk, kk, ch, a, b, d, rfl, rfl, h1, h2, h3, h4, h5, hB, y1, y2, y3⟩ := I
  by_cases ho : o = 0
  · have e := h4 ho
    subst e
    refine br_t ho (br_t ho ⟨rfl, s, c, c, 1, K, V, P, ks, bk, kk, 0, a, b, d, rfl, rfl, h1, h2, by omega, fun _ => rfl, fun _ => ?_, hB, y1, y2, y3⟩)
    rw [Nat.sub_self, nI_0]
  · exact br_f ho (br_f ho ⟨rfl, I'⟩)
/-- a record more, in both states of the transaction -/
theorem gr_w0 {k s w : Nat} {o : Int32} {K V P : Nat → Int32} {kk ch : Int32} {d : Nat → Int32} (h1 : s ≤ w) (h3 : 3 * w ≤ k) (hB : gs_B P) (y3 : gs_Y kk d (gs_pic (gs_rc K V P) s)) (p0 p1 p2 : Int32) (hb : p2 = 0 ∨ p2 = 1) (ks : Int32) (a b : Nat → Int32) (ho : o = 0) (hb' : ∀ j, j < 16 → b j = a j)
    (y1 : gs_Y ks a (gs_pic (gs_rc (upd K w p0) (upd V w p1) (upd P w p2)) (w + 1))) : i_Rel (k + 3) (nI s, nI (w + 1), nI (w + 1), o, upd K w p0, upd V w p1, upd P w p2) (ks, ks, kk, o, ch, a, b, d) :=
  ⟨s, w + 1, w + 1, o, _, _, _, ks, ks, kk, ch, a, b, d, rfl, rfl, by omega, Nat.le_refl _, by omega, fun _ => rfl, fun z => absurd ho z, gs_Bu hB hb, y1, gs_Yc y1 hb' (fun _ => rfl), gs_Yc y3 (fun _ _ => rfl) (fun q => gs_fr q s (fun j hj => gs_un (by omega)))⟩
theorem gr_w1 {k s c w : Nat} {o : Int32} {K V P : Nat → Int32} {bk kk ch : Int32} {b d : Nat → Int32} (h1 : s ≤ c) (h2 : c ≤ w) (h3 : 3 * w ≤ k) (h5 : ¬ o = 0 → ch = nI (w - c)) (hB : gs_B P) (y2 : gs_Y bk b (gs_pic (gs_rc K V P) c)) (y3 : gs_Y kk d (gs_pic (gs_rc K V P) s)) (p0 p1 p2 : Int32) (hb : p2 = 0 ∨ p2 = 1) (ks : Int32) (a : Nat → Int32) (ho : ¬ o = 0)
    (y1 : gs_Y ks a (gs_pic (gs_rc (upd K w p0) (upd V w p1) (upd P w p2)) (w + 1))) : i_Rel (k + 3) (nI s, nI c, nI (w + 1), o, upd K w p0, upd V w p1, upd P w p2) (ks, bk, kk, o, ch + 1, a, b, d) :=
  ⟨s, c, w + 1, o, _, _, _, ks, bk, kk, ch + 1, a, b, d, rfl, rfl, h1, by omega, by omega, fun z => absurd z ho, fun _ => by rw [h5 ho, nI_1, show w - c + 1 = w + 1 - c from by omega], gs_Bu hB hb, y1, gs_Yc y2 (fun _ _ => rfl) (fun q => gs_fr q c (fun j hj => gs_un (by omega))), gs_Yc y3 (fun _ _ => rfl) (fun q => gs_fr q s (fun j hj => gs_un (by omega)))⟩
theorem gr_p1 {K V P : Nat → Int32} {w : Nat} {p0 p1 p2 : Int32} : gs_pic (gs_rc (upd K w p0) (upd V w p1) (upd P w p2)) (w + 1) p0 = gs_val (p0, p1, p2) := by
  have e : gs_rc (upd K w p0) (upd V w p1) (upd P w p2) w = (p0, p1, p2) := gs_us
  rw [gs_s (by rw [e]), e]
theorem gr_p2 {K V P : Nat → Int32} {w : Nat} {p0 p1 p2 : Int32} (q : Int32) (h : q ≠ p0) : gs_pic (gs_rc (upd K w p0) (upd V w p1) (upd P w p2)) (w + 1) q = gs_pic (gs_rc K V P) w q := by
  have e : gs_rc (upd K w p0) (upd V w p1) (upd P w p2) w = (p0, p1, p2) := gs_us
  rw [gs_n (by rw [e]; exact fun z => h z.symm)]
  exact gs_fr q w (fun j hj => gs_un (by omega))
theorem gx_put0 (fs fc fw fo : Int32) (K V P : Nat → Int32) {q x : Int32} (h : q < 0 ∨ nI 16 ≤ q) (post : Int32 → SX → Prop) (hp : post 0 (fs, fc, fw, fo, K, V, P)) : wpX_put post (fs, fc, fw, fo, K, V, P) q x := by
  unfold wpX_put
  dsimp only
  exact gx_key0 _ h _ (br_t rfl hp)
theorem gy_put0 (ks bk kk o ch : Int32) (a b d : Nat → Int32) {q x : Int32} (h : q < 0 ∨ nI 16 ≤ q) (post : Int32 → SY → Prop) (hp : post 0 (ks, bk, kk, o, ch, a, b, d)) : wpY_put post (ks, bk, kk, o, ch, a, b, d) q x := by
  unfold wpY_put
  dsimp only
  exact gy_key0 _ h _ (br_t rfl hp)
theorem gx_put1 (fs fc fo : Int32) (K V P : Nat → Int32) {w j : Nat} (hw : w < 512) (hj : j < 16) (x : Int32) (post : Int32 → SX → Prop) (h0 : fo = 0 → post 1 (fs, nI (w + 1), nI (w + 1), fo, upd K w (nI j), upd V w x, upd P w 1)) (h1 : ¬ fo = 0 → post 1 (fs, fc, nI (w + 1), fo, upd K w (nI j), upd V w x, upd P w 1)) : wpX_put post (fs, fc, nI w, fo, K, V, P) (nI j) x := by
  unfold wpX_put
  dsimp only
  exact gx_key1 _ hj _ (br_f (by decide) (gx_write fs fc fo K V P hw (nI j) x 1 (Or.inr rfl) _ (fun z => ⟨gs_nb (Or.inr rfl), h0 z⟩) (fun z => ⟨gs_nb (Or.inr rfl), h1 z⟩)))
theorem gy_put1 (ks bk kk o ch : Int32) (a b d : Nat → Int32) {j : Nat} (hj : j < 16) (x : Int32) (post : Int32 → SY → Prop) (h0 : o = 0 → ∀ b' : Nat → Int32, (∀ i, i < 16 → b' i = upd a j x i) → post 1 (ks ||| ((1 : Int32) <<< (nI j &&& 31)), ks ||| ((1 : Int32) <<< (nI j &&& 31)), kk, o, ch, upd a j x, b', d)) (h1 : ¬ o = 0 → post 1 (ks ||| ((1 : Int32) <<< (nI j &&& 31)), bk, kk, o, ch + 1, upd a j x, b, d)) : wpY_put post (ks, bk, kk, o, ch, a, b, d) (nI j) x := by
  unfold wpY_put
  dsimp only
  rw [gy_cl hj]
  exact gy_key1 _ hj _ (br_f (by decide) (nm_e ⟨gy_in hj, nm_e (gy_change _ bk kk o ch _ b d _ h0 h1)⟩))
theorem i_vc_put {k : Nat} {u : SX} {v : SY} (I : i_Rel k u v) (hk : k + 3 ≤ 1536) (v1 : Int32) (v2 : Int32) : wpX_put (fun r u' => wpY_put (fun r' v' => r' = r ∧ i_Rel (k + 3) u' v') v v1 v2) u v1 v2 := by
  have I' := i_up I
  obtain ⟨s, c, w, o, K, V, P, ks, bk, kk, ch, a, b, d, rfl, rfl, h1, h2, h3, h4, h5, hB, y1, y2, y3⟩ := I
  rcases pk_ix v1 (n := 16) (by omega) with h | h | ⟨j, hj, rfl⟩
  · exact gx_put0 _ _ _ _ K V P (Or.inl h) _ (gy_put0 ks bk kk o ch a b d (Or.inl h) _ ⟨rfl, I'⟩)
  · exact gx_put0 _ _ _ _ K V P (Or.inr h) _ (gy_put0 ks bk kk o ch a b d (Or.inr h) _ ⟨rfl, I'⟩)
  · have y : gs_Y (ks ||| ((1 : Int32) <<< (nI j &&& 31))) (upd a j v2) (gs_pic (gs_rc (upd K w (nI j)) (upd V w v2) (upd P w 1)) (w + 1)) := gs_Yp hj y1 (gr_p1.trans (if_neg (show ¬ (1 : Int32) = 0 from by decide))) gr_p2
    refine gx_put1 _ _ _ K V P (by omega) hj v2 _ (fun ho => ?_) (fun ho => ?_)
    · exact gy_put1 ks bk kk o ch a b d hj v2 _ (fun _ b' hb => ⟨rfl, gr_w0 (by omega) h3 hB y3 _ _ _ (Or.inr rfl) _ _ _ ho hb y⟩) (fun z => absurd ho z)
    · exact gy_put1 ks bk kk o ch a b d hj v2 _ (fun z => absurd z ho) (fun _ => ⟨rfl, gr_w1 h1 h2 h3 h5 hB y2 y3 _ _ _ (Or.inr rfl) _ _ ho y⟩)
theorem i_vc_remove {k : Nat} {u : SX} {v : SY} (I : i_Rel k u v) (hk : k + 3 ≤ 1536) (v1 : Int32) : wpX_remove (fun r u' => wpY_remove (fun r' v' => r' = r ∧ i_Rel (k + 3) u' v') v v1) u v1 := by
  have I' := i_up I
  obtain ⟨s, c, w, o, K, V, P, ks, bk, kk, ch, a, b, d, rfl, rfl, h1, h2, h3, h4, h5, hB, y1, y2, y3⟩ := I
  unfold wpX_remove
  dsimp only
  refine gx_there _ _ _ _ K V P v1 _ (by omega) (fun q => br_t rfl ?_) (fun x q => br_f (by decide) ?_)
  · unfold wpY_remove
    dsimp only
    refine gy_has ks bk kk o ch a b d y1 v1 _ (fun _ => br_t rfl ⟨rfl, I'⟩) (fun x z => ?_)
    rw [q] at z; exact nomatch z
  · rcases pk_ix v1 (n := 16) (by omega) with h | h | ⟨j, hj, rfl⟩
    · rw [y1.2.2.2 v1 (Or.inl h)] at q; exact nomatch q
    · rw [y1.2.2.2 v1 (Or.inr h)] at q; exact nomatch q
    · have y : gs_Y (ks &&& (((1 : Int32) <<< (nI j &&& 31)) ^^^ (-1))) a (gs_pic (gs_rc (upd K w (nI j)) (upd V w 0) (upd P w 0)) (w + 1)) := gs_Yr hj y1 (gr_p1.trans (if_pos rfl)) gr_p2
      refine gx_write _ _ _ K V P (by omega) _ _ _ (Or.inl rfl) _ (fun ho => ⟨gs_nb (Or.inr rfl), ?_⟩) (fun ho => ⟨gs_nb (Or.inr rfl), ?_⟩)
      · unfold wpY_remove
        dsimp only
        refine gy_has ks bk kk o ch a b d y1 _ _ (fun z => ?_) (fun x z => br_f (by decide) (nm_e (gy_change _ bk kk o ch a b d _ (fun _ b' hb => ⟨rfl, gr_w0 (by omega) h3 hB y3 _ _ _ (Or.inl rfl) _ _ _ ho hb y⟩) (fun z => absurd ho z))))
        rw [q] at z; exact nomatch z
      · unfold wpY_remove
        dsimp only
        refine gy_has ks bk kk o ch a b d y1 _ _ (fun z => ?_) (fun x z => br_f (by decide) (nm_e (gy_change _ bk kk o ch a b d _ (fun z => absurd z ho) (fun _ => ⟨rfl, gr_w1 h1 h2 h3 h5 hB y2 y3 _ _ _ (Or.inl rfl) _ _ ho y⟩))))
        rw [q] at z; exact nomatch z
theorem i_vc_commit {k : Nat} {u : SX} {v : SY} (I : i_Rel k u v) (hk : k + 3 ≤ 1536) : wpX_commit (fun r u' => wpY_commit (fun r' v' => r' = r ∧ i_Rel (k + 3) u' v') v) u := by
  have I' := i_up I
  obtain ⟨s, c, w, o, K, V, P, ks, bk, kk, ch, a, b, d, rfl, rfl, h1, h2, h3, h4, h5, hB, y1, y2, y3⟩ := I
  by_cases ho : o = 0
  · exact br_t ho (br_t ho ⟨rfl, I'⟩)
  · refine br_f ho (br_f ho (gy_settle ks bk kk 0 ch a b d _ (fun b' hb => ⟨rfl, s, w, w, 0, K, V, P, ks, ks, kk, ch, a, b', d, rfl, rfl, by omega, Nat.le_refl _, by omega, fun _ => rfl, fun z => absurd rfl z, hB, y1, gs_Yc y1 hb (fun _ => rfl), y3⟩)))
theorem i_vc_abort {k : Nat} {u : SX} {v : SY} (I : i_Rel k u v) (hk : k + 3 ≤ 1536) : wpX_abort (fun r u' => wpY_abort (fun r' v' => r' = r ∧ i_Rel (k + 3) u' v') v) u := by
  have I' := i_up I
  obtain ⟨s, c, w, o, K, V, P, ks, bk, kk, ch, a, b, d, rfl, rfl, h1, h2, h3, h4, h5, hB, y1, y2, y3⟩ := I
  by_cases ho : o = 0
  · exact br_t ho (br_t ho ⟨rfl, I'⟩)
  · refine br_f ho (br_f ho (gy_back ks bk kk 0 ch a b d _ (fun a' ha => ⟨rfl, s, c, c, 0, K, V, P, bk, bk, kk, ch, a', b, d, rfl, rfl, h1, Nat.le_refl _, by omega, fun _ => rfl, fun z => absurd rfl z, hB, gs_Yc y2 ha (fun _ => rfl), y2, y3⟩)))
theorem i_vc_sync {k : Nat} {u : SX} {v : SY} (I : i_Rel k u v) (hk : k + 3 ≤ 1536) : wpX_sync (fun u' => wpY_sync (fun v' => i_Rel (k + 3) u' v') v) u := by
  obtain ⟨s, c, w, o, K, V, P, ks, bk, kk, ch, a, b, d, rfl, rfl, h1, h2, h3, h4, h5, hB, y1, y2, y3⟩ := I
  exact gy_sync ks bk kk o ch a b d _ (fun d' hd => ⟨c, c, w, o, K, V, P, ks, bk, bk, ch, a, b, d', rfl, rfl, Nat.le_refl _, h2, by omega, h4, h5, hB, y1, y2, gs_Yc y2 hd (fun _ => rfl)⟩)
theorem i_vc_clean {k : Nat} {u : SX} {v : SY} (I : i_Rel k u v) (hk : k + 3 ≤ 1536) : wpX_clean (fun u' => wpY_clean (fun v' => i_Rel (k + 3) u' v') v) u := by
  obtain ⟨s, c, w, o, K, V, P, ks, bk, kk, ch, a, b, d, rfl, rfl, h1, h2, h3, h4, h5, hB, y1, y2, y3⟩ := I
  refine gx_clean o K V P h1 h2 (by omega) _ hB (fun s' c' w' K' V' P' g1 g2 g3 g4 p1 p2 p3 hB' => ?_)
  exact ⟨s', c', w', o, K', V', P', ks, bk, kk, ch, a, b, d, rfl, rfl, g1, g2, by omega, fun ho => (by have := h4 ho; omega), fun ho => (by rw [h5 ho, show w' - c' = w - c from by omega]), hB', gs_Yc y1 (fun _ _ => rfl) p3, gs_Yc y2 (fun _ _ => rfl) p2, gs_Yc y3 (fun _ _ => rfl) p1⟩
theorem i_vc_crash {k : Nat} {u : SX} {v : SY} (I : i_Rel k u v) (hk : k + 3 ≤ 1536) : wpX_crash (fun u' => wpY_crash (fun v' => i_Rel (k + 3) u' v') v) u := by
  obtain ⟨s, c, w, o, K, V, P, ks, bk, kk, ch, a, b, d, rfl, rfl, h1, h2, h3, h4, h5, hB, y1, y2, y3⟩ := I
  exact gy_crash ks bk kk o ch a b d _ (fun a' b' ha hb => ⟨s, s, s, 0, K, V, P, kk, kk, kk, ch, a', b', d, rfl, rfl, Nat.le_refl _, Nat.le_refl _, by omega, fun _ => rfl, fun z => absurd rfl z, hB, gs_Yc y3 ha (fun _ => rfl), gs_Yc y3 hb (fun _ => rfl), y3⟩)
theorem i_vc_has {k : Nat} {u : SX} {v : SY} (I : i_Rel k u v) (hk : k + 3 ≤ 1536) (v1 : Int32) : wpX_has (fun r => wpY_has (fun r' => r' = r ∧ i_Rel (k + 3) u v) v v1) u v1 := by
  have I' := i_up I
  obtain ⟨s, c, w, o, K, V, P, ks, bk, kk, ch, a, b, d, rfl, rfl, h1, h2, h3, h4, h5, hB, y1, y2, y3⟩ := I
  unfold wpX_has
  dsimp only
  refine gx_there _ _ _ _ K V P v1 _ (by omega) (fun q => ⟨gs_nb (Or.inl rfl), ?_⟩) (fun x q => ⟨gs_nb (Or.inr rfl), ?_⟩)
  · refine gy_has ks bk kk o ch a b d y1 v1 _ (fun _ => ⟨rfl, I'⟩) (fun x z => ?_)
    rw [q] at z; exact nomatch z
  · refine gy_has ks bk kk o ch a b d y1 v1 _ (fun z => ?_) (fun _ _ => ⟨rfl, I'⟩)
    rw [q] at z; exact nomatch z
theorem i_vc_get {k : Nat} {u : SX} {v : SY} (I : i_Rel k u v) (hk : k + 3 ≤ 1536) (v1 : Int32) : wpX_get (fun r => wpY_get (fun r' => r' = r ∧ i_Rel (k + 3) u v) v v1) u v1 := by
  have I' := i_up I
  obtain ⟨s, c, w, o, K, V, P, ks, bk, kk, ch, a, b, d, rfl, rfl, h1, h2, h3, h4, h5, hB, y1, y2, y3⟩ := I
  unfold wpX_get
  dsimp only
  exact gx_value _ _ _ _ K V P v1 _ (by omega) (gy_get ks bk kk o ch a b d y1 v1 _ ⟨rfl, I'⟩)
theorem i_vc_next {k : Nat} {u : SX} {v : SY} (I : i_Rel k u v) (hk : k + 3 ≤ 1536) (v1 : Int32) : wpX_next (fun r => wpY_next (fun r' => r' = r ∧ i_Rel (k + 3) u v) v v1) u v1 := by
  have I' := i_up I
  obtain ⟨s, c, w, o, K, V, P, ks, bk, kk, ch, a, b, d, rfl, rfl, h1, h2, h3, h4, h5, hB, y1, y2, y3⟩ := I
  by_cases h0 : 0 ≤ v1
  · obtain ⟨m, hm, rfl⟩ := nI_of (x := v1) (Int32.not_lt.mpr h0)
    by_cases h16 : m < 16
    · obtain ⟨r, hX, hZ⟩ := gz_next (nI s) (nI c) o K V P (w := w) (by omega) ks bk kk o ch a b d y1 (nI m) (16 - m) m (by omega) (fun j g1 g2 => nI_nlt g1 (by omega))
      refine br_t h0 ⟨_, hX _ ⟨(16 - m + 1) + m, gy_nskip ks bk kk o ch a b d hm _ (16 - m + 1) m 0 (by omega) (by omega) ?_⟩⟩
      rw [Nat.zero_add]
      exact hZ _ ⟨rfl, I'⟩
    · refine br_t h0 ⟨1, br_t (by rw [← gs_16]; exact nI_le (by omega) hm) ⟨1 + 16, gy_nskip ks bk kk o ch a b d hm _ 1 16 0 (by omega) (by omega) (br_t gy_hi ⟨rfl, I'⟩)⟩⟩
  · obtain ⟨r, hX, hZ⟩ := gz_next (nI s) (nI c) o K V P (w := w) (by omega) ks bk kk o ch a b d y1 v1 16 0 rfl (fun j g1 g2 z => h0 (Int32.le_of_lt (Int32.lt_of_le_of_lt (nI_pos' (by omega)) z)))
    rw [nI_0] at hX hZ
    exact br_f h0 ⟨_, hX _ ⟨_, hZ _ ⟨rfl, I'⟩⟩⟩
theorem i_vc_count {k : Nat} {u : SX} {v : SY} (I : i_Rel k u v) (hk : k + 3 ≤ 1536) : wpX_count (fun r => wpY_count (fun r' => r' = r ∧ i_Rel (k + 3) u v) v) u := by
  have I' := i_up I
  obtain ⟨s, c, w, o, K, V, P, ks, bk, kk, ch, a, b, d, rfl, rfl, h1, h2, h3, h4, h5, hB, y1, y2, y3⟩ := I
  obtain ⟨r, hX, hZ⟩ := gz_count (nI s) (nI c) o K V P (w := w) (by omega) ks bk kk o ch a b d y1 16 0 0 rfl
  rw [nI_0] at hX hZ
  exact ⟨_, hX _ ⟨_, hZ _ ⟨rfl, I'⟩⟩⟩
theorem i_vc_safeKeys {k : Nat} {u : SX} {v : SY} (I : i_Rel k u v) (hk : k + 3 ≤ 1536) : wpX_safeKeys (fun r => wpY_safeKeys (fun r' => r' = r ∧ i_Rel (k + 3) u v) v) u := by
  have I' := i_up I
  obtain ⟨s, c, w, o, K, V, P, ks, bk, kk, ch, a, b, d, rfl, rfl, h1, h2, h3, h4, h5, hB, y1, y2, y3⟩ := I
  refine ⟨17, gx_sk4 (nI c) (nI w) o K V P (s := s) (by omega) _ (fun r hr => ⟨b_ext (fun j _ => ?_), I'⟩) 16 0 0 rfl (fun j => b_0 j)⟩
  rw [hr j]
  by_cases l : j < 16
  · rw [decide_eq_true l, Bool.true_and]; exact y3.1 j l
  · rw [decide_eq_false l, Bool.false_and]; exact y3.2.2.1 j (by omega)
theorem i_vc_safeValue {k : Nat} {u : SX} {v : SY} (I : i_Rel k u v) (hk : k + 3 ≤ 1536) (v1 : Int32) : wpX_safeValue (fun r => wpY_safeValue (fun r' => r' = r ∧ i_Rel (k + 3) u v) v v1) u v1 := by
  have I' := i_up I
  obtain ⟨s, c, w, o, K, V, P, ks, bk, kk, ch, a, b, d, rfl, rfl, h1, h2, h3, h4, h5, hB, y1, y2, y3⟩ := I
  unfold wpX_safeValue
  dsimp only
  exact gx_value _ _ _ _ K V P v1 _ (by omega) (gy_sval ks bk kk o ch a b d y3 v1 _ ⟨rfl, I'⟩)
theorem i_vc_unsafe {k : Nat} {u : SX} {v : SY} (I : i_Rel k u v) (hk : k + 3 ≤ 1536) : wpX_unsafe (fun r => wpY_unsafe (fun r' => r' = r ∧ i_Rel (k + 3) u v) v) u := by
  have I' := i_up I
  obtain ⟨s, c, w, o, K, V, P, ks, bk, kk, ch, a, b, d, rfl, rfl, h1, h2, h3, h4, h5, hB, y1, y2, y3⟩ := I
  refine ⟨17, gx_un4 (nI c) o K V P (s := s) (w := w) (by omega) (by omega) _ (fun r hr => ?_) 16 0 0 rfl (fun j => b_0 j)⟩
  refine nm_e ⟨17, gy_un12 ks bk kk o ch a b d y1 y3 _ (fun r' hr' => ⟨b_ext (fun j _ => ?_), I'⟩) 16 0 _ rfl (fun j => b_xor ks kk j)⟩
  rw [hr j, hr' j]
  by_cases l : j < 16
  · rw [decide_eq_true l, Bool.true_and, if_pos l]
  · rw [decide_eq_false l, Bool.false_and, if_neg l, y1.2.2.1 j (by omega), y3.2.2.1 j (by omega)]; rfl
theorem i_vc_pending {k : Nat} {u : SX} {v : SY} (I : i_Rel k u v) (hk : k + 3 ≤ 1536) : wpX_pending (fun r => wpY_pending (fun r' => r' = r ∧ i_Rel (k + 3) u v) v) u := by
  have I' := i_up I
  obtain ⟨s, c, w, o, K, V, P, ks, bk, kk, ch, a, b, d, rfl, rfl, h1, h2, h3, h4, h5, hB, y1, y2, y3⟩ := I
  have e : nI w - nI c = nI (w - c) := pk_sub h2
  refine br_c (fun ho => ⟨?_, I'⟩) (fun ho => ⟨?_, I'⟩)
  · rw [e, ← h4 ho, Nat.sub_self, nI_0]
  · rw [e]; exact h5 ho
end
