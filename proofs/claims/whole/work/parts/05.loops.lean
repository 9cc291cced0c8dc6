theorem gs_st0 {p : Nat → Bool} {x : Int32} {i : Nat} (h : ∀ j, bt x j = (decide (j < i) && p j)) (hp : p i = false) : ∀ j, bt x j = (decide (j < i + 1) && p j) := by
  intro j
  rw [h j]
  by_cases e : j = i
  · subst e; rw [hp, Bool.and_false, Bool.and_false]
  · have q : (j < i) = (j < i + 1) := propext ⟨fun z => by omega, fun z => by omega⟩
    simp only [q]
theorem gs_st1 {p : Nat → Bool} {x : Int32} {i : Nat} (hi : i < 16) (h : ∀ j, bt x j = (decide (j < i) && p j)) (hp : p i = true) : ∀ j, bt (x ||| ((1 : Int32) <<< (nI i &&& 31))) j = (decide (j < i + 1) && p j) := by
  intro j
  rw [gs_bor hi, h j]
  by_cases e : j = i
  · subst e; rw [hp, decide_eq_true rfl, decide_eq_true (Nat.lt_succ_self j), Bool.or_true]; rfl
  · have q : (j < i) = (j < i + 1) := propext ⟨fun z => by omega, fun z => by omega⟩
    rw [decide_eq_false e, Bool.or_false]
    simp only [q]
theorem gs_su0 {p q : Nat → Bool} {x : Int32} {i : Nat} (h : ∀ j, bt x j = if j < i then p j else q j) (hp : q i = p i) : ∀ j, bt x j = if j < i + 1 then p j else q j := by
  intro j
  rw [h j]
  by_cases e : j = i
  · subst e; rw [if_neg (Nat.lt_irrefl j), if_pos (Nat.lt_succ_self j), hp]
  · by_cases l : j < i
    · rw [if_pos l, if_pos (by omega)]
    · rw [if_neg l, if_neg (by omega)]
theorem gs_su1 {p q : Nat → Bool} {x : Int32} {i : Nat} (hi : i < 16) (h : ∀ j, bt x j = if j < i then p j else q j) (hp : p i = true) : ∀ j, bt (x ||| ((1 : Int32) <<< (nI i &&& 31))) j = if j < i + 1 then p j else q j := by
  intro j
  rw [gs_bor hi, h j]
  by_cases e : j = i
  · subst e; rw [if_pos (Nat.lt_succ_self j), hp, decide_eq_true rfl, Bool.or_true]
  · rw [decide_eq_false e, Bool.or_false]
    by_cases l : j < i
    · rw [if_pos l, if_pos (by omega)]
    · rw [if_neg l, if_neg (by omega)]
theorem gx_sk4 (fc fw fo : Int32) (K V P : Nat → Int32) {s : Nat} (hs : s ≤ 512) (post : Int32 → Prop) (hp : ∀ r, (∀ j, bt r j = (decide (j < 16) && (gs_pic (gs_rc K V P) s (nI j)).isSome)) → post r) : ∀ (n i : Nat) (x : Int32), i + n = 16 → (∀ j, bt x j = (decide (j < i) && (gs_pic (gs_rc K V P) s (nI j)).isSome)) → wX_safeKeys_4 post (nI s) fc fw fo K V P (n + 1) x (nI i) := by
  intro n
  induction n with
  | zero =>
    intro i x hi h
    have q : i = 16 := by omega
    subst q
    exact br_t gy_hi (hp x h)
  | succ n ih =>
    intro i x hi h
    have l : i < 16 := by omega
    refine br_f (gy_lo l) (gx_there (nI s) fc fw fo K V P (nI i) _ hs (fun z => ?_) (fun y z => ?_))
    · exact br_t rfl (nm_r (nI_1 i) (ih (i + 1) x (by omega) (gs_st0 (p := fun j => (gs_pic (gs_rc K V P) s (nI j)).isSome) h (by rw [z]; rfl))))
    · exact br_f (by decide) (nm_e (nm_r (nI_1 i) (ih (i + 1) _ (by omega) (gs_st1 (p := fun j => (gs_pic (gs_rc K V P) s (nI j)).isSome) l h (by rw [z]; rfl)))))
theorem gx_un4 (fc fo : Int32) (K V P : Nat → Int32) {s w : Nat} (hs : s ≤ 512) (hw : w ≤ 512) (post : Int32 → Prop) (hp : ∀ r, (∀ j, bt r j = (decide (j < 16) && decide (gs_pic (gs_rc K V P) w (nI j) ≠ gs_pic (gs_rc K V P) s (nI j)))) → post r) : ∀ (n i : Nat) (x : Int32), i + n = 16 → (∀ j, bt x j = (decide (j < i) && decide (gs_pic (gs_rc K V P) w (nI j) ≠ gs_pic (gs_rc K V P) s (nI j)))) → wX_unsafe_4 post (nI s) fc (nI w) fo K V P (n + 1) x (nI i) := by
  intro n
  induction n with
  | zero =>
    intro i x hi h
    have q : i = 16 := by omega
    subst q
    exact br_t gy_hi (hp x h)
  | succ n ih =>
    intro i x hi h
    have l : i < 16 := by omega
    refine br_f (gy_lo l) (gx_differs fc fo K V P (nI i) _ hs hw (fun z => ?_) (fun z => ?_))
    · exact br_t rfl (nm_r (nI_1 i) (ih (i + 1) x (by omega) (gs_st0 (p := fun j => decide (gs_pic (gs_rc K V P) w (nI j) ≠ gs_pic (gs_rc K V P) s (nI j))) h (decide_eq_false (fun q => q z)))))
    · exact br_f (by decide) (nm_e (nm_r (nI_1 i) (ih (i + 1) _ (by omega) (gs_st1 (p := fun j => decide (gs_pic (gs_rc K V P) w (nI j) ≠ gs_pic (gs_rc K V P) s (nI j))) l h (decide_eq_true z)))))
theorem gy_un12 (ks bk kk o ch : Int32) (a b d : Nat → Int32) {f g : Int32 → Option Int32} (hf : gs_Y ks a f) (hg : gs_Y kk d g) (post : Int32 → Prop) (hp : ∀ r, (∀ j, bt r j = if j < 16 then decide (f (nI j) ≠ g (nI j)) else (bt ks j ^^ bt kk j)) → post r) : ∀ (n i : Nat) (x : Int32), i + n = 16 → (∀ j, bt x j = if j < i then decide (f (nI j) ≠ g (nI j)) else (bt ks j ^^ bt kk j)) → wY_unsafe_12 post ks bk kk o ch a b d (n + 1) x (nI i) := by
  intro n
  induction n with
  | zero =>
    intro i x hi h
    have q : i = 16 := by omega
    subst q
    exact br_t gy_hi (hp x h)
  | succ n ih =>
    intro i x hi h
    have l : i < 16 := by omega
    have ef := hf.1 i l
    have eg := hg.1 i l
    refine br_f (gy_lo l) ?_
    by_cases z : bt ks i = true
    · refine br_t ((gs_bit1 l ks).mpr z) ?_
      cases qf : f (nI i) with
      | none => rw [qf, z] at ef; exact nomatch ef
      | some x1 =>
        by_cases y : bt kk i = true
        · refine br_t ((gs_bit1 l kk).mpr y) ?_
          cases qg : g (nI i) with
          | none => rw [qg, y] at eg; exact nomatch eg
          | some x2 =>
            refine br_f (by decide) ⟨gy_in l, gy_in l, ?_⟩
            rw [gy_cl l, hf.2.1 i x1 l qf, hg.2.1 i x2 l qg]
            by_cases t : x1 = x2
            · refine br_t t (nm_r (nI_1 i) (ih (i + 1) x (by omega) (gs_su0 (p := fun j => decide (f (nI j) ≠ g (nI j))) (q := fun j => (bt ks j ^^ bt kk j)) h ?_)))
              rw [z, y, qf, qg, decide_eq_false (fun q => q (congrArg some t))]; rfl
            · refine br_f t (nm_e (nm_r (nI_1 i) (ih (i + 1) _ (by omega) (gs_su1 (p := fun j => decide (f (nI j) ≠ g (nI j))) (q := fun j => (bt ks j ^^ bt kk j)) l h ?_))))
              rw [qf, qg]
              exact decide_eq_true (fun q => t (Option.some.inj q))
        · refine br_f (fun q => y ((gs_bit1 l kk).mp q)) (br_t rfl (nm_r (nI_1 i) (ih (i + 1) x (by omega) (gs_su0 (p := fun j => decide (f (nI j) ≠ g (nI j))) (q := fun j => (bt ks j ^^ bt kk j)) h ?_))))
          have y' : bt kk i = false := by simpa using y
          cases qg : g (nI i) with
          | none => rw [z, y', qf, decide_eq_true (fun q => nomatch q)]; rfl
          | some x2 => rw [qg, y'] at eg; exact nomatch eg
    · have z' : bt ks i = false := by simpa using z
      refine br_f (fun q => z ((gs_bit1 l ks).mp q)) (br_t rfl (nm_r (nI_1 i) (ih (i + 1) x (by omega) (gs_su0 (p := fun j => decide (f (nI j) ≠ g (nI j))) (q := fun j => (bt ks j ^^ bt kk j)) h ?_))))
      cases qf : f (nI i) with
      | some x1 => rw [qf, z'] at ef; exact nomatch ef
      | none =>
        cases qg : g (nI i) with
        | none =>
          rw [qg] at eg
          rw [z', eg, decide_eq_false (fun q => q rfl)]; rfl
        | some x2 =>
          rw [qg] at eg
          rw [z', eg, decide_eq_true (fun q => nomatch q)]; rfl
theorem gz_count (fs fc fo : Int32) (K V P : Nat → Int32) {w : Nat} (hw : w ≤ 512) (ks bk kk o ch : Int32) (a b d : Nat → Int32) (hY : gs_Y ks a (gs_pic (gs_rc K V P) w)) : ∀ (n i : Nat) (x : Int32), i + n = 16 → ∃ r : Int32, (∀ post : Int32 → Prop, post r → wX_count_4 post fs fc (nI w) fo K V P (n + 1) x (nI i)) ∧ (∀ post : Int32 → Prop, post r → wY_count_4 post ks bk kk o ch a b d (n + 1) x (nI i)) := by
  intro n
  induction n with
  | zero =>
    intro i x hi
    have q : i = 16 := by omega
    subst q
    exact ⟨x, fun _ h => br_t gy_hi h, fun _ h => br_t gy_hi h⟩
  | succ n ih =>
    intro i x hi
    have l : i < 16 := by omega
    have e := hY.1 i l
    cases q : gs_pic (gs_rc K V P) w (nI i) with
    | none =>
      rw [q] at e
      obtain ⟨r, hX, hZ⟩ := ih (i + 1) x (by omega)
      refine ⟨r, fun post h => br_f (gy_lo l) (gx_there fs fc (nI w) fo K V P (nI i) _ hw (fun _ => br_t rfl (nm_r (nI_1 i) (hX post h))) (fun y z => ?_)), fun post h => br_f (gy_lo l) (nm_r (e' := x) ?_ (nm_r (nI_1 i) (hZ post h)))⟩
      · rw [q] at z; exact nomatch z
      · rw [gs_bit l, e]; exact Int32.add_zero x
    | some y =>
      rw [q] at e
      obtain ⟨r, hX, hZ⟩ := ih (i + 1) (x + 1) (by omega)
      refine ⟨r, fun post h => br_f (gy_lo l) (gx_there fs fc (nI w) fo K V P (nI i) _ hw (fun z => ?_) (fun _ _ => br_f (by decide) (nm_e (nm_r (nI_1 i) (hX post h))))), fun post h => br_f (gy_lo l) (nm_r (e' := x + 1) ?_ (nm_r (nI_1 i) (hZ post h)))⟩
      · rw [q] at z; exact nomatch z
      · rw [gs_bit l, e]; rfl
theorem gz_next (fs fc fo : Int32) (K V P : Nat → Int32) {w : Nat} (hw : w ≤ 512) (ks bk kk o ch : Int32) (a b d : Nat → Int32) (hY : gs_Y ks a (gs_pic (gs_rc K V P) w)) (k : Int32) : ∀ (n i : Nat), i + n = 16 → (∀ j, i ≤ j → j < 16 → ¬ nI j < k) → ∃ r : Int32, (∀ post : Int32 → Prop, post r → wX_next_12 post fs fc (nI w) fo K V P (n + 1) (nI i)) ∧ (∀ post : Int32 → Prop, post r → wY_next_2 post k ks bk kk o ch a b d (n + 1) (nI i)) := by
  intro n
  induction n with
  | zero =>
    intro i hi _
    have q : i = 16 := by omega
    subst q
    exact ⟨-1, fun _ h => br_t gy_hi h, fun _ h => br_t gy_hi h⟩
  | succ n ih =>
    intro i hi hk
    have l : i < 16 := by omega
    have e := hY.1 i l
    have g := hk i (Nat.le_refl i) l
    cases q : gs_pic (gs_rc K V P) w (nI i) with
    | none =>
      rw [q] at e
      obtain ⟨r, hX, hZ⟩ := ih (i + 1) (by omega) (fun j h1 h2 => hk j (by omega) h2)
      refine ⟨r, fun post h => br_f (gy_lo l) (gx_there fs fc (nI w) fo K V P (nI i) _ hw (fun _ => br_t rfl (nm_r (nI_1 i) (hX post h))) (fun y z => ?_)), fun post h => br_f (gy_lo l) (br_f g (br_f (fun z => ?_) (nm_r (nI_1 i) (hZ post h))))⟩
      · rw [q] at z; exact nomatch z
      · rw [gs_bit1 l, e] at z; exact nomatch z
    | some y =>
      rw [q] at e
      refine ⟨nI i, fun post h => br_f (gy_lo l) (gx_there fs fc (nI w) fo K V P (nI i) _ hw (fun z => ?_) (fun _ _ => br_f (by decide) h)), fun post h => br_f (gy_lo l) (br_f g (br_t ?_ h))⟩
      · rw [q] at z; exact nomatch z
      · rw [gs_bit1 l, e]; rfl
theorem gy_nskip (ks bk kk o ch : Int32) (a b d : Nat → Int32) {m : Nat} (hm : m < 2 ^ 31) (post : Int32 → Prop) (f : Nat) : ∀ (n i : Nat), i + n ≤ 16 → i + n ≤ m → wY_next_2 post (nI m) ks bk kk o ch a b d f (nI (i + n)) → wY_next_2 post (nI m) ks bk kk o ch a b d (f + n) (nI i) := by
  intro n
  induction n with
  | zero => exact fun i _ _ h => h
  | succ n ih =>
    intro i h1 h2 h
    have l : i < 16 := by omega
    refine br_f (gy_lo l) (br_t (nI_lt (by omega) hm) (nm_r (nI_1 i) (ih (i + 1) (by omega) (by omega) ?_)))
    rw [show i + 1 + n = i + (n + 1) from by omega]
    exact h
