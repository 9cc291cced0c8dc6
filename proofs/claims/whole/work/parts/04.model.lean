theorem gy_in {i : Nat} (h : i < 16) : vp_in (nI i) 16 := vp_in_nI h (by omega)
theorem gy_lo {i : Nat} (h : i < 16) : ¬ (16 : Int32) ≤ nI i := by rw [← gs_16]; exact nI_ge h (by omega)
theorem gy_hi : (16 : Int32) ≤ nI 16 := by decide +kernel
theorem gy_cl {i : Nat} (h : i < 16) : (nI i).toNatClampNeg = i := nI_clamp (by omega)
theorem gy_15 {k : Int32} (h : nI 16 ≤ k) : 15 < k := Int32.lt_of_lt_of_le (by decide +kernel : (15 : Int32) < nI 16) h
theorem gy_15n {j : Nat} (h : j < 16) : ¬ 15 < nI j := by
  rw [show (15 : Int32) = nI 15 from by decide +kernel]
  exact nI_nlt (by omega) (by omega)
theorem gs_cp {x y : Nat → Int32} {i : Nat} (h : ∀ j, j < i → x j = y j) : ∀ j, j < i + 1 → upd x i (y i) j = y j := by
  intro j hj
  by_cases e : j = i
  · subst e; exact pk_us
  · rw [pk_un e]; exact h j (by omega)
theorem gy_settle10 (ks bk kk o ch : Int32) (a d : Nat → Int32) (post : SY → Prop) (hp : ∀ b : Nat → Int32, (∀ j, j < 16 → b j = a j) → post (ks, bk, kk, o, ch, a, b, d)) : ∀ (n i : Nat) (b : Nat → Int32), i + n = 16 → (∀ j, j < i → b j = a j) → wY_settle_10 post ks bk kk o ch (n + 1) (nI i) a b d := by
  intro n
  induction n with
  | zero =>
    intro i b hi h
    have q : i = 16 := by omega
    subst q
    exact br_t gy_hi (hp b h)
  | succ n ih =>
    intro i b hi h
    have l : i < 16 := by omega
    refine br_f (gy_lo l) ⟨gy_in l, gy_in l, ?_⟩
    rw [gy_cl l]
    exact nm_e (nm_r (nI_1 i) (ih (i + 1) _ (by omega) (gs_cp h)))
theorem gy_settle (ks bk kk o ch : Int32) (a b d : Nat → Int32) (post : SY → Prop) (hp : ∀ b' : Nat → Int32, (∀ j, j < 16 → b' j = a j) → post (ks, ks, kk, o, ch, a, b', d)) : wpY_settle post (ks, bk, kk, o, ch, a, b, d) :=
  ⟨17, gy_settle10 ks ks kk o ch a d post hp 16 0 b rfl (fun j hj => absurd hj (by omega))⟩
theorem gy_back10 (ks bk kk o ch : Int32) (b d : Nat → Int32) (post : SY → Prop) (hp : ∀ a : Nat → Int32, (∀ j, j < 16 → a j = b j) → post (ks, bk, kk, o, ch, a, b, d)) : ∀ (n i : Nat) (a : Nat → Int32), i + n = 16 → (∀ j, j < i → a j = b j) → wY_back_10 post ks bk kk o ch (n + 1) (nI i) a b d := by
  intro n
  induction n with
  | zero =>
    intro i a hi h
    have q : i = 16 := by omega
    subst q
    exact br_t gy_hi (hp a h)
  | succ n ih =>
    intro i a hi h
    have l : i < 16 := by omega
    refine br_f (gy_lo l) ⟨gy_in l, gy_in l, ?_⟩
    rw [gy_cl l]
    exact nm_e (nm_r (nI_1 i) (ih (i + 1) _ (by omega) (gs_cp h)))
theorem gy_back (ks bk kk o ch : Int32) (a b d : Nat → Int32) (post : SY → Prop) (hp : ∀ a' : Nat → Int32, (∀ j, j < 16 → a' j = b j) → post (bk, bk, kk, o, ch, a', b, d)) : wpY_back post (ks, bk, kk, o, ch, a, b, d) :=
  ⟨17, gy_back10 bk bk kk o ch b d post hp 16 0 a rfl (fun j hj => absurd hj (by omega))⟩
theorem gy_sync10 (ks bk kk o ch : Int32) (a b : Nat → Int32) (post : SY → Prop) (hp : ∀ d : Nat → Int32, (∀ j, j < 16 → d j = b j) → post (ks, bk, kk, o, ch, a, b, d)) : ∀ (n i : Nat) (d : Nat → Int32), i + n = 16 → (∀ j, j < i → d j = b j) → wY_sync_10 post ks bk kk o ch (n + 1) (nI i) a b d := by
  intro n
  induction n with
  | zero =>
    intro i d hi h
    have q : i = 16 := by omega
    subst q
    exact br_t gy_hi (hp d h)
  | succ n ih =>
    intro i d hi h
    have l : i < 16 := by omega
    refine br_f (gy_lo l) ⟨gy_in l, gy_in l, ?_⟩
    rw [gy_cl l]
    exact nm_e (nm_r (nI_1 i) (ih (i + 1) _ (by omega) (gs_cp h)))
theorem gy_sync (ks bk kk o ch : Int32) (a b d : Nat → Int32) (post : SY → Prop) (hp : ∀ d' : Nat → Int32, (∀ j, j < 16 → d' j = b j) → post (ks, bk, bk, o, ch, a, b, d')) : wpY_sync post (ks, bk, kk, o, ch, a, b, d) :=
  ⟨17, gy_sync10 ks bk bk o ch a b post hp 16 0 d rfl (fun j hj => absurd hj (by omega))⟩
theorem gy_crash15 (ks bk kk o ch : Int32) (a d : Nat → Int32) (post : SY → Prop) (hp : ∀ a' b : Nat → Int32, (∀ j, j < 16 → a' j = d j) → (∀ j, j < 16 → b j = d j) → post (bk, bk, kk, o, ch, a', b, d)) : ∀ (n i : Nat) (b : Nat → Int32), i + n = 16 → (∀ j, j < i → b j = d j) → wY_crash_15 post ks bk kk o ch (n + 1) (nI i) a b d := by
  intro n
  induction n with
  | zero =>
    intro i b hi h
    have q : i = 16 := by omega
    subst q
    exact br_t gy_hi (gy_back ks bk kk o ch a b d _ (fun a' h' => hp a' b (fun j hj => (h' j hj).trans (h j hj)) h))
  | succ n ih =>
    intro i b hi h
    have l : i < 16 := by omega
    refine br_f (gy_lo l) ⟨gy_in l, gy_in l, ?_⟩
    rw [gy_cl l]
    exact nm_e (nm_r (nI_1 i) (ih (i + 1) _ (by omega) (gs_cp h)))
theorem gy_crash (ks bk kk o ch : Int32) (a b d : Nat → Int32) (post : SY → Prop) (hp : ∀ a' b' : Nat → Int32, (∀ j, j < 16 → a' j = d j) → (∀ j, j < 16 → b' j = d j) → post (kk, kk, kk, 0, ch, a', b', d)) : wpY_crash post (ks, bk, kk, o, ch, a, b, d) :=
  ⟨17, gy_crash15 ks kk kk 0 ch a d post hp 16 0 b rfl (fun j hj => absurd hj (by omega))⟩
theorem gy_change (ks bk kk o ch : Int32) (a b d : Nat → Int32) (post : SY → Prop) (hp0 : o = 0 → ∀ b' : Nat → Int32, (∀ j, j < 16 → b' j = a j) → post (ks, ks, kk, o, ch, a, b', d)) (hp1 : ¬ o = 0 → post (ks, bk, kk, o, ch + 1, a, b, d)) : wpY_change post (ks, bk, kk, o, ch, a, b, d) :=
  br_c (fun h => gy_settle ks bk kk o ch a b d _ (hp0 h)) (fun h => nm_e (hp1 h))
theorem gy_key0 (v : SY) {k : Int32} (h : k < 0 ∨ nI 16 ≤ k) (post : Int32 → Prop) (hp : post 0) : wpY_key post v k := by
  obtain ⟨ks, bk, kk, o, ch, a, b, d⟩ := v
  by_cases z : k < 0
  · exact br_t z hp
  · exact br_f z (br_t (gy_15 (h.resolve_left z)) hp)
theorem gy_key1 (v : SY) {j : Nat} (h : j < 16) (post : Int32 → Prop) (hp : post 1) : wpY_key post v (nI j) := by
  obtain ⟨ks, bk, kk, o, ch, a, b, d⟩ := v
  exact br_f (nI_pos (by omega)) (br_f (gy_15n h) hp)
theorem gx_key0 (u : SX) {k : Int32} (h : k < 0 ∨ nI 16 ≤ k) (post : Int32 → Prop) (hp : post 0) : wpX_isKey post u k := by
  obtain ⟨fs, fc, fw, fo, K, V, P⟩ := u
  by_cases z : k < 0
  · exact br_t z hp
  · exact br_f z (br_t (by rw [← gs_16]; exact h.resolve_left z) hp)
theorem gx_key1 (u : SX) {j : Nat} (h : j < 16) (post : Int32 → Prop) (hp : post 1) : wpX_isKey post u (nI j) := by
  obtain ⟨fs, fc, fw, fo, K, V, P⟩ := u
  exact br_f (nI_pos (by omega)) (br_f (gy_lo h) hp)
theorem gy_has0 (v : SY) {k : Int32} (h : k < 0 ∨ nI 16 ≤ k) (post : Int32 → Prop) (hp : post 0) : wpY_has post v k := by
  obtain ⟨ks, bk, kk, o, ch, a, b, d⟩ := v
  unfold wpY_has
  dsimp only
  exact gy_key0 _ h _ (br_t rfl hp)
theorem gy_has1 (ks bk kk o ch : Int32) (a b d : Nat → Int32) {j : Nat} (h : j < 16) (post : Int32 → Prop) (hp0 : bt ks j = false → post 0) (hp1 : bt ks j = true → post 1) : wpY_has post (ks, bk, kk, o, ch, a, b, d) (nI j) := by
  unfold wpY_has
  dsimp only
  refine gy_key1 _ h _ (br_f (by decide) ?_)
  exact br_c (fun z => hp1 ((gs_bit1 h ks).mp z)) (fun z => hp0 (Bool.not_eq_true _ ▸ (fun q => z ((gs_bit1 h ks).mpr q))))
theorem gy_has (ks bk kk o ch : Int32) (a b d : Nat → Int32) {f : Int32 → Option Int32} (hY : gs_Y ks a f) (k : Int32) (post : Int32 → Prop) (hp0 : f k = none → post 0) (hp1 : ∀ x, f k = some x → post 1) : wpY_has post (ks, bk, kk, o, ch, a, b, d) k := by
  rcases pk_ix k (n := 16) (by omega) with h | h | ⟨j, hj, rfl⟩
  · exact gy_has0 _ (Or.inl h) _ (hp0 (hY.2.2.2 k (Or.inl h)))
  · exact gy_has0 _ (Or.inr h) _ (hp0 (hY.2.2.2 k (Or.inr h)))
  · have e := hY.1 j hj
    refine gy_has1 ks bk kk o ch a b d hj _ (fun z => ?_) (fun z => ?_)
    · cases q : f (nI j) with
      | none => exact hp0 q
      | some x => rw [q, z] at e; exact nomatch e
    · cases q : f (nI j) with
      | none => rw [q, z] at e; exact nomatch e
      | some x => exact hp1 x q
theorem gy_get (ks bk kk o ch : Int32) (a b d : Nat → Int32) {f : Int32 → Option Int32} (hY : gs_Y ks a f) (k : Int32) (post : Int32 → Prop) (hp : post ((f k).getD 0)) : wpY_get post (ks, bk, kk, o, ch, a, b, d) k := by
  unfold wpY_get
  dsimp only
  refine gy_has ks bk kk o ch a b d hY k _ (fun z => br_t rfl (by rw [z] at hp; exact hp)) (fun x z => br_f (by decide) ?_)
  rcases pk_ix k (n := 16) (by omega) with h | h | ⟨j, hj, rfl⟩
  · rw [hY.2.2.2 k (Or.inl h)] at z; exact nomatch z
  · rw [hY.2.2.2 k (Or.inr h)] at z; exact nomatch z
  · refine ⟨gy_in hj, ?_⟩
    rw [gy_cl hj, hY.2.1 j x hj z]
    rw [z] at hp
    exact hp
theorem gy_sval (ks bk kk o ch : Int32) (a b d : Nat → Int32) {f : Int32 → Option Int32} (hY : gs_Y kk d f) (k : Int32) (post : Int32 → Prop) (hp : post ((f k).getD 0)) : wpY_safeValue post (ks, bk, kk, o, ch, a, b, d) k := by
  unfold wpY_safeValue
  dsimp only
  rcases pk_ix k (n := 16) (by omega) with h | h | ⟨j, hj, rfl⟩
  · rw [hY.2.2.2 k (Or.inl h)] at hp
    exact gy_key0 _ (Or.inl h) _ (br_t rfl hp)
  · rw [hY.2.2.2 k (Or.inr h)] at hp
    exact gy_key0 _ (Or.inr h) _ (br_t rfl hp)
  · have e := hY.1 j hj
    refine gy_key1 _ hj _ (br_f (by decide) (br_c (fun z => ⟨gy_in hj, ?_⟩) (fun z => ?_)))
    · rw [(gs_bit1 hj kk).mp z] at e
      cases q : f (nI j) with
      | none => rw [q] at e; exact nomatch e
      | some x =>
        rw [q] at hp
        rw [gy_cl hj, hY.2.1 j x hj q]
        exact hp
    · rw [gs_bit1 hj kk, e] at z
      cases q : f (nI j) with
      | none => rw [q] at hp; exact hp
      | some x => rw [q] at z; exact absurd rfl z
theorem gx_write (fs fc fo : Int32) (K V P : Nat → Int32) {w : Nat} (hw : w < 512) (p0 p1 p2 : Int32) (hb : p2 = 0 ∨ p2 = 1) (post : Int32 → SX → Prop)
    (h0 : fo = 0 → post 1 (fs, nI (w + 1), nI (w + 1), fo, upd K w p0, upd V w p1, upd P w p2)) (h1 : ¬ fo = 0 → post 1 (fs, fc, nI (w + 1), fo, upd K w p0, upd V w p1, upd P w p2)) : wpX_write post (fs, fc, nI w, fo, K, V, P) p0 p1 p2 := by
  have hv : vp_in (nI w) 512 := vp_in_nI (by omega) (by omega)
  have hc : (nI w).toNatClampNeg = w := nI_clamp (by omega)
  unfold wpX_write
  dsimp only
  rw [hc, gs_nar hb]
  refine br_t (nI_lt (b := 512) hw (by omega)) ⟨hv, nm_e ⟨hv, nm_e ⟨hv, nm_e (nm_r (nI_1 w) (br_c h0 h1))⟩⟩⟩
theorem gs_nb {x : Int32} (h : x = 0 ∨ x = 1) : narrow .boolean (.int x) = .int x := by
  rcases h with rfl | rfl
  · rfl
  · rfl
