/-- the three pictures of the row are the model's three states; at most one record a call -/
def i_Rel (k : Nat) (u : SX) (v : SY) : Prop :=
  ∃ (s c w : Nat) (o : Int32) (K V P : Nat → Int32) (ks bk kk ch : Int32) (a b d : Nat → Int32),
    u = (nI s, nI c, nI w, o, K, V, P) ∧ v = (ks, bk, kk, o, ch, a, b, d) ∧ s ≤ c ∧ c ≤ w ∧ 3 * w ≤ k ∧ (o = 0 → c = w) ∧ (¬ o = 0 → ch = nI (w - c)) ∧ gs_B P ∧
    gs_Y ks a (gs_pic (gs_rc K V P) w) ∧ gs_Y bk b (gs_pic (gs_rc K V P) c) ∧ gs_Y kk d (gs_pic (gs_rc K V P) s)
theorem i_up {k : Nat} {u : SX} {v : SY} (h : i_Rel k u v) : i_Rel (k + 3) u v := by
  obtain ⟨s, c, w, o, K, V, P, ks, bk, kk, ch, a, b, d, e1, e2, h1, h2, h3, h⟩ := h
  exact ⟨s, c, w, o, K, V, P, ks, bk, kk, ch, a, b, d, e1, e2, h1, h2, by omega, h⟩
theorem gr_0 (R : Nat → Int32 × Int32 × Int32) : gs_Y 0 (fun _ => 0) (gs_pic R 0) := ⟨fun j _ => b_0 j, (fun _ _ _ e => nomatch e), fun j _ => b_0 j, fun _ _ => rfl⟩
theorem i_vc0 : wpX_init (fun u => wpY_init (fun v => i_Rel 0 u v)) :=
  ⟨0, 0, 0, 0, (fun _ => 0), (fun _ => 0), (fun _ => 0), 0, 0, 0, 0, (fun _ => 0), (fun _ => 0), (fun _ => 0), by rw [nI_0], rfl, Nat.le_refl _, Nat.le_refl _, Nat.le_refl _, fun _ => rfl, fun z => absurd rfl z, fun _ => Or.inl rfl, gr_0 _, gr_0 _, gr_0 _⟩
theorem i_vc_begin {k : Nat} {u : SX} {v : SY} (I : i_Rel k u v) (hk : k + 3 ≤ 1536) : wpX_begin (fun r u' => wpY_begin (fun r' v' => r' = r ∧ i_Rel (k + 3) u' v') v) u := by
  have I' := i_up I
  obtain ⟨s, c, w, o, K, V, P, ks, bk, kk, ch, a, b, d, rfl, rfl, h1, h2, h3, h4, h5, hB, y1, y2, y3⟩ := I
  by_cases ho : o = 0
  · have e := h4 ho
    subst e
    refine br_t ho (br_t ho ⟨rfl, s, c, c, 1, K, V, P, ks, bk, kk, 0, a, b, d, rfl, rfl, h1, h2, by omega, fun _ => rfl, fun _ => ?_, hB, y1, y2, y3⟩)
    rw [Nat.sub_self, nI_0]
  · exact br_f ho (br_f ho ⟨rfl, I'⟩)
/-- a record more, in both states of the transaction -/
theorem gr_w0 {k s w : Nat} {o : Int32} {K V P : Nat → Int32} {kk ch : Int32} {d : Nat → Int32} (h1 : s ≤ w) (h3 : 3 * w ≤ k) (hB : gs_B P) (y3 : gs_Y kk d (gs_pic (gs_rc K V P) s)) (p0 p1 p2 : Int32) (hb : p2 = 0 ∨ p2 = 1) (ks : Int32) (a b : Nat → Int32) (ho : o = 0) (hb' : ∀ j, j < 16 → b j = a j)
    (y1 : gs_Y ks a (gs_pic (gs_rc (upd K w p0) (upd V w p1) (upd P w p2)) (w + 1))) : i_Rel (k + 3) (nI s, nI (w + 1), nI (w + 1), o, upd K w p0, upd V w p1, upd P w p2) (ks, ks, kk, o, ch, a, b, d) :=
  ⟨s, w + 1, w + 1, o, _, _, _, ks, ks, kk, ch, a, b, d, rfl, rfl, by omega, Nat.le_refl _, by omega, fun _ => rfl, fun z => absurd ho z, gs_Bu hB hb, y1, gs_Yc y1 hb' (fun _ => rfl), gs_Yc y3 (fun _ _ => rfl) (fun q => gs_fr q s (fun j hj => gs_un (by omega)))⟩
theorem gr_w1 {k s c w : Nat} {o : Int32} {K V P : Nat → Int32} {bk kk ch : Int32} {b d : Nat → Int32} (h1 : s ≤ c) (h2 : c ≤ w) (h3 : 3 * w ≤ k) (h5 : ¬ o = 0 → ch = nI (w - c)) (hB : gs_B P) (y2 : gs_Y bk b (gs_pic (gs_rc K V P) c)) (y3 : gs_Y kk d (gs_pic (gs_rc K V P) s)) (p0 p1 p2 : Int32) (hb : p2 = 0 ∨ p2 = 1) (ks : Int32) (a : Nat → Int32) (ho : ¬ o = 0)
    (y1 : gs_Y ks a (gs_pic (gs_rc (upd K w p0) (upd V w p1) (upd P w p2)) (w + 1))) : i_Rel (k + 3) (nI s, nI c, nI (w + 1), o, upd K w p0, upd V w p1, upd P w p2) (ks, bk, kk, o, ch + 1, a, b, d) :=
  ⟨s, c, w + 1, o, _, _, _, ks, bk, kk, ch + 1, a, b, d, rfl, rfl, h1, by omega, by omega, fun z => absurd z ho, fun _ => by rw [h5 ho, nI_1, show w - c + 1 = w + 1 - c from by omega], gs_Bu hB hb, y1, gs_Yc y2 (fun _ _ => rfl) (fun q => gs_fr q c (fun j hj => gs_un (by omega))), gs_Yc y3 (fun _ _ => rfl) (fun q => gs_fr q s (fun j hj => gs_un (by omega)))⟩
theorem gr_p1 {K V P : Nat → Int32} {w : Nat} {p0 p1 p2 : Int32} : gs_pic (gs_rc (upd K w p0) (upd V w p1) (upd P w p2)) (w + 1) p0 = gs_val (p0, p1, p2) := by
  have e : gs_rc (upd K w p0) (upd V w p1) (upd P w p2) w = (p0, p1, p2) := gs_us
  rw [gs_s (by rw [e]), e]
theorem gr_p2 {K V P : Nat → Int32} {w : Nat} {p0 p1 p2 : Int32} (q : Int32) (h : q ≠ p0) : gs_pic (gs_rc (upd K w p0) (upd V w p1) (upd P w p2)) (w + 1) q = gs_pic (gs_rc K V P) w q := by
  have e : gs_rc (upd K w p0) (upd V w p1) (upd P w p2) w = (p0, p1, p2) := gs_us
  rw [gs_n (by rw [e]; exact fun z => h z.symm)]
  exact gs_fr q w (fun j hj => gs_un (by omega))
theorem gx_put0 (fs fc fw fo : Int32) (K V P : Nat → Int32) {q x : Int32} (h : q < 0 ∨ nI 16 ≤ q) (post : Int32 → SX → Prop) (hp : post 0 (fs, fc, fw, fo, K, V, P)) : wpX_put post (fs, fc, fw, fo, K, V, P) q x := by
  unfold wpX_put
  dsimp only
  exact gx_key0 _ h _ (br_t rfl hp)
theorem gy_put0 (ks bk kk o ch : Int32) (a b d : Nat → Int32) {q x : Int32} (h : q < 0 ∨ nI 16 ≤ q) (post : Int32 → SY → Prop) (hp : post 0 (ks, bk, kk, o, ch, a, b, d)) : wpY_put post (ks, bk, kk, o, ch, a, b, d) q x := by
  unfold wpY_put
  dsimp only
  exact gy_key0 _ h _ (br_t rfl hp)
theorem gx_put1 (fs fc fo : Int32) (K V P : Nat → Int32) {w j : Nat} (hw : w < 512) (hj : j < 16) (x : Int32) (post : Int32 → SX → Prop) (h0 : fo = 0 → post 1 (fs, nI (w + 1), nI (w + 1), fo, upd K w (nI j), upd V w x, upd P w 1)) (h1 : ¬ fo = 0 → post 1 (fs, fc, nI (w + 1), fo, upd K w (nI j), upd V w x, upd P w 1)) : wpX_put post (fs, fc, nI w, fo, K, V, P) (nI j) x := by
  unfold wpX_put
  dsimp only
  exact gx_key1 _ hj _ (br_f (by decide) (gx_write fs fc fo K V P hw (nI j) x 1 (Or.inr rfl) _ (fun z => ⟨gs_nb (Or.inr rfl), h0 z⟩) (fun z => ⟨gs_nb (Or.inr rfl), h1 z⟩)))
theorem gy_put1 (ks bk kk o ch : Int32) (a b d : Nat → Int32) {j : Nat} (hj : j < 16) (x : Int32) (post : Int32 → SY → Prop) (h0 : o = 0 → ∀ b' : Nat → Int32, (∀ i, i < 16 → b' i = upd a j x i) → post 1 (ks ||| ((1 : Int32) <<< (nI j &&& 31)), ks ||| ((1 : Int32) <<< (nI j &&& 31)), kk, o, ch, upd a j x, b', d)) (h1 : ¬ o = 0 → post 1 (ks ||| ((1 : Int32) <<< (nI j &&& 31)), bk, kk, o, ch + 1, upd a j x, b, d)) : wpY_put post (ks, bk, kk, o, ch, a, b, d) (nI j) x := by
  unfold wpY_put
  dsimp only
  rw [gy_cl hj]
  exact gy_key1 _ hj _ (br_f (by decide) (nm_e ⟨gy_in hj, nm_e (gy_change _ bk kk o ch _ b d _ h0 h1)⟩))
theorem i_vc_put {k : Nat} {u : SX} {v : SY} (I : i_Rel k u v) (hk : k + 3 ≤ 1536) (v1 : Int32) (v2 : Int32) : wpX_put (fun r u' => wpY_put (fun r' v' => r' = r ∧ i_Rel (k + 3) u' v') v v1 v2) u v1 v2 := by
  have I' := i_up I
  obtain ⟨s, c, w, o, K, V, P, ks, bk, kk, ch, a, b, d, rfl, rfl, h1, h2, h3, h4, h5, hB, y1, y2, y3⟩ := I
  rcases pk_ix v1 (n := 16) (by omega) with h | h | ⟨j, hj, rfl⟩
  · exact gx_put0 _ _ _ _ K V P (Or.inl h) _ (gy_put0 ks bk kk o ch a b d (Or.inl h) _ ⟨rfl, I'⟩)
  · exact gx_put0 _ _ _ _ K V P (Or.inr h) _ (gy_put0 ks bk kk o ch a b d (Or.inr h) _ ⟨rfl, I'⟩)
  · have y : gs_Y (ks ||| ((1 : Int32) <<< (nI j &&& 31))) (upd a j v2) (gs_pic (gs_rc (upd K w (nI j)) (upd V w v2) (upd P w 1)) (w + 1)) := gs_Yp hj y1 (gr_p1.trans (if_neg (show ¬ (1 : Int32) = 0 from by decide))) gr_p2
    refine gx_put1 _ _ _ K V P (by omega) hj v2 _ (fun ho => ?_) (fun ho => ?_)
    · exact gy_put1 ks bk kk o ch a b d hj v2 _ (fun _ b' hb => ⟨rfl, gr_w0 (by omega) h3 hB y3 _ _ _ (Or.inr rfl) _ _ _ ho hb y⟩) (fun z => absurd ho z)
    · exact gy_put1 ks bk kk o ch a b d hj v2 _ (fun z => absurd z ho) (fun _ => ⟨rfl, gr_w1 h1 h2 h3 h5 hB y2 y3 _ _ _ (Or.inr rfl) _ _ ho y⟩)
theorem i_vc_remove {k : Nat} {u : SX} {v : SY} (I : i_Rel k u v) (hk : k + 3 ≤ 1536) (v1 : Int32) : wpX_remove (fun r u' => wpY_remove (fun r' v' => r' = r ∧ i_Rel (k + 3) u' v') v v1) u v1 := by
  have I' := i_up I
  obtain ⟨s, c, w, o, K, V, P, ks, bk, kk, ch, a, b, d, rfl, rfl, h1, h2, h3, h4, h5, hB, y1, y2, y3⟩ := I
  unfold wpX_remove
  dsimp only
  refine gx_there _ _ _ _ K V P v1 _ (by omega) (fun q => br_t rfl ?_) (fun x q => br_f (by decide) ?_)
  · unfold wpY_remove
    dsimp only
    refine gy_has ks bk kk o ch a b d y1 v1 _ (fun _ => br_t rfl ⟨rfl, I'⟩) (fun x z => ?_)
    rw [q] at z; exact nomatch z
  · rcases pk_ix v1 (n := 16) (by omega) with h | h | ⟨j, hj, rfl⟩
    · rw [y1.2.2.2 v1 (Or.inl h)] at q; exact nomatch q
    · rw [y1.2.2.2 v1 (Or.inr h)] at q; exact nomatch q
    · have y : gs_Y (ks &&& (((1 : Int32) <<< (nI j &&& 31)) ^^^ (-1))) a (gs_pic (gs_rc (upd K w (nI j)) (upd V w 0) (upd P w 0)) (w + 1)) := gs_Yr hj y1 (gr_p1.trans (if_pos rfl)) gr_p2
      refine gx_write _ _ _ K V P (by omega) _ _ _ (Or.inl rfl) _ (fun ho => ⟨gs_nb (Or.inr rfl), ?_⟩) (fun ho => ⟨gs_nb (Or.inr rfl), ?_⟩)
      · unfold wpY_remove
        dsimp only
        refine gy_has ks bk kk o ch a b d y1 _ _ (fun z => ?_) (fun x z => br_f (by decide) (nm_e (gy_change _ bk kk o ch a b d _ (fun _ b' hb => ⟨rfl, gr_w0 (by omega) h3 hB y3 _ _ _ (Or.inl rfl) _ _ _ ho hb y⟩) (fun z => absurd ho z))))
        rw [q] at z; exact nomatch z
      · unfold wpY_remove
        dsimp only
        refine gy_has ks bk kk o ch a b d y1 _ _ (fun z => ?_) (fun x z => br_f (by decide) (nm_e (gy_change _ bk kk o ch a b d _ (fun z => absurd z ho) (fun _ => ⟨rfl, gr_w1 h1 h2 h3 h5 hB y2 y3 _ _ _ (Or.inl rfl) _ _ ho y⟩))))
        rw [q] at z; exact nomatch z
theorem i_vc_commit {k : Nat} {u : SX} {v : SY} (I : i_Rel k u v) (hk : k + 3 ≤ 1536) : wpX_commit (fun r u' => wpY_commit (fun r' v' => r' = r ∧ i_Rel (k + 3) u' v') v) u := by
  have I' := i_up I
  obtain ⟨s, c, w, o, K, V, P, ks, bk, kk, ch, a, b, d, rfl, rfl, h1, h2, h3, h4, h5, hB, y1, y2, y3⟩ := I
  by_cases ho : o = 0
  · exact br_t ho (br_t ho ⟨rfl, I'⟩)
  · refine br_f ho (br_f ho (gy_settle ks bk kk 0 ch a b d _ (fun b' hb => ⟨rfl, s, w, w, 0, K, V, P, ks, ks, kk, ch, a, b', d, rfl, rfl, by omega, Nat.le_refl _, by omega, fun _ => rfl, fun z => absurd rfl z, hB, y1, gs_Yc y1 hb (fun _ => rfl), y3⟩)))
theorem i_vc_abort {k : Nat} {u : SX} {v : SY} (I : i_Rel k u v) (hk : k + 3 ≤ 1536) : wpX_abort (fun r u' => wpY_abort (fun r' v' => r' = r ∧ i_Rel (k + 3) u' v') v) u := by
  have I' := i_up I
  obtain ⟨s, c, w, o, K, V, P, ks, bk, kk, ch, a, b, d, rfl, rfl, h1, h2, h3, h4, h5, hB, y1, y2, y3⟩ := I
  by_cases ho : o = 0
  · exact br_t ho (br_t ho ⟨rfl, I'⟩)
  · refine br_f ho (br_f ho (gy_back ks bk kk 0 ch a b d _ (fun a' ha => ⟨rfl, s, c, c, 0, K, V, P, bk, bk, kk, ch, a', b, d, rfl, rfl, h1, Nat.le_refl _, by omega, fun _ => rfl, fun z => absurd rfl z, hB, gs_Yc y2 ha (fun _ => rfl), y2, y3⟩)))
theorem i_vc_sync {k : Nat} {u : SX} {v : SY} (I : i_Rel k u v) (hk : k + 3 ≤ 1536) : wpX_sync (fun u' => wpY_sync (fun v' => i_Rel (k + 3) u' v') v) u := by
  obtain ⟨s, c, w, o, K, V, P, ks, bk, kk, ch, a, b, d, rfl, rfl, h1, h2, h3, h4, h5, hB, y1, y2, y3⟩ := I
  exact gy_sync ks bk kk o ch a b d _ (fun d' hd => ⟨c, c, w, o, K, V, P, ks, bk, bk, ch, a, b, d', rfl, rfl, Nat.le_refl _, h2, by omega, h4, h5, hB, y1, y2, gs_Yc y2 hd (fun _ => rfl)⟩)
theorem i_vc_clean {k : Nat} {u : SX} {v : SY} (I : i_Rel k u v) (hk : k + 3 ≤ 1536) : wpX_clean (fun u' => wpY_clean (fun v' => i_Rel (k + 3) u' v') v) u := by
  obtain ⟨s, c, w, o, K, V, P, ks, bk, kk, ch, a, b, d, rfl, rfl, h1, h2, h3, h4, h5, hB, y1, y2, y3⟩ := I
  refine gx_clean o K V P h1 h2 (by omega) _ hB (fun s' c' w' K' V' P' g1 g2 g3 g4 p1 p2 p3 hB' => ?_)
  exact ⟨s', c', w', o, K', V', P', ks, bk, kk, ch, a, b, d, rfl, rfl, g1, g2, by omega, fun ho => (by have := h4 ho; omega), fun ho => (by rw [h5 ho, show w' - c' = w - c from by omega]), hB', gs_Yc y1 (fun _ _ => rfl) p3, gs_Yc y2 (fun _ _ => rfl) p2, gs_Yc y3 (fun _ _ => rfl) p1⟩
theorem i_vc_crash {k : Nat} {u : SX} {v : SY} (I : i_Rel k u v) (hk : k + 3 ≤ 1536) : wpX_crash (fun u' => wpY_crash (fun v' => i_Rel (k + 3) u' v') v) u := by
  obtain ⟨s, c, w, o, K, V, P, ks, bk, kk, ch, a, b, d, rfl, rfl, h1, h2, h3, h4, h5, hB, y1, y2, y3⟩ := I
  exact gy_crash ks bk kk o ch a b d _ (fun a' b' ha hb => ⟨s, s, s, 0, K, V, P, kk, kk, kk, ch, a', b', d, rfl, rfl, Nat.le_refl _, Nat.le_refl _, by omega, fun _ => rfl, fun z => absurd rfl z, hB, gs_Yc y3 ha (fun _ => rfl), gs_Yc y3 hb (fun _ => rfl), y3⟩)
theorem i_vc_has {k : Nat} {u : SX} {v : SY} (I : i_Rel k u v) (hk : k + 3 ≤ 1536) (v1 : Int32) : wpX_has (fun r => wpY_has (fun r' => r' = r ∧ i_Rel (k + 3) u v) v v1) u v1 := by
  have I' := i_up I
  obtain ⟨s, c, w, o, K, V, P, ks, bk, kk, ch, a, b, d, rfl, rfl, h1, h2, h3, h4, h5, hB, y1, y2, y3⟩ := I
  unfold wpX_has
  dsimp only
  refine gx_there _ _ _ _ K V P v1 _ (by omega) (fun q => ⟨gs_nb (Or.inl rfl), ?_⟩) (fun x q => ⟨gs_nb (Or.inr rfl), ?_⟩)
  · refine gy_has ks bk kk o ch a b d y1 v1 _ (fun _ => ⟨rfl, I'⟩) (fun x z => ?_)
    rw [q] at z; exact nomatch z
  · refine gy_has ks bk kk o ch a b d y1 v1 _ (fun z => ?_) (fun _ _ => ⟨rfl, I'⟩)
    rw [q] at z; exact nomatch z
theorem i_vc_get {k : Nat} {u : SX} {v : SY} (I : i_Rel k u v) (hk : k + 3 ≤ 1536) (v1 : Int32) : wpX_get (fun r => wpY_get (fun r' => r' = r ∧ i_Rel (k + 3) u v) v v1) u v1 := by
  have I' := i_up I
  obtain ⟨s, c, w, o, K, V, P, ks, bk, kk, ch, a, b, d, rfl, rfl, h1, h2, h3, h4, h5, hB, y1, y2, y3⟩ := I
  unfold wpX_get
  dsimp only
  exact gx_value _ _ _ _ K V P v1 _ (by omega) (gy_get ks bk kk o ch a b d y1 v1 _ ⟨rfl, I'⟩)
theorem i_vc_next {k : Nat} {u : SX} {v : SY} (I : i_Rel k u v) (hk : k + 3 ≤ 1536) (v1 : Int32) : wpX_next (fun r => wpY_next (fun r' => r' = r ∧ i_Rel (k + 3) u v) v v1) u v1 := by
  have I' := i_up I
  obtain ⟨s, c, w, o, K, V, P, ks, bk, kk, ch, a, b, d, rfl, rfl, h1, h2, h3, h4, h5, hB, y1, y2, y3⟩ := I
  by_cases h0 : 0 ≤ v1
  · obtain ⟨m, hm, rfl⟩ := nI_of (x := v1) (Int32.not_lt.mpr h0)
    by_cases h16 : m < 16
    · obtain ⟨r, hX, hZ⟩ := gz_next (nI s) (nI c) o K V P (w := w) (by omega) ks bk kk o ch a b d y1 (nI m) (16 - m) m (by omega) (fun j g1 g2 => nI_nlt g1 (by omega))
      refine br_t h0 ⟨_, hX _ ⟨(16 - m + 1) + m, gy_nskip ks bk kk o ch a b d hm _ (16 - m + 1) m 0 (by omega) (by omega) ?_⟩⟩
      rw [Nat.zero_add]
      exact hZ _ ⟨rfl, I'⟩
    · refine br_t h0 ⟨1, br_t (by rw [← gs_16]; exact nI_le (by omega) hm) ⟨1 + 16, gy_nskip ks bk kk o ch a b d hm _ 1 16 0 (by omega) (by omega) (br_t gy_hi ⟨rfl, I'⟩)⟩⟩
  · obtain ⟨r, hX, hZ⟩ := gz_next (nI s) (nI c) o K V P (w := w) (by omega) ks bk kk o ch a b d y1 v1 16 0 rfl (fun j g1 g2 z => h0 (Int32.le_of_lt (Int32.lt_of_le_of_lt (nI_pos' (by omega)) z)))
    rw [nI_0] at hX hZ
    exact br_f h0 ⟨_, hX _ ⟨_, hZ _ ⟨rfl, I'⟩⟩⟩
theorem i_vc_count {k : Nat} {u : SX} {v : SY} (I : i_Rel k u v) (hk : k + 3 ≤ 1536) : wpX_count (fun r => wpY_count (fun r' => r' = r ∧ i_Rel (k + 3) u v) v) u := by
  have I' := i_up I
  obtain ⟨s, c, w, o, K, V, P, ks, bk, kk, ch, a, b, d, rfl, rfl, h1, h2, h3, h4, h5, hB, y1, y2, y3⟩ := I
  obtain ⟨r, hX, hZ⟩ := gz_count (nI s) (nI c) o K V P (w := w) (by omega) ks bk kk o ch a b d y1 16 0 0 rfl
  rw [nI_0] at hX hZ
  exact ⟨_, hX _ ⟨_, hZ _ ⟨rfl, I'⟩⟩⟩
theorem i_vc_safeKeys {k : Nat} {u : SX} {v : SY} (I : i_Rel k u v) (hk : k + 3 ≤ 1536) : wpX_safeKeys (fun r => wpY_safeKeys (fun r' => r' = r ∧ i_Rel (k + 3) u v) v) u := by
  have I' := i_up I
  obtain ⟨s, c, w, o, K, V, P, ks, bk, kk, ch, a, b, d, rfl, rfl, h1, h2, h3, h4, h5, hB, y1, y2, y3⟩ := I
  refine ⟨17, gx_sk4 (nI c) (nI w) o K V P (s := s) (by omega) _ (fun r hr => ⟨b_ext (fun j _ => ?_), I'⟩) 16 0 0 rfl (fun j => b_0 j)⟩
  rw [hr j]
  by_cases l : j < 16
  · rw [decide_eq_true l, Bool.true_and]; exact y3.1 j l
  · rw [decide_eq_false l, Bool.false_and]; exact y3.2.2.1 j (by omega)
theorem i_vc_safeValue {k : Nat} {u : SX} {v : SY} (I : i_Rel k u v) (hk : k + 3 ≤ 1536) (v1 : Int32) : wpX_safeValue (fun r => wpY_safeValue (fun r' => r' = r ∧ i_Rel (k + 3) u v) v v1) u v1 := by
  have I' := i_up I
  obtain ⟨s, c, w, o, K, V, P, ks, bk, kk, ch, a, b, d, rfl, rfl, h1, h2, h3, h4, h5, hB, y1, y2, y3⟩ := I
  unfold wpX_safeValue
  dsimp only
  exact gx_value _ _ _ _ K V P v1 _ (by omega) (gy_sval ks bk kk o ch a b d y3 v1 _ ⟨rfl, I'⟩)
theorem i_vc_unsafe {k : Nat} {u : SX} {v : SY} (I : i_Rel k u v) (hk : k + 3 ≤ 1536) : wpX_unsafe (fun r => wpY_unsafe (fun r' => r' = r ∧ i_Rel (k + 3) u v) v) u := by
  have I' := i_up I
  obtain ⟨s, c, w, o, K, V, P, ks, bk, kk, ch, a, b, d, rfl, rfl, h1, h2, h3, h4, h5, hB, y1, y2, y3⟩ := I
  refine ⟨17, gx_un4 (nI c) o K V P (s := s) (w := w) (by omega) (by omega) _ (fun r hr => ?_) 16 0 0 rfl (fun j => b_0 j)⟩
  refine nm_e ⟨17, gy_un12 ks bk kk o ch a b d y1 y3 _ (fun r' hr' => ⟨b_ext (fun j _ => ?_), I'⟩) 16 0 _ rfl (fun j => b_xor ks kk j)⟩
  rw [hr j, hr' j]
  by_cases l : j < 16
  · rw [decide_eq_true l, Bool.true_and, if_pos l]
  · rw [decide_eq_false l, Bool.false_and, if_neg l, y1.2.2.1 j (by omega), y3.2.2.1 j (by omega)]; rfl
theorem i_vc_pending {k : Nat} {u : SX} {v : SY} (I : i_Rel k u v) (hk : k + 3 ≤ 1536) : wpX_pending (fun r => wpY_pending (fun r' => r' = r ∧ i_Rel (k + 3) u v) v) u := by
  have I' := i_up I
  obtain ⟨s, c, w, o, K, V, P, ks, bk, kk, ch, a, b, d, rfl, rfl, h1, h2, h3, h4, h5, hB, y1, y2, y3⟩ := I
  have e : nI w - nI c = nI (w - c) := pk_sub h2
  refine br_c (fun ho => ⟨?_, I'⟩) (fun ho => ⟨?_, I'⟩)
  · rw [e, ← h4 ho, Nat.sub_self, nI_0]
  · rw [e]; exact h5 ho
