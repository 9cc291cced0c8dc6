def gs_B (P : Nat → Int32) : Prop := ∀ j, P j = 0 ∨ P j = 1
theorem gs_nar {x : Int32} (h : x = 0 ∨ x = 1) : vp_nar .boolean x = x := by
  rcases h with rfl | rfl
  · exact (by decide +kernel : (0 : Int32) &&& 1 = 0)
  · exact (by decide +kernel : (1 : Int32) &&& 1 = 1)
theorem gs_Bu {P : Nat → Int32} {t : Nat} {x : Int32} (h : gs_B P) (hx : x = 0 ∨ x = 1) : gs_B (upd P t x) := by
  intro j
  by_cases e : j = t
  · subst e; rw [pk_us]; exact hx
  · rw [pk_un e]; exact h j
theorem gx_needed (fs fc fw fo : Int32) (K V P : Nat → Int32) (post : Int32 → Prop) {i e t : Nat} (hi : i < e) (he : e ≤ 512) (ht : t ≤ 512)
    (hA : gs_last (gs_rc K V P) (K i) e ≠ some i → post 0)
    (hB : gs_last (gs_rc K V P) (K i) e = some i → P i = 0 → gs_pic (gs_rc K V P) t (K i) = none → post 0)
    (hC : gs_last (gs_rc K V P) (K i) e = some i → post 1) : wpX_isNeeded post (fs, fc, fw, fo, K, V, P) (nI i) (nI e) (nI t) := by
  have hv : vp_in (nI i) 512 := vp_in_nI (by omega) (by omega)
  have hc : (nI i).toNatClampNeg = i := nI_clamp (by omega)
  unfold wpX_isNeeded
  dsimp only
  refine ⟨hv, ?_⟩
  rw [hc]
  intro k ek
  subst ek
  refine gx_last fs fc fw fo K V P (K i) _ he (fun h => ?_) (fun m h => ?_)
  · exact br_f (fun z => gs_nm1 (by omega) z.symm) (hA (by rw [h]; exact fun z => nomatch z))
  · have hm := (gs_l1 h).1
    by_cases q : m = i
    · subst q
      refine br_t rfl ⟨hv, ?_⟩
      by_cases z : P m = 0
      · refine br_t z (gx_there fs fc fw fo K V P (K m) _ ht (fun a => br_t rfl (hB h z a)) (fun x a => br_f (by decide) (hC h)))
      · exact br_f z (hC h)
    · exact br_f (fun z => q ((nI_eq (by omega) (by omega)).mp z)) (hA (by rw [h]; exact fun z => q (Option.some.inj z)))
theorem gx_move (fs fc fw fo : Int32) (K V P : Nat → Int32) (post : SX → Prop) {i t : Nat} (hi : i < 512) (ht : t < 512) (hP : P i = 0 ∨ P i = 1) (h : post (fs, fc, fw, fo, upd K t (K i), upd V t (V i), upd P t (P i))) : wpX_move post (fs, fc, fw, fo, K, V, P) (nI i) (nI t) := by
  have hv : vp_in (nI i) 512 := vp_in_nI (by omega) (by omega)
  have hw : vp_in (nI t) 512 := vp_in_nI (by omega) (by omega)
  have hc : (nI i).toNatClampNeg = i := nI_clamp (by omega)
  have hd : (nI t).toNatClampNeg = t := nI_clamp (by omega)
  unfold wpX_move
  dsimp only
  rw [hc, hd, gs_nar hP]
  exact ⟨hv, hw, nm_e ⟨hv, hw, nm_e ⟨hv, hw, nm_e h⟩⟩⟩
def gc_Inv (O S : Nat → Int32 × Int32 × Int32) (f e q i t : Nat) (R : Nat → Int32 × Int32 × Int32) : Prop :=
  q ≤ t ∧ t ≤ i ∧ f ≤ i ∧ i ≤ e ∧ (∀ j, t ≤ j → R j = O j) ∧ (∀ j, j < q → R j = S j) ∧ (∀ k m, gs_last O k e = some m → i ≤ m → gs_pic R t k = gs_pic O f k) ∧ (∀ k, (∀ m, gs_last O k e = some m → m < i) → gs_pic R t k = gs_pic O e k)
theorem gc_skip {O S R : Nat → Int32 × Int32 × Int32} {f e q i t : Nat} (h : gc_Inv O S f e q i t R) (hi : i < e) (hk : gs_last O (O i).1 e = some i → gs_pic R t (O i).1 = gs_val (O i)) : gc_Inv O S f e q (i + 1) t R := by
  obtain ⟨h1, h2, h3, h4, h5, h6, h7, h8⟩ := h
  refine ⟨h1, by omega, by omega, by omega, h5, h6, fun k m hm hl => h7 k m hm (by omega), fun k hm => ?_⟩
  by_cases z : gs_last O k e = some i
  · obtain ⟨_, b, c⟩ := gs_l1 z
    subst b
    rw [c]
    exact hk z
  · refine h8 k (fun m q => ?_)
    have a := hm m q
    have b : m ≠ i := fun y => z (by rw [← y]; exact q)
    omega
theorem gc_move {O S R T : Nat → Int32 × Int32 × Int32} {f e q i t : Nat} (h : gc_Inv O S f e q i t R) (hi : i < e) (hk : gs_last O (O i).1 e = some i) (hs : T t = O i) (hn : ∀ j, j ≠ t → T j = R j) : gc_Inv O S f e q (i + 1) (t + 1) T := by
  obtain ⟨h1, h2, h3, h4, h5, h6, h7, h8⟩ := h
  have fr : ∀ k, gs_pic T t k = gs_pic R t k := fun k => gs_fr k t (fun j hj => hn j (by omega))
  refine ⟨by omega, by omega, by omega, by omega, fun j hj => ?_, fun j hj => ?_, fun k m hm hl => ?_, fun k hm => ?_⟩
  · rw [hn j (by omega)]; exact h5 j (by omega)
  · rw [hn j (by omega)]; exact h6 j hj
  · have z : ¬ (T t).1 = k := by
      rw [hs]
      intro y
      rw [y, hm] at hk
      have := Option.some.inj hk
      omega
    rw [gs_n z, fr]
    exact h7 k m hm (by omega)
  · by_cases z : (T t).1 = k
    · rw [gs_s z]
      rw [hs] at z ⊢
      subst z
      exact (gs_l1 hk).2.2.symm
    · rw [gs_n z, fr]
      refine h8 k (fun m q => ?_)
      have a := hm m q
      have b : m ≠ i := fun y => by
        rw [y] at q
        have c := (gs_l1 q).2.1
        rw [hs] at z
        exact z c
      omega
theorem gx_keepN6 (fs fc fw fo : Int32) (O S : Nat → Int32 × Int32 × Int32) {f e q : Nat} (he : e ≤ 512) (post : Int32 → SX → Prop)
    (hp : ∀ (t : Nat) (K V P : Nat → Int32), gc_Inv O S f e q e t (gs_rc K V P) → gs_B P → post (nI t) (fs, fc, fw, fo, K, V, P)) :
    ∀ (d i t : Nat) (K V P : Nat → Int32), i + d = e → gc_Inv O S f e q i t (gs_rc K V P) → gs_B P → wX_keepNeeded_6 post (nI e) (d + 1) (nI t) (nI i) fs fc fw fo K V P := by
  intro d
  induction d with
  | zero =>
    intro i t K V P hd h hB
    have q : i = e := by omega
    subst q
    exact br_t (nI_le (by omega) (by omega)) (hp t K V P h hB)
  | succ d ih =>
    intro i t K V P hd h hB
    have hi : i < e := by omega
    have hI := h
    obtain ⟨h1, h2, h3, h4, h5, h6, h7, h8⟩ := h
    have ei : gs_rc K V P i = O i := h5 i h2
    have ek : K i = (O i).1 := congrArg Prod.fst ei
    have ep : P i = (O i).2.2 := congrArg (fun z => z.2.2) ei
    obtain ⟨a, m, hm, hl⟩ := gs_ag (R := gs_rc K V P) (S := O) (k := K i) hi (fun j hj => h5 j (by omega)) ek.symm
    refine br_f (nI_ge hi (by omega)) (gx_needed fs fc fw fo K V P _ hi he (by omega) (fun z => ?_) (fun z p n => ?_) (fun z => ?_))
    · refine br_t rfl (nm_r (nI_1 i) (ih (i + 1) t K V P (by omega) (gc_skip hI hi (fun y => ?_)) hB))
      rw [a, ek] at z
      exact absurd y z
    · refine br_t rfl (nm_r (nI_1 i) (ih (i + 1) t K V P (by omega) (gc_skip hI hi (fun y => ?_)) hB))
      rw [← ek, n]
      exact (if_pos (by rw [← ep]; exact p)).symm
    · refine br_f (by decide) (gx_move fs fc fw fo K V P _ (by omega) (by omega) (hB i) ?_)
      refine nm_r (nI_1 t) (nm_r (nI_1 i) (ih (i + 1) (t + 1) _ _ _ (by omega) (gc_move hI hi ?_ ?_ ?_) (gs_Bu hB (hB i))))
      · rw [a, ek] at z; exact z
      · rw [gs_us]; exact ei
      · exact fun j hj => gs_un hj
theorem gx_keepN (fs fc fw fo : Int32) (K V P : Nat → Int32) (O : Nat → Int32 × Int32 × Int32) {f e q : Nat} (hq : q ≤ f) (hf : f ≤ e) (he : e ≤ 512) (post : Int32 → SX → Prop) (hB : gs_B P) (hO : ∀ j, q ≤ j → gs_rc K V P j = O j) (hk : ∀ k, gs_pic (gs_rc K V P) q k = gs_pic O f k)
    (hp : ∀ (t : Nat) (K' V' P' : Nat → Int32), q ≤ t → t ≤ e → (∀ j, t ≤ j → gs_rc K' V' P' j = O j) → (∀ j, j < q → gs_rc K' V' P' j = gs_rc K V P j) → (∀ k, gs_pic (gs_rc K' V' P') t k = gs_pic O e k) → gs_B P' → post (nI t) (fs, fc, fw, fo, K', V', P')) :
    wpX_keepNeeded post (fs, fc, fw, fo, K, V, P) (nI f) (nI e) (nI q) := by
  refine ⟨(e - f) + 1, gx_keepN6 fs fc fw fo O (gs_rc K V P) (f := f) (q := q) he post ?_ (e - f) f q K V P (by omega) ?_ hB⟩
  · intro t K' V' P' h hb
    obtain ⟨h1, h2, h3, h4, h5, h6, h7, h8⟩ := h
    exact hp t K' V' P' h1 h2 h5 h6 (fun k => h8 k (fun m z => (gs_l1 z).1)) hb
  · refine ⟨Nat.le_refl _, hq, Nat.le_refl _, hf, hO, fun j _ => rfl, fun k m _ _ => hk k, fun k h => ?_⟩
    rw [hk k]
    exact (gs_seg hf h).symm
theorem gx_keepA6 (fs fc fw fo : Int32) (O S : Nat → Int32 × Int32 × Int32) {f e q : Nat} (hq : q ≤ f) (he : e ≤ 512) (post : Int32 → SX → Prop)
    (hp : ∀ (t : Nat) (K V P : Nat → Int32), t + f = q + e → (∀ j, j < q → gs_rc K V P j = S j) → (∀ k, gs_pic (gs_rc K V P) t k = gs_pic O e k) → gs_B P → post (nI t) (fs, fc, fw, fo, K, V, P)) :
    ∀ (d i t : Nat) (K V P : Nat → Int32), i + d = e → t + f = q + i → f ≤ i → (∀ j, t ≤ j → gs_rc K V P j = O j) → (∀ j, j < q → gs_rc K V P j = S j) → (∀ k, gs_pic (gs_rc K V P) t k = gs_pic O i k) → gs_B P → wX_keepAll_6 post (nI e) (d + 1) (nI t) (nI i) fs fc fw fo K V P := by
  intro d
  induction d with
  | zero =>
    intro i t K V P hd ht hf h5 h6 h7 hB
    have q : i = e := by omega
    subst q
    exact br_t (nI_le (by omega) (by omega)) (hp t K V P ht h6 h7 hB)
  | succ d ih =>
    intro i t K V P hd ht hf h5 h6 h7 hB
    have ei : gs_rc K V P i = O i := h5 i (by omega)
    refine br_f (nI_ge (by omega) (by omega)) (gx_move fs fc fw fo K V P _ (by omega) (by omega) (hB i) ?_)
    have hs : gs_rc (upd K t (K i)) (upd V t (V i)) (upd P t (P i)) t = O i := by rw [gs_us]; exact ei
    have hn : ∀ j, j ≠ t → gs_rc (upd K t (K i)) (upd V t (V i)) (upd P t (P i)) j = gs_rc K V P j := fun j hj => gs_un hj
    refine nm_r (nI_1 t) (nm_r (nI_1 i) (ih (i + 1) (t + 1) _ _ _ (by omega) (by omega) (by omega) (fun j hj => ?_) (fun j hj => ?_) (fun k => ?_) (gs_Bu hB (hB i))))
    · rw [hn j (by omega)]; exact h5 j (by omega)
    · rw [hn j (by omega)]; exact h6 j hj
    · have fr : gs_pic (gs_rc (upd K t (K i)) (upd V t (V i)) (upd P t (P i))) t k = gs_pic (gs_rc K V P) t k := gs_fr k t (fun j hj => hn j (by omega))
      unfold gs_pic
      rw [hs, fr, h7 k]
theorem gx_keepA (fs fc fw fo : Int32) (K V P : Nat → Int32) (O : Nat → Int32 × Int32 × Int32) {f e q : Nat} (hq : q ≤ f) (hf : f ≤ e) (he : e ≤ 512) (post : Int32 → SX → Prop) (hB : gs_B P) (hO : ∀ j, q ≤ j → gs_rc K V P j = O j) (hk : ∀ k, gs_pic (gs_rc K V P) q k = gs_pic O f k)
    (hp : ∀ (t : Nat) (K' V' P' : Nat → Int32), t + f = q + e → (∀ j, j < q → gs_rc K' V' P' j = gs_rc K V P j) → (∀ k, gs_pic (gs_rc K' V' P') t k = gs_pic O e k) → gs_B P' → post (nI t) (fs, fc, fw, fo, K', V', P')) :
    wpX_keepAll post (fs, fc, fw, fo, K, V, P) (nI f) (nI e) (nI q) :=
  ⟨(e - f) + 1, gx_keepA6 fs fc fw fo O (gs_rc K V P) hq he post hp (e - f) f q K V P (by omega) (by omega) (Nat.le_refl _) hO (fun j _ => rfl) hk hB⟩
/-- the row closed up: the three pictures and the count of the last part stay -/
theorem gx_clean (fo : Int32) (K V P : Nat → Int32) {s c w : Nat} (hs : s ≤ c) (hc : c ≤ w) (hw : w ≤ 512) (post : SX → Prop) (hB : gs_B P)
    (hp : ∀ (s' c' w' : Nat) (K' V' P' : Nat → Int32), s' ≤ c' → c' ≤ w' → w' + c = c' + w → w' ≤ w → (∀ k, gs_pic (gs_rc K' V' P') s' k = gs_pic (gs_rc K V P) s k) → (∀ k, gs_pic (gs_rc K' V' P') c' k = gs_pic (gs_rc K V P) c k) → (∀ k, gs_pic (gs_rc K' V' P') w' k = gs_pic (gs_rc K V P) w k) → gs_B P' → post (nI s', nI c', nI w', fo, K', V', P')) :
    wpX_clean post (nI s, nI c, nI w, fo, K, V, P) := by
  unfold wpX_clean
  dsimp only
  refine gx_keepN _ _ _ _ K V P (gs_rc K V P) (f := 0) (e := s) (q := 0) (Nat.le_refl _) (Nat.zero_le _) (by omega) _ hB (fun _ _ => rfl) (fun _ => rfl) ?_
  intro s' K1 V1 P1 _ a2 a3 a4 a5 a6
  refine gx_keepN _ _ _ _ K1 V1 P1 (gs_rc K V P) (f := s) (e := c) (q := s') a2 hs (by omega) _ a6 a3 a5 ?_
  intro c' K2 V2 P2 b1 b2 b3 b4 b5 b6
  refine gx_keepA _ _ _ _ K2 V2 P2 (gs_rc K V P) (f := c) (e := w) (q := c') b2 hc hw _ b6 b3 b5 ?_
  intro w' K3 V3 P3 c1 c2 c3 c4
  refine hp s' c' w' K3 V3 P3 b1 (by omega) (by omega) (by omega) (fun k => ?_) (fun k => ?_) c3 c4
  · rw [← a5 k]
    exact gs_fr k s' (fun j hj => (c2 j (by omega)).trans (b4 j hj))
  · rw [← b5 k]
    exact gs_fr k c' (fun j hj => c2 j hj)
