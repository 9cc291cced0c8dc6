theorem gx_lr (fs fc fw fo : Int32) (K V P : Nat → Int32) (k : Int32) (post : Int32 → Prop) : ∀ n : Nat, n ≤ 512 → (gs_last (gs_rc K V P) k n = none → post (-1)) → (∀ i, gs_last (gs_rc K V P) k n = some i → post (nI i)) → wX_lastRecord_4 post k fs fc fw fo K V P (n + 1) (nI n - 1) := by
  intro n
  induction n with
  | zero =>
    intro _ h0 _
    exact br_t (by decide +kernel) (h0 rfl)
  | succ n ih =>
    intro hn h0 h1
    rw [nI_pred]
    have hc : (nI n).toNatClampNeg = n := nI_clamp (by omega)
    refine br_f (nI_pos (by omega)) ⟨vp_in_nI (by omega) (by omega), ?_⟩
    by_cases e : K (nI n).toNatClampNeg = k
    · refine br_t e (h1 n ?_)
      rw [hc] at e
      exact if_pos e
    · refine br_f e (fun y ey => ?_)
      rw [hc] at e
      have q : gs_last (gs_rc K V P) k (n + 1) = gs_last (gs_rc K V P) k n := if_neg e
      rw [ey, ← Int32.sub_eq_add_neg]
      exact ih (by omega) (fun h => h0 (q.trans h)) (fun i h => h1 i (q.trans h))
theorem gx_last (fs fc fw fo : Int32) (K V P : Nat → Int32) (k : Int32) (post : Int32 → Prop) {n : Nat} (hn : n ≤ 512) (h0 : gs_last (gs_rc K V P) k n = none → post (-1)) (h1 : ∀ i, gs_last (gs_rc K V P) k n = some i → post (nI i)) : wpX_lastRecord post (fs, fc, fw, fo, K, V, P) k (nI n) :=
  fun y ey => ⟨n + 1, by rw [ey]; exact gx_lr fs fc fw fo K V P k post n hn h0 h1⟩
theorem gx_there (fs fc fw fo : Int32) (K V P : Nat → Int32) (k : Int32) (post : Int32 → Prop) {n : Nat} (hn : n ≤ 512) (h0 : gs_pic (gs_rc K V P) n k = none → post 0) (h1 : ∀ x, gs_pic (gs_rc K V P) n k = some x → post 1) : wpX_isThere post (fs, fc, fw, fo, K, V, P) k (nI n) := by
  unfold wpX_isThere
  dsimp only
  refine gx_last fs fc fw fo K V P k _ hn (fun h => br_t rfl (h0 (gs_l0 h))) (fun i h => ?_)
  obtain ⟨hi, _, hp⟩ := gs_l1 h
  have hc : (nI i).toNatClampNeg = i := nI_clamp (by omega)
  refine br_f (gs_nm1 (by omega)) ⟨vp_in_nI (by omega) (by omega), ?_⟩
  rw [hc]
  by_cases z : P i = 0
  · exact br_t z (h0 (hp.trans (if_pos z)))
  · exact br_f z (h1 (V i) (hp.trans (if_neg z)))
theorem gx_value (fs fc fw fo : Int32) (K V P : Nat → Int32) (k : Int32) (post : Int32 → Prop) {n : Nat} (hn : n ≤ 512) (h : post ((gs_pic (gs_rc K V P) n k).getD 0)) : wpX_valueOf post (fs, fc, fw, fo, K, V, P) k (nI n) := by
  unfold wpX_valueOf
  dsimp only
  refine gx_last fs fc fw fo K V P k _ hn (fun q => br_t rfl (by rw [gs_l0 q] at h; exact h)) (fun i q => ?_)
  obtain ⟨hi, _, hp⟩ := gs_l1 q
  have hc : (nI i).toNatClampNeg = i := nI_clamp (by omega)
  have hv : vp_in (nI i) 512 := vp_in_nI (by omega) (by omega)
  refine br_f (gs_nm1 (by omega)) ⟨hv, ?_⟩
  rw [hc]
  rw [hp] at h
  by_cases z : P i = 0
  · rw [show gs_val (gs_rc K V P i) = none from if_pos z] at h
    exact br_t z h
  · rw [show gs_val (gs_rc K V P i) = some (V i) from if_neg z] at h
    exact br_f z ⟨hv, h⟩
theorem gx_differs (fc fo : Int32) (K V P : Nat → Int32) (k : Int32) (post : Int32 → Prop) {s w : Nat} (hs : s ≤ 512) (hw : w ≤ 512) (h0 : gs_pic (gs_rc K V P) w k = gs_pic (gs_rc K V P) s k → post 0) (h1 : gs_pic (gs_rc K V P) w k ≠ gs_pic (gs_rc K V P) s k → post 1) : wpX_differs post (nI s, fc, nI w, fo, K, V, P) k := by
  unfold wpX_differs
  dsimp only
  have g : ∀ a b : Option Int32, (a = b → post 0) → (a ≠ b → post 1) → a.isSome = b.isSome → (a.getD 0 = b.getD 0 → post 0) ∧ (¬ a.getD 0 = b.getD 0 → post 1) := by
    intro a b p0 p1 e
    cases a with
    | none =>
      cases b with
      | none => exact ⟨fun _ => p0 rfl, fun z => absurd rfl z⟩
      | some y => exact nomatch e
    | some x =>
      cases b with
      | none => exact nomatch e
      | some y => exact ⟨fun z => p0 (congrArg some z), fun z => p1 (fun q => z (Option.some.inj q))⟩
  refine gx_there _ _ _ _ K V P k _ hw (fun a => ?_) (fun x a => ?_)
  · refine gx_there _ _ _ _ K V P k _ hs (fun b => ?_) (fun y b => ?_)
    · refine br_t rfl (gx_value _ _ _ _ K V P k _ hw (gx_value _ _ _ _ K V P k _ hs (g _ _ h0 h1 ?_)))
      rw [a, b]
    · exact br_f (by decide) (h1 (by rw [a, b]; exact fun z => nomatch z))
  · refine gx_there _ _ _ _ K V P k _ hs (fun b => ?_) (fun y b => ?_)
    · exact br_f (by decide) (h1 (by rw [a, b]; exact fun z => nomatch z))
    · refine br_t rfl (gx_value _ _ _ _ K V P k _ hw (gx_value _ _ _ _ K V P k _ hs (g _ _ h0 h1 ?_)))
      rw [a, b]; rfl
