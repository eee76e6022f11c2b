/-! marks, goal, least free block, own blocks, commits: both sides -/
theorem es_Rx {n k : Nat} {a : Nat → Int32} (h : es_R n a) (hk : k < n) : a k = -1 ∨ ∃ q : Nat, q < 96 ∧ a k = nI q := h k hk
section
variable (g c : Int32) (D F C S T U P B : Nat → Int32)
theorem xb_mark {K : Nat → Prop} {x : Int32} {post : SX → Prop} (hx : x = -1 ∨ ∃ q : Nat, q < 96 ∧ x = nI q) (hU : ∀ p, p < 96 → (U p = 0 ↔ K p))
    (h : ∀ U' : Nat → Int32, (∀ p, p < 96 → (U' p = 0 ↔ K p ∧ ¬ x = nI p)) → post (g, c, D, F, C, S, T, U')) : wpX_markBlock post (g, c, D, F, C, S, T, U) x := by
  rcases hx with rfl | ⟨q, hq, rfl⟩
  · exact br_t rfl (h U (fun p hp => (hU p hp).trans ⟨fun z => ⟨z, fun e => es_ne (p := p) (by omega) e.symm⟩, fun z => z.1⟩))
  · refine br_f (es_ne (by omega)) ⟨vp_in_nI hq (by decide), nm_e (h _ ?_)⟩
    intro p hp
    rw [nI_clamp (by omega), es_vb1]
    by_cases e : p = q
    · subst e
      rw [pk_us]
      exact ⟨fun z => absurd z es_10, fun z => absurd rfl z.2⟩
    · rw [pk_un e, hU p hp]
      exact ⟨fun z => ⟨z, fun y => e ((nI_eq (by omega) (by omega)).mp y.symm)⟩, fun z => z.1⟩
theorem xb_58 {K : Nat → Prop} {post : SX → Prop} (hS : es_R 96 S) (hp : ∀ U' : Nat → Int32, (∀ p, p < 96 → (U' p = 0 ↔ K p ∧ es_ct S (nI p) 96 = 0)) → post (g, c, D, F, C, S, T, U')) :
    (∀ p, p < 96 → (U p = 0 ↔ K p)) → ∃ n, wX_markInUse_58 post n 0 g c D F C S T U := by
  intro hU
  obtain ⟨n, hn⟩ := es_l0 (fun n i => ∀ U : Nat → Int32, (∀ p, p < 96 → (U p = 0 ↔ K p ∧ es_ct S (nI p) i = 0)) → wX_markInUse_58 post n (nI i) g c D F C S T U) 96
    (fun n U h => br_t (Int32.le_refl _) (hp U h)) (fun n i hi h U hU => by
      refine br_f (nI_ge (b := 96) hi (by decide)) ⟨vp_in_nI hi (by decide), ?_⟩
      rw [nI_clamp (n := i) (by omega)]
      refine xb_mark g c D F C S T U (hS i hi) hU (fun U' hU' => nm_r (nI_1 i) (h U' (fun p hp => ?_)))
      rw [hU' p hp, es_ct_s, and_assoc])
  exact ⟨n, hn U (fun p hp => (hU p hp).trans ⟨fun z => ⟨z, rfl⟩, fun z => z.1⟩)⟩
theorem xb_23 {post : SX → Prop} (hF : es_R 192 F) (hC : es_R 192 C) (hS : es_R 96 S) (hp : ∀ U' : Nat → Int32, es_mk (es_G F C S) U' → post (g, c, D, F, C, S, T, U')) :
    (∀ p, p < 96 → U p = 0) → ∃ n, wX_markInUse_23 post n 0 g c D F C S T U := by
  intro hU
  obtain ⟨n, hn⟩ := es_l0 (fun n i => ∀ U : Nat → Int32, (∀ p, p < 96 → (U p = 0 ↔ es_ct F (nI p) i = 0 ∧ es_ct C (nI p) i = 0)) → wX_markInUse_23 post n (nI i) g c D F C S T U) 192
    (fun n U h => br_t (Int32.le_refl _) (xb_58 g c D F C S T U hS (fun U' hU' => hp U' (fun p hq => by rw [hU' p hq, es_G_k])) h)) (fun n i hi h U hU => by
      refine br_f (nI_ge (b := 192) hi (by decide)) ⟨vp_in_nI hi (by decide), ?_⟩
      rw [nI_clamp (n := i) (by omega)]
      refine xb_mark g c D F C S T U (hF i hi) hU (fun U1 hU1 => ⟨vp_in_nI hi (by decide), xb_mark g c D F C S T U1 (hC i hi) hU1 (fun U2 hU2 => nm_r (nI_1 i) (h U2 (fun p hp => ?_)))⟩)
      rw [hU2 p hp, es_ct_s, es_ct_s]
      exact ⟨fun z => ⟨⟨z.1.1.1, z.1.2⟩, ⟨z.1.1.2, z.2⟩⟩, fun z => ⟨⟨⟨z.1.1, z.2.1⟩, z.1.2⟩, z.2.2⟩⟩)
  exact ⟨n, hn U (fun p hp => ⟨fun _ => ⟨rfl, rfl⟩, fun _ => hU p hp⟩)⟩
theorem xb_in {post : SX → Prop} (hF : es_R 192 F) (hC : es_R 192 C) (hS : es_R 96 S) (hp : ∀ U' : Nat → Int32, es_mk (es_G F C S) U' → post (g, c, D, F, C, S, T, U')) : wpX_markInUse post (g, c, D, F, C, S, T, U) := by
  obtain ⟨n, hn⟩ := es_l0 (fun n i => ∀ U : Nat → Int32, (∀ p, p < i → U p = 0) → wX_markInUse_2 post g c n (nI i) D F C S T U) 96
    (fun n U h => br_t (Int32.le_refl _) (xb_23 g c D F C S T U hF hC hS hp h)) (fun n i hi h U hU => by
      refine br_f (nI_ge (b := 96) hi (by decide)) ⟨vp_in_nI hi (by decide), ?_⟩
      rw [nI_clamp (n := i) (by omega), es_vb0]
      refine nm_e (nm_r (nI_1 i) (h _ (lt_s (fun p hp => ?_) pk_us)))
      rw [pk_un (by omega)]
      exact hU p hp)
  exact ⟨n, hn U (fun p hp => absurd hp (Nat.not_lt_zero p))⟩
theorem es_16 (f : Nat) : 16 * nI f = nI (16 * f) := by
  have h := pk_mul 16 f
  exact h
theorem xg_go {post : Int32 → Prop} {f b : Nat} (hF : es_R 192 F) (hf : f < 6) (hb : b ≤ 32) (hp : post (nI (es_go F f b))) : wpX_goalFor post (g, c, D, F, C, S, T, U) (nI f) (nI b) := by
  refine nm_r (es_pr_i b) ⟨b + 1, ?_⟩
  refine es_ld (W := fun n i => i ≤ 32 → post (nI (es_go F f i)) → wX_goalFor_4 post (nI f) g c D F C S T U n (es_pr i)) (fun n _ hp => ?_) (fun n i h hi hp => ?_) b hb hp
  · refine br_t es_m1lt ?_
    rw [es_16]
    exact hp
  · show wX_goalFor_4 post (nI f) g c D F C S T U (n + 1) (nI i)
    refine br_f (nI_pos (n := i) (by omega)) ?_
    rw [es_ix, nI_clamp (n := 32 * f + i) (by omega)]
    refine ⟨vp_in_nI (by omega) (by decide), ?_⟩
    rcases hF (32 * f + i) (by omega) with e | ⟨p, hq, e⟩
    · rw [es_go_h e] at hp
      exact nm_r e (br_t rfl (nm_r (es_pr_s i) (h (by omega) hp)))
    · rw [es_go_m hq e] at hp
      refine nm_r e (br_f (es_ne (by omega)) ?_)
      rw [nI_1]
      by_cases z : p + 1 = 96
      · rw [z] at hp ⊢
        exact br_t rfl hp
      · rw [Nat.mod_eq_of_lt (by omega)] at hp
        exact br_f (fun y => z ((nI_eq (b := 96) (by omega) (by decide)).mp y)) hp
theorem xl_lf {post : Int32 → Prop} {G : Nat → Bool} (hU : es_mk G U) : ∀ d p, p + d = 96 → (∀ q, es_lf G d p = some q → post (nI q)) → (es_lf G d p = none → post (-1)) → wX_leastFreeFrom_2 post g c D F C S T U (d + 1) (nI p) := by
  intro d
  induction d with
  | zero =>
    intro p h _ hn
    obtain rfl : p = 96 := by omega
    exact br_t (Int32.le_refl _) (hn rfl)
  | succ d ih =>
    intro p h hs hn
    refine br_f (nI_ge (b := 96) (by omega) (by decide)) ⟨vp_in_nI (by omega) (by decide), ?_⟩
    rw [nI_clamp (n := p) (by omega)]
    by_cases e : G p = true
    · exact br_t ((hU p (by omega)).mpr e) (hs p (if_pos e))
    · have z : es_lf G (d + 1) p = es_lf G d (p + 1) := if_neg e
      rw [z] at hs hn
      exact br_f (fun y => e ((hU p (by omega)).mp y)) (nm_r (nI_1 p) (ih (p + 1) (by omega) hs hn))
theorem xl_fr {post : Int32 → Prop} {G : Nat → Bool} {p : Nat} (hU : es_mk G U) (h : p ≤ 96) (hs : ∀ q, es_lf G (96 - p) p = some q → post (nI q)) (hn : es_lf G (96 - p) p = none → post (-1)) : wpX_leastFreeFrom post (g, c, D, F, C, S, T, U) (nI p) :=
  ⟨96 - p + 1, xl_lf g c D F C S T U hU (96 - p) p (by omega) hs hn⟩
theorem xa_fb {post : Int32 → SX → Prop} {f b : Nat} (hF : es_R 192 F) (hC : es_R 192 C) (hS : es_R 96 S) (hf : f < 6) (hb : b ≤ 32)
    (hs : ∀ (U' : Nat → Int32) (q : Nat), es_an (es_G F C S) (es_go F f b) = some q → post (nI q) (g, c, D, F, C, S, T, U'))
    (hn : ∀ U' : Nat → Int32, es_an (es_G F C S) (es_go F f b) = none → post (-1) (g, c, D, F, C, S, T, U')) : wpX_freeBlockFor post (g, c, D, F, C, S, T, U) (nI f) (nI b) := by
  unfold wpX_freeBlockFor
  refine xb_in g c D F C S T U hF hC hS (fun U' hU => ?_)
  dsimp only
  have hg := es_go_lt (F := F) hf b
  refine xg_go g c D F C S T U' hF hf hb ?_
  refine xl_fr g c D F C S T U' hU (by omega) (fun q e => ?_) (fun e => ?_)
  · have z := es_lf_lt _ _ _ e
    exact br_f (es_ne (by omega)) (hs U' q (es_an_s e))
  · refine br_t rfl ?_
    have z := es_an_x (by omega) e
    exact xl_fr g c D F C S T U' (p := 0) hU (by omega) (fun q e2 => hs U' q (z.symm.trans e2)) (fun e2 => hn U' (z.symm.trans e2))
/-- the block at slot k is its own -/
def es_ow (F C S : Nat → Int32) (k : Nat) : Prop := ¬ F k = -1 ∧ es_us F S (F k) = 1 ∧ es_ct C (F k) 192 = 0
theorem xo_y {post : Int32 → Prop} {k : Nat} (hk : k < 192) (h : es_ow F C S k) (hp : post 1) : wpX_isOwn post (g, c, D, F, C, S, T, U) (nI k) := by
  unfold wpX_isOwn
  dsimp only
  rw [nI_clamp (n := k) (by omega)]
  refine ⟨vp_in_nI hk (by decide), nm_e (br_f h.1 (xu_us g c D F C S T U ?_))⟩
  refine br_t ((es_ni1 (es_us_b _ _ _)).mpr h.2.1) ?_
  exact xk_co g c D F C S T U (fun _ => br_t rfl hp) (fun z => absurd h.2.2 z)
theorem xo_n {post : Int32 → Prop} {k : Nat} (hk : k < 192) (h : ¬ es_ow F C S k) (hp : post 0) : wpX_isOwn post (g, c, D, F, C, S, T, U) (nI k) := by
  unfold wpX_isOwn
  dsimp only
  rw [nI_clamp (n := k) (by omega)]
  refine ⟨vp_in_nI hk (by decide), nm_e (br_c (fun _ => hp) (fun e => xu_us g c D F C S T U (br_c (fun e1 => ?_) (fun _ => hp))))⟩
  rw [es_ni1 (es_us_b _ _ _)] at e1
  exact xk_co g c D F C S T U (fun z => absurd ⟨e, e1, z⟩ h) (fun _ => br_f es_10 hp)
theorem es_df_e {a b : Nat → Int32} {i : Nat} (e : a i = b i) : es_df a b (i + 1) = es_df a b i := if_pos e
theorem es_df_n {a b : Nat → Int32} {i : Nat} (e : ¬ a i = b i) : es_df a b (i + 1) = es_df a b i + 1 := if_neg e
theorem es_cp_at (a b : Nat → Int32) (i : Nat) : es_cp a b 0 0 0 i i = a i := es_cp_hi (by omega)
theorem xr_cf {post : Int32 → SX → Prop} (hp : post (nI (es_df C F 192)) (g, c, D, F, es_cp C F 0 0 0 192, S, T, U)) : wpX_replaceMaps__committed_files post (g, c, D, F, C, S, T, U) := by
  have z := es_l0 (fun n i => wX_replaceMaps__committed_files_5 post g c n (nI (es_df C F i)) (nI i) D F (es_cp C F 0 0 0 i) S T U) 192
    (fun n => br_t (Int32.le_refl _) hp) (fun n i hi h => by
      have hv : vp_in (nI i) 192 := vp_in_nI hi (by decide)
      refine br_f (nI_ge (b := 192) hi (by decide)) ⟨hv, hv, ?_⟩
      rw [nI_clamp (n := i) (by omega), es_cp_at]
      refine br_c (fun e => nm_r (nI_1 i) ?_) (fun e => nm_r (nI_1 _) ⟨hv, hv, nm_r (es_cp_st C F i) (nm_r (nI_1 i) ?_)⟩)
      · simp only [es_df_e e, ← es_cp_sk e] at h
        exact h
      · simp only [es_df_n e] at h
        exact h)
  rw [es_cp_0] at z
  exact z
theorem xr_fc {post : Int32 → SX → Prop} (hp : post (nI (es_df F C 192)) (g, c, D, es_cp F C 0 0 0 192, C, S, T, U)) : wpX_replaceMaps__files_committed post (g, c, D, F, C, S, T, U) := by
  have z := es_l0 (fun n i => wX_replaceMaps__files_committed_5 post g c n (nI (es_df F C i)) (nI i) D (es_cp F C 0 0 0 i) C S T U) 192
    (fun n => br_t (Int32.le_refl _) hp) (fun n i hi h => by
      have hv : vp_in (nI i) 192 := vp_in_nI hi (by decide)
      refine br_f (nI_ge (b := 192) hi (by decide)) ⟨hv, hv, ?_⟩
      rw [nI_clamp (n := i) (by omega), es_cp_at]
      refine br_c (fun e => nm_r (nI_1 i) ?_) (fun e => nm_r (nI_1 _) ⟨hv, hv, nm_r (es_cp_st F C i) (nm_r (nI_1 i) ?_)⟩)
      · simp only [es_df_e e, ← es_cp_sk e] at h
        exact h
      · simp only [es_df_n e] at h
        exact h)
  rw [es_cp_0] at z
  exact z
theorem xr_co {post : Int32 → SX → Prop} (hp : post (nI (es_df F C 192)) (g, 0, D, F, es_cp C F 0 0 0 192, S, T, U)) : wpX_commitFiles post (g, c, D, F, C, S, T, U) := by
  rw [es_df_sy] at hp
  exact xr_cf g 0 D F C S T U hp
theorem yr_df {post : Int32 → Prop} (hp : post (nI (es_df F C 192))) : wpY_differ post (g, c, F, P, C, B, D, T) := by
  refine es_l0 (fun n i => wY_differ_4 post g c F P C B D T n (nI (es_df F C i)) (nI i)) 192 (fun n => br_t (Int32.le_refl _) hp) (fun n i hi h => ?_)
  have hv : vp_in (nI i) 192 := vp_in_nI hi (by decide)
  refine br_f (nI_ge (b := 192) hi (by decide)) ⟨hv, hv, ?_⟩
  rw [nI_clamp (n := i) (by omega)]
  refine br_c (fun e => nm_r (nI_1 i) ?_) (fun e => nm_r (nI_1 _) (nm_r (nI_1 i) ?_))
  · simp only [es_df_e e] at h
    exact h
  · simp only [es_df_n e] at h
    exact h
theorem yr_sv {post : Int32 → SY → Prop} (hp : post (nI (es_df F C 192)) (g, 0, F, P, es_cp C F 0 0 0 192, B, D, T)) : wpY_save post (g, c, F, P, C, B, D, T) := by
  unfold wpY_save
  refine yr_df g c D F C T P B ?_
  have z := es_l0 (fun n i => wY_save_7 post (nI (es_df F C 192)) g c n (nI i) F P (es_cp C F 0 0 0 i) B D T) 192
    (fun n => br_t (Int32.le_refl _) hp) (fun n i hi h => by
      have hv : vp_in (nI i) 192 := vp_in_nI hi (by decide)
      refine br_f (nI_ge (b := 192) hi (by decide)) ⟨hv, hv, ?_⟩
      rw [nI_clamp (n := i) (by omega)]
      exact nm_r (es_cp_st C F i) (nm_r (nI_1 i) h))
  rw [es_cp_0] at z
  exact z
theorem yr_cr {post : Int32 → SY → Prop} (hp : post (nI (es_df F C 192)) (g, 0, es_cp F C 0 0 0 192, P, C, B, D, T)) : wpY_crash post (g, c, F, P, C, B, D, T) := by
  unfold wpY_crash
  refine yr_df g c D F C T P B ?_
  have z := es_l0 (fun n i => wY_crash_7 post (nI (es_df F C 192)) g c n (nI i) (es_cp F C 0 0 0 i) P C B D T) 192
    (fun n => br_t (Int32.le_refl _) hp) (fun n i hi h => by
      have hv : vp_in (nI i) 192 := vp_in_nI hi (by decide)
      refine br_f (nI_ge (b := 192) hi (by decide)) ⟨hv, hv, ?_⟩
      rw [nI_clamp (n := i) (by omega)]
      exact nm_r (es_cp_st F C i) (nm_r (nI_1 i) h))
  rw [es_cp_0] at z
  exact z
end
section
variable (D F C S T U P B : Nat → Int32)
theorem xc_ch {post : SX → Prop} {g c : Nat} (hc : c < g) (hg : g ≤ 20) (hp : post (nI g, nI (es_nx g c C F).1, D, F, (es_nx g c C F).2, S, T, U)) : wpX_countChange post (nI g, nI c, D, F, C, S, T, U) := by
  refine nm_r (nI_1 c) ?_
  by_cases e : c + 1 < g
  · rw [es_nx_l e] at hp
    exact br_t (nI_lt e (by omega)) hp
  · rw [es_nx_e e] at hp
    exact br_f (nI_nlt (by omega) (by omega)) (xr_co (nI g) (nI (c + 1)) D F C S T U hp)
theorem yc_ch {post : SY → Prop} {g c : Nat} (hc : c < g) (hg : g ≤ 20) (hp : post (nI g, nI (es_nx g c C F).1, F, P, (es_nx g c C F).2, B, D, T)) : wpY_changed post (nI g, nI c, F, P, C, B, D, T) := by
  refine nm_r (nI_1 c) ?_
  by_cases e : c + 1 < g
  · rw [es_nx_l e] at hp
    exact br_f (fun z => absurd ((nI_eq (by omega) (by omega)).mp z) (by omega)) hp
  · rw [es_nx_e e] at hp
    exact br_t (congrArg nI (by omega)) (yr_sv (nI g) (nI (c + 1)) D F C T P B hp)
end
