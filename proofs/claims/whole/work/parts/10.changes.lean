/-! the changes: write, punch, copy, commit, crash, snap, drop, revert, gather -/
theorem rw_id {F : Nat → Int32} {j p : Nat} (hj : j < 2 ^ 31) (e : F j = nI p) : upd F (nI j).toNatClampNeg (nI p) = F := by
  rw [nI_clamp hj]
  funext i
  by_cases h : i = j
  · subst h
    rw [pk_us, e]
  · exact pk_un h
theorem rw_up (a : Nat → Int32) {j : Nat} (x : Int32) (hj : j < 2 ^ 31) : upd a (nI j).toNatClampNeg x = upd a j x := by
  rw [nI_clamp hj]
section
variable (D F C S T U P B : Nat → Int32)
/-- how a write ends: in place, in a new block, or not at all -/
theorem xm_wr {post : Int32 → SX → Prop} {g c f b : Nat} (v3 : Int32) (hc : c < g) (hg : g ≤ 20) (hF : es_R 192 F) (hC : es_R 192 C) (hS : es_R 96 S) (hf : f < 6) (hb : b < 32)
    (ho : es_ow F C S (32 * f + b) → ∀ p, p < 96 → F (32 * f + b) = nI p → post 1 (nI g, nI (es_nx g c C F).1, upd D p v3, F, (es_nx g c C F).2, S, T, U))
    (hs : ¬ es_ow F C S (32 * f + b) → ∀ (U' : Nat → Int32) (q : Nat), q < 96 → es_an (es_G F C S) (es_go F f b) = some q →
      post 1 (nI g, nI (es_nx g c C (upd F (32 * f + b) (nI q))).1, upd D q v3, upd F (32 * f + b) (nI q), (es_nx g c C (upd F (32 * f + b) (nI q))).2, S, T, U'))
    (hn : ¬ es_ow F C S (32 * f + b) → ∀ U' : Nat → Int32, es_an (es_G F C S) (es_go F f b) = none → post 0 (nI g, nI c, D, F, C, S, T, U')) :
    wpX_write post (nI g, nI c, D, F, C, S, T, U) (nI f) (nI b) v3 := by
  have hv : vp_in (nI (32 * f + b)) 192 := vp_in_nI (by omega) (by decide)
  unfold wpX_write
  dsimp only
  refine xq_fb_y _ _ D F C S T U hf hb (nm_r (es_ix f b) ?_)
  by_cases h : es_ow F C S (32 * f + b)
  · refine xo_y _ _ D F C S T U (by omega) h (br_f es_10 ⟨hv, ?_⟩)
    rw [nI_clamp (n := 32 * f + b) (by omega)]
    rcases hF (32 * f + b) (by omega) with e | ⟨p, hp, e⟩
    · exact absurd e h.1
    · have z := ho h p hp e
      rw [e]
      exact br_f (es_ne (by omega)) ⟨hv, nm_r (rw_id (by omega) e) ⟨vp_in_nI hp (by decide), nm_r (rw_up D v3 (by omega)) (xc_ch _ F C S T U hc hg z)⟩⟩
  · refine xo_n _ _ D F C S T U (by omega) h (br_t rfl (xa_fb _ _ D F C S T U hF hC hS hf (by omega) (fun U' q e => ?_) (fun U' e => br_t rfl (hn h U' e))))
    have hq : q < 96 := es_an_lt (Nat.le_of_lt (es_go_lt hf b)) e
    exact br_f (es_ne (by omega)) ⟨hv, nm_r (rw_up F (nI q) (by omega)) ⟨vp_in_nI hq (by decide), nm_r (rw_up D v3 (by omega)) (xc_ch _ _ C S T U' hc hg (hs h U' q hq e))⟩⟩
theorem ym_wr {post : Int32 → SY → Prop} {g c f b : Nat} (v3 : Int32) (hc : c < g) (hg : g ≤ 20) (hF : es_R 192 F) (hT : es_Sn T S P) (hf : f < 6) (hb : b < 32)
    (ho : es_ow F C S (32 * f + b) → ∀ p, p < 96 → F (32 * f + b) = nI p → post 1 (nI g, nI (es_nx g c C F).1, F, P, (es_nx g c C F).2, B, upd D p v3, T))
    (hs : ¬ es_ow F C S (32 * f + b) → ∀ q, q < 96 → es_an (es_G F C S) (es_go F f b) = some q →
      post 1 (nI g, nI (es_nx g c C (upd F (32 * f + b) (nI q))).1, upd F (32 * f + b) (nI q), P, (es_nx g c C (upd F (32 * f + b) (nI q))).2, B, upd D q v3, T))
    (hn : ¬ es_ow F C S (32 * f + b) → es_an (es_G F C S) (es_go F f b) = none → post 0 (nI g, nI c, F, P, C, B, D, T)) :
    wpY_write post (nI g, nI c, F, P, C, B, D, T) (nI f) (nI b) v3 := by
  have hv : vp_in (nI (32 * f + b)) 192 := vp_in_nI (by omega) (by decide)
  have k55 : ¬ es_ow F C S (32 * f + b) → wY_write_55 post (nI f) (nI b) v3 (nI g) (nI c) F P C B D T := by
    intro h
    refine ya_al _ _ D F C S T P B hT hF hf (by omega) (fun q e => ?_) (fun e => br_f es_m1le (hn h e))
    have hq : q < 96 := es_an_lt (Nat.le_of_lt (es_go_lt hf b)) e
    rw [es_iy f b]
    exact br_t (nI_pos' (by omega)) ⟨hv, nm_r (rw_up F (nI q) (by omega)) ⟨vp_in_nI hq (by decide), nm_r (rw_up D v3 (by omega)) (yc_ch _ _ C T P B hc hg (hs h q hq e))⟩⟩
  unfold wpY_write
  dsimp only
  rw [es_iy f b, nI_clamp (n := 32 * f + b) (by omega)]
  refine yq_fb_y _ _ D F C T P B hf hb ⟨hv, nm_e ?_⟩
  rcases hF (32 * f + b) (by omega) with e | ⟨p, hp, e⟩
  · rw [e]
    exact br_t es_m1lt (k55 (fun z => z.1 e))
  · have hne : ¬ F (32 * f + b) = -1 := by rw [e]; exact es_ne (by omega)
    have hnl : ¬ F (32 * f + b) < 0 := by rw [e]; exact nI_pos (by omega)
    refine br_f hnl (yu_us _ _ D F C S T P B hT hne (br_c (fun e1 => yk_co _ _ D F C T P B (fun e2 => br_t rfl ?_) (fun e2 => br_f es_10 (k55 (fun z => e2 z.2.2)))) (fun e1 => k55 (fun z => e1 ((es_ni1 (es_us_b _ _ _)).mpr z.2.1)))))
    rw [es_ni1 (es_us_b _ _ _)] at e1
    have z := ho ⟨hne, e1, e2⟩ p hp e
    rw [e]
    exact ⟨vp_in_nI hp (by decide), nm_r (rw_up D v3 (by omega)) (yc_ch _ F C T P B hc hg z)⟩
end
theorem i_vc_write {k : Nat} {u : SX} {v : SY} (I : i_Rel k u v) (hk : k + 6 ≤ 3073) (v1 : Int32) (v2 : Int32) (v3 : Int32) : wpX_write (fun r u' => wpY_write (fun r' v' => r' = r ∧ i_Rel (k + 6) u' v') v v1 v2 v3) u v1 v2 v3 := by
  obtain ⟨g, c, D, F, C, S, T, U, P, B, rfl, rfl, h1, hg, hc, hF, hC, hS, hT⟩ := I
  rcases es_c2 6 32 (by decide) (by decide) v1 v2 with h | ⟨f, b, hf, hb, rfl, rfl⟩
  · unfold wpX_write wpY_write
    dsimp only
    exact xq_fb_n _ _ _ _ _ _ _ _ h (yq_fb_n _ _ _ _ _ _ _ _ h ⟨rfl, rl_mk h1 hg hc hF hC hS hT⟩)
  · refine xm_wr D F C S T U v3 hc hg hF hC hS hf hb (fun h p hp e => ?_) (fun h U' q hq e => ?_) (fun h U' e => ?_)
    · refine ym_wr D F C S T P B v3 hc hg hF hT hf hb (fun _ p' hp' e' => ?_) (fun y => absurd h y) (fun y => absurd h y)
      have z : p' = p := (nI_eq (by omega) (by omega)).mp (e'.symm.trans e)
      subst z
      exact ⟨rfl, rl_nx h1 hg hF hC hS hT⟩
    · refine ym_wr D F C S T P B v3 hc hg hF hT hf hb (fun y => absurd y h) (fun _ q' hq' e' => ?_) (fun _ e' => nomatch (e'.symm.trans e))
      have z : q' = q := Option.some.inj (e'.symm.trans e)
      subst z
      exact ⟨rfl, rl_nx h1 hg (es_R_upd hF hq) hC hS hT⟩
    · exact ym_wr D F C S T P B v3 hc hg hF hT hf hb (fun y => absurd y h) (fun _ q' hq' e' => nomatch (e'.symm.trans e)) (fun _ _ => ⟨rfl, rl_mk h1 hg hc hF hC hS hT⟩)
theorem i_vc_punch {k : Nat} {u : SX} {v : SY} (I : i_Rel k u v) (hk : k + 6 ≤ 3073) (v1 : Int32) (v2 : Int32) (v3 : Int32) : wpX_punch (fun r u' => wpY_punch (fun r' v' => r' = r ∧ i_Rel (k + 6) u' v') v v1 v2 v3) u v1 v2 v3 := by
  obtain ⟨g, c, D, F, C, S, T, U, P, B, rfl, rfl, h1, hg, hc, hF, hC, hS, hT⟩ := I
  have R : i_Rel (k + 6) (nI g, nI c, D, F, C, S, T, U) (nI g, nI c, F, P, C, B, D, T) := rl_mk h1 hg hc hF hC hS hT
  unfold wpX_punch wpY_punch
  dsimp only
  rcases es_c2 6 32 (by decide) (by decide) v1 v2 with h | ⟨f, b, hf, hb, rfl, rfl⟩
  · exact xq_fb_n _ _ _ _ _ _ _ _ h (yq_fb_n _ _ _ _ _ _ _ _ h ⟨rfl, R⟩)
  · refine xq_fb_y _ _ _ _ _ _ _ _ hf hb ?_
    by_cases h3 : 1 ≤ v3
    · obtain ⟨m, m1, hm, rfl⟩ := es_1of (Int32.not_lt.mpr h3)
      have hl : ∀ l : Nat, l ≤ m → b + l ≤ 32 → (l = m ∨ b + l = 32) → wX_punch_39 (fun r u' => wpY_file (fun r_1 => (r_1 = 0 → 0 = r ∧ i_Rel (k + 6) u' (nI g, nI c, F, P, C, B, D, T)) ∧ (¬ r_1 = 0 → wpY_block (fun r_11 => (r_11 = 0 → 0 = r ∧ i_Rel (k + 6) u' (nI g, nI c, F, P, C, B, D, T)) ∧ (¬ r_11 = 0 → (1 ≤ nI m → ∃ n26 : Nat, wY_punch_26 (fun r' v' => r' = r ∧ i_Rel (k + 6) u' v') (nI f) (nI b) (nI m) (nI g) (nI c) n26 (nI b) F P C B D T) ∧ (¬ 1 ≤ nI m → 0 = r ∧ i_Rel (k + 6) u' (nI g, nI c, F, P, C, B, D, T)))) (nI g, nI c, F, P, C, B, D, T) (nI b))) (nI g, nI c, F, P, C, B, D, T) (nI f)) (nI f) (nI b) (nI l) (nI g) (nI c) D F C S T U := by
        intro l l1 l2 l3
        unfold wX_punch_39
        rw [es_ix f b]
        refine xh_f _ _ D F C S T U (by omega) (xc_ch D _ C S T U hc hg ?_)
        exact yq_fb_y _ _ _ _ _ _ _ _ hf hb (br_t h3 (ys_pu D F C T P B hc hg hf hb hm l1 l2 l3 ⟨rfl, rl_nx h1 hg (es_R_ho hF) hC hS hT⟩))
      refine br_t h3 ?_
      rw [es_32m (by omega)]
      refine br_c (fun e => ?_) (fun e => ?_)
      · rw [nI_leI hm (by omega)] at e
        exact hl m (Nat.le_refl m) (by omega) (Or.inl rfl)
      · rw [nI_leI hm (by omega)] at e
        exact hl (32 - b) (by omega) (by omega) (Or.inr (by omega))
    · exact br_f h3 (yq_fb_y _ _ _ _ _ _ _ _ hf hb (br_f h3 ⟨rfl, R⟩))
theorem i_vc_copy {k : Nat} {u : SX} {v : SY} (I : i_Rel k u v) (hk : k + 6 ≤ 3073) (v1 : Int32) (v2 : Int32) (v3 : Int32) (v4 : Int32) (v5 : Int32) : wpX_copy (fun r u' => wpY_copy (fun r' v' => r' = r ∧ i_Rel (k + 6) u' v') v v1 v2 v3 v4 v5) u v1 v2 v3 v4 v5 := by
  obtain ⟨g, c, D, F, C, S, T, U, P, B, rfl, rfl, h1, hg, hc, hF, hC, hS, hT⟩ := I
  have R : i_Rel (k + 6) (nI g, nI c, D, F, C, S, T, U) (nI g, nI c, F, P, C, B, D, T) := rl_mk h1 hg hc hF hC hS hT
  unfold wpX_copy
  dsimp only
  rcases es_cs 6 (by decide) v1 with h | ⟨e, he, rfl⟩
  · exact xq_file_n _ _ _ _ _ _ _ _ h (br_t rfl (yq_cp_n _ _ D F C T P B (fun z => by
      obtain ⟨⟨j, hj, ej⟩, -⟩ := z
      exact es_bad_ne (by decide) h hj ej) ⟨rfl, R⟩))
  refine xq_file_y _ _ _ _ _ _ _ _ he (br_f es_10 ?_)
  rcases es_cs 6 (by decide) v3 with h | ⟨f, hf, rfl⟩
  · exact xq_file_n _ _ _ _ _ _ _ _ h (br_t rfl (yq_cp_n _ _ D F C T P B (fun z => by
      obtain ⟨-, ⟨j, hj, ej⟩, -⟩ := z
      exact es_bad_ne (by decide) h hj ej) ⟨rfl, R⟩))
  refine xq_file_y _ _ _ _ _ _ _ _ hf (br_f es_10 ?_)
  by_cases h2 : es_ra v2 v5
  case neg => exact xq_ra_n _ _ D F C S T U h2 (br_t rfl (yq_cp_n _ _ D F C T P B (fun z => h2 z.2.2.1) ⟨rfl, R⟩))
  refine xq_ra_y _ _ D F C S T U h2 (br_f es_10 ?_)
  by_cases h4 : es_ra v4 v5
  case neg => exact xq_ra_n _ _ D F C S T U h4 (br_t rfl (yq_cp_n _ _ D F C T P B (fun z => h4 z.2.2.2) ⟨rfl, R⟩))
  refine xq_ra_y _ _ D F C S T U h4 (br_f es_10 ?_)
  obtain ⟨a, m, rfl, rfl, m1, ha⟩ := h2
  obtain ⟨b, m', rfl, em, -, hb⟩ := h4
  obtain rfl : m = m' := (nI_eq (by omega) (by omega)).mp em
  rw [es_ix e a, es_ix f b]
  refine xs_ff _ _ D F C S T U (by omega) (by omega) (xc_ch D _ C S T U hc hg ?_)
  unfold wpY_copy
  dsimp only
  refine yq_file_y _ _ _ _ _ _ _ _ he (br_f es_10 (yq_file_y _ _ _ _ _ _ _ _ hf (br_f es_10 (br_f (nI_nlt (b := 1) m1 (by omega)) (br_f (nI_nlt (a := 32) (b := m) (by omega) (by decide)) (yq_block_y _ _ _ _ _ _ _ _ (by omega) (br_f es_10 (yq_block_y _ _ _ _ _ _ _ _ (by omega) (br_f es_10 ?_)))))))))
  rw [nI_add a m, nI_add b m]
  refine br_f (nI_nlt (a := 32) (b := a + m) ha (by decide)) (br_t (nI_le (b := 32) hb (by decide)) (ys_c1 D F C T P B hc hg he ha hf hb (fun B' => ⟨rfl, rl_nx h1 hg (es_R_cp hF hF (by omega)) hC hS hT⟩)))
theorem i_vc_commit {k : Nat} {u : SX} {v : SY} (I : i_Rel k u v) (hk : k + 6 ≤ 3073) : wpX_commit (fun r u' => wpY_commit (fun r' v' => r' = r ∧ i_Rel (k + 6) u' v') v) u := by
  obtain ⟨g, c, D, F, C, S, T, U, P, B, rfl, rfl, h1, hg, hc, hF, hC, hS, hT⟩ := I
  unfold wpX_commit wpY_commit
  dsimp only
  exact xr_co _ _ D F C S T U (yr_sv _ _ D F C T P B ⟨rfl, rl_mk (c := 0) h1 hg h1 hF (es_R_cp hC hF (by omega)) hS hT⟩)
theorem i_vc_crash {k : Nat} {u : SX} {v : SY} (I : i_Rel k u v) (hk : k + 6 ≤ 3073) : wpX_crash (fun r u' => wpY_crash (fun r' v' => r' = r ∧ i_Rel (k + 6) u' v') v) u := by
  obtain ⟨g, c, D, F, C, S, T, U, P, B, rfl, rfl, h1, hg, hc, hF, hC, hS, hT⟩ := I
  unfold wpX_crash
  dsimp only
  exact xr_fc _ _ D F C S T U (yr_cr _ _ D F C T P B ⟨rfl, rl_mk (c := 0) h1 hg h1 (es_R_cp hF hC (by omega)) hC hS hT⟩)
theorem i_vc_snap {k : Nat} {u : SX} {v : SY} (I : i_Rel k u v) (hk : k + 6 ≤ 3073) (v1 : Int32) (v2 : Int32) : wpX_snap (fun r u' => wpY_snap (fun r' v' => r' = r ∧ i_Rel (k + 6) u' v') v v1 v2) u v1 v2 := by
  obtain ⟨g, c, D, F, C, S, T, U, P, B, rfl, rfl, h1, hg, hc, hF, hC, hS, hT⟩ := I
  have R : i_Rel (k + 6) (nI g, nI c, D, F, C, S, T, U) (nI g, nI c, F, P, C, B, D, T) := rl_mk h1 hg hc hF hC hS hT
  unfold wpX_snap wpY_snap
  dsimp only
  rcases es_cs 3 (by decide) v1 with h | ⟨s, hs, rfl⟩
  · refine xq_snap_n _ _ _ _ _ _ _ _ h (br_t rfl ?_)
    rcases h with h | h
    · exact br_t h ⟨rfl, R⟩
    · exact br_c (fun _ => ⟨rfl, R⟩) (fun _ => br_t (es_gt (n := 2) (by decide) h) ⟨rfl, R⟩)
  · have hv : vp_in (nI s) 3 := vp_in_nI hs (by decide)
    have h0 : ¬ nI s < 0 := nI_pos (by omega)
    have h2 : ¬ 2 < nI s := nI_nlt (a := 2) (b := s) (by omega) (by decide)
    rw [nI_clamp (n := s) (by omega)]
    refine xq_snap_y _ _ _ _ _ _ _ _ hs (br_f es_10 ⟨hv, ?_⟩)
    by_cases ht : T s = 0
    case neg => exact br_f ht (br_f h0 (br_f h2 ⟨hv, br_f ht ⟨rfl, R⟩⟩))
    refine br_t ht ?_
    rcases es_cs 6 (by decide) v2 with h | ⟨f, hf, rfl⟩
    · exact xq_file_n _ _ _ _ _ _ _ _ h (br_t rfl (br_f h0 (br_f h2 ⟨hv, br_t ht (yq_file_n _ _ _ _ _ _ _ _ h (br_t rfl ⟨rfl, R⟩))⟩)))
    · rw [es_vb1, es_ix0 f, es_ix0 s]
      refine xq_file_y _ _ _ _ _ _ _ _ hf (br_f es_10 (xr_co _ _ D F C S T U (xs_fs _ _ D F _ S T U (m := 32) (by omega) (by omega) ⟨hv, nm_e ?_⟩)))
      refine br_f h0 (br_f h2 ⟨hv, br_t ht (yq_file_y _ _ _ _ _ _ _ _ hf (br_f es_10 (yr_sv _ _ D F C T P B ⟨hv, nm_e (ys_sn _ _ D F _ _ P B hs hf ⟨rfl, ?_⟩)⟩)))⟩)
      exact rl_mk (c := 0) h1 hg h1 hF (es_R_cp hC hF (by omega)) (es_R_cp hS hF (by omega)) (es_Sn_snap hT es_10)
theorem i_vc_drop {k : Nat} {u : SX} {v : SY} (I : i_Rel k u v) (hk : k + 6 ≤ 3073) (v1 : Int32) : wpX_drop (fun r u' => wpY_drop (fun r' v' => r' = r ∧ i_Rel (k + 6) u' v') v v1) u v1 := by
  obtain ⟨g, c, D, F, C, S, T, U, P, B, rfl, rfl, h1, hg, hc, hF, hC, hS, hT⟩ := I
  have R : i_Rel (k + 6) (nI g, nI c, D, F, C, S, T, U) (nI g, nI c, F, P, C, B, D, T) := rl_mk h1 hg hc hF hC hS hT
  unfold wpX_drop wpY_drop
  dsimp only
  rcases es_cs 3 (by decide) v1 with h | ⟨s, hs, rfl⟩
  · exact xq_snap_n _ _ _ _ _ _ _ _ h (br_t rfl (yq_shot_n _ _ _ _ _ _ _ _ h (br_t rfl ⟨rfl, R⟩)))
  · have hv : vp_in (nI s) 3 := vp_in_nI hs (by decide)
    rw [nI_clamp (n := s) (by omega)]
    refine xq_snap_y _ _ _ _ _ _ _ _ hs (br_f es_10 ⟨hv, ?_⟩)
    by_cases ht : T s = 0
    · exact br_t ht (yq_shot_0 _ _ _ _ _ _ _ _ hs ht (br_t rfl ⟨rfl, R⟩))
    · rw [es_vb0, es_ix0 s]
      refine br_f ht (xr_co _ _ D F C S T U (xh_s _ _ D F _ S T U (m := 32) (by omega) ⟨hv, nm_e ?_⟩))
      refine yq_shot_1 _ _ _ _ _ _ _ _ hs ht (br_f es_10 (yr_sv _ _ D F C T P B ⟨hv, nm_e ⟨rfl, ?_⟩⟩))
      exact rl_mk (c := 0) h1 hg h1 hF (es_R_cp hC hF (by omega)) (es_R_ho hS) (es_Sn_drop hT)
theorem i_vc_revert {k : Nat} {u : SX} {v : SY} (I : i_Rel k u v) (hk : k + 6 ≤ 3073) (v1 : Int32) (v2 : Int32) : wpX_revert (fun r u' => wpY_revert (fun r' v' => r' = r ∧ i_Rel (k + 6) u' v') v v1 v2) u v1 v2 := by
  obtain ⟨g, c, D, F, C, S, T, U, P, B, rfl, rfl, h1, hg, hc, hF, hC, hS, hT⟩ := I
  have R : i_Rel (k + 6) (nI g, nI c, D, F, C, S, T, U) (nI g, nI c, F, P, C, B, D, T) := rl_mk h1 hg hc hF hC hS hT
  unfold wpX_revert wpY_revert
  dsimp only
  rcases es_cs 6 (by decide) v1 with h | ⟨f, hf, rfl⟩
  · exact xq_file_n _ _ _ _ _ _ _ _ h (br_t rfl (yq_file_n _ _ _ _ _ _ _ _ h (br_t rfl ⟨rfl, R⟩)))
  refine xq_file_y _ _ _ _ _ _ _ _ hf (br_f es_10 ?_)
  rcases es_cs 3 (by decide) v2 with h | ⟨s, hs, rfl⟩
  · exact xq_snap_n _ _ _ _ _ _ _ _ h (br_t rfl (yq_file_y _ _ _ _ _ _ _ _ hf (br_f es_10 (yq_shot_n _ _ _ _ _ _ _ _ h (br_t rfl ⟨rfl, R⟩)))))
  have hv : vp_in (nI s) 3 := vp_in_nI hs (by decide)
  rw [nI_clamp (n := s) (by omega)]
  refine xq_snap_y _ _ _ _ _ _ _ _ hs (br_f es_10 ⟨hv, ?_⟩)
  by_cases ht : T s = 0
  · exact br_t ht (yq_file_y _ _ _ _ _ _ _ _ hf (br_f es_10 (yq_shot_0 _ _ _ _ _ _ _ _ hs ht (br_t rfl ⟨rfl, R⟩))))
  · rw [es_ix0 s, es_ix0 f]
    refine br_f ht (xs_sf _ _ D F C S T U (m := 32) (by omega) (by omega) (xc_ch D _ C S T U hc hg ?_))
    rw [es_rev hT hs ht]
    refine yq_file_y _ _ _ _ _ _ _ _ hf (br_f es_10 (yq_shot_1 _ _ _ _ _ _ _ _ hs ht (br_f es_10 (ys_rv D F C T P B hc hg hs hf ⟨rfl, ?_⟩))))
    refine rl_nx h1 hg ?_ hC hS hT
    rw [← es_rev hT hs ht]
    exact es_R_cp hF hS (by omega)
theorem i_vc_gather {k : Nat} {u : SX} {v : SY} (I : i_Rel k u v) (hk : k + 6 ≤ 3073) (v1 : Int32) : wpX_gather (fun r u' => wpY_gather (fun r' v' => r' = r ∧ i_Rel (k + 6) u' v') v v1) u v1 := by
  obtain ⟨g, c, D, F, C, S, T, U, P, B, rfl, rfl, h1, hg, hc, hF, hC, hS, hT⟩ := I
  have R : ∀ U' : Nat → Int32, i_Rel (k + 6) (nI g, nI c, D, F, C, S, T, U') (nI g, nI c, F, P, C, B, D, T) := fun U' => rl_mk h1 hg hc hF hC hS hT
  rcases es_cs 6 (by decide) v1 with h | ⟨f, hf, rfl⟩
  · unfold wpX_gather wpY_gather
    dsimp only
    exact xq_file_n _ _ _ _ _ _ _ _ h (br_t rfl (yq_file_n _ _ _ _ _ _ _ _ h (br_t rfl ⟨rfl, R U⟩)))
  · refine xm_ga D F C S T U hc hg hF hC hS hf (fun z => ?_) (fun z e U' => ?_) (fun z q e U' => ?_)
    · exact ym_ga D F C S T P B hc hg hF hT hf (fun _ => ⟨rfl, R U⟩) (fun y => absurd z y) (fun y => absurd z y)
    · exact ym_ga D F C S T P B hc hg hF hT hf (fun y => absurd y z) (fun _ _ => ⟨rfl, R U'⟩) (fun _ q' e' => nomatch (e'.symm.trans e))
    · refine ym_ga D F C S T P B hc hg hF hT hf (fun y => absurd y z) (fun _ e' => nomatch (e'.symm.trans e)) (fun _ q' e' => ?_)
      have y : q' = q := Option.some.inj (e'.symm.trans e)
      subst y
      have hq := es_gs_lt 96 0 0 q' (Nat.le_refl 0) e
      exact ⟨rfl, rl_nx h1 hg (es_mv_R hF (n := 32) (by omega) 32 (Nat.le_refl 32)) hC hS hT⟩
