/-! the relation; reads: read, past, place, uses, free, extents, changes -/
/-- the same group, count, maps, committed maps, values and signs of life; what is there of the snapshots is the same, what is not there is holes for the component; the scratch arrays are free -/
def i_Rel (k : Nat) (u : SX) (v : SY) : Prop := ∃ (g c : Nat) (D F C S T U P B : Nat → Int32), u = (nI g, nI c, D, F, C, S, T, U) ∧ v = (nI g, nI c, F, P, C, B, D, T) ∧ 1 ≤ g ∧ g ≤ 20 ∧ c < g ∧ es_R 192 F ∧ es_R 192 C ∧ es_R 96 S ∧ es_Sn T S P
theorem i_up {k : Nat} {u : SX} {v : SY} (h : i_Rel k u v) : i_Rel (k + 6) u v := h
theorem rl_mk {k g c : Nat} {D F C S T U P B : Nat → Int32} (h1 : 1 ≤ g) (h2 : g ≤ 20) (hc : c < g) (hF : es_R 192 F) (hC : es_R 192 C) (hS : es_R 96 S) (hT : es_Sn T S P) : i_Rel k (nI g, nI c, D, F, C, S, T, U) (nI g, nI c, F, P, C, B, D, T) :=
  ⟨g, c, D, F, C, S, T, U, P, B, rfl, rfl, h1, h2, hc, hF, hC, hS, hT⟩
/-- the relation behind a change of values and maps -/
theorem rl_nx {k g c : Nat} {D F C S T U P B : Nat → Int32} (h1 : 1 ≤ g) (h2 : g ≤ 20) (hF : es_R 192 F) (hC : es_R 192 C) (hS : es_R 96 S) (hT : es_Sn T S P) : i_Rel k (nI g, nI (es_nx g c C F).1, D, F, (es_nx g c C F).2, S, T, U) (nI g, nI (es_nx g c C F).1, F, P, (es_nx g c C F).2, B, D, T) :=
  rl_mk h1 h2 (es_nx_lt h1) hF (es_nx_R hC hF) hS hT
theorem rl_R0 (n : Nat) : es_R n (es_ho (fun _ => 0) 0 n) := by
  intro k hk
  exact Or.inl (if_pos ⟨Nat.zero_le k, by omega⟩)
theorem rl_0 {k g : Nat} (h1 : 1 ≤ g) (h2 : g ≤ 20) : i_Rel k (nI g, 0, fun _ => 0, es_ho (fun _ => 0) 0 192, es_ho (fun _ => 0) 0 192, es_ho (fun _ => 0) 0 96, fun _ => 0, fun _ => 0) (nI g, 0, es_ho (fun _ => 0) 0 192, fun _ => 0, es_ho (fun _ => 0) 0 192, fun _ => 0, fun _ => 0, fun _ => 0) :=
  rl_mk (c := 0) h1 h2 h1 (rl_R0 192) (rl_R0 192) (rl_R0 96) (fun k hk => ⟨fun z => absurd rfl z, fun _ => if_pos ⟨Nat.zero_le k, by omega⟩⟩)
theorem i_vc0 (k0 : Int32) : wpX_init (fun u => wpY_init (fun v => i_Rel 1 u v) k0) k0 := by
  by_cases h : 1 ≤ k0
  · by_cases h2 : k0 ≤ 20
    · obtain ⟨j, h3, hj, rfl⟩ := es_1of (Int32.not_lt.mpr h)
      have h4 : j ≤ 20 := (nI_leI (b := 20) hj (by decide)).mp h2
      exact br_t h (br_t h2 (xi_80 _ _ _ _ _ _ _ _ (br_t h (br_t h2 (yi_80 _ _ _ _ _ _ _ _ (rl_0 h3 h4))))))
    · exact br_t h (br_f h2 (xi_80 _ _ _ _ _ _ _ _ (br_t h (br_f h2 (yi_80 _ _ _ _ _ _ _ _ (rl_0 (g := 20) (by omega) (by omega)))))))
  · exact br_f h (xi_80 _ _ _ _ _ _ _ _ (br_f h (yi_80 _ _ _ _ _ _ _ _ (rl_0 (g := 1) (by omega) (by omega)))))
theorem rl_val {x : Int32} {D : Nat → Int32} (hx : x = -1 ∨ ∃ q : Nat, q < 96 ∧ x = nI q) : ∃ r : Int32, (∀ (post : Int32 → Prop) (g c : Int32) (F C S T U : Nat → Int32), post r → wpX_valueAt post (g, c, D, F, C, S, T, U) x) ∧ (∀ (post : Int32 → Prop) (g c : Int32) (F C T P B : Nat → Int32), post r → wpY_valueOf post (g, c, F, P, C, B, D, T) x) := by
  rcases hx with e | ⟨q, hq, e⟩
  · subst e
    exact ⟨0, fun post g c F C S T U hp => br_t rfl hp, fun post g c F C T P B hp => br_f es_m1le hp⟩
  · subst e
    refine ⟨D q, fun post g c F C S T U hp => br_f (es_ne (by omega)) ⟨vp_in_nI hq (by decide), ?_⟩, fun post g c F C T P B hp => br_t (nI_pos' (by omega)) ⟨vp_in_nI hq (by decide), ?_⟩⟩
    · rw [nI_clamp (by omega)]
      exact hp
    · rw [nI_clamp (by omega)]
      exact hp
theorem i_vc_read {k : Nat} {u : SX} {v : SY} (I : i_Rel k u v) (hk : k + 6 ≤ 3073) (v1 : Int32) (v2 : Int32) : wpX_read (fun r => wpY_read (fun r' => r' = r ∧ i_Rel (k + 6) u v) v v1 v2) u v1 v2 := by
  have R := i_up I
  obtain ⟨g, c, D, F, C, S, T, U, P, B, rfl, rfl, h1, hg, hc, hF, hC, hS, hT⟩ := I
  unfold wpX_read wpY_read
  dsimp only
  rcases es_c2 6 32 (by decide) (by decide) v1 v2 with h | ⟨f, b, hf, hb, rfl, rfl⟩
  · exact xq_fb_n _ _ _ _ _ _ _ _ h (yq_fb_n _ _ _ _ _ _ _ _ h ⟨rfl, R⟩)
  · obtain ⟨r, hX, hY⟩ := rl_val (D := D) (hF (32 * f + b) (by omega))
    have hv : vp_in (nI (32 * f + b)) 192 := vp_in_nI (by omega) (by decide)
    rw [es_ix f b, es_iy f b, nI_clamp (n := 32 * f + b) (by omega)]
    exact xq_fb_y _ _ _ _ _ _ _ _ hf hb ⟨hv, hX _ _ _ _ _ _ _ _ (yq_fb_y _ _ _ _ _ _ _ _ hf hb ⟨hv, hY _ _ _ _ _ _ _ _ ⟨rfl, R⟩⟩)⟩
theorem i_vc_place {k : Nat} {u : SX} {v : SY} (I : i_Rel k u v) (hk : k + 6 ≤ 3073) (v1 : Int32) (v2 : Int32) : wpX_place (fun r => wpY_place (fun r' => r' = r ∧ i_Rel (k + 6) u v) v v1 v2) u v1 v2 := by
  have R := i_up I
  obtain ⟨g, c, D, F, C, S, T, U, P, B, rfl, rfl, h1, hg, hc, hF, hC, hS, hT⟩ := I
  unfold wpX_place wpY_place
  dsimp only
  rcases es_c2 6 32 (by decide) (by decide) v1 v2 with h | ⟨f, b, hf, hb, rfl, rfl⟩
  · exact xq_fb_n _ _ _ _ _ _ _ _ h (yq_fb_n _ _ _ _ _ _ _ _ h ⟨rfl, R⟩)
  · have hv : vp_in (nI (32 * f + b)) 192 := vp_in_nI (by omega) (by decide)
    rw [es_ix f b, es_iy f b, nI_clamp (n := 32 * f + b) (by omega)]
    exact xq_fb_y _ _ _ _ _ _ _ _ hf hb ⟨hv, yq_fb_y _ _ _ _ _ _ _ _ hf hb ⟨hv, rfl, R⟩⟩
theorem i_vc_past {k : Nat} {u : SX} {v : SY} (I : i_Rel k u v) (hk : k + 6 ≤ 3073) (v1 : Int32) (v2 : Int32) : wpX_past (fun r => wpY_past (fun r' => r' = r ∧ i_Rel (k + 6) u v) v v1 v2) u v1 v2 := by
  have R := i_up I
  obtain ⟨g, c, D, F, C, S, T, U, P, B, rfl, rfl, h1, hg, hc, hF, hC, hS, hT⟩ := I
  unfold wpX_past wpY_past
  dsimp only
  rcases es_cs 3 (by decide) v1 with h | ⟨s, hs, rfl⟩
  · exact xq_snap_n _ _ _ _ _ _ _ _ h (br_t rfl (yq_shot_n _ _ _ _ _ _ _ _ h (br_t rfl ⟨rfl, R⟩)))
  · refine xq_snap_y _ _ _ _ _ _ _ _ hs (br_f es_10 ?_)
    rcases es_cs 32 (by decide) v2 with h | ⟨b, hb, rfl⟩
    · refine xq_block_n _ _ _ _ _ _ _ _ h (br_t rfl ?_)
      by_cases ht : T s = 0
      · exact yq_shot_0 _ _ _ _ _ _ _ _ hs ht (br_t rfl ⟨rfl, R⟩)
      · exact yq_shot_1 _ _ _ _ _ _ _ _ hs ht (br_f es_10 (yq_block_n _ _ _ _ _ _ _ _ h (br_t rfl ⟨rfl, R⟩)))
    · have hv : vp_in (nI (32 * s + b)) 96 := vp_in_nI (by omega) (by decide)
      have hq := hT (32 * s + b) (by omega)
      rw [show (32 * s + b) / 32 = s from by omega] at hq
      rw [es_ix s b, es_iy s b, nI_clamp (n := 32 * s + b) (by omega)]
      refine xq_block_y _ _ _ _ _ _ _ _ hb (br_f es_10 ⟨hv, ?_⟩)
      by_cases ht : T s = 0
      · rw [hq.2 ht]
        exact br_t rfl (yq_shot_0 _ _ _ _ _ _ _ _ hs ht (br_t rfl ⟨rfl, R⟩))
      · obtain ⟨r, hX, hY⟩ := rl_val (D := D) (hS (32 * s + b) (by omega))
        rw [hq.1 ht] at hX hY ⊢
        exact hX _ _ _ _ _ _ _ _ (yq_shot_1 _ _ _ _ _ _ _ _ hs ht (br_f es_10 (yq_block_y _ _ _ _ _ _ _ _ hb (br_f es_10 ⟨hv, hY _ _ _ _ _ _ _ _ ⟨rfl, R⟩⟩))))
theorem i_vc_uses {k : Nat} {u : SX} {v : SY} (I : i_Rel k u v) (hk : k + 6 ≤ 3073) (v1 : Int32) : wpX_uses (fun r => wpY_uses (fun r' => r' = r ∧ i_Rel (k + 6) u v) v v1) u v1 := by
  have R := i_up I
  obtain ⟨g, c, D, F, C, S, T, U, P, B, rfl, rfl, h1, hg, hc, hF, hC, hS, hT⟩ := I
  unfold wpX_uses wpY_uses
  dsimp only
  rcases es_cs 96 (by decide) v1 with (h | h) | ⟨p, hp, rfl⟩
  · exact br_t h (br_t h ⟨rfl, R⟩)
  · have h0 : ¬ v1 < 0 := fun z => Int32.not_lt.mpr h (Int32.lt_trans z (by decide))
    exact br_f h0 (br_f (Int32.not_lt.mpr h) (br_f h0 (br_f (es_ngt (n := 95) (by decide) h) ⟨rfl, R⟩)))
  · have h0 : ¬ nI p < 0 := nI_pos (by omega)
    have hb := es_us_b F S (nI p)
    refine br_f h0 (br_t (nI_lt (b := 96) hp (by decide)) (xu_us _ _ D F C S T U ?_))
    have hY : ∀ r : Int32, (es_G F C S p = true → nI (es_us F S (nI p)) = r) → (¬ es_G F C S p = true → nI (es_us F S (nI p)) + 100 = r) → wpY_uses (fun r' => r' = r ∧ i_Rel (k + 6) (nI g, nI c, D, F, C, S, T, U) (nI g, nI c, F, P, C, B, D, T)) (nI g, nI c, F, P, C, B, D, T) (nI p) := fun r e1 e2 =>
      br_f h0 (br_t (nI_le (b := 95) (by omega) (by decide)) (yu_us _ _ D F C S T P B hT (es_ne (by omega)) (yi_fr _ _ D F C S T P B hT hp (fun e => br_f es_10 ⟨e1 e, R⟩) (fun e => br_t rfl ⟨e2 e, R⟩))))
    by_cases z : es_us F S (nI p) = 0
    · refine br_f (fun y => absurd ((nI_ltI (a := 0) (by decide) hb).mp y) (by omega)) (xk_co _ _ D F C S T U (fun e => br_t rfl (br_t rfl ?_)) (fun e => br_f es_10 (br_f es_10 ?_)))
      · exact hY _ (fun _ => rfl) (fun y => absurd (es_G_t.mpr ⟨z, e⟩) y)
      · exact hY _ (fun y => absurd (es_G_t.mp y).2 e) (fun _ => rfl)
    · exact br_t ((nI_ltI (a := 0) (by decide) hb).mpr (by omega)) (br_f es_10 (hY _ (fun y => absurd (es_G_t.mp y).1 z) (fun _ => rfl)))
theorem i_vc_free {k : Nat} {u : SX} {v : SY} (I : i_Rel k u v) (hk : k + 6 ≤ 3073) (v1 : Int32) : wpX_free (fun r u' => wpY_free (fun r' => r' = r ∧ i_Rel (k + 6) u' v) v v1) u v1 := by
  obtain ⟨g, c, D, F, C, S, T, U, P, B, rfl, rfl, h1, hg, hc, hF, hC, hS, hT⟩ := I
  rcases es_cs 3 (by decide) v1 with h | ⟨w, hw, rfl⟩
  · have hY : wpY_free (fun r' => r' = -1 ∧ i_Rel (k + 6) (nI g, nI c, D, F, C, S, T, U) (nI g, nI c, F, P, C, B, D, T)) (nI g, nI c, F, P, C, B, D, T) v1 :=
      yz_fr _ _ D F C S T P B v1 hT (br_f (es_bad_ne (j := 0) (by decide) h (by decide)) (br_f (es_bad_ne (j := 1) (by decide) h (by decide)) (br_f (es_bad_ne (j := 2) (by decide) h (by decide)) ⟨rfl, rl_mk h1 hg hc hF hC hS hT⟩)))
    rcases h with h | h
    · exact br_t h hY
    · have h0 : ¬ v1 < 0 := fun z => Int32.not_lt.mpr h (Int32.lt_trans z (by decide))
      exact br_f h0 (br_f (es_ngt (n := 2) (by decide) h) hY)
  · refine xz_fr _ _ D F C S T U hw hF hC hS (fun U' => yz_fr _ _ D F C S T P B (nI w) hT ?_)
    have R : i_Rel (k + 6) (nI g, nI c, D, F, C, S, T, U') (nI g, nI c, F, P, C, B, D, T) := rl_mk h1 hg hc hF hC hS hT
    have hw2 : w = 0 ∨ w = 1 ∨ w = 2 := by omega
    rcases hw2 with rfl | rfl | rfl
    · exact br_t rfl ⟨rfl, R⟩
    · exact br_f es_10 (br_t rfl ⟨rfl, R⟩)
    · exact br_f (by decide) (br_f (by decide) (br_t rfl ⟨rfl, R⟩))
theorem i_vc_extents {k : Nat} {u : SX} {v : SY} (I : i_Rel k u v) (hk : k + 6 ≤ 3073) (v1 : Int32) : wpX_extents (fun r => wpY_extents (fun r' => r' = r ∧ i_Rel (k + 6) u v) v v1) u v1 := by
  have R := i_up I
  obtain ⟨g, c, D, F, C, S, T, U, P, B, rfl, rfl, h1, hg, hc, hF, hC, hS, hT⟩ := I
  unfold wpX_extents wpY_extents
  dsimp only
  rcases es_cs 6 (by decide) v1 with h | ⟨f, hf, rfl⟩
  · exact xq_file_n _ _ _ _ _ _ _ _ h (br_t rfl (yq_file_n _ _ _ _ _ _ _ _ h (br_t rfl ⟨rfl, R⟩)))
  · exact xq_file_y _ _ _ _ _ _ _ _ hf (br_f es_10 (xe_ex _ _ D F C S T U hf (yq_file_y _ _ _ _ _ _ _ _ hf (br_f es_10 (ye_ex _ _ D F C T P B hF hf ⟨rfl, R⟩)))))
theorem i_vc_changes {k : Nat} {u : SX} {v : SY} (I : i_Rel k u v) (hk : k + 6 ≤ 3073) : wpX_changes (fun r => wpY_changes (fun r' => r' = r ∧ i_Rel (k + 6) u v) v) u := by
  have R := i_up I
  obtain ⟨g, c, D, F, C, S, T, U, P, B, rfl, rfl, h1, hg, hc, hF, hC, hS, hT⟩ := I
  exact ⟨rfl, R⟩
