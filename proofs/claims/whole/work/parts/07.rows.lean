/-! allocation by the reference; mapped blocks, extents, rows of free blocks, moves: both sides -/
theorem es_m96 {p : Nat} (hp : p < 96) : nI p + 1 - (nI p + 1) / 96 * 96 = nI ((p + 1) % 96) := by
  rw [nI_1]
  have z := pk_rem (a := p + 1) (d := 96) (by omega) (by decide) (by decide)
  rw [es_n96] at z
  exact z
theorem es_neg {x : Int32} (h : x = -1 ∨ ∃ q : Nat, q < 96 ∧ x = nI q) : x < 0 ↔ x = -1 := by
  rcases h with rfl | ⟨q, hq, rfl⟩
  · exact ⟨fun _ => rfl, fun _ => es_m1lt⟩
  · exact ⟨fun z => absurd z (nI_pos (by omega)), fun z => absurd z (es_ne (by omega))⟩
section
variable (g c : Int32) (D F C S T U P B : Nat → Int32)
theorem ya_84 {post : Int32 → Prop} {m : Nat} (hT : es_Sn T S P) (hm : m ≤ 96) : ∀ d p, p + d = m → (∀ q, es_lf (es_G F C S) d p = some q → post (nI q)) → (es_lf (es_G F C S) d p = none → post (-1)) → wY_allocate_84 post (nI m) g c F P C B D T (d + 1) (nI p) := by
  intro d
  induction d with
  | zero =>
    intro p h _ hn
    obtain rfl : p = m := by omega
    exact br_t (Int32.le_refl _) (hn rfl)
  | succ d ih =>
    intro p h hs hn
    refine br_f (nI_ge (b := m) (by omega) (by omega)) (yi_fr g c D F C S T P B hT (by omega) (fun e => br_f es_10 (hs p (if_pos e))) (fun e => br_t rfl (nm_r (nI_1 p) ?_)))
    have z : es_lf (es_G F C S) (d + 1) p = es_lf (es_G F C S) d (p + 1) := if_neg e
    rw [z] at hs hn
    exact ih (p + 1) (by omega) hs hn
theorem ya_56 {post : Int32 → Prop} {m : Nat} (hT : es_Sn T S P) (hm : m ≤ 96) : ∀ d p, p + d = 96 → (∀ q, es_lf (es_G F C S) d p = some q → post (nI q)) → (es_lf (es_G F C S) d p = none → ∃ n, wY_allocate_84 post (nI m) g c F P C B D T n 0) → wY_allocate_56 post (nI m) g c F P C B D T (d + 1) (nI p) := by
  intro d
  induction d with
  | zero =>
    intro p h _ hn
    obtain rfl : p = 96 := by omega
    exact br_t (Int32.le_refl _) (hn rfl)
  | succ d ih =>
    intro p h hs hn
    refine br_f (nI_ge (b := 96) (by omega) (by decide)) (yi_fr g c D F C S T P B hT (by omega) (fun e => br_f es_10 (hs p (if_pos e))) (fun e => br_t rfl (nm_r (nI_1 p) ?_)))
    have z : es_lf (es_G F C S) (d + 1) p = es_lf (es_G F C S) d (p + 1) := if_neg e
    rw [z] at hs hn
    exact ih (p + 1) (by omega) hs hn
theorem ya_al {post : Int32 → Prop} {f b : Nat} (hT : es_Sn T S P) (hF : es_R 192 F) (hf : f < 6) (hb : b ≤ 32)
    (hs : ∀ q, es_an (es_G F C S) (es_go F f b) = some q → post (nI q)) (hn : es_an (es_G F C S) (es_go F f b) = none → post (-1)) : wpY_allocate post (g, c, F, P, C, B, D, T) (nI f) (nI b) := by
  have hg := es_go_lt (F := F) hf b
  refine nm_r (es_16 f) ?_
  refine es_l0 (fun n i => wY_allocate_8 post (nI f) (nI b) g c F P C B D T n (nI (es_go F f i)) (nI i)) b (fun n => br_t (Int32.le_refl _) ?_) (fun n i hi h => ?_)
  · refine ⟨96 - es_go F f b + 1, ya_56 g c D F C S T P B hT (by omega) (96 - es_go F f b) (es_go F f b) (by omega) (fun q e => hs q (es_an_s e)) (fun e => ?_)⟩
    have z := es_an_n e
    rw [z] at hs hn
    exact ⟨es_go F f b + 1, ya_84 g c D F C S T P B hT (by omega) (es_go F f b) 0 (by omega) hs hn⟩
  · refine br_f (nI_ge (b := b) hi (by omega)) ?_
    have hv : vp_in (nI (32 * f + i)) 192 := vp_in_nI (by omega) (by decide)
    rw [es_iy f i, nI_clamp (n := 32 * f + i) (by omega)]
    refine ⟨hv, ?_⟩
    rcases hF (32 * f + i) (by omega) with e | ⟨p, hq, e⟩
    · rw [e]
      simp only [es_go_h e] at h
      exact br_t es_m1lt (nm_r (nI_1 i) h)
    · rw [e]
      simp only [es_go_m hq e] at h
      exact br_f (nI_pos (by omega)) ⟨hv, by decide, nm_r (es_m96 hq) (nm_r (nI_1 i) h)⟩
theorem xm_mc {post : Int32 → Prop} {f : Nat} (hf : f < 6) (hp : post (nI (es_mc F f 32))) : wpX_countMapped post (g, c, D, F, C, S, T, U) (nI f) := by
  refine es_l0 (fun n i => wX_countMapped_4 post (nI f) g c D F C S T U n (nI (es_mc F f i)) (nI i)) 32 (fun n => br_t (Int32.le_refl _) hp) (fun n i hi h => ?_)
  refine br_f (nI_ge (b := 32) hi (by decide)) ?_
  rw [es_ix f i, nI_clamp (n := 32 * f + i) (by omega)]
  refine ⟨vp_in_nI (by omega) (by decide), br_c (fun e => nm_r (Int32.add_zero _) (nm_r (nI_1 i) ?_)) (fun e => nm_r (nI_1 _) (nm_r (nI_1 i) ?_))⟩
  · have z : es_mc F f (i + 1) = es_mc F f i := if_pos e
    simp only [z] at h
    exact h
  · have z : es_mc F f (i + 1) = es_mc F f i + 1 := if_neg e
    simp only [z] at h
    exact h
theorem es_ex_s {F : Nat → Int32} {f i : Nat} (h : F (32 * f + i) = -1 ∨ (¬ es_pv F f i = -1 ∧ F (32 * f + i) = es_pv F f i + 1)) : es_ex F f (i + 1) = es_ex F f i := if_pos h
theorem es_ex_1 {F : Nat → Int32} {f i : Nat} (h : ¬ (F (32 * f + i) = -1 ∨ (¬ es_pv F f i = -1 ∧ F (32 * f + i) = es_pv F f i + 1))) : es_ex F f (i + 1) = es_ex F f i + 1 := if_neg h
theorem xe_46n {post : Int32 → Prop} {J : Int32 → Int32 → Int32 → Prop} {f i : Nat} (x1 : Int32) (hn : ¬ (¬ es_pv F f i = -1 ∧ F (32 * f + i) = es_pv F f i + 1)) (h : J (nI (es_ex F f (i + 1))) (F (32 * f + i)) (nI (i + 1))) :
    wX_countExtents_46 post J x1 (nI (es_ex F f i)) (nI i) (F (32 * f + i)) 0 g c D F C S T U := by
  refine br_c (fun e => nm_r (Int32.add_zero _) (nm_r (nI_1 i) ?_)) (fun e => br_t rfl (nm_r (nI_1 _) (nm_r (nI_1 i) ?_)))
  · rw [es_ex_s (Or.inl e)] at h
    exact h
  · rw [es_ex_1 (fun z => z.elim e hn)] at h
    exact h
theorem xe_46y {post : Int32 → Prop} {J : Int32 → Int32 → Int32 → Prop} {f i : Nat} (x1 : Int32) (hn : ¬ es_pv F f i = -1 ∧ F (32 * f + i) = es_pv F f i + 1) (h : J (nI (es_ex F f (i + 1))) (F (32 * f + i)) (nI (i + 1))) :
    wX_countExtents_46 post J x1 (nI (es_ex F f i)) (nI i) (F (32 * f + i)) 1 g c D F C S T U := by
  rw [es_ex_s (Or.inr hn)] at h
  exact br_c (fun e => nm_r (Int32.add_zero _) (nm_r (nI_1 i) h)) (fun e => br_f es_10 (nm_r (Int32.add_zero _) (nm_r (nI_1 i) h)))
theorem xe_ex {post : Int32 → Prop} {f : Nat} (hf : f < 6) (hp : post (nI (es_ex F f 32))) : wpX_countExtents post (g, c, D, F, C, S, T, U) (nI f) := by
  refine es_l0 (fun n i => wX_countExtents_7 post (nI f) g c D F C S T U n (nI (es_ex F f i)) (es_pv F f i) (nI i)) 32 (fun n => br_t (Int32.le_refl _) hp) (fun n i hi h => ?_)
  refine br_f (nI_ge (b := 32) hi (by decide)) ?_
  rw [es_ix f i, nI_clamp (n := 32 * f + i) (by omega)]
  exact ⟨vp_in_nI (by omega) (by decide), nm_e (br_c (fun e => xe_46n g c D F C S T U (nI f) (fun z => z.1 e) h)
    (fun e => br_c (fun e2 => xe_46y g c D F C S T U (nI f) ⟨e, e2⟩ h) (fun e2 => xe_46n g c D F C S T U (nI f) (fun z => e2 z.2) h)))⟩
theorem es_sb {x y : Int32} : x = y - 1 ↔ y = x + 1 := by
  constructor
  · intro h
    rw [h, Int32.sub_add_cancel]
  · intro h
    rw [h, Int32.add_sub_cancel]
theorem ye_ex {post : Int32 → Prop} {f : Nat} (hF : es_R 192 F) (hf : f < 6) (hp : post (nI (es_ex F f 32))) : wpY_runs post (g, c, F, P, C, B, D, T) (nI f) := by
  refine es_l0 (fun n i => wY_runs_4 post (nI f) g c F P C B D T n (nI (es_ex F f i)) (nI i)) 32 (fun n => br_t (Int32.le_refl _) hp) (fun n i hi h => ?_)
  have hr := es_neg (hF (32 * f + i) (by omega))
  refine br_f (nI_ge (b := 32) hi (by decide)) ?_
  rw [es_iy f i, nI_clamp (n := 32 * f + i) (by omega)]
  refine ⟨vp_in_nI (by omega) (by decide), nm_e (ek_if hr (fun e => nm_r (nI_1 i) ?_) (fun e => ?_))⟩
  · simp only [es_ex_s (Or.inl e)] at h
    exact h
  · cases i with
    | zero =>
      refine br_t rfl (nm_r (nI_1 _) (nm_r (nI_1 0) ?_))
      simp only [es_ex_1 (i := 0) (fun z => z.elim e (fun y => y.1 rfl))] at h
      exact h
    | succ i =>
      have hr2 := es_neg (hF (32 * f + i) (by omega))
      have hv : vp_in (nI (32 * f + i)) 192 := vp_in_nI (by omega) (by decide)
      refine br_f (nI_ne0 (by omega) (by omega)) ?_
      rw [show nI (32 * f + (i + 1)) - 1 = nI (32 * f + i) from nI_pred (32 * f + i), nI_clamp (n := 32 * f + i) (by omega)]
      refine ⟨hv, ek_if hr2 (fun e1 => nm_r (nI_1 _) (nm_r (nI_1 (i + 1)) ?_)) (fun e1 => ⟨hv, ek_if es_sb (fun e2 => nm_r (nI_1 (i + 1)) ?_) (fun e2 => nm_r (nI_1 _) (nm_r (nI_1 (i + 1)) ?_))⟩)⟩
      · simp only [es_ex_1 (i := i + 1) (fun z => z.elim e (fun y => y.1 e1))] at h
        exact h
      · simp only [es_ex_s (i := i + 1) (Or.inr ⟨e1, e2⟩)] at h
        exact h
      · simp only [es_ex_1 (i := i + 1) (fun z => z.elim e (fun y => e2 y.2))] at h
        exact h
theorem es_pm {p m : Nat} (h : m ≤ p + 1) : nI p - nI m + 1 = nI (p + 1 - m) := by
  have z : nI p - nI m + 1 = nI p + 1 - nI m := by grind
  rw [z, nI_1, pk_sub h]
theorem xw_8 {post : Int32 → SX → Prop} {G : Nat → Bool} {m : Nat} (hU : es_mk G U) (hm : 1 ≤ m) (hm2 : m ≤ 32) : ∀ d p r, p + d = 96 → r ≤ p → r < m →
    (∀ q, es_gs G m d p r = some q → post (nI q) (g, c, D, F, C, S, T, U)) → (es_gs G m d p r = none → post (-1) (g, c, D, F, C, S, T, U)) → wX_leastFreeRow_8 post (nI m) g c D F C S T U (d + 1) (nI r) (nI p) := by
  intro d
  induction d with
  | zero =>
    intro p r h _ _ _ hn
    obtain rfl : p = 96 := by omega
    exact br_t (Int32.le_refl _) (hn rfl)
  | succ d ih =>
    intro p r h hr hrm hs hn
    refine br_f (nI_ge (b := 96) (by omega) (by decide)) ⟨vp_in_nI (by omega) (by decide), ?_⟩
    rw [nI_clamp (n := p) (by omega)]
    by_cases e : G p = true
    · refine br_t ((hU p (by omega)).mpr e) ?_
      rw [nI_1]
      by_cases e2 : r + 1 = m
      · refine br_t (congrArg nI e2) ?_
        have z : es_gs G m (d + 1) p r = some (p + 1 - m) := (if_pos e).trans (if_pos e2)
        rw [es_pm (by omega)]
        exact hs _ z
      · have z : es_gs G m (d + 1) p r = es_gs G m d (p + 1) (r + 1) := (if_pos e).trans (if_neg e2)
        rw [z] at hs hn
        exact br_f (fun y => e2 ((nI_eq (by omega) (by omega)).mp y)) (nm_r (nI_1 p) (ih (p + 1) (r + 1) (by omega) (by omega) (by omega) hs hn))
    · refine br_f (fun y => e ((hU p (by omega)).mp y)) ?_
      have z : es_gs G m (d + 1) p r = es_gs G m d (p + 1) 0 := if_neg e
      rw [z] at hs hn
      exact br_f (fun y => absurd ((nI_eq (a := 0) (by decide) (by omega)).mp y) (by omega)) (nm_r (nI_1 p) (ih (p + 1) 0 (by omega) (by omega) (by omega) hs hn))
theorem xw_row {post : Int32 → SX → Prop} {m : Nat} (hF : es_R 192 F) (hC : es_R 192 C) (hS : es_R 96 S) (hm : 1 ≤ m) (hm2 : m ≤ 32)
    (hs : ∀ (U' : Nat → Int32) (q : Nat), es_gs (es_G F C S) m 96 0 0 = some q → post (nI q) (g, c, D, F, C, S, T, U')) (hn : ∀ U' : Nat → Int32, es_gs (es_G F C S) m 96 0 0 = none → post (-1) (g, c, D, F, C, S, T, U')) :
    wpX_leastFreeRow post (g, c, D, F, C, S, T, U) (nI m) := by
  unfold wpX_leastFreeRow
  refine xb_in g c D F C S T U hF hC hS (fun U' hU => ?_)
  exact ⟨97, xw_8 g c D F C S T U' hU hm hm2 96 0 0 rfl (Nat.le_refl 0) (by omega) (hs U') (hn U')⟩
theorem xv_mv {post : SX → Prop} {f st : Nat} (hF : es_R 192 F) (hf : f < 6) (hn : st + es_mc F f 32 ≤ 96) (hp : post (g, c, (es_mv D F f st 32).1, (es_mv D F f st 32).2.1, C, S, T, U)) : wpX_moveFile post (g, c, D, F, C, S, T, U) (nI f) (nI st) := by
  refine es_l0 (fun n i => wX_moveFile_5 post (nI f) g c n (nI (es_mv D F f st i).2.2) (nI i) (es_mv D F f st i).1 (es_mv D F f st i).2.1 C S T U) 32 (fun n => br_t (Int32.le_refl _) hp) (fun n i hi h => ?_)
  have hv : vp_in (nI (32 * f + i)) 192 := vp_in_nI (by omega) (by decide)
  refine br_f (nI_ge (b := 32) hi (by decide)) (nm_r (es_ix f i) ?_)
  rw [nI_clamp (n := 32 * f + i) (by omega), es_mv_F D F f st i (32 * f + i) (by omega)]
  refine ⟨hv, br_c (fun e => nm_r (nI_1 i) ?_) (fun e => ?_)⟩
  · simp only [es_mv_h e] at h
    exact h
  · have hb := es_mc_st e hi
    have hb2 : (es_mv D F f st i).2.2 < 96 := by rw [es_mv_p]; omega
    rw [nI_clamp (n := (es_mv D F f st i).2.2) (by omega)]
    simp only [es_mv_m e] at h
    have hv2 : vp_in (F (32 * f + i)) 96 := by
      rcases hF (32 * f + i) (by omega) with z | ⟨q, hq, z⟩
      · exact absurd z e
      · rw [z]
        exact vp_in_nI hq (by decide)
    exact ⟨hv, hv2, vp_in_nI hb2 (by decide), nm_e ⟨hv, nm_e (nm_r (nI_1 _) (nm_r (nI_1 i) h))⟩⟩
end
section
variable (D F C S T U P B : Nat → Int32)
theorem yv_mv {post : Int32 → SY → Prop} {g c f st : Nat} (hc : c < g) (hg : g ≤ 20) (hF : es_R 192 F) (hf : f < 6) (hn : st + es_mc F f 32 ≤ 96)
    (hp : post 1 (nI g, nI (es_nx g c C (es_mv D F f st 32).2.1).1, (es_mv D F f st 32).2.1, P, (es_nx g c C (es_mv D F f st 32).2.1).2, B, (es_mv D F f st 32).1, T)) : ∃ n, wY_gather_117 post (nI f) (nI g) (nI c) n (nI st) 0 F P C B D T := by
  refine es_l0 (fun n i => wY_gather_117 post (nI f) (nI g) (nI c) n (nI (es_mv D F f st i).2.2) (nI i) (es_mv D F f st i).2.1 P C B (es_mv D F f st i).1 T) 32 (fun n => br_t (Int32.le_refl _) (yc_ch _ _ C T P B hc hg hp)) (fun n i hi h => ?_)
  have hv : vp_in (nI (32 * f + i)) 192 := vp_in_nI (by omega) (by decide)
  refine br_f (nI_ge (b := 32) hi (by decide)) ?_
  rw [es_iy f i, nI_clamp (n := 32 * f + i) (by omega), es_mv_F D F f st i (32 * f + i) (by omega)]
  refine ⟨hv, nm_e (ek_if (es_neg (hF (32 * f + i) (by omega))) (fun e => nm_r (nI_1 i) ?_) (fun e => ?_))⟩
  · simp only [es_mv_h e] at h
    exact h
  · have hb := es_mc_st e hi
    have hb2 : (es_mv D F f st i).2.2 < 96 := by rw [es_mv_p]; omega
    rw [nI_clamp (n := (es_mv D F f st i).2.2) (by omega)]
    simp only [es_mv_m e] at h
    have hv2 : vp_in (F (32 * f + i)) 96 := by
      rcases hF (32 * f + i) (by omega) with z | ⟨q, hq, z⟩
      · exact absurd z e
      · rw [z]
        exact vp_in_nI hq (by decide)
    exact ⟨hv2, vp_in_nI hb2 (by decide), nm_e ⟨hv, nm_e (nm_r (nI_1 _) (nm_r (nI_1 i) h))⟩⟩
theorem yw_66 {post : Int32 → SY → Prop} {g c f m : Nat} (hc : c < g) (hg : g ≤ 20) (hT : es_Sn T S P) (hF : es_R 192 F) (hf : f < 6) (hm : 1 ≤ m) (hm2 : m = es_mc F f 32) : ∀ d p r, p + d = 96 → r ≤ p → r < m →
    (∀ q, es_gs (es_G F C S) m d p r = some q → post 1 (nI g, nI (es_nx g c C (es_mv D F f q 32).2.1).1, (es_mv D F f q 32).2.1, P, (es_nx g c C (es_mv D F f q 32).2.1).2, B, (es_mv D F f q 32).1, T)) →
    (es_gs (es_G F C S) m d p r = none → post 0 (nI g, nI c, F, P, C, B, D, T)) → wY_gather_66 post (nI f) (nI m) (nI g) (nI c) F P C B D T (d + 1) (nI p) (nI r) := by
  have hm3 : m ≤ 32 := by rw [hm2]; exact es_mc_le F f 32
  intro d
  induction d with
  | zero =>
    intro p r h _ hrm _ hn
    obtain rfl : p = 96 := by omega
    exact br_t (Int32.le_refl _) (br_f (nI_ge hrm (by omega)) (hn rfl))
  | succ d ih =>
    intro p r h hr hrm hs hn
    refine br_f (nI_ge (b := 96) (by omega) (by decide)) (br_f (nI_ge hrm (by omega)) (yi_fr _ _ D F C S T P B hT (by omega) (fun e => br_f es_10 (nm_r (nI_1 r) (nm_r (nI_1 p) ?_))) (fun e => br_t rfl (nm_r (nI_1 p) ?_))))
    · by_cases e2 : r + 1 = m
      · have z : es_gs (es_G F C S) m (d + 1) p r = some (p + 1 - m) := (if_pos e).trans (if_pos e2)
        have hx : wY_gather_102 post (nI f) (nI m) (nI (p + 1)) (nI (r + 1)) (nI g) (nI c) F P C B D T := by
          refine br_t (nI_le (by omega) (by omega)) (nm_r (pk_sub (by omega)) ?_)
          exact yv_mv D F C T P B hc hg hF hf (by omega) (hs _ z)
        refine br_c (fun _ => hx) (fun _ => br_t (nI_le (by omega) (by omega)) hx)
      · have z : es_gs (es_G F C S) m (d + 1) p r = es_gs (es_G F C S) m d (p + 1) (r + 1) := (if_pos e).trans (if_neg e2)
        rw [z] at hs hn
        exact ih (p + 1) (r + 1) (by omega) (by omega) (by omega) hs hn
    · have z : es_gs (es_G F C S) m (d + 1) p r = es_gs (es_G F C S) m d (p + 1) 0 := if_neg e
      rw [z] at hs hn
      exact ih (p + 1) 0 (by omega) (by omega) (by omega) hs hn
end
