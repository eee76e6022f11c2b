/-! what free answers; the constructors; argument checks of two and of five; the reference's gather: both sides -/
theorem es_rn_y {G : Nat → Bool} {i : Nat} (e : G i = true) : es_rn G (i + 1) = es_rn G i + 1 := if_pos e
theorem es_rn_n {G : Nat → Bool} {i : Nat} (e : ¬ G i = true) : es_rn G (i + 1) = 0 := if_neg e
theorem es_al_y {G : Nat → Bool} {i : Nat} (e : 0 < es_rn G (i + 1)) : es_al G (i + 1) = es_al G i + 1 := if_pos e
theorem es_al_n {G : Nat → Bool} {i : Nat} (e : ¬ 0 < es_rn G (i + 1)) : es_al G (i + 1) = es_al G i := if_neg e
theorem es_rw_y {G : Nat → Bool} {i : Nat} (e : es_rn G (i + 1) = 1) : es_rw G (i + 1) = es_rw G i + 1 := if_pos e
theorem es_rw_n {G : Nat → Bool} {i : Nat} (e : ¬ es_rn G (i + 1) = 1) : es_rw G (i + 1) = es_rw G i := if_neg e
theorem es_lg_y {G : Nat → Bool} {i : Nat} (e : es_lg G i < es_rn G (i + 1)) : es_lg G (i + 1) = es_rn G (i + 1) := if_pos e
theorem es_lg_n {G : Nat → Bool} {i : Nat} (e : ¬ es_lg G i < es_rn G (i + 1)) : es_lg G (i + 1) = es_lg G i := if_neg e
theorem es_nz {n : Nat} (h : n < 2 ^ 31) : nI n ≤ 0 ↔ ¬ 0 < n := by
  have z := nI_leI (a := n) (b := 0) h (by decide)
  rw [nI_0] at z
  rw [z]
  omega
def es_fa (G : Nat → Bool) (w : Nat) : Nat := if w = 0 then es_al G 96 else if w = 1 then es_lg G 96 else es_rw G 96
section
variable (g c : Int32) (D F C S T U P B : Nat → Int32)
theorem xz_53 {post : Int32 → SX → Prop} {J : Int32 → Int32 → Int32 → Int32 → Int32 → Prop} {G : Nat → Bool} {i : Nat} (x1 : Int32) (hi : i < 96)
    (h : J (nI (es_al G (i + 1))) (nI (es_lg G (i + 1))) (nI (es_rw G (i + 1))) (nI (es_rn G (i + 1))) (nI (i + 1))) :
    wX_free_53 post J x1 (nI (es_al G i)) (nI (es_lg G i)) (nI (es_rw G i)) (nI i) (nI (es_rn G (i + 1))) g c D F C S T U := by
  have b1 := es_rn_le G (i + 1)
  have b2 := es_lg_le G i
  have k81 : ∀ z, nI (es_rw G i) + z = nI (es_rw G (i + 1)) → wX_free_81 post J x1 (nI (es_al G (i + 1))) (nI (es_lg G i)) (nI (es_rn G (i + 1))) (nI i) z (nI (es_rw G i)) g c D F C S T U := by
    intro z ez
    refine nm_r ez (br_c (fun e => nm_r (nI_1 i) ?_) (fun e => nm_r (nI_1 i) ?_))
    · rw [nI_leI (by omega) (by omega)] at e
      rw [es_lg_n (by omega)] at h
      exact h
    · rw [nI_leI (by omega) (by omega)] at e
      rw [es_lg_y (by omega)] at h
      exact h
  have k66 : ∀ z, nI (es_al G i) + z = nI (es_al G (i + 1)) → wX_free_66 post J x1 (nI (es_lg G i)) (nI (es_rw G i)) (nI (es_rn G (i + 1))) (nI i) z (nI (es_al G i)) g c D F C S T U := by
    intro z ez
    refine nm_r ez (br_c (fun e => k81 1 ?_) (fun e => k81 0 ?_))
    · rw [es_rw_y ((es_ni1 (by omega)).mp e), nI_1]
    · rw [es_rw_n (fun y => e ((es_ni1 (by omega)).mpr y)), Int32.add_zero]
  refine br_c (fun e => k66 0 ?_) (fun e => k66 1 ?_)
  · rw [es_nz (by omega)] at e
    rw [es_al_n e, Int32.add_zero]
  · rw [es_nz (by omega)] at e
    rw [es_al_y (by omega), nI_1]
theorem yz_37 {post : Int32 → Prop} {J : Int32 → Int32 → Int32 → Int32 → Int32 → Prop} {G : Nat → Bool} {i : Nat} (x1 : Int32) (hi : i < 96)
    (h : J (nI (es_al G (i + 1))) (nI (es_lg G (i + 1))) (nI (es_rw G (i + 1))) (nI (es_rn G (i + 1))) (nI (i + 1))) :
    wY_free_37 post J x1 (nI (es_al G i)) (nI (es_lg G i)) (nI (es_rw G i)) (nI i) (nI (es_rn G (i + 1))) g c F P C B D T := by
  have b1 := es_rn_le G (i + 1)
  have b2 := es_lg_le G i
  have k56 : wY_free_56 post J x1 (nI (es_al G (i + 1))) (nI (es_lg G i)) (nI (es_rw G (i + 1))) (nI (es_rn G (i + 1))) (nI i) g c F P C B D T := by
    refine br_c (fun e => nm_r (nI_1 i) ?_) (fun e => nm_r (nI_1 i) ?_)
    · rw [nI_leI (by omega) (by omega)] at e
      rw [es_lg_n (by omega)] at h
      exact h
    · rw [nI_leI (by omega) (by omega)] at e
      rw [es_lg_y (by omega)] at h
      exact h
  have k47 : wY_free_47 post J x1 (nI (es_al G (i + 1))) (nI (es_lg G i)) (nI (es_rw G i)) (nI (es_rn G (i + 1))) (nI i) g c F P C B D T := by
    refine br_c (fun e => nm_r (nI_1 _) ?_) (fun e => ?_)
    · rw [es_rw_y ((es_ni1 (by omega)).mp e)] at k56
      exact k56
    · rw [es_rw_n (fun y => e ((es_ni1 (by omega)).mpr y))] at k56
      exact k56
  refine br_c (fun e => ?_) (fun e => nm_r (nI_1 _) ?_)
  · rw [es_nz (by omega)] at e
    rw [es_al_n e] at k47
    exact k47
  · rw [es_nz (by omega)] at e
    rw [es_al_y (by omega)] at k47
    exact k47
theorem xz_fr {post : Int32 → SX → Prop} {w : Nat} (hw : w < 3) (hF : es_R 192 F) (hC : es_R 192 C) (hS : es_R 96 S) (hp : ∀ U' : Nat → Int32, post (nI (es_fa (es_G F C S) w)) (g, c, D, F, C, S, T, U')) :
    wpX_free post (g, c, D, F, C, S, T, U) (nI w) := by
  refine br_f (nI_pos (by omega)) (br_t (nI_le (b := 2) (by omega) (by decide)) (xb_in g c D F C S T U hF hC hS (fun U' hU => ?_)))
  have hq := hp U'
  refine es_l0 (fun n i => wX_free_28 post (nI w) g c D F C S T U' n (nI (es_al (es_G F C S) i)) (nI (es_lg (es_G F C S) i)) (nI (es_rw (es_G F C S) i)) (nI (es_rn (es_G F C S) i)) (nI i)) 96 (fun n => br_t (Int32.le_refl _) ?_) (fun n i hi h => ?_)
  · refine br_c (fun e => ?_) (fun e => br_c (fun e2 => ?_) (fun e2 => ?_))
    · rw [es_ni0 (by omega)] at e
      rw [show es_fa (es_G F C S) w = es_al (es_G F C S) 96 from if_pos e] at hq
      exact hq
    · rw [es_ni0 (by omega)] at e
      rw [es_ni1 (by omega)] at e2
      rw [show es_fa (es_G F C S) w = es_lg (es_G F C S) 96 from (if_neg e).trans (if_pos e2)] at hq
      exact hq
    · rw [es_ni0 (by omega)] at e
      rw [es_ni1 (by omega)] at e2
      rw [show es_fa (es_G F C S) w = es_rw (es_G F C S) 96 from (if_neg e).trans (if_neg e2)] at hq
      exact hq
  · have hr := hU i hi
    refine br_f (nI_ge (b := 96) hi (by decide)) ⟨vp_in_nI hi (by decide), ?_⟩
    rw [nI_clamp (n := i) (by omega)]
    have h2 := xz_53 g c D F C S T U' (post := post) (G := es_G F C S) (nI w) hi h
    refine ek_if hr (fun e => ?_) (fun e => ?_)
    · rw [es_rn_y e] at h2
      rw [nI_1]
      exact h2
    · rw [es_rn_n e] at h2
      exact h2
theorem yz_fr {post : Int32 → Prop} (x1 : Int32) (hT : es_Sn T S P) (hp : (x1 = 0 → post (nI (es_al (es_G F C S) 96))) ∧ (¬ x1 = 0 → ((x1 = 1 → post (nI (es_lg (es_G F C S) 96))) ∧ (¬ x1 = 1 → ((x1 = 2 → post (nI (es_rw (es_G F C S) 96))) ∧ (¬ x1 = 2 → post (-1))))))) :
    wpY_free post (g, c, F, P, C, B, D, T) x1 := by
  refine es_l0 (fun n i => wY_free_13 post x1 g c F P C B D T n (nI (es_al (es_G F C S) i)) (nI (es_lg (es_G F C S) i)) (nI (es_rw (es_G F C S) i)) (nI (es_rn (es_G F C S) i)) (nI i)) 96 (fun n => br_t (Int32.le_refl _) hp) (fun n i hi h => ?_)
  have h2 := yz_37 g c D F C T P B (post := post) (G := es_G F C S) x1 hi h
  refine br_f (nI_ge (b := 96) hi (by decide)) (yi_fr g c D F C S T P B hT hi (fun e => br_f es_10 ?_) (fun e => br_t rfl ?_))
  · rw [es_rn_y e] at h2
    rw [nI_1]
    exact h2
  · rw [es_rn_n e] at h2
    exact h2
end
theorem es_gt {n : Nat} {x : Int32} (hn : n + 1 < 2 ^ 31) (h : nI (n + 1) ≤ x) : nI n < x := Int32.lt_of_lt_of_le (nI_lt (Nat.lt_succ_self n) hn) h
theorem es_ngt {n : Nat} {x : Int32} (hn : n + 1 < 2 ^ 31) (h : nI (n + 1) ≤ x) : ¬ x ≤ nI n := Int32.not_le.mpr (es_gt hn h)
theorem es_bad_ne {n j : Nat} {x : Int32} (hn : n < 2 ^ 31) (h : es_bad n x) (hj : j < n) : ¬ x = nI j := by
  intro e
  subst e
  rcases h with h | h
  · exact nI_pos (by omega) h
  · exact nI_ge hj hn h
/-- two arguments, one of them out of its range -/
def es_b2 (n m : Nat) (x y : Int32) : Prop := es_bad n x ∨ ∃ f : Nat, f < n ∧ x = nI f ∧ es_bad m y
theorem es_c2 (n m : Nat) (hn : n < 2 ^ 31) (hm : m < 2 ^ 31) (x y : Int32) : es_b2 n m x y ∨ ∃ f b : Nat, f < n ∧ b < m ∧ x = nI f ∧ y = nI b := by
  rcases es_cs n hn x with h | ⟨f, hf, e⟩
  · exact Or.inl (Or.inl h)
  · rcases es_cs m hm y with h | ⟨b, hb, e2⟩
    · exact Or.inl (Or.inr ⟨f, hf, e, h⟩)
    · exact Or.inr ⟨f, b, hf, hb, e, e2⟩
section
variable (g c : Int32) (D F C S T U P B : Nat → Int32)
theorem xq_fb_n {A Z : Prop} {x y : Int32} (h : es_b2 6 32 x y) (a : A) : wpX_isFile (fun r_1 => (r_1 = 0 → A) ∧ (¬ r_1 = 0 → wpX_isBlock (fun r_11 => (r_11 = 0 → A) ∧ (¬ r_11 = 0 → Z)) (g, c, D, F, C, S, T, U) y)) (g, c, D, F, C, S, T, U) x := by
  rcases h with h | ⟨f, hf, rfl, h⟩
  · exact xq_file_n g c D F C S T U h (br_t rfl a)
  · exact xq_file_y g c D F C S T U hf (br_f es_10 (xq_block_n g c D F C S T U h (br_t rfl a)))
theorem xq_fb_y {A Z : Prop} {f b : Nat} (hf : f < 6) (hb : b < 32) (z : Z) : wpX_isFile (fun r_1 => (r_1 = 0 → A) ∧ (¬ r_1 = 0 → wpX_isBlock (fun r_11 => (r_11 = 0 → A) ∧ (¬ r_11 = 0 → Z)) (g, c, D, F, C, S, T, U) (nI b))) (g, c, D, F, C, S, T, U) (nI f) :=
  xq_file_y g c D F C S T U hf (br_f es_10 (xq_block_y g c D F C S T U hb (br_f es_10 z)))
theorem yq_fb_n {A Z : Prop} {x y : Int32} (h : es_b2 6 32 x y) (a : A) : wpY_file (fun r_1 => (r_1 = 0 → A) ∧ (¬ r_1 = 0 → wpY_block (fun r_11 => (r_11 = 0 → A) ∧ (¬ r_11 = 0 → Z)) (g, c, F, P, C, B, D, T) y)) (g, c, F, P, C, B, D, T) x := by
  rcases h with h | ⟨f, hf, rfl, h⟩
  · exact yq_file_n g c D F C T P B h (br_t rfl a)
  · exact yq_file_y g c D F C T P B hf (br_f es_10 (yq_block_n g c D F C T P B h (br_t rfl a)))
theorem yq_fb_y {A Z : Prop} {f b : Nat} (hf : f < 6) (hb : b < 32) (z : Z) : wpY_file (fun r_1 => (r_1 = 0 → A) ∧ (¬ r_1 = 0 → wpY_block (fun r_11 => (r_11 = 0 → A) ∧ (¬ r_11 = 0 → Z)) (g, c, F, P, C, B, D, T) (nI b))) (g, c, F, P, C, B, D, T) (nI f) :=
  yq_file_y g c D F C T P B hf (br_f es_10 (yq_block_y g c D F C T P B hb (br_f es_10 z)))
/-- a range of blocks of a file -/
def es_ra (x y : Int32) : Prop := ∃ a m : Nat, x = nI a ∧ y = nI m ∧ 1 ≤ m ∧ a + m ≤ 32
theorem es_32m {a : Nat} (h : a ≤ 32) : 32 - nI a = nI (32 - a) := by
  have z := pk_sub (a := 32) (b := a) h
  rw [es_n32] at z
  exact z
theorem es_1of {x : Int32} (h : ¬ x < 1) : ∃ m : Nat, 1 ≤ m ∧ m < 2 ^ 31 ∧ x = nI m := by
  have h0 : ¬ x < 0 := fun z => h (Int32.lt_trans z (by decide))
  obtain ⟨m, hm, rfl⟩ := nI_of h0
  refine ⟨m, ?_, hm, rfl⟩
  have z := nI_ltI (a := m) (b := 1) hm (by decide)
  have e : ¬ m < 1 := fun y => h (z.mpr y)
  omega
theorem xq_ra_y {post : Int32 → Prop} {x y : Int32} (h : es_ra x y) (hp : post 1) : wpX_isRange post (g, c, D, F, C, S, T, U) x y := by
  obtain ⟨a, m, rfl, rfl, h1, h2⟩ := h
  unfold wpX_isRange
  dsimp only
  refine xq_block_y g c D F C S T U (by omega) (br_f es_10 (br_f (nI_nlt (b := 1) h1 (by omega)) ?_))
  rw [es_32m (by omega)]
  exact br_f (nI_nlt (by omega) (by omega)) hp
theorem xq_ra_n {post : Int32 → Prop} {x y : Int32} (h : ¬ es_ra x y) (hp : post 0) : wpX_isRange post (g, c, D, F, C, S, T, U) x y := by
  unfold wpX_isRange
  dsimp only
  rcases es_cs 32 (by decide) x with hx | ⟨a, ha, rfl⟩
  · exact xq_block_n g c D F C S T U hx (br_t rfl hp)
  · refine xq_block_y g c D F C S T U ha (br_f es_10 (br_c (fun _ => hp) (fun e => ?_)))
    obtain ⟨m, h1, hm, rfl⟩ := es_1of e
    rw [es_32m (by omega)]
    refine br_c (fun _ => hp) (fun e2 => absurd ⟨a, m, rfl, rfl, h1, ?_⟩ h)
    rw [nI_ltI (by omega) hm] at e2
    omega
/-- the reference refuses a copy -/
theorem yq_cp_n {post : Int32 → SY → Prop} {v1 v2 v3 v4 v5 : Int32} (h : ¬ ((∃ f : Nat, f < 6 ∧ v1 = nI f) ∧ (∃ f : Nat, f < 6 ∧ v3 = nI f) ∧ es_ra v2 v5 ∧ es_ra v4 v5)) (hp : post 0 (g, c, F, P, C, B, D, T)) :
    wpY_copy post (g, c, F, P, C, B, D, T) v1 v2 v3 v4 v5 := by
  unfold wpY_copy
  dsimp only
  rcases es_cs 6 (by decide) v1 with h1 | ⟨f1, hf1, e1⟩
  · exact yq_file_n g c D F C T P B h1 (br_t rfl hp)
  subst e1
  refine yq_file_y g c D F C T P B hf1 (br_f es_10 ?_)
  rcases es_cs 6 (by decide) v3 with h3 | ⟨f3, hf3, e3⟩
  · exact yq_file_n g c D F C T P B h3 (br_t rfl hp)
  subst e3
  refine yq_file_y g c D F C T P B hf3 (br_f es_10 (br_c (fun _ => hp) (fun e5 => br_c (fun _ => hp) (fun e6 => ?_))))
  obtain ⟨m, m1, hm, e7⟩ := es_1of e5
  subst e7
  have hm2 : ¬ 32 < m := fun z => e6 ((nI_ltI (a := 32) (b := m) (by decide) hm).mpr z)
  rcases es_cs 32 (by decide) v2 with h2 | ⟨a, ha, e2⟩
  · exact yq_block_n g c D F C T P B h2 (br_t rfl hp)
  subst e2
  refine yq_block_y g c D F C T P B ha (br_f es_10 ?_)
  rcases es_cs 32 (by decide) v4 with h4 | ⟨b, hb, e4⟩
  · exact yq_block_n g c D F C T P B h4 (br_t rfl hp)
  subst e4
  refine yq_block_y g c D F C T P B hb (br_f es_10 (br_c (fun _ => hp) (fun e8 => br_c (fun e9 => ?_) (fun _ => hp))))
  rw [nI_add] at e8 e9
  have k8 : ¬ 32 < a + m := fun z => e8 ((nI_ltI (a := 32) (b := a + m) (by decide) (by omega)).mpr z)
  have k9 : b + m ≤ 32 := (nI_leI (a := b + m) (b := 32) (by omega) (by decide)).mp e9
  exact absurd ⟨⟨f1, hf1, rfl⟩, ⟨f3, hf3, rfl⟩, ⟨a, m, rfl, rfl, m1, by omega⟩, ⟨b, m, rfl, rfl, m1, k9⟩⟩ h
end
theorem es_ho_u0 (a : Nat → Int32) (j : Nat) : upd (es_ho a 0 j) j (-1) = es_ho a 0 (j + 1) := by
  have h := es_ho_up a 0 j
  rw [Nat.zero_add] at h
  exact h
section
variable (g c : Int32) (D F C S T U P B : Nat → Int32)
theorem xi_109 {post : SX → Prop} (hp : post (g, c, D, F, C, es_ho S 0 96, T, U)) : ∃ n, wX_init_109 post g c n 0 D F C S T U := by
  have z := es_l0 (fun n i => wX_init_109 post g c n (nI i) D F C (es_ho S 0 i) T U) 96 (fun n => br_t (Int32.le_refl _) hp) (fun n i hi h => by
      refine br_f (nI_ge (b := 96) hi (by decide)) ⟨vp_in_nI hi (by decide), ?_⟩
      rw [nI_clamp (n := i) (by omega)]
      exact nm_r (es_ho_u0 S i) (nm_r (nI_1 i) h))
  rw [es_ho_0] at z
  exact z
theorem xi_80 {post : SX → Prop} (hp : post (g, c, D, es_ho F 0 192, es_ho C 0 192, es_ho S 0 96, T, U)) : ∃ n, wX_init_80 post g c n 0 D F C S T U := by
  have z := es_l0 (fun n i => wX_init_80 post g c n (nI i) D (es_ho F 0 i) (es_ho C 0 i) S T U) 192 (fun n => br_t (Int32.le_refl _) (xi_109 g c D _ _ S T U hp)) (fun n i hi h => by
      have hv : vp_in (nI i) 192 := vp_in_nI hi (by decide)
      refine br_f (nI_ge (b := 192) hi (by decide)) ⟨hv, ?_⟩
      rw [nI_clamp (n := i) (by omega)]
      exact nm_r (es_ho_u0 F i) ⟨hv, nm_r (es_ho_u0 C i) (nm_r (nI_1 i) h)⟩)
  rw [es_ho_0, es_ho_0] at z
  exact z
theorem yi_80 {post : SY → Prop} (hp : post (g, c, es_ho F 0 192, P, es_ho C 0 192, B, D, T)) : ∃ n, wY_init_80 post g c n 0 F P C B D T := by
  have z := es_l0 (fun n i => wY_init_80 post g c n (nI i) (es_ho F 0 i) P (es_ho C 0 i) B D T) 192 (fun n => br_t (Int32.le_refl _) hp) (fun n i hi h => by
      have hv : vp_in (nI i) 192 := vp_in_nI hi (by decide)
      refine br_f (nI_ge (b := 192) hi (by decide)) ⟨hv, ?_⟩
      rw [nI_clamp (n := i) (by omega)]
      exact nm_r (es_ho_u0 F i) ⟨hv, nm_r (es_ho_u0 C i) (nm_r (nI_1 i) h)⟩)
  rw [es_ho_0, es_ho_0] at z
  exact z
end
section
variable (D F C S T U P B : Nat → Int32)
theorem xm_ga {post : Int32 → SX → Prop} {g c f : Nat} (hc : c < g) (hg : g ≤ 20) (hF : es_R 192 F) (hC : es_R 192 C) (hS : es_R 96 S) (hf : f < 6)
    (h0 : es_mc F f 32 = 0 ∨ es_ex F f 32 = 1 → post 0 (nI g, nI c, D, F, C, S, T, U))
    (hn : ¬ (es_mc F f 32 = 0 ∨ es_ex F f 32 = 1) → es_gs (es_G F C S) (es_mc F f 32) 96 0 0 = none → ∀ U' : Nat → Int32, post 0 (nI g, nI c, D, F, C, S, T, U'))
    (hs : ¬ (es_mc F f 32 = 0 ∨ es_ex F f 32 = 1) → ∀ q, es_gs (es_G F C S) (es_mc F f 32) 96 0 0 = some q → ∀ U' : Nat → Int32,
      post 1 (nI g, nI (es_nx g c C (es_mv D F f q 32).2.1).1, (es_mv D F f q 32).1, (es_mv D F f q 32).2.1, (es_nx g c C (es_mv D F f q 32).2.1).2, S, T, U')) :
    wpX_gather post (nI g, nI c, D, F, C, S, T, U) (nI f) := by
  have hm := es_mc_le F f 32
  have hx := es_ex_le F f 32
  unfold wpX_gather
  dsimp only
  refine xq_file_y _ _ D F C S T U hf (br_f es_10 (xm_mc _ _ D F C S T U hf (br_c (fun e => ?_) (fun e => xe_ex _ _ D F C S T U hf (br_c (fun e2 => ?_) (fun e2 => ?_))))))
  · rw [es_ni0 (by omega)] at e
    exact h0 (Or.inl e)
  · rw [es_ni1 (by omega)] at e2
    exact h0 (Or.inr e2)
  · rw [es_ni0 (by omega)] at e
    rw [es_ni1 (by omega)] at e2
    have hz : ¬ (es_mc F f 32 = 0 ∨ es_ex F f 32 = 1) := fun z => z.elim e e2
    refine xw_row _ _ D F C S T U hF hC hS (by omega) hm (fun U' q eq => ?_) (fun U' eq => br_t rfl (hn hz eq U'))
    have hq := es_gs_lt 96 0 0 q (Nat.le_refl 0) eq
    exact br_f (es_ne (by omega)) (xv_mv _ _ D F C S T U' hF hf (by omega) (xc_ch _ _ C S T U' hc hg (hs hz q eq U')))
theorem ym_ga {post : Int32 → SY → Prop} {g c f : Nat} (hc : c < g) (hg : g ≤ 20) (hF : es_R 192 F) (hT : es_Sn T S P) (hf : f < 6)
    (h0 : es_mc F f 32 = 0 ∨ es_ex F f 32 = 1 → post 0 (nI g, nI c, F, P, C, B, D, T))
    (hn : ¬ (es_mc F f 32 = 0 ∨ es_ex F f 32 = 1) → es_gs (es_G F C S) (es_mc F f 32) 96 0 0 = none → post 0 (nI g, nI c, F, P, C, B, D, T))
    (hs : ¬ (es_mc F f 32 = 0 ∨ es_ex F f 32 = 1) → ∀ q, es_gs (es_G F C S) (es_mc F f 32) 96 0 0 = some q →
      post 1 (nI g, nI (es_nx g c C (es_mv D F f q 32).2.1).1, (es_mv D F f q 32).2.1, P, (es_nx g c C (es_mv D F f q 32).2.1).2, B, (es_mv D F f q 32).1, T)) :
    wpY_gather post (nI g, nI c, F, P, C, B, D, T) (nI f) := by
  have hm := es_mc_le F f 32
  have hx := es_ex_le F f 32
  unfold wpY_gather
  dsimp only
  refine yq_file_y _ _ D F C T P B hf (br_f es_10 ?_)
  refine es_l0 (fun n i => wY_gather_17 post (nI f) 0 (nI g) (nI c) F P C B D T n (nI (es_mc F f i)) (nI i)) 32 (fun n => br_t (Int32.le_refl _) (br_c (fun e => ?_) (fun e => ye_ex _ _ D F C T P B hF hf (br_c (fun e2 => ?_) (fun e2 => ?_))))) (fun n i hi h => ?_)
  · rw [es_ni0 (by omega)] at e
    exact h0 (Or.inl e)
  · rw [es_ni1 (by omega)] at e2
    exact h0 (Or.inr e2)
  · rw [es_ni0 (by omega)] at e
    rw [es_ni1 (by omega)] at e2
    have hz : ¬ (es_mc F f 32 = 0 ∨ es_ex F f 32 = 1) := fun z => z.elim e e2
    exact ⟨97, yw_66 D F C S T P B hc hg hT hF hf (by omega) rfl 96 0 0 rfl (Nat.le_refl 0) (by omega) (hs hz) (hn hz)⟩
  · refine br_f (nI_ge (b := 32) hi (by decide)) ?_
    rw [es_iy f i, nI_clamp (n := 32 * f + i) (by omega)]
    refine ⟨vp_in_nI (by omega) (by decide), ek_if (es_neg (hF (32 * f + i) (by omega))) (fun e => nm_r (nI_1 i) ?_) (fun e => nm_r (nI_1 _) (nm_r (nI_1 i) ?_))⟩
    · have z : es_mc F f (i + 1) = es_mc F f i := if_pos e
      simp only [z] at h
      exact h
    · have z : es_mc F f (i + 1) = es_mc F f i + 1 := if_neg e
      simp only [z] at h
      exact h
end
