/-! loop combinators; argument checks; counts; marks; searches: each side's private readers -/
theorem es_lp {W : Nat → Nat → Prop} {e : Nat} (hx : ∀ n, W (n + 1) e) (hs : ∀ n i, i < e → W n (i + 1) → W (n + 1) i) : ∀ d i, i + d = e → W (d + 1) i := by
  intro d
  induction d with
  | zero =>
    intro i h
    obtain rfl : i = e := by omega
    exact hx 0
  | succ d ih =>
    intro i h
    exact hs (d + 1) i (by omega) (ih (i + 1) (by omega))
theorem es_l0 (W : Nat → Nat → Prop) (e : Nat) (hx : ∀ n, W (n + 1) e) (hs : ∀ n i, i < e → W n (i + 1) → W (n + 1) i) : ∃ n, W n 0 :=
  ⟨e + 1, es_lp hx hs e 0 (Nat.zero_add e)⟩
theorem es_ld {W : Nat → Nat → Prop} (h0 : ∀ n, W (n + 1) 0) (hs : ∀ n i, W n i → W (n + 1) (i + 1)) : ∀ e, W (e + 1) e := by
  intro e
  induction e with
  | zero => exact h0 0
  | succ e ih => exact hs (e + 1) e ih
/-- a count's predecessor -/
def es_pr : Nat → Int32
  | 0 => -1
  | i + 1 => nI i
theorem es_pr_s (i : Nat) : nI i + (-1) = es_pr i := by
  cases i with
  | zero => decide
  | succ i => exact pk_m1 i
theorem es_pr_i (i : Nat) : nI i - 1 = es_pr i := by
  cases i with
  | zero => decide
  | succ i => exact nI_pred i
theorem es_10 : ¬ (1 : Int32) = 0 := by decide
theorem es_01 : ¬ (0 : Int32) = 1 := by decide
theorem es_vb0 : vp_nar .boolean 0 = 0 := by decide
theorem es_vb1 : vp_nar .boolean 1 = 1 := by decide
/-- an argument out of its range, or a number below n -/
def es_bad (n : Nat) (x : Int32) : Prop := x < 0 ∨ nI n ≤ x
theorem es_cs (n : Nat) (hn : n < 2 ^ 31) (x : Int32) : es_bad n x ∨ ∃ j : Nat, j < n ∧ x = nI j := by
  rcases pk_ix x hn with h | h | h
  · exact Or.inl (Or.inl h)
  · exact Or.inl (Or.inr h)
  · exact Or.inr h
theorem es_no {n : Nat} {x : Int32} {A B D : Prop} (h : es_bad n x) (a : A) : (x < 0 → A) ∧ (¬ x < 0 → ((nI n ≤ x → A) ∧ (¬ nI n ≤ x → B))) := by
  rcases h with h | h
  · exact br_t h a
  · exact br_c (fun _ => a) (fun _ => br_t h a)
theorem es_ys {n j : Nat} {A B D : Prop} (h : j < n) (hn : n < 2 ^ 31) (b : B) : (nI j < 0 → A) ∧ (¬ nI j < 0 → ((nI n ≤ nI j → D) ∧ (¬ nI n ≤ nI j → B))) :=
  br_f (nI_pos (by omega)) (br_f (nI_ge h hn) b)
section
variable (g c : Int32) (D F C S T U P B : Nat → Int32)
theorem xq_file_n {post : Int32 → Prop} {x : Int32} (h : es_bad 6 x) (hp : post 0) : wpX_isFile post (g, c, D, F, C, S, T, U) x := es_no (D := True) h hp
theorem xq_file_y {post : Int32 → Prop} {j : Nat} (h : j < 6) (hp : post 1) : wpX_isFile post (g, c, D, F, C, S, T, U) (nI j) := es_ys h (by decide) hp
theorem xq_block_n {post : Int32 → Prop} {x : Int32} (h : es_bad 32 x) (hp : post 0) : wpX_isBlock post (g, c, D, F, C, S, T, U) x := es_no (D := True) h hp
theorem xq_block_y {post : Int32 → Prop} {j : Nat} (h : j < 32) (hp : post 1) : wpX_isBlock post (g, c, D, F, C, S, T, U) (nI j) := es_ys h (by decide) hp
theorem xq_snap_n {post : Int32 → Prop} {x : Int32} (h : es_bad 3 x) (hp : post 0) : wpX_isSnapshot post (g, c, D, F, C, S, T, U) x := es_no (D := True) h hp
theorem xq_snap_y {post : Int32 → Prop} {j : Nat} (h : j < 3) (hp : post 1) : wpX_isSnapshot post (g, c, D, F, C, S, T, U) (nI j) := es_ys h (by decide) hp
theorem yq_file_n {post : Int32 → Prop} {x : Int32} (h : es_bad 6 x) (hp : post 0) : wpY_file post (g, c, F, P, C, B, D, T) x := es_no (D := True) h hp
theorem yq_file_y {post : Int32 → Prop} {j : Nat} (h : j < 6) (hp : post 1) : wpY_file post (g, c, F, P, C, B, D, T) (nI j) := es_ys h (by decide) hp
theorem yq_block_n {post : Int32 → Prop} {x : Int32} (h : es_bad 32 x) (hp : post 0) : wpY_block post (g, c, F, P, C, B, D, T) x := es_no (D := True) h hp
theorem yq_block_y {post : Int32 → Prop} {j : Nat} (h : j < 32) (hp : post 1) : wpY_block post (g, c, F, P, C, B, D, T) (nI j) := es_ys h (by decide) hp
theorem yq_shot_n {post : Int32 → Prop} {x : Int32} (h : es_bad 3 x) (hp : post 0) : wpY_shot post (g, c, F, P, C, B, D, T) x := es_no (D := True) h hp
theorem yq_shot_0 {post : Int32 → Prop} {j : Nat} (h : j < 3) (ht : T j = 0) (hp : post 0) : wpY_shot post (g, c, F, P, C, B, D, T) (nI j) :=
  es_ys h (by decide) ⟨vp_in_nI h (by decide), br_t (by rw [nI_clamp (by omega)]; exact ht) hp⟩
theorem yq_shot_1 {post : Int32 → Prop} {j : Nat} (h : j < 3) (ht : ¬ T j = 0) (hp : post 1) : wpY_shot post (g, c, F, P, C, B, D, T) (nI j) :=
  es_ys h (by decide) ⟨vp_in_nI h (by decide), br_f (by rw [nI_clamp (by omega)]; exact ht) hp⟩
theorem es_ct_1 {a : Nat → Int32} {x : Int32} {i : Nat} (e : a i = x) (m : Nat) : nI (m + es_ct a x i) + 1 = nI (m + es_ct a x (i + 1)) := by
  have h : es_ct a x (i + 1) = es_ct a x i + 1 := if_pos e
  rw [h, nI_1, Nat.add_assoc]
theorem es_ct_n {a : Nat → Int32} {x : Int32} {i : Nat} (e : ¬ a i = x) : es_ct a x (i + 1) = es_ct a x i := if_neg e
theorem es_ct_0 {a : Nat → Int32} {x : Int32} {i : Nat} (e : ¬ a i = x) (m : Nat) : nI (m + es_ct a x i) + 0 = nI (m + es_ct a x (i + 1)) := by
  rw [es_ct_n e, Int32.add_zero]
theorem xu_37 {post : Int32 → Prop} {x : Int32} {m : Nat} (hp : post (nI (m + es_ct S x 96))) : ∃ n, wX_countUsers_37 post x g c D F C S T U n (nI m) 0 := by
  refine es_l0 (fun n i => wX_countUsers_37 post x g c D F C S T U n (nI (m + es_ct S x i)) (nI i)) 96 (fun n => br_t (Int32.le_refl _) hp) (fun n i hi h => ?_)
  refine br_f (nI_ge (b := 96) hi (by decide)) ⟨vp_in_nI hi (by decide), ?_⟩
  rw [nI_clamp (n := i) (by omega)]
  exact br_c (fun e => nm_r (es_ct_1 e m) (nm_r (nI_1 i) h)) (fun e => nm_r (es_ct_0 e m) (nm_r (nI_1 i) h))
theorem xu_us {post : Int32 → Prop} {x : Int32} (hp : post (nI (es_us F S x))) : wpX_countUsers post (g, c, D, F, C, S, T, U) x := by
  refine es_l0 (fun n i => wX_countUsers_4 post x g c D F C S T U n (nI (0 + es_ct F x i)) (nI i)) 192 (fun n => br_t (Int32.le_refl _) ?_) (fun n i hi h => ?_)
  · rw [Nat.zero_add]
    exact xu_37 g c D F C S T U hp
  · refine br_f (nI_ge (b := 192) hi (by decide)) ⟨vp_in_nI hi (by decide), ?_⟩
    rw [nI_clamp (n := i) (by omega)]
    exact br_c (fun e => nm_r (es_ct_1 e 0) (nm_r (nI_1 i) h)) (fun e => nm_r (es_ct_0 e 0) (nm_r (nI_1 i) h))
theorem es_lst {a : Nat → Int32} {x : Int32} {n : Nat} (h : ¬ es_ct a x n = 0) : ∃ m, m < n ∧ a m = x ∧ ∀ k, k < m → ¬ a k = x := by
  induction n with
  | zero => exact absurd rfl h
  | succ n ih =>
    by_cases z : es_ct a x n = 0
    · by_cases e : a n = x
      · exact ⟨n, Nat.lt_succ_self n, e, es_ct_z.mp z⟩
      · rw [es_ct_n e] at h
        exact absurd z h
    · obtain ⟨m, hm, e, q⟩ := ih z
      exact ⟨m, by omega, e, q⟩
theorem xk_co {post : Int32 → Prop} {x : Int32} (h0 : es_ct C x 192 = 0 → post 0) (h1 : ¬ es_ct C x 192 = 0 → post 1) : wpX_isCommitted post (g, c, D, F, C, S, T, U) x := by
  by_cases z : es_ct C x 192 = 0
  · have q := es_ct_z.mp z
    exact es_l0 (fun n i => wX_isCommitted_2 post x g c D F C S T U n (nI i)) 192 (fun n => br_t (Int32.le_refl _) (h0 z)) (fun n i hi h =>
      br_f (nI_ge (b := 192) hi (by decide)) ⟨vp_in_nI hi (by decide), br_f (by rw [nI_clamp (n := i) (by omega)]; exact q i hi) (nm_r (nI_1 i) h)⟩)
  · obtain ⟨m, hm, e, q⟩ := es_lst z
    exact es_l0 (fun n i => wX_isCommitted_2 post x g c D F C S T U n (nI i)) m (fun n =>
      br_f (nI_ge (b := 192) hm (by decide)) ⟨vp_in_nI hm (by decide), br_t (by rw [nI_clamp (n := m) (by omega)]; exact e) (h1 z)⟩) (fun n i hi h =>
      br_f (nI_ge (b := 192) (Nat.lt_trans hi hm) (by decide)) ⟨vp_in_nI (Nat.lt_trans hi hm) (by decide), br_f (by rw [nI_clamp (n := i) (by omega)]; exact q i hi) (nm_r (nI_1 i) h)⟩)
theorem yk_co {post : Int32 → Prop} {x : Int32} (h0 : es_ct C x 192 = 0 → post 0) (h1 : ¬ es_ct C x 192 = 0 → post 1) : wpY_kept post (g, c, F, P, C, B, D, T) x := by
  by_cases z : es_ct C x 192 = 0
  · have q := es_ct_z.mp z
    exact es_l0 (fun n i => wY_kept_2 post x g c F P C B D T n (nI i)) 192 (fun n => br_t (Int32.le_refl _) (h0 z)) (fun n i hi h =>
      br_f (nI_ge (b := 192) hi (by decide)) ⟨vp_in_nI hi (by decide), br_f (by rw [nI_clamp (n := i) (by omega)]; exact q i hi) (nm_r (nI_1 i) h)⟩)
  · obtain ⟨m, hm, e, q⟩ := es_lst z
    exact es_l0 (fun n i => wY_kept_2 post x g c F P C B D T n (nI i)) m (fun n =>
      br_f (nI_ge (b := 192) hm (by decide)) ⟨vp_in_nI hm (by decide), br_t (by rw [nI_clamp (n := m) (by omega)]; exact e) (h1 z)⟩) (fun n i hi h =>
      br_f (nI_ge (b := 192) (Nat.lt_trans hi hm) (by decide)) ⟨vp_in_nI (Nat.lt_trans hi hm) (by decide), br_f (by rw [nI_clamp (n := i) (by omega)]; exact q i hi) (nm_r (nI_1 i) h)⟩)
theorem es_dv {i : Nat} (h : i < 96) : nI i / 32 = nI (i / 32) := by
  have z := pk_div (a := i) (d := 32) (by omega) (by decide) (by decide)
  rw [es_n32] at z
  exact z
theorem yu_32 {post : Int32 → Prop} {x : Int32} {m : Nat} (hp : post (nI (m + es_cT T P x 96))) : ∃ n, wY_mapped_32 post x g c F P C B D T n (nI m) 0 := by
  refine es_l0 (fun n i => wY_mapped_32 post x g c F P C B D T n (nI (m + es_cT T P x i)) (nI i)) 96 (fun n => br_t (Int32.le_refl _) hp) (fun n i hi h => ?_)
  refine br_f (nI_ge (b := 96) hi (by decide)) ⟨by decide, ?_⟩
  rw [es_dv hi, nI_clamp (n := i / 32) (by omega), nI_clamp (n := i) (by omega)]
  refine ⟨vp_in_nI (by omega) (by decide), br_c (fun e => nm_r (nI_1 i) ?_) (fun e => ⟨vp_in_nI hi (by decide), br_c (fun e2 => nm_r (e' := nI (m + es_cT T P x (i + 1))) ?_ (nm_r (nI_1 i) h)) (fun e2 => nm_r (nI_1 i) ?_)⟩)⟩
  · have z : es_cT T P x (i + 1) = es_cT T P x i := if_neg (fun y => y.1 e)
    simp only [z] at h
    exact h
  · have z : es_cT T P x (i + 1) = es_cT T P x i + 1 := if_pos ⟨e, e2⟩
    rw [z, nI_1, Nat.add_assoc]
  · have z : es_cT T P x (i + 1) = es_cT T P x i := if_neg (fun y => e2 y.2)
    simp only [z] at h
    exact h
theorem yu_us {post : Int32 → Prop} {x : Int32} (hT : es_Sn T S P) (hx : ¬ x = -1) (hp : post (nI (es_us F S x))) : wpY_mapped post (g, c, F, P, C, B, D, T) x := by
  refine es_l0 (fun n i => wY_mapped_4 post x g c F P C B D T n (nI (0 + es_ct F x i)) (nI i)) 192 (fun n => br_t (Int32.le_refl _) ?_) (fun n i hi h => ?_)
  · rw [Nat.zero_add]
    refine yu_32 g c D F C T P B ?_
    rw [es_cTS hT hx 96 (Nat.le_refl 96)]
    exact hp
  · refine br_f (nI_ge (b := 192) hi (by decide)) ⟨vp_in_nI hi (by decide), ?_⟩
    rw [nI_clamp (n := i) (by omega)]
    refine br_c (fun e => nm_r (es_ct_1 e 0) (nm_r (nI_1 i) h)) (fun e => nm_r (nI_1 i) ?_)
    simp only [es_ct_n e] at h
    exact h
theorem es_ni0 {n : Nat} (h : n < 2 ^ 31) : nI n = 0 ↔ n = 0 := nI_eq (b := 0) h (by decide)
theorem es_ni1 {n : Nat} (h : n < 2 ^ 31) : nI n = 1 ↔ n = 1 := nI_eq (b := 1) h (by decide)
theorem es_us_b (F S : Nat → Int32) (x : Int32) : es_us F S x < 2 ^ 31 := Nat.lt_of_le_of_lt (es_us_le F S x) (by decide)
theorem yi_fr {post : Int32 → Prop} {p : Nat} (hT : es_Sn T S P) (hp : p < 96) (h1 : es_G F C S p = true → post 1) (h0 : ¬ es_G F C S p = true → post 0) : wpY_isFree post (g, c, F, P, C, B, D, T) (nI p) := by
  unfold wpY_isFree
  refine yu_us g c D F C S T P B hT (es_ne (by omega)) ?_
  refine br_c (fun e => ?_) (fun e => ?_)
  · rw [es_ni0 (es_us_b _ _ _)] at e
    exact yk_co g c D F C T P B (fun z => br_t rfl (h1 (es_G_t.mpr ⟨e, z⟩))) (fun z => br_f es_10 (h0 (fun y => z (es_G_t.mp y).2)))
  · rw [es_ni0 (es_us_b _ _ _)] at e
    exact h0 (fun y => e (es_G_t.mp y).1)
end
