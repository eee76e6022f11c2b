/-! copies and holes, both sides (written by wip/whole/gen06.py) -/
section
variable (g c : Int32) (D F C S T U P B : Nat → Int32)
theorem xs_ff_a {post : SX → Prop} {s t m : Nat} (hts : t ≤ s) (hs : s + m ≤ 192) (ht : t + m ≤ 192) (hp : post (g, c, D, es_cp F F t s 0 m, C, S, T, U)) : ∃ n, wX_copySlots__files_files_42 post (nI s) (nI t) (nI m) g c n 0 D F C S T U := by
  have z := es_l0 (fun n i => wX_copySlots__files_files_42 post (nI s) (nI t) (nI m) g c n (nI i) D (es_cp F F t s 0 i) C S T U) m
    (fun n => br_t (Int32.le_refl _) hp) (fun n i hi h => by
      refine br_f (nI_ge (b := m) hi (by omega)) ?_
      rw [nI_add s i, nI_add t i, nI_clamp (n := s + i) (by omega), nI_clamp (n := t + i) (by omega), es_cp_hi (k := s + i) (by omega)]
      exact ⟨vp_in_nI (by omega) (by decide), vp_in_nI (by omega) (by decide), nm_r (es_cp_up F F t s 0 i (Nat.zero_le i)) (nm_r (nI_1 i) h)⟩)
  rw [es_cp_0] at z
  exact z
theorem xs_ff_d {post : SX → Prop} {s t m : Nat} (hts : s < t) (hs : s + m ≤ 192) (ht : t + m ≤ 192) (hp : post (g, c, D, es_cp F F t s 0 m, C, S, T, U)) : wX_copySlots__files_files_12 post (nI s) (nI t) g c (m + 1) (es_pr m) D F C S T U := by
  have z := es_ld (W := fun n i => i ≤ m → wX_copySlots__files_files_12 post (nI s) (nI t) g c n (es_pr i) D (es_cp F F t s i m) C S T U)
    (fun n _ => br_t es_m1lt hp) (fun n i h hi => by
      show wX_copySlots__files_files_12 post (nI s) (nI t) g c (n + 1) (nI i) D (es_cp F F t s (i + 1) m) C S T U
      refine br_f (nI_pos (n := i) (by omega)) ?_
      rw [nI_add s i, nI_add t i, nI_clamp (n := s + i) (by omega), nI_clamp (n := t + i) (by omega), es_cp_lo (k := s + i) (by omega)]
      exact ⟨vp_in_nI (by omega) (by decide), vp_in_nI (by omega) (by decide), nm_r (es_cp_dn F F t s i m hi) (nm_r (es_pr_s i) (h (by omega)))⟩) m (Nat.le_refl m)
  rw [es_cp_0] at z
  exact z
theorem xs_ff {post : SX → Prop} {s t m : Nat} (hs : s + m ≤ 192) (ht : t + m ≤ 192) (hp : post (g, c, D, es_cp F F t s 0 m, C, S, T, U)) : wpX_copySlots__files_files post (g, c, D, F, C, S, T, U) (nI s) (nI t) (nI m) := by
  by_cases e : t ≤ s
  · exact br_t (nI_le e (by omega)) (xs_ff_a g c D F C S T U e hs ht hp)
  · exact br_f (nI_ge (by omega) (by omega)) (nm_r (es_pr_i m) ⟨m + 1, xs_ff_d g c D F C S T U (by omega) hs ht hp⟩)
theorem xs_fs_a {post : SX → Prop} {s t m : Nat} (hs : s + m ≤ 192) (ht : t + m ≤ 96) (hp : post (g, c, D, F, C, es_cp S F t s 0 m, T, U)) : ∃ n, wX_copySlots__files_snapshots_42 post (nI s) (nI t) (nI m) g c n 0 D F C S T U := by
  have z := es_l0 (fun n i => wX_copySlots__files_snapshots_42 post (nI s) (nI t) (nI m) g c n (nI i) D F C (es_cp S F t s 0 i) T U) m
    (fun n => br_t (Int32.le_refl _) hp) (fun n i hi h => by
      refine br_f (nI_ge (b := m) hi (by omega)) ?_
      rw [nI_add s i, nI_add t i, nI_clamp (n := s + i) (by omega), nI_clamp (n := t + i) (by omega)]
      exact ⟨vp_in_nI (by omega) (by decide), vp_in_nI (by omega) (by decide), nm_r (es_cp_up S F t s 0 i (Nat.zero_le i)) (nm_r (nI_1 i) h)⟩)
  rw [es_cp_0] at z
  exact z
theorem xs_fs_d {post : SX → Prop} {s t m : Nat} (hs : s + m ≤ 192) (ht : t + m ≤ 96) (hp : post (g, c, D, F, C, es_cp S F t s 0 m, T, U)) : wX_copySlots__files_snapshots_12 post (nI s) (nI t) g c (m + 1) (es_pr m) D F C S T U := by
  have z := es_ld (W := fun n i => i ≤ m → wX_copySlots__files_snapshots_12 post (nI s) (nI t) g c n (es_pr i) D F C (es_cp S F t s i m) T U)
    (fun n _ => br_t es_m1lt hp) (fun n i h hi => by
      show wX_copySlots__files_snapshots_12 post (nI s) (nI t) g c (n + 1) (nI i) D F C (es_cp S F t s (i + 1) m) T U
      refine br_f (nI_pos (n := i) (by omega)) ?_
      rw [nI_add s i, nI_add t i, nI_clamp (n := s + i) (by omega), nI_clamp (n := t + i) (by omega)]
      exact ⟨vp_in_nI (by omega) (by decide), vp_in_nI (by omega) (by decide), nm_r (es_cp_dn S F t s i m hi) (nm_r (es_pr_s i) (h (by omega)))⟩) m (Nat.le_refl m)
  rw [es_cp_0] at z
  exact z
theorem xs_fs {post : SX → Prop} {s t m : Nat} (hs : s + m ≤ 192) (ht : t + m ≤ 96) (hp : post (g, c, D, F, C, es_cp S F t s 0 m, T, U)) : wpX_copySlots__files_snapshots post (g, c, D, F, C, S, T, U) (nI s) (nI t) (nI m) := by
  by_cases e : t ≤ s
  · exact br_t (nI_le e (by omega)) (xs_fs_a g c D F C S T U hs ht hp)
  · exact br_f (nI_ge (by omega) (by omega)) (nm_r (es_pr_i m) ⟨m + 1, xs_fs_d g c D F C S T U hs ht hp⟩)
theorem xs_sf_a {post : SX → Prop} {s t m : Nat} (hs : s + m ≤ 96) (ht : t + m ≤ 192) (hp : post (g, c, D, es_cp F S t s 0 m, C, S, T, U)) : ∃ n, wX_copySlots__snapshots_files_42 post (nI s) (nI t) (nI m) g c n 0 D F C S T U := by
  have z := es_l0 (fun n i => wX_copySlots__snapshots_files_42 post (nI s) (nI t) (nI m) g c n (nI i) D (es_cp F S t s 0 i) C S T U) m
    (fun n => br_t (Int32.le_refl _) hp) (fun n i hi h => by
      refine br_f (nI_ge (b := m) hi (by omega)) ?_
      rw [nI_add s i, nI_add t i, nI_clamp (n := s + i) (by omega), nI_clamp (n := t + i) (by omega)]
      exact ⟨vp_in_nI (by omega) (by decide), vp_in_nI (by omega) (by decide), nm_r (es_cp_up F S t s 0 i (Nat.zero_le i)) (nm_r (nI_1 i) h)⟩)
  rw [es_cp_0] at z
  exact z
theorem xs_sf_d {post : SX → Prop} {s t m : Nat} (hs : s + m ≤ 96) (ht : t + m ≤ 192) (hp : post (g, c, D, es_cp F S t s 0 m, C, S, T, U)) : wX_copySlots__snapshots_files_12 post (nI s) (nI t) g c (m + 1) (es_pr m) D F C S T U := by
  have z := es_ld (W := fun n i => i ≤ m → wX_copySlots__snapshots_files_12 post (nI s) (nI t) g c n (es_pr i) D (es_cp F S t s i m) C S T U)
    (fun n _ => br_t es_m1lt hp) (fun n i h hi => by
      show wX_copySlots__snapshots_files_12 post (nI s) (nI t) g c (n + 1) (nI i) D (es_cp F S t s (i + 1) m) C S T U
      refine br_f (nI_pos (n := i) (by omega)) ?_
      rw [nI_add s i, nI_add t i, nI_clamp (n := s + i) (by omega), nI_clamp (n := t + i) (by omega)]
      exact ⟨vp_in_nI (by omega) (by decide), vp_in_nI (by omega) (by decide), nm_r (es_cp_dn F S t s i m hi) (nm_r (es_pr_s i) (h (by omega)))⟩) m (Nat.le_refl m)
  rw [es_cp_0] at z
  exact z
theorem xs_sf {post : SX → Prop} {s t m : Nat} (hs : s + m ≤ 96) (ht : t + m ≤ 192) (hp : post (g, c, D, es_cp F S t s 0 m, C, S, T, U)) : wpX_copySlots__snapshots_files post (g, c, D, F, C, S, T, U) (nI s) (nI t) (nI m) := by
  by_cases e : t ≤ s
  · exact br_t (nI_le e (by omega)) (xs_sf_a g c D F C S T U hs ht hp)
  · exact br_f (nI_ge (by omega) (by omega)) (nm_r (es_pr_i m) ⟨m + 1, xs_sf_d g c D F C S T U hs ht hp⟩)
theorem xh_f {post : SX → Prop} {t m : Nat} (ht : t + m ≤ 192) (hp : post (g, c, D, es_ho F t m, C, S, T, U)) : wpX_makeHoles__files post (g, c, D, F, C, S, T, U) (nI t) (nI m) := by
  have z := es_l0 (fun n i => wX_makeHoles__files_3 post (nI t) (nI m) g c n (nI i) D (es_ho F t i) C S T U) m
    (fun n => br_t (Int32.le_refl _) hp) (fun n i hi h => by
      refine br_f (nI_ge (b := m) hi (by omega)) ?_
      rw [nI_add t i, nI_clamp (n := t + i) (by omega)]
      exact ⟨vp_in_nI (by omega) (by decide), nm_r (es_ho_up F t i) (nm_r (nI_1 i) h)⟩)
  rw [es_ho_0] at z
  exact z
theorem xh_s {post : SX → Prop} {t m : Nat} (ht : t + m ≤ 96) (hp : post (g, c, D, F, C, es_ho S t m, T, U)) : wpX_makeHoles__snapshots post (g, c, D, F, C, S, T, U) (nI t) (nI m) := by
  have z := es_l0 (fun n i => wX_makeHoles__snapshots_3 post (nI t) (nI m) g c n (nI i) D F C (es_ho S t i) T U) m
    (fun n => br_t (Int32.le_refl _) hp) (fun n i hi h => by
      refine br_f (nI_ge (b := m) hi (by omega)) ?_
      rw [nI_add t i, nI_clamp (n := t + i) (by omega)]
      exact ⟨vp_in_nI (by omega) (by decide), nm_r (es_ho_up S t i) (nm_r (nI_1 i) h)⟩)
  rw [es_ho_0] at z
  exact z
end
theorem es_cp_u0 (a b : Nat → Int32) (s j : Nat) : upd (es_cp a b 0 s 0 j) j (b (s + j)) = es_cp a b 0 s 0 (j + 1) := by
  have h := es_cp_up a b 0 s 0 j (Nat.zero_le j)
  rw [Nat.zero_add] at h
  exact h
section
variable (g c : Int32) (D F C S T U P B : Nat → Int32)
theorem ys_sn {post : Int32 → SY → Prop} {s f : Nat} (hs : s < 3) (hf : f < 6) (hp : post 1 (g, c, F, es_cp P F (32 * s) (32 * f) 0 32, C, B, D, T)) : ∃ n, wY_snap_42 post (nI s) (nI f) g c n 0 F P C B D T := by
  have z := es_l0 (fun n i => wY_snap_42 post (nI s) (nI f) g c n (nI i) F (es_cp P F (32 * s) (32 * f) 0 i) C B D T) 32
    (fun n => br_t (Int32.le_refl _) hp) (fun n i hi h => by
      refine br_f (nI_ge (b := 32) hi (by decide)) ?_
      rw [es_iy f i, es_iy s i, nI_clamp (n := 32 * f + i) (by omega), nI_clamp (n := 32 * s + i) (by omega)]
      exact ⟨vp_in_nI (by omega) (by decide), vp_in_nI (by omega) (by decide), nm_r (es_cp_up P F (32 * s) (32 * f) 0 i (Nat.zero_le i)) (nm_r (nI_1 i) h)⟩)
  rw [es_cp_0] at z
  exact z
end
section
variable (D F C S T U P B : Nat → Int32)
theorem ys_rv {post : Int32 → SY → Prop} {g c s f : Nat} (hc : c < g) (hg : g ≤ 20) (hs : s < 3) (hf : f < 6)
    (hp : post 1 (nI g, nI (es_nx g c C (es_cp F P (32 * f) (32 * s) 0 32)).1, es_cp F P (32 * f) (32 * s) 0 32, P, (es_nx g c C (es_cp F P (32 * f) (32 * s) 0 32)).2, B, D, T)) : ∃ n, wY_revert_20 post (nI f) (nI s) (nI g) (nI c) n 0 F P C B D T := by
  have z := es_l0 (fun n i => wY_revert_20 post (nI f) (nI s) (nI g) (nI c) n (nI i) (es_cp F P (32 * f) (32 * s) 0 i) P C B D T) 32
    (fun n => br_t (Int32.le_refl _) (yc_ch D _ C T P B hc hg hp)) (fun n i hi h => by
      refine br_f (nI_ge (b := 32) hi (by decide)) ?_
      rw [es_iy f i, es_iy s i, nI_clamp (n := 32 * f + i) (by omega), nI_clamp (n := 32 * s + i) (by omega)]
      exact ⟨vp_in_nI (by omega) (by decide), vp_in_nI (by omega) (by decide), nm_r (es_cp_up F P (32 * f) (32 * s) 0 i (Nat.zero_le i)) (nm_r (nI_1 i) h)⟩)
  rw [es_cp_0] at z
  exact z
theorem ys_c2 {post : Int32 → SY → Prop} {g c s f b m : Nat} (hc : c < g) (hg : g ≤ 20) (hf : f < 6) (hb : b + m ≤ 32) (hB : ∀ i, i < m → B i = F (s + i))
    (hp : post 1 (nI g, nI (es_nx g c C (es_cp F F (32 * f + b) s 0 m)).1, es_cp F F (32 * f + b) s 0 m, P, (es_nx g c C (es_cp F F (32 * f + b) s 0 m)).2, B, D, T)) : ∃ n, wY_copy_107 post (nI f) (nI b) (nI m) (nI g) (nI c) n 0 F P C B D T := by
  have z := es_l0 (fun n i => wY_copy_107 post (nI f) (nI b) (nI m) (nI g) (nI c) n (nI i) (es_cp F F (32 * f + b) s 0 i) P C B D T) m
    (fun n => br_t (Int32.le_refl _) (yc_ch D _ C T P B hc hg hp)) (fun n i hi h => by
      refine br_f (nI_ge (b := m) hi (by omega)) ?_
      rw [es_iy f b, nI_add (32 * f + b) i, nI_clamp (n := 32 * f + b + i) (by omega), nI_clamp (n := i) (by omega), hB i hi]
      exact ⟨vp_in_nI (by omega) (by decide), vp_in_nI (by omega) (by decide), nm_r (es_cp_up F F (32 * f + b) s 0 i (Nat.zero_le i)) (nm_r (nI_1 i) h)⟩)
  rw [es_cp_0] at z
  exact z
theorem ys_c1 {post : Int32 → SY → Prop} {g c e a f b m : Nat} (hc : c < g) (hg : g ≤ 20) (he : e < 6) (ha : a + m ≤ 32) (hf : f < 6) (hb : b + m ≤ 32)
    (hp : ∀ B' : Nat → Int32, post 1 (nI g, nI (es_nx g c C (es_cp F F (32 * f + b) (32 * e + a) 0 m)).1, es_cp F F (32 * f + b) (32 * e + a) 0 m, P, (es_nx g c C (es_cp F F (32 * f + b) (32 * e + a) 0 m)).2, B', D, T)) :
    ∃ n, wY_copy_70 post (nI e) (nI a) (nI f) (nI b) (nI m) (nI g) (nI c) n 0 F P C B D T := by
  have z := es_l0 (fun n i => wY_copy_70 post (nI e) (nI a) (nI f) (nI b) (nI m) (nI g) (nI c) n (nI i) F P C (es_cp B F 0 (32 * e + a) 0 i) D T) m
    (fun n => br_t (Int32.le_refl _) (ys_c2 D F C T P _ hc hg hf hb (fun i hi => by
      rw [es_cp_in (by omega) (by omega)]
      exact congrArg F (by omega)) (hp _))) (fun n i hi h => by
      refine br_f (nI_ge (b := m) hi (by omega)) ?_
      rw [es_iy e a, nI_add (32 * e + a) i, nI_clamp (n := 32 * e + a + i) (by omega), nI_clamp (n := i) (by omega)]
      exact ⟨vp_in_nI (by omega) (by decide), vp_in_nI (by omega) (by decide), nm_r (es_cp_u0 B F (32 * e + a) i) (nm_r (nI_1 i) h)⟩)
  rw [es_cp_0] at z
  exact z
/-- the holes of a punch: count m of them, but at most up to 31 -/
theorem ys_pu {post : Int32 → SY → Prop} {g c f b m l : Nat} (hc : c < g) (hg : g ≤ 20) (hf : f < 6) (hb : b < 32) (hm : m < 2 ^ 31) (hl : l ≤ m) (hl2 : b + l ≤ 32) (hl3 : l = m ∨ b + l = 32)
    (hp : post 1 (nI g, nI (es_nx g c C (es_ho F (32 * f + b) l)).1, es_ho F (32 * f + b) l, P, (es_nx g c C (es_ho F (32 * f + b) l)).2, B, D, T)) :
    ∃ n, wY_punch_26 post (nI f) (nI b) (nI m) (nI g) (nI c) n (nI b) F P C B D T := by
  have hq : wY_punch_60 post (nI g) (nI c) (es_ho F (32 * f + b) l) P C B D T := yc_ch D _ C T P B hc hg hp
  have z := es_l0 (fun n i => wY_punch_26 post (nI f) (nI b) (nI m) (nI g) (nI c) n (nI (b + i)) (es_ho F (32 * f + b) i) P C B D T) l
    (fun n => by
      by_cases e : 32 ≤ b + l
      · exact br_t (nI_le (a := 32) e (by omega)) hq
      · refine br_f (nI_ge (b := 32) (by omega) (by decide)) (br_t ?_ hq)
        rw [pk_sub (by omega), show b + l - b = l from by omega]
        exact nI_le (by omega) (by omega)) (fun n i hi h => by
      refine br_f (nI_ge (b := 32) (by omega) (by decide)) ?_
      rw [pk_sub (a := b + i) (b := b) (by omega), show b + i - b = i from by omega]
      refine br_f (nI_ge (b := m) (by omega) (by omega)) ?_
      rw [es_iy f (b + i), ← Nat.add_assoc (32 * f) b i, nI_clamp (n := 32 * f + b + i) (by omega)]
      exact ⟨vp_in_nI (by omega) (by decide), nm_r (es_ho_up F (32 * f + b) i) (nm_r (nI_1 (b + i)) h)⟩)
  rw [es_ho_0] at z
  exact z
end
