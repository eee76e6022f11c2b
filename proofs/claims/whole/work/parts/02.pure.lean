/-! the pure pictures: counts, least free block, goal, runs, extents, moves, copies -/
theorem es_n32 : nI 32 = 32 := by decide +kernel
theorem es_n96 : nI 96 = 96 := by decide +kernel
theorem es_n192 : nI 192 = 192 := by decide +kernel
theorem es_ne {p : Nat} (h : p < 2 ^ 31) : ¬ nI p = -1 := by
  intro e
  have h1 := nI_toInt h
  rw [e, show (-1 : Int32).toInt = -1 from by decide] at h1
  omega
theorem es_m1lt : (-1 : Int32) < 0 := by decide
theorem es_m1le : ¬ (0 : Int32) ≤ -1 := by decide
theorem es_ix (f b : Nat) : nI f * 32 + nI b = nI (32 * f + b) := by
  rw [← es_n32, pk_mul, nI_add, Nat.mul_comm]
theorem es_iy (f b : Nat) : 32 * nI f + nI b = nI (32 * f + b) := by
  rw [← es_n32, pk_mul, nI_add]
theorem es_ix0 (f : Nat) : nI f * 32 = nI (32 * f) := by
  rw [← es_n32, pk_mul, Nat.mul_comm]
theorem es_iy0 (f : Nat) : 32 * nI f = nI (32 * f) := by
  rw [← es_n32, pk_mul]
/-- a map: a hole or a block of the disk at each place below n -/
def es_R (n : Nat) (a : Nat → Int32) : Prop := ∀ k, k < n → a k = -1 ∨ ∃ p : Nat, p < 96 ∧ a k = nI p
theorem es_R_upd {n : Nat} {a : Nat → Int32} {i p : Nat} (h : es_R n a) (hp : p < 96) : es_R n (upd a i (nI p)) := by
  intro k hk
  by_cases e : k = i
  · subst e
    rw [pk_us]
    exact Or.inr ⟨p, hp, rfl⟩
  · rw [pk_un e]
    exact h k hk
/-- at how many places below n the array holds x -/
def es_ct (a : Nat → Int32) (x : Int32) : Nat → Nat
  | 0 => 0
  | n + 1 => if a n = x then es_ct a x n + 1 else es_ct a x n
theorem es_ct_le (a : Nat → Int32) (x : Int32) : ∀ n, es_ct a x n ≤ n := by
  intro n
  induction n with
  | zero => exact Nat.le_refl 0
  | succ n ih =>
    simp only [es_ct]
    split <;> omega
theorem es_ct_z {a : Nat → Int32} {x : Int32} : ∀ {n : Nat}, es_ct a x n = 0 ↔ ∀ k, k < n → ¬ a k = x := by
  intro n
  induction n with
  | zero => exact ⟨fun _ k hk => absurd hk (Nat.not_lt_zero k), fun _ => rfl⟩
  | succ n ih =>
    simp only [es_ct]
    by_cases h : a n = x
    · rw [if_pos h]
      exact ⟨fun z => absurd z (Nat.succ_ne_zero _), fun z => absurd h (z n (Nat.lt_succ_self n))⟩
    · rw [if_neg h, ih]
      exact ⟨fun z => lt_s z h, fun z k hk => z k (Nat.lt_succ_of_lt hk)⟩
/-- the same over the snapshots that are there -/
def es_cT (T P : Nat → Int32) (x : Int32) : Nat → Nat
  | 0 => 0
  | n + 1 => if ¬ T (n / 32) = 0 ∧ P n = x then es_cT T P x n + 1 else es_cT T P x n
def es_Sn (T S P : Nat → Int32) : Prop := ∀ k, k < 96 → (¬ T (k / 32) = 0 → S k = P k) ∧ (T (k / 32) = 0 → S k = -1)
theorem es_cTS {T S P : Nat → Int32} {x : Int32} (h : es_Sn T S P) (hx : ¬ x = -1) : ∀ n, n ≤ 96 → es_cT T P x n = es_ct S x n := by
  intro n
  induction n with
  | zero => intro _; rfl
  | succ n ih =>
    intro hn
    have e := ih (by omega)
    have hh := h n (by omega)
    simp only [es_cT, es_ct, e]
    by_cases ht : T (n / 32) = 0
    · have hs := hh.2 ht
      rw [if_neg (fun z => z.1 ht), if_neg (fun z => hx (z.symm.trans hs))]
    · have hs := hh.1 ht
      rw [hs]
      by_cases hp : P n = x
      · rw [if_pos ⟨ht, hp⟩, if_pos hp]
      · rw [if_neg (fun z => hp z.2), if_neg hp]
/-- at how many places below n the two differ -/
def es_df (a b : Nat → Int32) : Nat → Nat
  | 0 => 0
  | n + 1 => if a n = b n then es_df a b n else es_df a b n + 1
theorem es_df_le (a b : Nat → Int32) : ∀ n, es_df a b n ≤ n := by
  intro n
  induction n with
  | zero => exact Nat.le_refl 0
  | succ n ih =>
    simp only [es_df]
    split <;> omega
theorem es_df_sy (a b : Nat → Int32) : ∀ n, es_df a b n = es_df b a n := by
  intro n
  induction n with
  | zero => rfl
  | succ n ih =>
    simp only [es_df]
    by_cases h : a n = b n
    · rw [if_pos h, if_pos h.symm, ih]
    · rw [if_neg h, if_neg (fun z => h z.symm), ih]
/-- places t + i up to t + j hold what the source holds from s + i on -/
def es_cp (a b : Nat → Int32) (t s i j : Nat) : Nat → Int32 := fun k => if t + i ≤ k ∧ k < t + j then b (s + (k - t)) else a k
theorem es_cp_in {a b : Nat → Int32} {t s i j k : Nat} (h : t + i ≤ k) (h' : k < t + j) : es_cp a b t s i j k = b (s + (k - t)) := if_pos ⟨h, h'⟩
theorem es_cp_lo {a b : Nat → Int32} {t s i j k : Nat} (h : k < t + i) : es_cp a b t s i j k = a k := if_neg (fun z => by omega)
theorem es_cp_hi {a b : Nat → Int32} {t s i j k : Nat} (h : t + j ≤ k) : es_cp a b t s i j k = a k := if_neg (fun z => by omega)
theorem es_cp_0 (a b : Nat → Int32) (t s i : Nat) : es_cp a b t s i i = a := by
  funext k
  exact if_neg (fun z => by omega)
theorem es_cp_up (a b : Nat → Int32) (t s i j : Nat) (h : i ≤ j) : upd (es_cp a b t s i j) (t + j) (b (s + j)) = es_cp a b t s i (j + 1) := by
  funext k
  by_cases e : k = t + j
  · subst e
    rw [pk_us, es_cp_in (by omega) (by omega)]
    exact congrArg b (by omega)
  · rw [pk_un e]
    unfold es_cp
    by_cases c : t + i ≤ k ∧ k < t + j
    · rw [if_pos c, if_pos ⟨c.1, by omega⟩]
    · rw [if_neg c, if_neg (fun z => c ⟨z.1, by omega⟩)]
theorem es_cp_dn (a b : Nat → Int32) (t s i j : Nat) (h : i < j) : upd (es_cp a b t s (i + 1) j) (t + i) (b (s + i)) = es_cp a b t s i j := by
  funext k
  by_cases e : k = t + i
  · subst e
    rw [pk_us, es_cp_in (by omega) (by omega)]
    exact congrArg b (by omega)
  · rw [pk_un e]
    unfold es_cp
    by_cases c : t + (i + 1) ≤ k ∧ k < t + j
    · rw [if_pos c, if_pos ⟨by omega, c.2⟩]
    · rw [if_neg c, if_neg (fun z => c ⟨by omega, z.2⟩)]
theorem es_R_cp {n m : Nat} {a b : Nat → Int32} {t s i j : Nat} (ha : es_R n a) (hb : es_R m b) (h : s + j ≤ m) : es_R n (es_cp a b t s i j) := by
  intro k hk
  by_cases c : t + i ≤ k ∧ k < t + j
  · rw [es_cp_in c.1 c.2]
    exact hb _ (by omega)
  · unfold es_cp
    rw [if_neg c]
    exact ha k hk
/-- all of the second below n, the first behind it -/
theorem es_cp_all (a b : Nat → Int32) (n : Nat) : ∀ k, k < n → es_cp a b 0 0 0 n k = b k := by
  intro k hk
  rw [es_cp_in (by omega) (by omega)]
  exact congrArg b (by omega)
theorem es_cp_st (a b : Nat → Int32) (j : Nat) : upd (es_cp a b 0 0 0 j) j (b j) = es_cp a b 0 0 0 (j + 1) := by
  have h := es_cp_up a b 0 0 0 j (Nat.zero_le j)
  rw [Nat.zero_add] at h
  exact h
theorem es_cp_sk {a b : Nat → Int32} {j : Nat} (e : a j = b j) : es_cp a b 0 0 0 j = es_cp a b 0 0 0 (j + 1) := by
  rw [← es_cp_st]
  funext k
  by_cases c : k = j
  · subst c
    rw [pk_us, es_cp_hi (by omega), e]
  · rw [pk_un c]
/-- holes at t up to t + j -/
def es_ho (a : Nat → Int32) (t j : Nat) : Nat → Int32 := fun k => if t ≤ k ∧ k < t + j then -1 else a k
theorem es_ho_0 (a : Nat → Int32) (t : Nat) : es_ho a t 0 = a := by
  funext k
  exact if_neg (fun z => by omega)
theorem es_ho_up (a : Nat → Int32) (t j : Nat) : upd (es_ho a t j) (t + j) (-1) = es_ho a t (j + 1) := by
  funext k
  by_cases e : k = t + j
  · subst e
    rw [pk_us]
    exact (if_pos ⟨by omega, by omega⟩).symm
  · rw [pk_un e]
    unfold es_ho
    by_cases c : t ≤ k ∧ k < t + j
    · rw [if_pos c, if_pos ⟨c.1, by omega⟩]
    · rw [if_neg c, if_neg (fun z => c ⟨z.1, by omega⟩)]
theorem es_R_ho {n : Nat} {a : Nat → Int32} {t j : Nat} (ha : es_R n a) : es_R n (es_ho a t j) := by
  intro k hk
  unfold es_ho
  by_cases c : t ≤ k ∧ k < t + j
  · rw [if_pos c]; exact Or.inl rfl
  · rw [if_neg c]; exact ha k hk
/-- users and free blocks -/
def es_us (F S : Nat → Int32) (x : Int32) : Nat := es_ct F x 192 + es_ct S x 96
theorem es_us_le (F S : Nat → Int32) (x : Int32) : es_us F S x ≤ 288 := by
  have h1 := es_ct_le F x 192
  have h2 := es_ct_le S x 96
  unfold es_us
  omega
def es_G (F C S : Nat → Int32) (p : Nat) : Bool := decide (es_us F S (nI p) = 0) && decide (es_ct C (nI p) 192 = 0)
theorem es_G_t {F C S : Nat → Int32} {p : Nat} : es_G F C S p = true ↔ es_us F S (nI p) = 0 ∧ es_ct C (nI p) 192 = 0 := by
  unfold es_G
  rw [Bool.and_eq_true, decide_eq_true_iff, decide_eq_true_iff]
/-- runs of free blocks -/
def es_rn (G : Nat → Bool) : Nat → Nat
  | 0 => 0
  | p + 1 => if G p = true then es_rn G p + 1 else 0
def es_al (G : Nat → Bool) : Nat → Nat
  | 0 => 0
  | p + 1 => if 0 < es_rn G (p + 1) then es_al G p + 1 else es_al G p
def es_rw (G : Nat → Bool) : Nat → Nat
  | 0 => 0
  | p + 1 => if es_rn G (p + 1) = 1 then es_rw G p + 1 else es_rw G p
def es_lg (G : Nat → Bool) : Nat → Nat
  | 0 => 0
  | p + 1 => if es_lg G p < es_rn G (p + 1) then es_rn G (p + 1) else es_lg G p
theorem es_rn_le (G : Nat → Bool) : ∀ p, es_rn G p ≤ p := by
  intro p
  induction p with
  | zero => exact Nat.le_refl 0
  | succ p ih =>
    simp only [es_rn]
    split <;> omega
theorem es_al_le (G : Nat → Bool) : ∀ p, es_al G p ≤ p := by
  intro p
  induction p with
  | zero => exact Nat.le_refl 0
  | succ p ih =>
    unfold es_al
    split <;> omega
theorem es_rw_le (G : Nat → Bool) : ∀ p, es_rw G p ≤ p := by
  intro p
  induction p with
  | zero => exact Nat.le_refl 0
  | succ p ih =>
    unfold es_rw
    split <;> omega
theorem es_lg_le (G : Nat → Bool) : ∀ p, es_lg G p ≤ p := by
  intro p
  induction p with
  | zero => exact Nat.le_refl 0
  | succ p ih =>
    have h := es_rn_le G (p + 1)
    unfold es_lg
    split <;> omega
/-- the least free block among d of them from p on -/
def es_lf (G : Nat → Bool) : Nat → Nat → Option Nat
  | 0, _ => none
  | d + 1, p => if G p = true then some p else es_lf G d (p + 1)
def es_oI : Option Nat → Int32
  | none => -1
  | some q => nI q
theorem es_lf_n {G : Nat → Bool} : ∀ a b p, es_lf G a p = none → es_lf G (a + b) p = es_lf G b (p + a) := by
  intro a
  induction a with
  | zero => intro b p _; rw [Nat.zero_add, Nat.add_zero]
  | succ a ih =>
    intro b p h
    rw [Nat.succ_add]
    simp only [es_lf] at h ⊢
    by_cases g : G p = true
    · rw [if_pos g] at h; exact nomatch h
    · rw [if_neg g] at h ⊢
      rw [ih b (p + 1) h]
      exact congrArg (es_lf G b) (by omega)
theorem es_lf_s {G : Nat → Bool} : ∀ a b p q, es_lf G a p = some q → es_lf G (a + b) p = some q := by
  intro a
  induction a with
  | zero => intro b p q h; exact nomatch h
  | succ a ih =>
    intro b p q h
    rw [Nat.succ_add]
    simp only [es_lf] at h ⊢
    by_cases g : G p = true
    · rw [if_pos g] at h ⊢; exact h
    · rw [if_neg g] at h ⊢
      exact ih b (p + 1) q h
theorem es_lf_lt {G : Nat → Bool} : ∀ d p q, es_lf G d p = some q → p ≤ q ∧ q < p + d := by
  intro d
  induction d with
  | zero => intro p q h; exact nomatch h
  | succ d ih =>
    intro p q h
    simp only [es_lf] at h
    by_cases g : G p = true
    · rw [if_pos g] at h
      have e := Option.some.inj h
      omega
    · rw [if_neg g] at h
      have e := ih (p + 1) q h
      omega
/-- the block that is taken at a goal -/
def es_an (G : Nat → Bool) (g : Nat) : Option Nat := match es_lf G (96 - g) g with
  | some q => some q
  | none => es_lf G g 0
theorem es_an_s {G : Nat → Bool} {g q : Nat} (h : es_lf G (96 - g) g = some q) : es_an G g = some q := by
  unfold es_an
  rw [h]
theorem es_an_n {G : Nat → Bool} {g : Nat} (h : es_lf G (96 - g) g = none) : es_an G g = es_lf G g 0 := by
  unfold es_an
  rw [h]
theorem es_an_x {G : Nat → Bool} {g : Nat} (hg : g ≤ 96) (h : es_lf G (96 - g) g = none) : es_lf G 96 0 = es_an G g := by
  rw [es_an_n h]
  have e : 96 = g + (96 - g) := by omega
  cases c : es_lf G g 0 with
  | none =>
    have z := es_lf_n g (96 - g) 0 c
    rw [← e, Nat.zero_add, h] at z
    exact z
  | some q =>
    have z := es_lf_s g (96 - g) 0 q c
    rw [← e] at z
    exact z
theorem es_an_lt {G : Nat → Bool} {g q : Nat} (hg : g ≤ 96) (h : es_an G g = some q) : q < 96 := by
  cases c : es_lf G (96 - g) g with
  | none =>
    rw [es_an_n c] at h
    have := es_lf_lt _ _ _ h
    omega
  | some r =>
    rw [es_an_s c] at h
    have e := Option.some.inj h
    have := es_lf_lt _ _ _ c
    omega
/-- the goal for logical block b of file f -/
def es_go (F : Nat → Int32) (f : Nat) : Nat → Nat
  | 0 => 16 * f
  | b + 1 => if F (32 * f + b) = -1 then es_go F f b else ((F (32 * f + b)).toNatClampNeg + 1) % 96
theorem es_go_lt {F : Nat → Int32} {f : Nat} (hf : f < 6) : ∀ b, es_go F f b < 96 := by
  intro b
  induction b with
  | zero => show 16 * f < 96; omega
  | succ b ih =>
    simp only [es_go]
    split
    · exact ih
    · exact Nat.mod_lt _ (by decide)
theorem es_go_h {F : Nat → Int32} {f b : Nat} (h : F (32 * f + b) = -1) : es_go F f (b + 1) = es_go F f b := if_pos h
theorem es_go_m {F : Nat → Int32} {f b p : Nat} (hp : p < 96) (h : F (32 * f + b) = nI p) : es_go F f (b + 1) = (p + 1) % 96 := by
  simp only [es_go]
  rw [if_neg (by rw [h]; exact es_ne (by omega)), h, nI_clamp (by omega)]
/-- mapped blocks, extents -/
def es_mc (F : Nat → Int32) (f : Nat) : Nat → Nat
  | 0 => 0
  | b + 1 => if F (32 * f + b) = -1 then es_mc F f b else es_mc F f b + 1
theorem es_mc_le (F : Nat → Int32) (f : Nat) : ∀ b, es_mc F f b ≤ b := by
  intro b
  induction b with
  | zero => exact Nat.le_refl 0
  | succ b ih =>
    simp only [es_mc]
    split <;> omega
theorem es_mc_mo (F : Nat → Int32) (f b : Nat) : ∀ d, es_mc F f b ≤ es_mc F f (b + d) := by
  intro d
  induction d with
  | zero => exact Nat.le_refl _
  | succ d ih =>
    rw [Nat.add_succ]
    simp only [es_mc]
    split <;> omega
theorem es_mc_st {F : Nat → Int32} {f b n : Nat} (h : ¬ F (32 * f + b) = -1) (hb : b < n) : es_mc F f b + 1 ≤ es_mc F f n := by
  have e : es_mc F f (b + 1) = es_mc F f b + 1 := if_neg h
  have z := es_mc_mo F f (b + 1) (n - (b + 1))
  rw [show b + 1 + (n - (b + 1)) = n from by omega] at z
  omega
def es_pv (F : Nat → Int32) (f : Nat) : Nat → Int32
  | 0 => -1
  | b + 1 => F (32 * f + b)
def es_ex (F : Nat → Int32) (f : Nat) : Nat → Nat
  | 0 => 0
  | b + 1 => if F (32 * f + b) = -1 ∨ (¬ es_pv F f b = -1 ∧ F (32 * f + b) = es_pv F f b + 1) then es_ex F f b else es_ex F f b + 1
theorem es_ex_le (F : Nat → Int32) (f : Nat) : ∀ b, es_ex F f b ≤ b := by
  intro b
  induction b with
  | zero => exact Nat.le_refl 0
  | succ b ih =>
    simp only [es_ex]
    split <;> omega
/-- the least row of n free blocks, among d from p on, r free ones standing right before p -/
def es_gs (G : Nat → Bool) (n : Nat) : Nat → Nat → Nat → Option Nat
  | 0, _, _ => none
  | d + 1, p, r => if G p = true then (if r + 1 = n then some (p + 1 - n) else es_gs G n d (p + 1) (r + 1)) else es_gs G n d (p + 1) 0
theorem es_gs_lt {G : Nat → Bool} {n : Nat} : ∀ d p r q, r ≤ p → es_gs G n d p r = some q → q + n ≤ p + d := by
  intro d
  induction d with
  | zero => intro p r q _ h; exact nomatch h
  | succ d ih =>
    intro p r q hr h
    simp only [es_gs] at h
    by_cases g : G p = true
    · rw [if_pos g] at h
      by_cases e : r + 1 = n
      · rw [if_pos e] at h
        have z := Option.some.inj h
        omega
      · rw [if_neg e] at h
        have z := ih (p + 1) (r + 1) q (by omega) h
        omega
    · rw [if_neg g] at h
      have z := ih (p + 1) 0 q (by omega) h
      omega
/-- the move of file f to the blocks from st on, b logical blocks done: values, maps, next block -/
def es_mv (D F : Nat → Int32) (f st : Nat) : Nat → (Nat → Int32) × (Nat → Int32) × Nat
  | 0 => (D, F, st)
  | b + 1 => if F (32 * f + b) = -1 then es_mv D F f st b else
      (upd (es_mv D F f st b).1 (es_mv D F f st b).2.2 ((es_mv D F f st b).1 (F (32 * f + b)).toNatClampNeg),
       upd (es_mv D F f st b).2.1 (32 * f + b) (nI (es_mv D F f st b).2.2), (es_mv D F f st b).2.2 + 1)
theorem es_mv_h {D F : Nat → Int32} {f st b : Nat} (h : F (32 * f + b) = -1) : es_mv D F f st (b + 1) = es_mv D F f st b := if_pos h
theorem es_mv_m {D F : Nat → Int32} {f st b : Nat} (h : ¬ F (32 * f + b) = -1) : es_mv D F f st (b + 1) =
      (upd (es_mv D F f st b).1 (es_mv D F f st b).2.2 ((es_mv D F f st b).1 (F (32 * f + b)).toNatClampNeg),
       upd (es_mv D F f st b).2.1 (32 * f + b) (nI (es_mv D F f st b).2.2), (es_mv D F f st b).2.2 + 1) := if_neg h
theorem es_mv_p (D F : Nat → Int32) (f st : Nat) : ∀ b, (es_mv D F f st b).2.2 = st + es_mc F f b := by
  intro b
  induction b with
  | zero => rfl
  | succ b ih =>
    by_cases h : F (32 * f + b) = -1
    · rw [es_mv_h h, ih]
      simp only [es_mc]
      rw [if_pos h]
    · rw [es_mv_m h]
      show (es_mv D F f st b).2.2 + 1 = _
      rw [ih]
      simp only [es_mc]
      rw [if_neg h]
      omega
theorem es_mv_F (D F : Nat → Int32) (f st : Nat) : ∀ b k, 32 * f + b ≤ k → (es_mv D F f st b).2.1 k = F k := by
  intro b
  induction b with
  | zero => intro k _; rfl
  | succ b ih =>
    intro k hk
    by_cases h : F (32 * f + b) = -1
    · rw [es_mv_h h]
      exact ih k (by omega)
    · rw [es_mv_m h]
      show upd (es_mv D F f st b).2.1 (32 * f + b) (nI (es_mv D F f st b).2.2) k = _
      rw [pk_un (by omega)]
      exact ih k (by omega)
theorem es_mv_R {D F : Nat → Int32} {f st n : Nat} (hF : es_R 192 F) (hn : st + es_mc F f n ≤ 96) : ∀ b, b ≤ n → es_R 192 (es_mv D F f st b).2.1 := by
  intro b
  induction b with
  | zero => intro _; exact hF
  | succ b ih =>
    intro hb
    by_cases h : F (32 * f + b) = -1
    · rw [es_mv_h h]
      exact ih (by omega)
    · rw [es_mv_m h]
      have z := es_mc_st h hb
      show es_R 192 (upd (es_mv D F f st b).2.1 (32 * f + b) (nI (es_mv D F f st b).2.2))
      exact es_R_upd (ih (by omega)) (by rw [es_mv_p]; omega)
