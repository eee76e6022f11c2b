section
/-! rows pasted from kit/rows (PURE-ROWS) -/
theorem pk_us {f : Nat → Int32} {k : Nat} {x : Int32} : upd f k x k = x := if_pos rfl
theorem pk_un {f : Nat → Int32} {k j : Nat} {x : Int32} (h : j ≠ k) : upd f k x j = f j := if_neg h
theorem pk_sub {a b : Nat} (h : b ≤ a) : nI a - nI b = nI (a - b) := by
  obtain ⟨c, rfl⟩ : ∃ c, a = c + b := ⟨a - b, by omega⟩
  rw [← nI_add, Int32.add_sub_cancel, Nat.add_sub_cancel]
theorem pk_m1 (n : Nat) : nI (n + 1) + (-1) = nI n := by
  rw [← nI_1, Int32.add_assoc, show (1 : Int32) + (-1) = 0 from rfl, Int32.add_zero]
theorem pk_mul (a b : Nat) : nI a * nI b = nI (a * b) := (Int32.ofNat_mul a b).symm
theorem pk_div {a d : Nat} (ha : a < 2 ^ 31) (h0 : 0 < d) (hd : d < 2 ^ 31) : nI a / nI d = nI (a / d) := by
  apply Int32.toInt_inj.mp
  rw [lg_idiv_nonneg (by rw [nI_toInt ha]; omega) (by rw [nI_toInt hd]; omega), nI_toInt ha, nI_toInt hd, nI_toInt (Nat.lt_of_le_of_lt (Nat.div_le_self a d) ha)]
  first | rfl | exact (Int.natCast_ediv _ _).symm
theorem pk_rem {a d : Nat} (ha : a < 2 ^ 31) (h0 : 0 < d) (hd : d < 2 ^ 31) : nI a - nI a / nI d * nI d = nI (a % d) := by
  rw [pk_div ha h0 hd, pk_mul, pk_sub (Nat.div_mul_le_self a d)]
  exact congrArg nI (by have := Nat.div_add_mod' a d; omega)
theorem pk_sub_toInt {a b : Nat} (ha : a < 2 ^ 30) (hb : b < 2 ^ 30) : (nI a - nI b).toInt = (a : Int) - b := by
  rw [Int32.toInt_sub, nI_toInt (by omega), nI_toInt (by omega)]
  exact Int.bmod_eq_of_le (by omega) (by omega)
theorem pk_sneg {a b : Nat} (hb : b < 2 ^ 30) (h : a < b) : nI a - nI b < 0 := by
  rw [Int32.lt_iff_toInt_lt, pk_sub_toInt (by omega) hb, show (0 : Int32).toInt = 0 from by decide]
  omega
theorem pk_ix (x : Int32) {n : Nat} (hn : n < 2 ^ 31) : x < 0 ∨ nI n ≤ x ∨ ∃ j : Nat, j < n ∧ x = nI j := by
  by_cases h : x < 0
  · exact Or.inl h
  · obtain ⟨j, hj, rfl⟩ := nI_of h
    by_cases h2 : j < n
    · exact Or.inr (Or.inr ⟨j, h2, rfl⟩)
    · exact Or.inr (Or.inl (nI_le (by omega) hj))
theorem pk_le {x y : Int32} {A B : Prop} (a b : Nat) (f : a ≤ b → A) (g : b < a → B) (hx : x = nI a := by rfl) (hy : y = nI b := by rfl) (ha : a < 2 ^ 31 := by omega) (hb : b < 2 ^ 31 := by omega) : (x ≤ y → A) ∧ (¬ x ≤ y → B) := by
  subst hx hy
  rw [nI_leI ha hb]
  exact ⟨f, fun z => g (by omega)⟩
theorem pk_lt {x y : Int32} {A B : Prop} (a b : Nat) (f : a < b → A) (g : b ≤ a → B) (hx : x = nI a := by rfl) (hy : y = nI b := by rfl) (ha : a < 2 ^ 31 := by omega) (hb : b < 2 ^ 31 := by omega) : (x < y → A) ∧ (¬ x < y → B) := by
  subst hx hy
  rw [nI_ltI ha hb]
  exact ⟨f, fun z => g (by omega)⟩
theorem pk_eq {x y : Int32} {A B : Prop} (a b : Nat) (f : a = b → A) (g : a ≠ b → B) (hx : x = nI a := by rfl) (hy : y = nI b := by rfl) (ha : a < 2 ^ 31 := by omega) (hb : b < 2 ^ 31 := by omega) : (x = y → A) ∧ (¬ x = y → B) := by
  subst hx hy
  rw [nI_eq ha hb]
  exact ⟨f, g⟩
theorem pk_in {x : Int32} (n N : Nat) (h : n < N) (hx : x = nI n := by rfl) (hN : N < 2 ^ 31 := by omega) : vp_in x N := by
  subst hx
  exact vp_in_nI h hN
theorem pk_cl {x : Int32} (n : Nat) (hx : x = nI n := by rfl) (h : n < 2 ^ 31 := by omega) : x.toNatClampNeg = n := by
  subst hx
  exact nI_clamp h
theorem ek_if {c d A B : Prop} (e : c ↔ d) (f : d → A) (g : ¬ d → B) : (c → A) ∧ (¬ c → B) :=
  ⟨fun z => f (e.mp z), fun z => g (fun y => z (e.mpr y))⟩
end
section
/-! the pure pictures: counts, least free block, goal, runs, extents, moves, copies -/
theorem es_n32 : nI 32 = 32 := by decide +kernel
theorem es_n96 : nI 96 = 96 := by decide +kernel
theorem es_n192 : nI 192 = 192 := by decide +kernel
theorem es_ne {p : Nat} (h : p < 2 ^ 31) : ¬ nI p = -1 := by
  intro e
  have h1 := nI_toInt h
  rw [e, show (-1 : Int32).toInt = -1 from by decide] at h1
  omega
theorem es_m1lt : (-1 : Int32) < 0 := by decide
theorem es_m1le : ¬ (0 : Int32) ≤ -1 := by decide
theorem es_ix (f b : Nat) : nI f * 32 + nI b = nI (32 * f + b) := by
  rw [← es_n32, pk_mul, nI_add, Nat.mul_comm]
theorem es_iy (f b : Nat) : 32 * nI f + nI b = nI (32 * f + b) := by
  rw [← es_n32, pk_mul, nI_add]
theorem es_ix0 (f : Nat) : nI f * 32 = nI (32 * f) := by
  rw [← es_n32, pk_mul, Nat.mul_comm]
theorem es_iy0 (f : Nat) : 32 * nI f = nI (32 * f) := by
  rw [← es_n32, pk_mul]
/-- a map: a hole or a block of the disk at each place below n -/
def es_R (n : Nat) (a : Nat → Int32) : Prop := ∀ k, k < n → a k = -1 ∨ ∃ p : Nat, p < 96 ∧ a k = nI p
theorem es_R_upd {n : Nat} {a : Nat → Int32} {i p : Nat} (h : es_R n a) (hp : p < 96) : es_R n (upd a i (nI p)) := by
  intro k hk
  by_cases e : k = i
  · subst e
    rw [pk_us]
    exact Or.inr ⟨p, hp, rfl⟩
  · rw [pk_un e]
    exact h k hk
/-- at how many places below n the array holds x -/
def es_ct (a : Nat → Int32) (x : Int32) : Nat → Nat
  | 0 => 0
  | n + 1 => if a n = x then es_ct a x n + 1 else es_ct a x n
theorem es_ct_le (a : Nat → Int32) (x : Int32) : ∀ n, es_ct a x n ≤ n := by
  intro n
  induction n with
  | zero => exact Nat.le_refl 0
  | succ n ih =>
    simp only [es_ct]
    split <;> omega
theorem es_ct_z {a : Nat → Int32} {x : Int32} : ∀ {n : Nat}, es_ct a x n = 0 ↔ ∀ k, k < n → ¬ a k = x := by
  intro n
  induction n with
  | zero => exact ⟨fun _ k hk => absurd hk (Nat.not_lt_zero k), fun _ => rfl⟩
  | succ n ih =>
    simp only [es_ct]
    by_cases h : a n = x
    · rw [if_pos h]
      exact ⟨fun z => absurd z (Nat.succ_ne_zero _), fun z => absurd h (z n (Nat.lt_succ_self n))⟩
    · rw [if_neg h, ih]
      exact ⟨fun z => lt_s z h, fun z k hk => z k (Nat.lt_succ_of_lt hk)⟩
/-- the same over the snapshots that are there -/
def es_cT (T P : Nat → Int32) (x : Int32) : Nat → Nat
  | 0 => 0
  | n + 1 => if ¬ T (n / 32) = 0 ∧ P n = x then es_cT T P x n + 1 else es_cT T P x n
def es_Sn (T S P : Nat → Int32) : Prop := ∀ k, k < 96 → (¬ T (k / 32) = 0 → S k = P k) ∧ (T (k / 32) = 0 → S k = -1)
theorem es_cTS {T S P : Nat → Int32} {x : Int32} (h : es_Sn T S P) (hx : ¬ x = -1) : ∀ n, n ≤ 96 → es_cT T P x n = es_ct S x n := by
  intro n
  induction n with
  | zero => intro _; rfl
  | succ n ih =>
    intro hn
    have e := ih (by omega)
    have hh := h n (by omega)
    simp only [es_cT, es_ct, e]
    by_cases ht : T (n / 32) = 0
    · have hs := hh.2 ht
      rw [if_neg (fun z => z.1 ht), if_neg (fun z => hx (z.symm.trans hs))]
    · have hs := hh.1 ht
      rw [hs]
      by_cases hp : P n = x
      · rw [if_pos ⟨ht, hp⟩, if_pos hp]
      · rw [if_neg (fun z => hp z.2), if_neg hp]
/-- at how many places below n the two differ -/
def es_df (a b : Nat → Int32) : Nat → Nat
  | 0 => 0
  | n + 1 => if a n = b n then es_df a b n else es_df a b n + 1
theorem es_df_le (a b : Nat → Int32) : ∀ n, es_df a b n ≤ n := by
  intro n
  induction n with
  | zero => exact Nat.le_refl 0
  | succ n ih =>
    simp only [es_df]
    split <;> omega
theorem es_df_sy (a b : Nat → Int32) : ∀ n, es_df a b n = es_df b a n := by
  intro n
  induction n with
  | zero => rfl
  | succ n ih =>
    simp only [es_df]
    by_cases h : a n = b n
    · rw [if_pos h, if_pos h.symm, ih]
    · rw [if_neg h, if_neg (fun z => h z.symm), ih]
/-- places t + i up to t + j hold what the source holds from s + i on -/
def es_cp (a b : Nat → Int32) (t s i j : Nat) : Nat → Int32 := fun k => if t + i ≤ k ∧ k < t + j then b (s + (k - t)) else a k
theorem es_cp_in {a b : Nat → Int32} {t s i j k : Nat} (h : t + i ≤ k) (h' : k < t + j) : es_cp a b t s i j k = b (s + (k - t)) := if_pos ⟨h, h'⟩
theorem es_cp_lo {a b : Nat → Int32} {t s i j k : Nat} (h : k < t + i) : es_cp a b t s i j k = a k := if_neg (fun z => by omega)
theorem es_cp_hi {a b : Nat → Int32} {t s i j k : Nat} (h : t + j ≤ k) : es_cp a b t s i j k = a k := if_neg (fun z => by omega)
theorem es_cp_0 (a b : Nat → Int32) (t s i : Nat) : es_cp a b t s i i = a := by
  funext k
  exact if_neg (fun z => by omega)
theorem es_cp_up (a b : Nat → Int32) (t s i j : Nat) (h : i ≤ j) : upd (es_cp a b t s i j) (t + j) (b (s + j)) = es_cp a b t s i (j + 1) := by
  funext k
  by_cases e : k = t + j
  · subst e
    rw [pk_us, es_cp_in (by omega) (by omega)]
    exact congrArg b (by omega)
  · rw [pk_un e]
    unfold es_cp
    by_cases c : t + i ≤ k ∧ k < t + j
    · rw [if_pos c, if_pos ⟨c.1, by omega⟩]
    · rw [if_neg c, if_neg (fun z => c ⟨z.1, by omega⟩)]
theorem es_cp_dn (a b : Nat → Int32) (t s i j : Nat) (h : i < j) : upd (es_cp a b t s (i + 1) j) (t + i) (b (s + i)) = es_cp a b t s i j := by
  funext k
  by_cases e : k = t + i
  · subst e
    rw [pk_us, es_cp_in (by omega) (by omega)]
    exact congrArg b (by omega)
  · rw [pk_un e]
    unfold es_cp
    by_cases c : t + (i + 1) ≤ k ∧ k < t + j
    · rw [if_pos c, if_pos ⟨by omega, c.2⟩]
    · rw [if_neg c, if_neg (fun z => c ⟨by omega, z.2⟩)]
theorem es_R_cp {n m : Nat} {a b : Nat → Int32} {t s i j : Nat} (ha : es_R n a) (hb : es_R m b) (h : s + j ≤ m) : es_R n (es_cp a b t s i j) := by
  intro k hk
  by_cases c : t + i ≤ k ∧ k < t + j
  · rw [es_cp_in c.1 c.2]
    exact hb _ (by omega)
  · unfold es_cp
    rw [if_neg c]
    exact ha k hk
/-- all of the second below n, the first behind it -/
theorem es_cp_all (a b : Nat → Int32) (n : Nat) : ∀ k, k < n → es_cp a b 0 0 0 n k = b k := by
  intro k hk
  rw [es_cp_in (by omega) (by omega)]
  exact congrArg b (by omega)
theorem es_cp_st (a b : Nat → Int32) (j : Nat) : upd (es_cp a b 0 0 0 j) j (b j) = es_cp a b 0 0 0 (j + 1) := by
  have h := es_cp_up a b 0 0 0 j (Nat.zero_le j)
  rw [Nat.zero_add] at h
  exact h
theorem es_cp_sk {a b : Nat → Int32} {j : Nat} (e : a j = b j) : es_cp a b 0 0 0 j = es_cp a b 0 0 0 (j + 1) := by
  rw [← es_cp_st]
  funext k
  by_cases c : k = j
  · subst c
    rw [pk_us, es_cp_hi (by omega), e]
  · rw [pk_un c]
/-- holes at t up to t + j -/
def es_ho (a : Nat → Int32) (t j : Nat) : Nat → Int32 := fun k => if t ≤ k ∧ k < t + j then -1 else a k
theorem es_ho_0 (a : Nat → Int32) (t : Nat) : es_ho a t 0 = a := by
  funext k
  exact if_neg (fun z => by omega)
theorem es_ho_up (a : Nat → Int32) (t j : Nat) : upd (es_ho a t j) (t + j) (-1) = es_ho a t (j + 1) := by
  funext k
  by_cases e : k = t + j
  · subst e
    rw [pk_us]
    exact (if_pos ⟨by omega, by omega⟩).symm
  · rw [pk_un e]
    unfold es_ho
    by_cases c : t ≤ k ∧ k < t + j
    · rw [if_pos c, if_pos ⟨c.1, by omega⟩]
    · rw [if_neg c, if_neg (fun z => c ⟨z.1, by omega⟩)]
theorem es_R_ho {n : Nat} {a : Nat → Int32} {t j : Nat} (ha : es_R n a) : es_R n (es_ho a t j) := by
  intro k hk
  unfold es_ho
  by_cases c : t ≤ k ∧ k < t + j
  · rw [if_pos c]; exact Or.inl rfl
  · rw [if_neg c]; exact ha k hk
/-- users and free blocks -/
def es_us (F S : Nat → Int32) (x : Int32) : Nat := es_ct F x 192 + es_ct S x 96
theorem es_us_le (F S : Nat → Int32) (x : Int32) : es_us F S x ≤ 288 := by
  have h1 := es_ct_le F x 192
  have h2 := es_ct_le S x 96
  unfold es_us
  omega
def es_G (F C S : Nat → Int32) (p : Nat) : Bool := decide (es_us F S (nI p) = 0) && decide (es_ct C (nI p) 192 = 0)
theorem es_G_t {F C S : Nat → Int32} {p : Nat} : es_G F C S p = true ↔ es_us F S (nI p) = 0 ∧ es_ct C (nI p) 192 = 0 := by
  unfold es_G
  rw [Bool.and_eq_true, decide_eq_true_iff, decide_eq_true_iff]
/-- runs of free blocks -/
def es_rn (G : Nat → Bool) : Nat → Nat
  | 0 => 0
  | p + 1 => if G p = true then es_rn G p + 1 else 0
def es_al (G : Nat → Bool) : Nat → Nat
  | 0 => 0
  | p + 1 => if 0 < es_rn G (p + 1) then es_al G p + 1 else es_al G p
def es_rw (G : Nat → Bool) : Nat → Nat
  | 0 => 0
  | p + 1 => if es_rn G (p + 1) = 1 then es_rw G p + 1 else es_rw G p
def es_lg (G : Nat → Bool) : Nat → Nat
  | 0 => 0
  | p + 1 => if es_lg G p < es_rn G (p + 1) then es_rn G (p + 1) else es_lg G p
theorem es_rn_le (G : Nat → Bool) : ∀ p, es_rn G p ≤ p := by
  intro p
  induction p with
  | zero => exact Nat.le_refl 0
  | succ p ih =>
    simp only [es_rn]
    split <;> omega
theorem es_al_le (G : Nat → Bool) : ∀ p, es_al G p ≤ p := by
  intro p
  induction p with
  | zero => exact Nat.le_refl 0
  | succ p ih =>
    unfold es_al
    split <;> omega
theorem es_rw_le (G : Nat → Bool) : ∀ p, es_rw G p ≤ p := by
  intro p
  induction p with
  | zero => exact Nat.le_refl 0
  | succ p ih =>
    unfold es_rw
    split <;> omega
theorem es_lg_le (G : Nat → Bool) : ∀ p, es_lg G p ≤ p := by
  intro p
  induction p with
  | zero => exact Nat.le_refl 0
  | succ p ih =>
    have h := es_rn_le G (p + 1)
    unfold es_lg
    split <;> omega
/-- the least free block among d of them from p on -/
def es_lf (G : Nat → Bool) : Nat → Nat → Option Nat
  | 0, _ => none
  | d + 1, p => if G p = true then some p else es_lf G d (p + 1)
def es_oI : Option Nat → Int32
  | none => -1
  | some q => nI q
theorem es_lf_n {G : Nat → Bool} : ∀ a b p, es_lf G a p = none → es_lf G (a + b) p = es_lf G b (p + a) := by
  intro a
  induction a with
  | zero => intro b p _; rw [Nat.zero_add, Nat.add_zero]
  | succ a ih =>
    intro b p h
    rw [Nat.succ_add]
    simp only [es_lf] at h ⊢
    by_cases g : G p = true
    · rw [if_pos g] at h; exact nomatch h
    · rw [if_neg g] at h ⊢
      rw [ih b (p + 1) h]
      exact congrArg (es_lf G b) (by omega)
theorem es_lf_s {G : Nat → Bool} : ∀ a b p q, es_lf G a p = some q → es_lf G (a + b) p = some q := by
  intro a
  induction a with
  | zero => intro b p q h; exact nomatch h
  | succ a ih =>
    intro b p q h
    rw [Nat.succ_add]
    simp only [es_lf] at h ⊢
    by_cases g : G p = true
    · rw [if_pos g] at h ⊢; exact h
    · rw [if_neg g] at h ⊢
      exact ih b (p + 1) q h
theorem es_lf_lt {G : Nat → Bool} : ∀ d p q, es_lf G d p = some q → p ≤ q ∧ q < p + d := by
  intro d
  induction d with
  | zero => intro p q h; exact nomatch h
  | succ d ih =>
    intro p q h
    simp only [es_lf] at h
    by_cases g : G p = true
    · rw [if_pos g] at h
      have e := Option.some.inj h
      omega
    · rw [if_neg g] at h
      have e := ih (p + 1) q h
      omega
/-- the block that is taken at a goal -/
def es_an (G : Nat → Bool) (g : Nat) : Option Nat := match es_lf G (96 - g) g with
  | some q => some q
  | none => es_lf G g 0
theorem es_an_s {G : Nat → Bool} {g q : Nat} (h : es_lf G (96 - g) g = some q) : es_an G g = some q := by
  unfold es_an
  rw [h]
theorem es_an_n {G : Nat → Bool} {g : Nat} (h : es_lf G (96 - g) g = none) : es_an G g = es_lf G g 0 := by
  unfold es_an
  rw [h]
theorem es_an_x {G : Nat → Bool} {g : Nat} (hg : g ≤ 96) (h : es_lf G (96 - g) g = none) : es_lf G 96 0 = es_an G g := by
  rw [es_an_n h]
  have e : 96 = g + (96 - g) := by omega
  cases c : es_lf G g 0 with
  | none =>
    have z := es_lf_n g (96 - g) 0 c
    rw [← e, Nat.zero_add, h] at z
    exact z
  | some q =>
    have z := es_lf_s g (96 - g) 0 q c
    rw [← e] at z
    exact z
theorem es_an_lt {G : Nat → Bool} {g q : Nat} (hg : g ≤ 96) (h : es_an G g = some q) : q < 96 := by
  cases c : es_lf G (96 - g) g with
  | none =>
    rw [es_an_n c] at h
    have := es_lf_lt _ _ _ h
    omega
  | some r =>
    rw [es_an_s c] at h
    have e := Option.some.inj h
    have := es_lf_lt _ _ _ c
    omega
/-- the goal for logical block b of file f -/
def es_go (F : Nat → Int32) (f : Nat) : Nat → Nat
  | 0 => 16 * f
  | b + 1 => if F (32 * f + b) = -1 then es_go F f b else ((F (32 * f + b)).toNatClampNeg + 1) % 96
theorem es_go_lt {F : Nat → Int32} {f : Nat} (hf : f < 6) : ∀ b, es_go F f b < 96 := by
  intro b
  induction b with
  | zero => show 16 * f < 96; omega
  | succ b ih =>
    simp only [es_go]
    split
    · exact ih
    · exact Nat.mod_lt _ (by decide)
theorem es_go_h {F : Nat → Int32} {f b : Nat} (h : F (32 * f + b) = -1) : es_go F f (b + 1) = es_go F f b := if_pos h
theorem es_go_m {F : Nat → Int32} {f b p : Nat} (hp : p < 96) (h : F (32 * f + b) = nI p) : es_go F f (b + 1) = (p + 1) % 96 := by
  simp only [es_go]
  rw [if_neg (by rw [h]; exact es_ne (by omega)), h, nI_clamp (by omega)]
/-- mapped blocks, extents -/
def es_mc (F : Nat → Int32) (f : Nat) : Nat → Nat
  | 0 => 0
  | b + 1 => if F (32 * f + b) = -1 then es_mc F f b else es_mc F f b + 1
theorem es_mc_le (F : Nat → Int32) (f : Nat) : ∀ b, es_mc F f b ≤ b := by
  intro b
  induction b with
  | zero => exact Nat.le_refl 0
  | succ b ih =>
    simp only [es_mc]
    split <;> omega
theorem es_mc_mo (F : Nat → Int32) (f b : Nat) : ∀ d, es_mc F f b ≤ es_mc F f (b + d) := by
  intro d
  induction d with
  | zero => exact Nat.le_refl _
  | succ d ih =>
    rw [Nat.add_succ]
    simp only [es_mc]
    split <;> omega
theorem es_mc_st {F : Nat → Int32} {f b n : Nat} (h : ¬ F (32 * f + b) = -1) (hb : b < n) : es_mc F f b + 1 ≤ es_mc F f n := by
  have e : es_mc F f (b + 1) = es_mc F f b + 1 := if_neg h
  have z := es_mc_mo F f (b + 1) (n - (b + 1))
  rw [show b + 1 + (n - (b + 1)) = n from by omega] at z
  omega
def es_pv (F : Nat → Int32) (f : Nat) : Nat → Int32
  | 0 => -1
  | b + 1 => F (32 * f + b)
def es_ex (F : Nat → Int32) (f : Nat) : Nat → Nat
  | 0 => 0
  | b + 1 => if F (32 * f + b) = -1 ∨ (¬ es_pv F f b = -1 ∧ F (32 * f + b) = es_pv F f b + 1) then es_ex F f b else es_ex F f b + 1
theorem es_ex_le (F : Nat → Int32) (f : Nat) : ∀ b, es_ex F f b ≤ b := by
  intro b
  induction b with
  | zero => exact Nat.le_refl 0
  | succ b ih =>
    simp only [es_ex]
    split <;> omega
/-- the least row of n free blocks, among d from p on, r free ones standing right before p -/
def es_gs (G : Nat → Bool) (n : Nat) : Nat → Nat → Nat → Option Nat
  | 0, _, _ => none
  | d + 1, p, r => if G p = true then (if r + 1 = n then some (p + 1 - n) else es_gs G n d (p + 1) (r + 1)) else es_gs G n d (p + 1) 0
theorem es_gs_lt {G : Nat → Bool} {n : Nat} : ∀ d p r q, r ≤ p → es_gs G n d p r = some q → q + n ≤ p + d := by
  intro d
  induction d with
  | zero => intro p r q _ h; exact nomatch h
  | succ d ih =>
    intro p r q hr h
    simp only [es_gs] at h
    by_cases g : G p = true
    · rw [if_pos g] at h
      by_cases e : r + 1 = n
      · rw [if_pos e] at h
        have z := Option.some.inj h
        omega
      · rw [if_neg e] at h
        have z := ih (p + 1) (r + 1) q (by omega) h
        omega
    · rw [if_neg g] at h
      have z := ih (p + 1) 0 q (by omega) h
      omega
/-- the move of file f to the blocks from st on, b logical blocks done: values, maps, next block -/
def es_mv (D F : Nat → Int32) (f st : Nat) : Nat → (Nat → Int32) × (Nat → Int32) × Nat
  | 0 => (D, F, st)
  | b + 1 => if F (32 * f + b) = -1 then es_mv D F f st b else
      (upd (es_mv D F f st b).1 (es_mv D F f st b).2.2 ((es_mv D F f st b).1 (F (32 * f + b)).toNatClampNeg),
       upd (es_mv D F f st b).2.1 (32 * f + b) (nI (es_mv D F f st b).2.2), (es_mv D F f st b).2.2 + 1)
theorem es_mv_h {D F : Nat → Int32} {f st b : Nat} (h : F (32 * f + b) = -1) : es_mv D F f st (b + 1) = es_mv D F f st b := if_pos h
theorem es_mv_m {D F : Nat → Int32} {f st b : Nat} (h : ¬ F (32 * f + b) = -1) : es_mv D F f st (b + 1) =
      (upd (es_mv D F f st b).1 (es_mv D F f st b).2.2 ((es_mv D F f st b).1 (F (32 * f + b)).toNatClampNeg),
       upd (es_mv D F f st b).2.1 (32 * f + b) (nI (es_mv D F f st b).2.2), (es_mv D F f st b).2.2 + 1) := if_neg h
theorem es_mv_p (D F : Nat → Int32) (f st : Nat) : ∀ b, (es_mv D F f st b).2.2 = st + es_mc F f b := by
  intro b
  induction b with
  | zero => rfl
  | succ b ih =>
    by_cases h : F (32 * f + b) = -1
    · rw [es_mv_h h, ih]
      simp only [es_mc]
      rw [if_pos h]
    · rw [es_mv_m h]
      show (es_mv D F f st b).2.2 + 1 = _
      rw [ih]
      simp only [es_mc]
      rw [if_neg h]
      omega
theorem es_mv_F (D F : Nat → Int32) (f st : Nat) : ∀ b k, 32 * f + b ≤ k → (es_mv D F f st b).2.1 k = F k := by
  intro b
  induction b with
  | zero => intro k _; rfl
  | succ b ih =>
    intro k hk
    by_cases h : F (32 * f + b) = -1
    · rw [es_mv_h h]
      exact ih k (by omega)
    · rw [es_mv_m h]
      show upd (es_mv D F f st b).2.1 (32 * f + b) (nI (es_mv D F f st b).2.2) k = _
      rw [pk_un (by omega)]
      exact ih k (by omega)
theorem es_mv_R {D F : Nat → Int32} {f st n : Nat} (hF : es_R 192 F) (hn : st + es_mc F f n ≤ 96) : ∀ b, b ≤ n → es_R 192 (es_mv D F f st b).2.1 := by
  intro b
  induction b with
  | zero => intro _; exact hF
  | succ b ih =>
    intro hb
    by_cases h : F (32 * f + b) = -1
    · rw [es_mv_h h]
      exact ih (by omega)
    · rw [es_mv_m h]
      have z := es_mc_st h hb
      show es_R 192 (upd (es_mv D F f st b).2.1 (32 * f + b) (nI (es_mv D F f st b).2.2))
      exact es_R_upd (ih (by omega)) (by rw [es_mv_p]; omega)
end
section
/-! snapshots under snap, drop, revert; the count of changes -/
theorem es_Sn_snap {T S P F : Nat → Int32} {s t : Nat} {x : Int32} (h : es_Sn T S P) (hx : ¬ x = 0) : es_Sn (upd T s x) (es_cp S F (32 * s) t 0 32) (es_cp P F (32 * s) t 0 32) := by
  intro k hk
  by_cases e : k / 32 = s
  · subst e
    rw [pk_us]
    exact ⟨fun _ => by rw [es_cp_in (by omega) (by omega), es_cp_in (by omega) (by omega)], fun z => absurd z hx⟩
  · rw [pk_un e]
    have a : ∀ Q : Nat → Int32, es_cp Q F (32 * s) t 0 32 k = Q k := fun Q => if_neg (fun z => by omega)
    rw [a, a]
    exact h k hk
theorem es_Sn_drop {T S P : Nat → Int32} {s : Nat} (h : es_Sn T S P) : es_Sn (upd T s 0) (es_ho S (32 * s) 32) P := by
  intro k hk
  by_cases e : k / 32 = s
  · subst e
    rw [pk_us]
    exact ⟨fun z => absurd rfl z, fun _ => if_pos ⟨by omega, by omega⟩⟩
  · rw [pk_un e]
    have a : es_ho S (32 * s) 32 k = S k := if_neg (fun z => by omega)
    rw [a]
    exact h k hk
theorem es_rev {T S P F : Nat → Int32} {s t : Nat} (h : es_Sn T S P) (hs : s < 3) (ht : ¬ T s = 0) : es_cp F S t (32 * s) 0 32 = es_cp F P t (32 * s) 0 32 := by
  funext k
  unfold es_cp
  by_cases c : t + 0 ≤ k ∧ k < t + 32
  · rw [if_pos c, if_pos c]
    exact (h _ (by omega)).1 (by rw [show (32 * s + (k - t)) / 32 = s from by omega]; exact ht)
  · rw [if_neg c, if_neg c]
/-- what is counted and committed behind a change -/
def es_nx (g c : Nat) (C F : Nat → Int32) : Nat × (Nat → Int32) := if c + 1 < g then (c + 1, C) else (0, es_cp C F 0 0 0 192)
theorem es_nx_l {g c : Nat} {C F : Nat → Int32} (h : c + 1 < g) : es_nx g c C F = (c + 1, C) := if_pos h
theorem es_nx_e {g c : Nat} {C F : Nat → Int32} (h : ¬ c + 1 < g) : es_nx g c C F = (0, es_cp C F 0 0 0 192) := if_neg h
theorem es_nx_lt {g c : Nat} {C F : Nat → Int32} (h : 1 ≤ g) : (es_nx g c C F).1 < g := by
  by_cases e : c + 1 < g
  · rw [es_nx_l e]; exact e
  · rw [es_nx_e e]; exact h
theorem es_nx_R {g c : Nat} {C F : Nat → Int32} (hC : es_R 192 C) (hF : es_R 192 F) : es_R 192 (es_nx g c C F).2 := by
  by_cases e : c + 1 < g
  · rw [es_nx_l e]; exact hC
  · rw [es_nx_e e]; exact es_R_cp hC hF (by omega)
/-- the marks of the blocks in use -/
def es_mk (G : Nat → Bool) (U : Nat → Int32) : Prop := ∀ p, p < 96 → (U p = 0 ↔ G p = true)
theorem es_ct_s {a : Nat → Int32} {x : Int32} {n : Nat} : es_ct a x (n + 1) = 0 ↔ es_ct a x n = 0 ∧ ¬ a n = x := by
  simp only [es_ct]
  by_cases h : a n = x
  · rw [if_pos h]
    exact ⟨fun z => absurd z (Nat.succ_ne_zero _), fun z => absurd h z.2⟩
  · rw [if_neg h]
    exact ⟨fun z => ⟨z, h⟩, fun z => z.1⟩
theorem es_G_k {F C S : Nat → Int32} {p : Nat} : es_G F C S p = true ↔ (es_ct F (nI p) 192 = 0 ∧ es_ct C (nI p) 192 = 0) ∧ es_ct S (nI p) 96 = 0 := by
  rw [es_G_t]
  unfold es_us
  omega
end
section
/-! loop combinators; argument checks; counts; marks; searches: each side's private readers -/
theorem es_lp {W : Nat → Nat → Prop} {e : Nat} (hx : ∀ n, W (n + 1) e) (hs : ∀ n i, i < e → W n (i + 1) → W (n + 1) i) : ∀ d i, i + d = e → W (d + 1) i := by
  intro d
  induction d with
  | zero =>
    intro i h
    obtain rfl : i = e := by omega
    exact hx 0
  | succ d ih =>
    intro i h
    exact hs (d + 1) i (by omega) (ih (i + 1) (by omega))
theorem es_l0 (W : Nat → Nat → Prop) (e : Nat) (hx : ∀ n, W (n + 1) e) (hs : ∀ n i, i < e → W n (i + 1) → W (n + 1) i) : ∃ n, W n 0 :=
  ⟨e + 1, es_lp hx hs e 0 (Nat.zero_add e)⟩
theorem es_ld {W : Nat → Nat → Prop} (h0 : ∀ n, W (n + 1) 0) (hs : ∀ n i, W n i → W (n + 1) (i + 1)) : ∀ e, W (e + 1) e := by
  intro e
  induction e with
  | zero => exact h0 0
  | succ e ih => exact hs (e + 1) e ih
/-- a count's predecessor -/
def es_pr : Nat → Int32
  | 0 => -1
  | i + 1 => nI i
theorem es_pr_s (i : Nat) : nI i + (-1) = es_pr i := by
  cases i with
  | zero => decide
  | succ i => exact pk_m1 i
theorem es_pr_i (i : Nat) : nI i - 1 = es_pr i := by
  cases i with
  | zero => decide
  | succ i => exact nI_pred i
theorem es_10 : ¬ (1 : Int32) = 0 := by decide
theorem es_01 : ¬ (0 : Int32) = 1 := by decide
theorem es_vb0 : vp_nar .boolean 0 = 0 := by decide
theorem es_vb1 : vp_nar .boolean 1 = 1 := by decide
/-- an argument out of its range, or a number below n -/
def es_bad (n : Nat) (x : Int32) : Prop := x < 0 ∨ nI n ≤ x
theorem es_cs (n : Nat) (hn : n < 2 ^ 31) (x : Int32) : es_bad n x ∨ ∃ j : Nat, j < n ∧ x = nI j := by
  rcases pk_ix x hn with h | h | h
  · exact Or.inl (Or.inl h)
  · exact Or.inl (Or.inr h)
  · exact Or.inr h
theorem es_no {n : Nat} {x : Int32} {A B D : Prop} (h : es_bad n x) (a : A) : (x < 0 → A) ∧ (¬ x < 0 → ((nI n ≤ x → A) ∧ (¬ nI n ≤ x → B))) := by
  rcases h with h | h
  · exact br_t h a
  · exact br_c (fun _ => a) (fun _ => br_t h a)
theorem es_ys {n j : Nat} {A B D : Prop} (h : j < n) (hn : n < 2 ^ 31) (b : B) : (nI j < 0 → A) ∧ (¬ nI j < 0 → ((nI n ≤ nI j → D) ∧ (¬ nI n ≤ nI j → B))) :=
  br_f (nI_pos (by omega)) (br_f (nI_ge h hn) b)
section
variable (g c : Int32) (D F C S T U P B : Nat → Int32)
theorem xq_file_n {post : Int32 → Prop} {x : Int32} (h : es_bad 6 x) (hp : post 0) : wpX_isFile post (g, c, D, F, C, S, T, U) x := es_no (D := True) h hp
theorem xq_file_y {post : Int32 → Prop} {j : Nat} (h : j < 6) (hp : post 1) : wpX_isFile post (g, c, D, F, C, S, T, U) (nI j) := es_ys h (by decide) hp
theorem xq_block_n {post : Int32 → Prop} {x : Int32} (h : es_bad 32 x) (hp : post 0) : wpX_isBlock post (g, c, D, F, C, S, T, U) x := es_no (D := True) h hp
theorem xq_block_y {post : Int32 → Prop} {j : Nat} (h : j < 32) (hp : post 1) : wpX_isBlock post (g, c, D, F, C, S, T, U) (nI j) := es_ys h (by decide) hp
theorem xq_snap_n {post : Int32 → Prop} {x : Int32} (h : es_bad 3 x) (hp : post 0) : wpX_isSnapshot post (g, c, D, F, C, S, T, U) x := es_no (D := True) h hp
theorem xq_snap_y {post : Int32 → Prop} {j : Nat} (h : j < 3) (hp : post 1) : wpX_isSnapshot post (g, c, D, F, C, S, T, U) (nI j) := es_ys h (by decide) hp
theorem yq_file_n {post : Int32 → Prop} {x : Int32} (h : es_bad 6 x) (hp : post 0) : wpY_file post (g, c, F, P, C, B, D, T) x := es_no (D := True) h hp
theorem yq_file_y {post : Int32 → Prop} {j : Nat} (h : j < 6) (hp : post 1) : wpY_file post (g, c, F, P, C, B, D, T) (nI j) := es_ys h (by decide) hp
theorem yq_block_n {post : Int32 → Prop} {x : Int32} (h : es_bad 32 x) (hp : post 0) : wpY_block post (g, c, F, P, C, B, D, T) x := es_no (D := True) h hp
theorem yq_block_y {post : Int32 → Prop} {j : Nat} (h : j < 32) (hp : post 1) : wpY_block post (g, c, F, P, C, B, D, T) (nI j) := es_ys h (by decide) hp
theorem yq_shot_n {post : Int32 → Prop} {x : Int32} (h : es_bad 3 x) (hp : post 0) : wpY_shot post (g, c, F, P, C, B, D, T) x := es_no (D := True) h hp
theorem yq_shot_0 {post : Int32 → Prop} {j : Nat} (h : j < 3) (ht : T j = 0) (hp : post 0) : wpY_shot post (g, c, F, P, C, B, D, T) (nI j) :=
  es_ys h (by decide) ⟨vp_in_nI h (by decide), br_t (by rw [nI_clamp (by omega)]; exact ht) hp⟩
theorem yq_shot_1 {post : Int32 → Prop} {j : Nat} (h : j < 3) (ht : ¬ T j = 0) (hp : post 1) : wpY_shot post (g, c, F, P, C, B, D, T) (nI j) :=
  es_ys h (by decide) ⟨vp_in_nI h (by decide), br_f (by rw [nI_clamp (by omega)]; exact ht) hp⟩
theorem es_ct_1 {a : Nat → Int32} {x : Int32} {i : Nat} (e : a i = x) (m : Nat) : nI (m + es_ct a x i) + 1 = nI (m + es_ct a x (i + 1)) := by
  have h : es_ct a x (i + 1) = es_ct a x i + 1 := if_pos e
  rw [h, nI_1, Nat.add_assoc]
theorem es_ct_n {a : Nat → Int32} {x : Int32} {i : Nat} (e : ¬ a i = x) : es_ct a x (i + 1) = es_ct a x i := if_neg e
theorem es_ct_0 {a : Nat → Int32} {x : Int32} {i : Nat} (e : ¬ a i = x) (m : Nat) : nI (m + es_ct a x i) + 0 = nI (m + es_ct a x (i + 1)) := by
  rw [es_ct_n e, Int32.add_zero]
theorem xu_37 {post : Int32 → Prop} {x : Int32} {m : Nat} (hp : post (nI (m + es_ct S x 96))) : ∃ n, wX_countUsers_37 post x g c D F C S T U n (nI m) 0 := by
  refine es_l0 (fun n i => wX_countUsers_37 post x g c D F C S T U n (nI (m + es_ct S x i)) (nI i)) 96 (fun n => br_t (Int32.le_refl _) hp) (fun n i hi h => ?_)
  refine br_f (nI_ge (b := 96) hi (by decide)) ⟨vp_in_nI hi (by decide), ?_⟩
  rw [nI_clamp (n := i) (by omega)]
  exact br_c (fun e => nm_r (es_ct_1 e m) (nm_r (nI_1 i) h)) (fun e => nm_r (es_ct_0 e m) (nm_r (nI_1 i) h))
theorem xu_us {post : Int32 → Prop} {x : Int32} (hp : post (nI (es_us F S x))) : wpX_countUsers post (g, c, D, F, C, S, T, U) x := by
  refine es_l0 (fun n i => wX_countUsers_4 post x g c D F C S T U n (nI (0 + es_ct F x i)) (nI i)) 192 (fun n => br_t (Int32.le_refl _) ?_) (fun n i hi h => ?_)
  · rw [Nat.zero_add]
    exact xu_37 g c D F C S T U hp
  · refine br_f (nI_ge (b := 192) hi (by decide)) ⟨vp_in_nI hi (by decide), ?_⟩
    rw [nI_clamp (n := i) (by omega)]
    exact br_c (fun e => nm_r (es_ct_1 e 0) (nm_r (nI_1 i) h)) (fun e => nm_r (es_ct_0 e 0) (nm_r (nI_1 i) h))
theorem es_lst {a : Nat → Int32} {x : Int32} {n : Nat} (h : ¬ es_ct a x n = 0) : ∃ m, m < n ∧ a m = x ∧ ∀ k, k < m → ¬ a k = x := by
  induction n with
  | zero => exact absurd rfl h
  | succ n ih =>
    by_cases z : es_ct a x n = 0
    · by_cases e : a n = x
      · exact ⟨n, Nat.lt_succ_self n, e, es_ct_z.mp z⟩
      · rw [es_ct_n e] at h
        exact absurd z h
    · obtain ⟨m, hm, e, q⟩ := ih z
      exact ⟨m, by omega, e, q⟩
theorem xk_co {post : Int32 → Prop} {x : Int32} (h0 : es_ct C x 192 = 0 → post 0) (h1 : ¬ es_ct C x 192 = 0 → post 1) : wpX_isCommitted post (g, c, D, F, C, S, T, U) x := by
  by_cases z : es_ct C x 192 = 0
  · have q := es_ct_z.mp z
    exact es_l0 (fun n i => wX_isCommitted_2 post x g c D F C S T U n (nI i)) 192 (fun n => br_t (Int32.le_refl _) (h0 z)) (fun n i hi h =>
      br_f (nI_ge (b := 192) hi (by decide)) ⟨vp_in_nI hi (by decide), br_f (by rw [nI_clamp (n := i) (by omega)]; exact q i hi) (nm_r (nI_1 i) h)⟩)
  · obtain ⟨m, hm, e, q⟩ := es_lst z
    exact es_l0 (fun n i => wX_isCommitted_2 post x g c D F C S T U n (nI i)) m (fun n =>
      br_f (nI_ge (b := 192) hm (by decide)) ⟨vp_in_nI hm (by decide), br_t (by rw [nI_clamp (n := m) (by omega)]; exact e) (h1 z)⟩) (fun n i hi h =>
      br_f (nI_ge (b := 192) (Nat.lt_trans hi hm) (by decide)) ⟨vp_in_nI (Nat.lt_trans hi hm) (by decide), br_f (by rw [nI_clamp (n := i) (by omega)]; exact q i hi) (nm_r (nI_1 i) h)⟩)
theorem yk_co {post : Int32 → Prop} {x : Int32} (h0 : es_ct C x 192 = 0 → post 0) (h1 : ¬ es_ct C x 192 = 0 → post 1) : wpY_kept post (g, c, F, P, C, B, D, T) x := by
  by_cases z : es_ct C x 192 = 0
  · have q := es_ct_z.mp z
    exact es_l0 (fun n i => wY_kept_2 post x g c F P C B D T n (nI i)) 192 (fun n => br_t (Int32.le_refl _) (h0 z)) (fun n i hi h =>
      br_f (nI_ge (b := 192) hi (by decide)) ⟨vp_in_nI hi (by decide), br_f (by rw [nI_clamp (n := i) (by omega)]; exact q i hi) (nm_r (nI_1 i) h)⟩)
  · obtain ⟨m, hm, e, q⟩ := es_lst z
    exact es_l0 (fun n i => wY_kept_2 post x g c F P C B D T n (nI i)) m (fun n =>
      br_f (nI_ge (b := 192) hm (by decide)) ⟨vp_in_nI hm (by decide), br_t (by rw [nI_clamp (n := m) (by omega)]; exact e) (h1 z)⟩) (fun n i hi h =>
      br_f (nI_ge (b := 192) (Nat.lt_trans hi hm) (by decide)) ⟨vp_in_nI (Nat.lt_trans hi hm) (by decide), br_f (by rw [nI_clamp (n := i) (by omega)]; exact q i hi) (nm_r (nI_1 i) h)⟩)
theorem es_dv {i : Nat} (h : i < 96) : nI i / 32 = nI (i / 32) := by
  have z := pk_div (a := i) (d := 32) (by omega) (by decide) (by decide)
  rw [es_n32] at z
  exact z
theorem yu_32 {post : Int32 → Prop} {x : Int32} {m : Nat} (hp : post (nI (m + es_cT T P x 96))) : ∃ n, wY_mapped_32 post x g c F P C B D T n (nI m) 0 := by
  refine es_l0 (fun n i => wY_mapped_32 post x g c F P C B D T n (nI (m + es_cT T P x i)) (nI i)) 96 (fun n => br_t (Int32.le_refl _) hp) (fun n i hi h => ?_)
  refine br_f (nI_ge (b := 96) hi (by decide)) ⟨by decide, ?_⟩
  rw [es_dv hi, nI_clamp (n := i / 32) (by omega), nI_clamp (n := i) (by omega)]
  refine ⟨vp_in_nI (by omega) (by decide), br_c (fun e => nm_r (nI_1 i) ?_) (fun e => ⟨vp_in_nI hi (by decide), br_c (fun e2 => nm_r (e' := nI (m + es_cT T P x (i + 1))) ?_ (nm_r (nI_1 i) h)) (fun e2 => nm_r (nI_1 i) ?_)⟩)⟩
  · have z : es_cT T P x (i + 1) = es_cT T P x i := if_neg (fun y => y.1 e)
    simp only [z] at h
    exact h
  · have z : es_cT T P x (i + 1) = es_cT T P x i + 1 := if_pos ⟨e, e2⟩
    rw [z, nI_1, Nat.add_assoc]
  · have z : es_cT T P x (i + 1) = es_cT T P x i := if_neg (fun y => e2 y.2)
    simp only [z] at h
    exact h
theorem yu_us {post : Int32 → Prop} {x : Int32} (hT : es_Sn T S P) (hx : ¬ x = -1) (hp : post (nI (es_us F S x))) : wpY_mapped post (g, c, F, P, C, B, D, T) x := by
  refine es_l0 (fun n i => wY_mapped_4 post x g c F P C B D T n (nI (0 + es_ct F x i)) (nI i)) 192 (fun n => br_t (Int32.le_refl _) ?_) (fun n i hi h => ?_)
  · rw [Nat.zero_add]
    refine yu_32 g c D F C T P B ?_
    rw [es_cTS hT hx 96 (Nat.le_refl 96)]
    exact hp
  · refine br_f (nI_ge (b := 192) hi (by decide)) ⟨vp_in_nI hi (by decide), ?_⟩
    rw [nI_clamp (n := i) (by omega)]
    refine br_c (fun e => nm_r (es_ct_1 e 0) (nm_r (nI_1 i) h)) (fun e => nm_r (nI_1 i) ?_)
    simp only [es_ct_n e] at h
    exact h
theorem es_ni0 {n : Nat} (h : n < 2 ^ 31) : nI n = 0 ↔ n = 0 := nI_eq (b := 0) h (by decide)
theorem es_ni1 {n : Nat} (h : n < 2 ^ 31) : nI n = 1 ↔ n = 1 := nI_eq (b := 1) h (by decide)
theorem es_us_b (F S : Nat → Int32) (x : Int32) : es_us F S x < 2 ^ 31 := Nat.lt_of_le_of_lt (es_us_le F S x) (by decide)
theorem yi_fr {post : Int32 → Prop} {p : Nat} (hT : es_Sn T S P) (hp : p < 96) (h1 : es_G F C S p = true → post 1) (h0 : ¬ es_G F C S p = true → post 0) : wpY_isFree post (g, c, F, P, C, B, D, T) (nI p) := by
  unfold wpY_isFree
  refine yu_us g c D F C S T P B hT (es_ne (by omega)) ?_
  refine br_c (fun e => ?_) (fun e => ?_)
  · rw [es_ni0 (es_us_b _ _ _)] at e
    exact yk_co g c D F C T P B (fun z => br_t rfl (h1 (es_G_t.mpr ⟨e, z⟩))) (fun z => br_f es_10 (h0 (fun y => z (es_G_t.mp y).2)))
  · rw [es_ni0 (es_us_b _ _ _)] at e
    exact h0 (fun y => e (es_G_t.mp y).1)
end
end
section
/-! marks, goal, least free block, own blocks, commits: both sides -/
theorem es_Rx {n k : Nat} {a : Nat → Int32} (h : es_R n a) (hk : k < n) : a k = -1 ∨ ∃ q : Nat, q < 96 ∧ a k = nI q := h k hk
section
variable (g c : Int32) (D F C S T U P B : Nat → Int32)
theorem xb_mark {K : Nat → Prop} {x : Int32} {post : SX → Prop} (hx : x = -1 ∨ ∃ q : Nat, q < 96 ∧ x = nI q) (hU : ∀ p, p < 96 → (U p = 0 ↔ K p))
    (h : ∀ U' : Nat → Int32, (∀ p, p < 96 → (U' p = 0 ↔ K p ∧ ¬ x = nI p)) → post (g, c, D, F, C, S, T, U')) : wpX_markBlock post (g, c, D, F, C, S, T, U) x := by
  rcases hx with rfl | ⟨q, hq, rfl⟩
  · exact br_t rfl (h U (fun p hp => (hU p hp).trans ⟨fun z => ⟨z, fun e => es_ne (p := p) (by omega) e.symm⟩, fun z => z.1⟩))
  · refine br_f (es_ne (by omega)) ⟨vp_in_nI hq (by decide), nm_e (h _ ?_)⟩
    intro p hp
    rw [nI_clamp (by omega), es_vb1]
    by_cases e : p = q
    · subst e
      rw [pk_us]
      exact ⟨fun z => absurd z es_10, fun z => absurd rfl z.2⟩
    · rw [pk_un e, hU p hp]
      exact ⟨fun z => ⟨z, fun y => e ((nI_eq (by omega) (by omega)).mp y.symm)⟩, fun z => z.1⟩
theorem xb_58 {K : Nat → Prop} {post : SX → Prop} (hS : es_R 96 S) (hp : ∀ U' : Nat → Int32, (∀ p, p < 96 → (U' p = 0 ↔ K p ∧ es_ct S (nI p) 96 = 0)) → post (g, c, D, F, C, S, T, U')) :
    (∀ p, p < 96 → (U p = 0 ↔ K p)) → ∃ n, wX_markInUse_58 post n 0 g c D F C S T U := by
  intro hU
  obtain ⟨n, hn⟩ := es_l0 (fun n i => ∀ U : Nat → Int32, (∀ p, p < 96 → (U p = 0 ↔ K p ∧ es_ct S (nI p) i = 0)) → wX_markInUse_58 post n (nI i) g c D F C S T U) 96
    (fun n U h => br_t (Int32.le_refl _) (hp U h)) (fun n i hi h U hU => by
      refine br_f (nI_ge (b := 96) hi (by decide)) ⟨vp_in_nI hi (by decide), ?_⟩
      rw [nI_clamp (n := i) (by omega)]
      refine xb_mark g c D F C S T U (hS i hi) hU (fun U' hU' => nm_r (nI_1 i) (h U' (fun p hp => ?_)))
      rw [hU' p hp, es_ct_s, and_assoc])
  exact ⟨n, hn U (fun p hp => (hU p hp).trans ⟨fun z => ⟨z, rfl⟩, fun z => z.1⟩)⟩
theorem xb_23 {post : SX → Prop} (hF : es_R 192 F) (hC : es_R 192 C) (hS : es_R 96 S) (hp : ∀ U' : Nat → Int32, es_mk (es_G F C S) U' → post (g, c, D, F, C, S, T, U')) :
    (∀ p, p < 96 → U p = 0) → ∃ n, wX_markInUse_23 post n 0 g c D F C S T U := by
  intro hU
  obtain ⟨n, hn⟩ := es_l0 (fun n i => ∀ U : Nat → Int32, (∀ p, p < 96 → (U p = 0 ↔ es_ct F (nI p) i = 0 ∧ es_ct C (nI p) i = 0)) → wX_markInUse_23 post n (nI i) g c D F C S T U) 192
    (fun n U h => br_t (Int32.le_refl _) (xb_58 g c D F C S T U hS (fun U' hU' => hp U' (fun p hq => by rw [hU' p hq, es_G_k])) h)) (fun n i hi h U hU => by
      refine br_f (nI_ge (b := 192) hi (by decide)) ⟨vp_in_nI hi (by decide), ?_⟩
      rw [nI_clamp (n := i) (by omega)]
      refine xb_mark g c D F C S T U (hF i hi) hU (fun U1 hU1 => ⟨vp_in_nI hi (by decide), xb_mark g c D F C S T U1 (hC i hi) hU1 (fun U2 hU2 => nm_r (nI_1 i) (h U2 (fun p hp => ?_)))⟩)
      rw [hU2 p hp, es_ct_s, es_ct_s]
      exact ⟨fun z => ⟨⟨z.1.1.1, z.1.2⟩, ⟨z.1.1.2, z.2⟩⟩, fun z => ⟨⟨⟨z.1.1, z.2.1⟩, z.1.2⟩, z.2.2⟩⟩)
  exact ⟨n, hn U (fun p hp => ⟨fun _ => ⟨rfl, rfl⟩, fun _ => hU p hp⟩)⟩
theorem xb_in {post : SX → Prop} (hF : es_R 192 F) (hC : es_R 192 C) (hS : es_R 96 S) (hp : ∀ U' : Nat → Int32, es_mk (es_G F C S) U' → post (g, c, D, F, C, S, T, U')) : wpX_markInUse post (g, c, D, F, C, S, T, U) := by
  obtain ⟨n, hn⟩ := es_l0 (fun n i => ∀ U : Nat → Int32, (∀ p, p < i → U p = 0) → wX_markInUse_2 post g c n (nI i) D F C S T U) 96
    (fun n U h => br_t (Int32.le_refl _) (xb_23 g c D F C S T U hF hC hS hp h)) (fun n i hi h U hU => by
      refine br_f (nI_ge (b := 96) hi (by decide)) ⟨vp_in_nI hi (by decide), ?_⟩
      rw [nI_clamp (n := i) (by omega), es_vb0]
      refine nm_e (nm_r (nI_1 i) (h _ (lt_s (fun p hp => ?_) pk_us)))
      rw [pk_un (by omega)]
      exact hU p hp)
  exact ⟨n, hn U (fun p hp => absurd hp (Nat.not_lt_zero p))⟩
theorem es_16 (f : Nat) : 16 * nI f = nI (16 * f) := by
  have h := pk_mul 16 f
  exact h
theorem xg_go {post : Int32 → Prop} {f b : Nat} (hF : es_R 192 F) (hf : f < 6) (hb : b ≤ 32) (hp : post (nI (es_go F f b))) : wpX_goalFor post (g, c, D, F, C, S, T, U) (nI f) (nI b) := by
  refine nm_r (es_pr_i b) ⟨b + 1, ?_⟩
  refine es_ld (W := fun n i => i ≤ 32 → post (nI (es_go F f i)) → wX_goalFor_4 post (nI f) g c D F C S T U n (es_pr i)) (fun n _ hp => ?_) (fun n i h hi hp => ?_) b hb hp
  · refine br_t es_m1lt ?_
    rw [es_16]
    exact hp
  · show wX_goalFor_4 post (nI f) g c D F C S T U (n + 1) (nI i)
    refine br_f (nI_pos (n := i) (by omega)) ?_
    rw [es_ix, nI_clamp (n := 32 * f + i) (by omega)]
    refine ⟨vp_in_nI (by omega) (by decide), ?_⟩
    rcases hF (32 * f + i) (by omega) with e | ⟨p, hq, e⟩
    · rw [es_go_h e] at hp
      exact nm_r e (br_t rfl (nm_r (es_pr_s i) (h (by omega) hp)))
    · rw [es_go_m hq e] at hp
      refine nm_r e (br_f (es_ne (by omega)) ?_)
      rw [nI_1]
      by_cases z : p + 1 = 96
      · rw [z] at hp ⊢
        exact br_t rfl hp
      · rw [Nat.mod_eq_of_lt (by omega)] at hp
        exact br_f (fun y => z ((nI_eq (b := 96) (by omega) (by decide)).mp y)) hp
theorem xl_lf {post : Int32 → Prop} {G : Nat → Bool} (hU : es_mk G U) : ∀ d p, p + d = 96 → (∀ q, es_lf G d p = some q → post (nI q)) → (es_lf G d p = none → post (-1)) → wX_leastFreeFrom_2 post g c D F C S T U (d + 1) (nI p) := by
  intro d
  induction d with
  | zero =>
    intro p h _ hn
    obtain rfl : p = 96 := by omega
    exact br_t (Int32.le_refl _) (hn rfl)
  | succ d ih =>
    intro p h hs hn
    refine br_f (nI_ge (b := 96) (by omega) (by decide)) ⟨vp_in_nI (by omega) (by decide), ?_⟩
    rw [nI_clamp (n := p) (by omega)]
    by_cases e : G p = true
    · exact br_t ((hU p (by omega)).mpr e) (hs p (if_pos e))
    · have z : es_lf G (d + 1) p = es_lf G d (p + 1) := if_neg e
      rw [z] at hs hn
      exact br_f (fun y => e ((hU p (by omega)).mp y)) (nm_r (nI_1 p) (ih (p + 1) (by omega) hs hn))
theorem xl_fr {post : Int32 → Prop} {G : Nat → Bool} {p : Nat} (hU : es_mk G U) (h : p ≤ 96) (hs : ∀ q, es_lf G (96 - p) p = some q → post (nI q)) (hn : es_lf G (96 - p) p = none → post (-1)) : wpX_leastFreeFrom post (g, c, D, F, C, S, T, U) (nI p) :=
  ⟨96 - p + 1, xl_lf g c D F C S T U hU (96 - p) p (by omega) hs hn⟩
theorem xa_fb {post : Int32 → SX → Prop} {f b : Nat} (hF : es_R 192 F) (hC : es_R 192 C) (hS : es_R 96 S) (hf : f < 6) (hb : b ≤ 32)
    (hs : ∀ (U' : Nat → Int32) (q : Nat), es_an (es_G F C S) (es_go F f b) = some q → post (nI q) (g, c, D, F, C, S, T, U'))
    (hn : ∀ U' : Nat → Int32, es_an (es_G F C S) (es_go F f b) = none → post (-1) (g, c, D, F, C, S, T, U')) : wpX_freeBlockFor post (g, c, D, F, C, S, T, U) (nI f) (nI b) := by
  unfold wpX_freeBlockFor
  refine xb_in g c D F C S T U hF hC hS (fun U' hU => ?_)
  dsimp only
  have hg := es_go_lt (F := F) hf b
  refine xg_go g c D F C S T U' hF hf hb ?_
  refine xl_fr g c D F C S T U' hU (by omega) (fun q e => ?_) (fun e => ?_)
  · have z := es_lf_lt _ _ _ e
    exact br_f (es_ne (by omega)) (hs U' q (es_an_s e))
  · refine br_t rfl ?_
    have z := es_an_x (by omega) e
    exact xl_fr g c D F C S T U' (p := 0) hU (by omega) (fun q e2 => hs U' q (z.symm.trans e2)) (fun e2 => hn U' (z.symm.trans e2))
/-- the block at slot k is its own -/
def es_ow (F C S : Nat → Int32) (k : Nat) : Prop := ¬ F k = -1 ∧ es_us F S (F k) = 1 ∧ es_ct C (F k) 192 = 0
theorem xo_y {post : Int32 → Prop} {k : Nat} (hk : k < 192) (h : es_ow F C S k) (hp : post 1) : wpX_isOwn post (g, c, D, F, C, S, T, U) (nI k) := by
  unfold wpX_isOwn
  dsimp only
  rw [nI_clamp (n := k) (by omega)]
  refine ⟨vp_in_nI hk (by decide), nm_e (br_f h.1 (xu_us g c D F C S T U ?_))⟩
  refine br_t ((es_ni1 (es_us_b _ _ _)).mpr h.2.1) ?_
  exact xk_co g c D F C S T U (fun _ => br_t rfl hp) (fun z => absurd h.2.2 z)
theorem xo_n {post : Int32 → Prop} {k : Nat} (hk : k < 192) (h : ¬ es_ow F C S k) (hp : post 0) : wpX_isOwn post (g, c, D, F, C, S, T, U) (nI k) := by
  unfold wpX_isOwn
  dsimp only
  rw [nI_clamp (n := k) (by omega)]
  refine ⟨vp_in_nI hk (by decide), nm_e (br_c (fun _ => hp) (fun e => xu_us g c D F C S T U (br_c (fun e1 => ?_) (fun _ => hp))))⟩
  rw [es_ni1 (es_us_b _ _ _)] at e1
  exact xk_co g c D F C S T U (fun z => absurd ⟨e, e1, z⟩ h) (fun _ => br_f es_10 hp)
theorem es_df_e {a b : Nat → Int32} {i : Nat} (e : a i = b i) : es_df a b (i + 1) = es_df a b i := if_pos e
theorem es_df_n {a b : Nat → Int32} {i : Nat} (e : ¬ a i = b i) : es_df a b (i + 1) = es_df a b i + 1 := if_neg e
theorem es_cp_at (a b : Nat → Int32) (i : Nat) : es_cp a b 0 0 0 i i = a i := es_cp_hi (by omega)
theorem xr_cf {post : Int32 → SX → Prop} (hp : post (nI (es_df C F 192)) (g, c, D, F, es_cp C F 0 0 0 192, S, T, U)) : wpX_replaceMaps__committed_files post (g, c, D, F, C, S, T, U) := by
  have z := es_l0 (fun n i => wX_replaceMaps__committed_files_5 post g c n (nI (es_df C F i)) (nI i) D F (es_cp C F 0 0 0 i) S T U) 192
    (fun n => br_t (Int32.le_refl _) hp) (fun n i hi h => by
      have hv : vp_in (nI i) 192 := vp_in_nI hi (by decide)
      refine br_f (nI_ge (b := 192) hi (by decide)) ⟨hv, hv, ?_⟩
      rw [nI_clamp (n := i) (by omega), es_cp_at]
      refine br_c (fun e => nm_r (nI_1 i) ?_) (fun e => nm_r (nI_1 _) ⟨hv, hv, nm_r (es_cp_st C F i) (nm_r (nI_1 i) ?_)⟩)
      · simp only [es_df_e e, ← es_cp_sk e] at h
        exact h
      · simp only [es_df_n e] at h
        exact h)
  rw [es_cp_0] at z
  exact z
theorem xr_fc {post : Int32 → SX → Prop} (hp : post (nI (es_df F C 192)) (g, c, D, es_cp F C 0 0 0 192, C, S, T, U)) : wpX_replaceMaps__files_committed post (g, c, D, F, C, S, T, U) := by
  have z := es_l0 (fun n i => wX_replaceMaps__files_committed_5 post g c n (nI (es_df F C i)) (nI i) D (es_cp F C 0 0 0 i) C S T U) 192
    (fun n => br_t (Int32.le_refl _) hp) (fun n i hi h => by
      have hv : vp_in (nI i) 192 := vp_in_nI hi (by decide)
      refine br_f (nI_ge (b := 192) hi (by decide)) ⟨hv, hv, ?_⟩
      rw [nI_clamp (n := i) (by omega), es_cp_at]
      refine br_c (fun e => nm_r (nI_1 i) ?_) (fun e => nm_r (nI_1 _) ⟨hv, hv, nm_r (es_cp_st F C i) (nm_r (nI_1 i) ?_)⟩)
      · simp only [es_df_e e, ← es_cp_sk e] at h
        exact h
      · simp only [es_df_n e] at h
        exact h)
  rw [es_cp_0] at z
  exact z
theorem xr_co {post : Int32 → SX → Prop} (hp : post (nI (es_df F C 192)) (g, 0, D, F, es_cp C F 0 0 0 192, S, T, U)) : wpX_commitFiles post (g, c, D, F, C, S, T, U) := by
  rw [es_df_sy] at hp
  exact xr_cf g 0 D F C S T U hp
theorem yr_df {post : Int32 → Prop} (hp : post (nI (es_df F C 192))) : wpY_differ post (g, c, F, P, C, B, D, T) := by
  refine es_l0 (fun n i => wY_differ_4 post g c F P C B D T n (nI (es_df F C i)) (nI i)) 192 (fun n => br_t (Int32.le_refl _) hp) (fun n i hi h => ?_)
  have hv : vp_in (nI i) 192 := vp_in_nI hi (by decide)
  refine br_f (nI_ge (b := 192) hi (by decide)) ⟨hv, hv, ?_⟩
  rw [nI_clamp (n := i) (by omega)]
  refine br_c (fun e => nm_r (nI_1 i) ?_) (fun e => nm_r (nI_1 _) (nm_r (nI_1 i) ?_))
  · simp only [es_df_e e] at h
    exact h
  · simp only [es_df_n e] at h
    exact h
theorem yr_sv {post : Int32 → SY → Prop} (hp : post (nI (es_df F C 192)) (g, 0, F, P, es_cp C F 0 0 0 192, B, D, T)) : wpY_save post (g, c, F, P, C, B, D, T) := by
  unfold wpY_save
  refine yr_df g c D F C T P B ?_
  have z := es_l0 (fun n i => wY_save_7 post (nI (es_df F C 192)) g c n (nI i) F P (es_cp C F 0 0 0 i) B D T) 192
    (fun n => br_t (Int32.le_refl _) hp) (fun n i hi h => by
      have hv : vp_in (nI i) 192 := vp_in_nI hi (by decide)
      refine br_f (nI_ge (b := 192) hi (by decide)) ⟨hv, hv, ?_⟩
      rw [nI_clamp (n := i) (by omega)]
      exact nm_r (es_cp_st C F i) (nm_r (nI_1 i) h))
  rw [es_cp_0] at z
  exact z
theorem yr_cr {post : Int32 → SY → Prop} (hp : post (nI (es_df F C 192)) (g, 0, es_cp F C 0 0 0 192, P, C, B, D, T)) : wpY_crash post (g, c, F, P, C, B, D, T) := by
  unfold wpY_crash
  refine yr_df g c D F C T P B ?_
  have z := es_l0 (fun n i => wY_crash_7 post (nI (es_df F C 192)) g c n (nI i) (es_cp F C 0 0 0 i) P C B D T) 192
    (fun n => br_t (Int32.le_refl _) hp) (fun n i hi h => by
      have hv : vp_in (nI i) 192 := vp_in_nI hi (by decide)
      refine br_f (nI_ge (b := 192) hi (by decide)) ⟨hv, hv, ?_⟩
      rw [nI_clamp (n := i) (by omega)]
      exact nm_r (es_cp_st F C i) (nm_r (nI_1 i) h))
  rw [es_cp_0] at z
  exact z
end
section
variable (D F C S T U P B : Nat → Int32)
theorem xc_ch {post : SX → Prop} {g c : Nat} (hc : c < g) (hg : g ≤ 20) (hp : post (nI g, nI (es_nx g c C F).1, D, F, (es_nx g c C F).2, S, T, U)) : wpX_countChange post (nI g, nI c, D, F, C, S, T, U) := by
  refine nm_r (nI_1 c) ?_
  by_cases e : c + 1 < g
  · rw [es_nx_l e] at hp
    exact br_t (nI_lt e (by omega)) hp
  · rw [es_nx_e e] at hp
    exact br_f (nI_nlt (by omega) (by omega)) (xr_co (nI g) (nI (c + 1)) D F C S T U hp)
theorem yc_ch {post : SY → Prop} {g c : Nat} (hc : c < g) (hg : g ≤ 20) (hp : post (nI g, nI (es_nx g c C F).1, F, P, (es_nx g c C F).2, B, D, T)) : wpY_changed post (nI g, nI c, F, P, C, B, D, T) := by
  refine nm_r (nI_1 c) ?_
  by_cases e : c + 1 < g
  · rw [es_nx_l e] at hp
    exact br_f (fun z => absurd ((nI_eq (by omega) (by omega)).mp z) (by omega)) hp
  · rw [es_nx_e e] at hp
    exact br_t (congrArg nI (by omega)) (yr_sv (nI g) (nI (c + 1)) D F C T P B hp)
end
end
section
/-! copies and holes, both sides (written by wip/whole/gen06.py) -/
section
variable (g c : Int32) (D F C S T U P B : Nat → Int32)
theorem xs_ff_a {post : SX → Prop} {s t m : Nat} (hts : t ≤ s) (hs : s + m ≤ 192) (ht : t + m ≤ 192) (hp : post (g, c, D, es_cp F F t s 0 m, C, S, T, U)) : ∃ n, wX_copySlots__files_files_42 post (nI s) (nI t) (nI m) g c n 0 D F C S T U := by
  have z := es_l0 (fun n i => wX_copySlots__files_files_42 post (nI s) (nI t) (nI m) g c n (nI i) D (es_cp F F t s 0 i) C S T U) m
    (fun n => br_t (Int32.le_refl _) hp) (fun n i hi h => by
      refine br_f (nI_ge (b := m) hi (by omega)) ?_
      rw [nI_add s i, nI_add t i, nI_clamp (n := s + i) (by omega), nI_clamp (n := t + i) (by omega), es_cp_hi (k := s + i) (by omega)]
      exact ⟨vp_in_nI (by omega) (by decide), vp_in_nI (by omega) (by decide), nm_r (es_cp_up F F t s 0 i (Nat.zero_le i)) (nm_r (nI_1 i) h)⟩)
  rw [es_cp_0] at z
  exact z
theorem xs_ff_d {post : SX → Prop} {s t m : Nat} (hts : s < t) (hs : s + m ≤ 192) (ht : t + m ≤ 192) (hp : post (g, c, D, es_cp F F t s 0 m, C, S, T, U)) : wX_copySlots__files_files_12 post (nI s) (nI t) g c (m + 1) (es_pr m) D F C S T U := by
  have z := es_ld (W := fun n i => i ≤ m → wX_copySlots__files_files_12 post (nI s) (nI t) g c n (es_pr i) D (es_cp F F t s i m) C S T U)
    (fun n _ => br_t es_m1lt hp) (fun n i h hi => by
      show wX_copySlots__files_files_12 post (nI s) (nI t) g c (n + 1) (nI i) D (es_cp F F t s (i + 1) m) C S T U
      refine br_f (nI_pos (n := i) (by omega)) ?_
      rw [nI_add s i, nI_add t i, nI_clamp (n := s + i) (by omega), nI_clamp (n := t + i) (by omega), es_cp_lo (k := s + i) (by omega)]
      exact ⟨vp_in_nI (by omega) (by decide), vp_in_nI (by omega) (by decide), nm_r (es_cp_dn F F t s i m hi) (nm_r (es_pr_s i) (h (by omega)))⟩) m (Nat.le_refl m)
  rw [es_cp_0] at z
  exact z
theorem xs_ff {post : SX → Prop} {s t m : Nat} (hs : s + m ≤ 192) (ht : t + m ≤ 192) (hp : post (g, c, D, es_cp F F t s 0 m, C, S, T, U)) : wpX_copySlots__files_files post (g, c, D, F, C, S, T, U) (nI s) (nI t) (nI m) := by
  by_cases e : t ≤ s
  · exact br_t (nI_le e (by omega)) (xs_ff_a g c D F C S T U e hs ht hp)
  · exact br_f (nI_ge (by omega) (by omega)) (nm_r (es_pr_i m) ⟨m + 1, xs_ff_d g c D F C S T U (by omega) hs ht hp⟩)
theorem xs_fs_a {post : SX → Prop} {s t m : Nat} (hs : s + m ≤ 192) (ht : t + m ≤ 96) (hp : post (g, c, D, F, C, es_cp S F t s 0 m, T, U)) : ∃ n, wX_copySlots__files_snapshots_42 post (nI s) (nI t) (nI m) g c n 0 D F C S T U := by
  have z := es_l0 (fun n i => wX_copySlots__files_snapshots_42 post (nI s) (nI t) (nI m) g c n (nI i) D F C (es_cp S F t s 0 i) T U) m
    (fun n => br_t (Int32.le_refl _) hp) (fun n i hi h => by
      refine br_f (nI_ge (b := m) hi (by omega)) ?_
      rw [nI_add s i, nI_add t i, nI_clamp (n := s + i) (by omega), nI_clamp (n := t + i) (by omega)]
      exact ⟨vp_in_nI (by omega) (by decide), vp_in_nI (by omega) (by decide), nm_r (es_cp_up S F t s 0 i (Nat.zero_le i)) (nm_r (nI_1 i) h)⟩)
  rw [es_cp_0] at z
  exact z
theorem xs_fs_d {post : SX → Prop} {s t m : Nat} (hs : s + m ≤ 192) (ht : t + m ≤ 96) (hp : post (g, c, D, F, C, es_cp S F t s 0 m, T, U)) : wX_copySlots__files_snapshots_12 post (nI s) (nI t) g c (m + 1) (es_pr m) D F C S T U := by
  have z := es_ld (W := fun n i => i ≤ m → wX_copySlots__files_snapshots_12 post (nI s) (nI t) g c n (es_pr i) D F C (es_cp S F t s i m) T U)
    (fun n _ => br_t es_m1lt hp) (fun n i h hi => by
      show wX_copySlots__files_snapshots_12 post (nI s) (nI t) g c (n + 1) (nI i) D F C (es_cp S F t s (i + 1) m) T U
      refine br_f (nI_pos (n := i) (by omega)) ?_
      rw [nI_add s i, nI_add t i, nI_clamp (n := s + i) (by omega), nI_clamp (n := t + i) (by omega)]
      exact ⟨vp_in_nI (by omega) (by decide), vp_in_nI (by omega) (by decide), nm_r (es_cp_dn S F t s i m hi) (nm_r (es_pr_s i) (h (by omega)))⟩) m (Nat.le_refl m)
  rw [es_cp_0] at z
  exact z
theorem xs_fs {post : SX → Prop} {s t m : Nat} (hs : s + m ≤ 192) (ht : t + m ≤ 96) (hp : post (g, c, D, F, C, es_cp S F t s 0 m, T, U)) : wpX_copySlots__files_snapshots post (g, c, D, F, C, S, T, U) (nI s) (nI t) (nI m) := by
  by_cases e : t ≤ s
  · exact br_t (nI_le e (by omega)) (xs_fs_a g c D F C S T U hs ht hp)
  · exact br_f (nI_ge (by omega) (by omega)) (nm_r (es_pr_i m) ⟨m + 1, xs_fs_d g c D F C S T U hs ht hp⟩)
theorem xs_sf_a {post : SX → Prop} {s t m : Nat} (hs : s + m ≤ 96) (ht : t + m ≤ 192) (hp : post (g, c, D, es_cp F S t s 0 m, C, S, T, U)) : ∃ n, wX_copySlots__snapshots_files_42 post (nI s) (nI t) (nI m) g c n 0 D F C S T U := by
  have z := es_l0 (fun n i => wX_copySlots__snapshots_files_42 post (nI s) (nI t) (nI m) g c n (nI i) D (es_cp F S t s 0 i) C S T U) m
    (fun n => br_t (Int32.le_refl _) hp) (fun n i hi h => by
      refine br_f (nI_ge (b := m) hi (by omega)) ?_
      rw [nI_add s i, nI_add t i, nI_clamp (n := s + i) (by omega), nI_clamp (n := t + i) (by omega)]
      exact ⟨vp_in_nI (by omega) (by decide), vp_in_nI (by omega) (by decide), nm_r (es_cp_up F S t s 0 i (Nat.zero_le i)) (nm_r (nI_1 i) h)⟩)
  rw [es_cp_0] at z
  exact z
theorem xs_sf_d {post : SX → Prop} {s t m : Nat} (hs : s + m ≤ 96) (ht : t + m ≤ 192) (hp : post (g, c, D, es_cp F S t s 0 m, C, S, T, U)) : wX_copySlots__snapshots_files_12 post (nI s) (nI t) g c (m + 1) (es_pr m) D F C S T U := by
  have z := es_ld (W := fun n i => i ≤ m → wX_copySlots__snapshots_files_12 post (nI s) (nI t) g c n (es_pr i) D (es_cp F S t s i m) C S T U)
    (fun n _ => br_t es_m1lt hp) (fun n i h hi => by
      show wX_copySlots__snapshots_files_12 post (nI s) (nI t) g c (n + 1) (nI i) D (es_cp F S t s (i + 1) m) C S T U
      refine br_f (nI_pos (n := i) (by omega)) ?_
      rw [nI_add s i, nI_add t i, nI_clamp (n := s + i) (by omega), nI_clamp (n := t + i) (by omega)]
      exact ⟨vp_in_nI (by omega) (by decide), vp_in_nI (by omega) (by decide), nm_r (es_cp_dn F S t s i m hi) (nm_r (es_pr_s i) (h (by omega)))⟩) m (Nat.le_refl m)
  rw [es_cp_0] at z
  exact z
theorem xs_sf {post : SX → Prop} {s t m : Nat} (hs : s + m ≤ 96) (ht : t + m ≤ 192) (hp : post (g, c, D, es_cp F S t s 0 m, C, S, T, U)) : wpX_copySlots__snapshots_files post (g, c, D, F, C, S, T, U) (nI s) (nI t) (nI m) := by
  by_cases e : t ≤ s
  · exact br_t (nI_le e (by omega)) (xs_sf_a g c D F C S T U hs ht hp)
  · exact br_f (nI_ge (by omega) (by omega)) (nm_r (es_pr_i m) ⟨m + 1, xs_sf_d g c D F C S T U hs ht hp⟩)
theorem xh_f {post : SX → Prop} {t m : Nat} (ht : t + m ≤ 192) (hp : post (g, c, D, es_ho F t m, C, S, T, U)) : wpX_makeHoles__files post (g, c, D, F, C, S, T, U) (nI t) (nI m) := by
  have z := es_l0 (fun n i => wX_makeHoles__files_3 post (nI t) (nI m) g c n (nI i) D (es_ho F t i) C S T U) m
    (fun n => br_t (Int32.le_refl _) hp) (fun n i hi h => by
      refine br_f (nI_ge (b := m) hi (by omega)) ?_
      rw [nI_add t i, nI_clamp (n := t + i) (by omega)]
      exact ⟨vp_in_nI (by omega) (by decide), nm_r (es_ho_up F t i) (nm_r (nI_1 i) h)⟩)
  rw [es_ho_0] at z
  exact z
theorem xh_s {post : SX → Prop} {t m : Nat} (ht : t + m ≤ 96) (hp : post (g, c, D, F, C, es_ho S t m, T, U)) : wpX_makeHoles__snapshots post (g, c, D, F, C, S, T, U) (nI t) (nI m) := by
  have z := es_l0 (fun n i => wX_makeHoles__snapshots_3 post (nI t) (nI m) g c n (nI i) D F C (es_ho S t i) T U) m
    (fun n => br_t (Int32.le_refl _) hp) (fun n i hi h => by
      refine br_f (nI_ge (b := m) hi (by omega)) ?_
      rw [nI_add t i, nI_clamp (n := t + i) (by omega)]
      exact ⟨vp_in_nI (by omega) (by decide), nm_r (es_ho_up S t i) (nm_r (nI_1 i) h)⟩)
  rw [es_ho_0] at z
  exact z
end
theorem es_cp_u0 (a b : Nat → Int32) (s j : Nat) : upd (es_cp a b 0 s 0 j) j (b (s + j)) = es_cp a b 0 s 0 (j + 1) := by
  have h := es_cp_up a b 0 s 0 j (Nat.zero_le j)
  rw [Nat.zero_add] at h
  exact h
section
variable (g c : Int32) (D F C S T U P B : Nat → Int32)
theorem ys_sn {post : Int32 → SY → Prop} {s f : Nat} (hs : s < 3) (hf : f < 6) (hp : post 1 (g, c, F, es_cp P F (32 * s) (32 * f) 0 32, C, B, D, T)) : ∃ n, wY_snap_42 post (nI s) (nI f) g c n 0 F P C B D T := by
  have z := es_l0 (fun n i => wY_snap_42 post (nI s) (nI f) g c n (nI i) F (es_cp P F (32 * s) (32 * f) 0 i) C B D T) 32
    (fun n => br_t (Int32.le_refl _) hp) (fun n i hi h => by
      refine br_f (nI_ge (b := 32) hi (by decide)) ?_
      rw [es_iy f i, es_iy s i, nI_clamp (n := 32 * f + i) (by omega), nI_clamp (n := 32 * s + i) (by omega)]
      exact ⟨vp_in_nI (by omega) (by decide), vp_in_nI (by omega) (by decide), nm_r (es_cp_up P F (32 * s) (32 * f) 0 i (Nat.zero_le i)) (nm_r (nI_1 i) h)⟩)
  rw [es_cp_0] at z
  exact z
end
section
variable (D F C S T U P B : Nat → Int32)
theorem ys_rv {post : Int32 → SY → Prop} {g c s f : Nat} (hc : c < g) (hg : g ≤ 20) (hs : s < 3) (hf : f < 6)
    (hp : post 1 (nI g, nI (es_nx g c C (es_cp F P (32 * f) (32 * s) 0 32)).1, es_cp F P (32 * f) (32 * s) 0 32, P, (es_nx g c C (es_cp F P (32 * f) (32 * s) 0 32)).2, B, D, T)) : ∃ n, wY_revert_20 post (nI f) (nI s) (nI g) (nI c) n 0 F P C B D T := by
  have z := es_l0 (fun n i => wY_revert_20 post (nI f) (nI s) (nI g) (nI c) n (nI i) (es_cp F P (32 * f) (32 * s) 0 i) P C B D T) 32
    (fun n => br_t (Int32.le_refl _) (yc_ch D _ C T P B hc hg hp)) (fun n i hi h => by
      refine br_f (nI_ge (b := 32) hi (by decide)) ?_
      rw [es_iy f i, es_iy s i, nI_clamp (n := 32 * f + i) (by omega), nI_clamp (n := 32 * s + i) (by omega)]
      exact ⟨vp_in_nI (by omega) (by decide), vp_in_nI (by omega) (by decide), nm_r (es_cp_up F P (32 * f) (32 * s) 0 i (Nat.zero_le i)) (nm_r (nI_1 i) h)⟩)
  rw [es_cp_0] at z
  exact z
theorem ys_c2 {post : Int32 → SY → Prop} {g c s f b m : Nat} (hc : c < g) (hg : g ≤ 20) (hf : f < 6) (hb : b + m ≤ 32) (hB : ∀ i, i < m → B i = F (s + i))
    (hp : post 1 (nI g, nI (es_nx g c C (es_cp F F (32 * f + b) s 0 m)).1, es_cp F F (32 * f + b) s 0 m, P, (es_nx g c C (es_cp F F (32 * f + b) s 0 m)).2, B, D, T)) : ∃ n, wY_copy_107 post (nI f) (nI b) (nI m) (nI g) (nI c) n 0 F P C B D T := by
  have z := es_l0 (fun n i => wY_copy_107 post (nI f) (nI b) (nI m) (nI g) (nI c) n (nI i) (es_cp F F (32 * f + b) s 0 i) P C B D T) m
    (fun n => br_t (Int32.le_refl _) (yc_ch D _ C T P B hc hg hp)) (fun n i hi h => by
      refine br_f (nI_ge (b := m) hi (by omega)) ?_
      rw [es_iy f b, nI_add (32 * f + b) i, nI_clamp (n := 32 * f + b + i) (by omega), nI_clamp (n := i) (by omega), hB i hi]
      exact ⟨vp_in_nI (by omega) (by decide), vp_in_nI (by omega) (by decide), nm_r (es_cp_up F F (32 * f + b) s 0 i (Nat.zero_le i)) (nm_r (nI_1 i) h)⟩)
  rw [es_cp_0] at z
  exact z
theorem ys_c1 {post : Int32 → SY → Prop} {g c e a f b m : Nat} (hc : c < g) (hg : g ≤ 20) (he : e < 6) (ha : a + m ≤ 32) (hf : f < 6) (hb : b + m ≤ 32)
    (hp : ∀ B' : Nat → Int32, post 1 (nI g, nI (es_nx g c C (es_cp F F (32 * f + b) (32 * e + a) 0 m)).1, es_cp F F (32 * f + b) (32 * e + a) 0 m, P, (es_nx g c C (es_cp F F (32 * f + b) (32 * e + a) 0 m)).2, B', D, T)) :
    ∃ n, wY_copy_70 post (nI e) (nI a) (nI f) (nI b) (nI m) (nI g) (nI c) n 0 F P C B D T := by
  have z := es_l0 (fun n i => wY_copy_70 post (nI e) (nI a) (nI f) (nI b) (nI m) (nI g) (nI c) n (nI i) F P C (es_cp B F 0 (32 * e + a) 0 i) D T) m
    (fun n => br_t (Int32.le_refl _) (ys_c2 D F C T P _ hc hg hf hb (fun i hi => by
      rw [es_cp_in (by omega) (by omega)]
      exact congrArg F (by omega)) (hp _))) (fun n i hi h => by
      refine br_f (nI_ge (b := m) hi (by omega)) ?_
      rw [es_iy e a, nI_add (32 * e + a) i, nI_clamp (n := 32 * e + a + i) (by omega), nI_clamp (n := i) (by omega)]
      exact ⟨vp_in_nI (by omega) (by decide), vp_in_nI (by omega) (by decide), nm_r (es_cp_u0 B F (32 * e + a) i) (nm_r (nI_1 i) h)⟩)
  rw [es_cp_0] at z
  exact z
/-- the holes of a punch: count m of them, but at most up to 31 -/
theorem ys_pu {post : Int32 → SY → Prop} {g c f b m l : Nat} (hc : c < g) (hg : g ≤ 20) (hf : f < 6) (hb : b < 32) (hm : m < 2 ^ 31) (hl : l ≤ m) (hl2 : b + l ≤ 32) (hl3 : l = m ∨ b + l = 32)
    (hp : post 1 (nI g, nI (es_nx g c C (es_ho F (32 * f + b) l)).1, es_ho F (32 * f + b) l, P, (es_nx g c C (es_ho F (32 * f + b) l)).2, B, D, T)) :
    ∃ n, wY_punch_26 post (nI f) (nI b) (nI m) (nI g) (nI c) n (nI b) F P C B D T := by
  have hq : wY_punch_60 post (nI g) (nI c) (es_ho F (32 * f + b) l) P C B D T := yc_ch D _ C T P B hc hg hp
  have z := es_l0 (fun n i => wY_punch_26 post (nI f) (nI b) (nI m) (nI g) (nI c) n (nI (b + i)) (es_ho F (32 * f + b) i) P C B D T) l
    (fun n => by
      by_cases e : 32 ≤ b + l
      · exact br_t (nI_le (a := 32) e (by omega)) hq
      · refine br_f (nI_ge (b := 32) (by omega) (by decide)) (br_t ?_ hq)
        rw [pk_sub (by omega), show b + l - b = l from by omega]
        exact nI_le (by omega) (by omega)) (fun n i hi h => by
      refine br_f (nI_ge (b := 32) (by omega) (by decide)) ?_
      rw [pk_sub (a := b + i) (b := b) (by omega), show b + i - b = i from by omega]
      refine br_f (nI_ge (b := m) (by omega) (by omega)) ?_
      rw [es_iy f (b + i), ← Nat.add_assoc (32 * f) b i, nI_clamp (n := 32 * f + b + i) (by omega)]
      exact ⟨vp_in_nI (by omega) (by decide), nm_r (es_ho_up F (32 * f + b) i) (nm_r (nI_1 (b + i)) h)⟩)
  rw [es_ho_0] at z
  exact z
end
end
section
/-! allocation by the reference; mapped blocks, extents, rows of free blocks, moves: both sides -/
theorem es_m96 {p : Nat} (hp : p < 96) : nI p + 1 - (nI p + 1) / 96 * 96 = nI ((p + 1) % 96) := by
  rw [nI_1]
  have z := pk_rem (a := p + 1) (d := 96) (by omega) (by decide) (by decide)
  rw [es_n96] at z
  exact z
theorem es_neg {x : Int32} (h : x = -1 ∨ ∃ q : Nat, q < 96 ∧ x = nI q) : x < 0 ↔ x = -1 := by
  rcases h with rfl | ⟨q, hq, rfl⟩
  · exact ⟨fun _ => rfl, fun _ => es_m1lt⟩
  · exact ⟨fun z => absurd z (nI_pos (by omega)), fun z => absurd z (es_ne (by omega))⟩
section
variable (g c : Int32) (D F C S T U P B : Nat → Int32)
theorem ya_84 {post : Int32 → Prop} {m : Nat} (hT : es_Sn T S P) (hm : m ≤ 96) : ∀ d p, p + d = m → (∀ q, es_lf (es_G F C S) d p = some q → post (nI q)) → (es_lf (es_G F C S) d p = none → post (-1)) → wY_allocate_84 post (nI m) g c F P C B D T (d + 1) (nI p) := by
  intro d
  induction d with
  | zero =>
    intro p h _ hn
    obtain rfl : p = m := by omega
    exact br_t (Int32.le_refl _) (hn rfl)
  | succ d ih =>
    intro p h hs hn
    refine br_f (nI_ge (b := m) (by omega) (by omega)) (yi_fr g c D F C S T P B hT (by omega) (fun e => br_f es_10 (hs p (if_pos e))) (fun e => br_t rfl (nm_r (nI_1 p) ?_)))
    have z : es_lf (es_G F C S) (d + 1) p = es_lf (es_G F C S) d (p + 1) := if_neg e
    rw [z] at hs hn
    exact ih (p + 1) (by omega) hs hn
theorem ya_56 {post : Int32 → Prop} {m : Nat} (hT : es_Sn T S P) (hm : m ≤ 96) : ∀ d p, p + d = 96 → (∀ q, es_lf (es_G F C S) d p = some q → post (nI q)) → (es_lf (es_G F C S) d p = none → ∃ n, wY_allocate_84 post (nI m) g c F P C B D T n 0) → wY_allocate_56 post (nI m) g c F P C B D T (d + 1) (nI p) := by
  intro d
  induction d with
  | zero =>
    intro p h _ hn
    obtain rfl : p = 96 := by omega
    exact br_t (Int32.le_refl _) (hn rfl)
  | succ d ih =>
    intro p h hs hn
    refine br_f (nI_ge (b := 96) (by omega) (by decide)) (yi_fr g c D F C S T P B hT (by omega) (fun e => br_f es_10 (hs p (if_pos e))) (fun e => br_t rfl (nm_r (nI_1 p) ?_)))
    have z : es_lf (es_G F C S) (d + 1) p = es_lf (es_G F C S) d (p + 1) := if_neg e
    rw [z] at hs hn
    exact ih (p + 1) (by omega) hs hn
theorem ya_al {post : Int32 → Prop} {f b : Nat} (hT : es_Sn T S P) (hF : es_R 192 F) (hf : f < 6) (hb : b ≤ 32)
    (hs : ∀ q, es_an (es_G F C S) (es_go F f b) = some q → post (nI q)) (hn : es_an (es_G F C S) (es_go F f b) = none → post (-1)) : wpY_allocate post (g, c, F, P, C, B, D, T) (nI f) (nI b) := by
  have hg := es_go_lt (F := F) hf b
  refine nm_r (es_16 f) ?_
  refine es_l0 (fun n i => wY_allocate_8 post (nI f) (nI b) g c F P C B D T n (nI (es_go F f i)) (nI i)) b (fun n => br_t (Int32.le_refl _) ?_) (fun n i hi h => ?_)
  · refine ⟨96 - es_go F f b + 1, ya_56 g c D F C S T P B hT (by omega) (96 - es_go F f b) (es_go F f b) (by omega) (fun q e => hs q (es_an_s e)) (fun e => ?_)⟩
    have z := es_an_n e
    rw [z] at hs hn
    exact ⟨es_go F f b + 1, ya_84 g c D F C S T P B hT (by omega) (es_go F f b) 0 (by omega) hs hn⟩
  · refine br_f (nI_ge (b := b) hi (by omega)) ?_
    have hv : vp_in (nI (32 * f + i)) 192 := vp_in_nI (by omega) (by decide)
    rw [es_iy f i, nI_clamp (n := 32 * f + i) (by omega)]
    refine ⟨hv, ?_⟩
    rcases hF (32 * f + i) (by omega) with e | ⟨p, hq, e⟩
    · rw [e]
      simp only [es_go_h e] at h
      exact br_t es_m1lt (nm_r (nI_1 i) h)
    · rw [e]
      simp only [es_go_m hq e] at h
      exact br_f (nI_pos (by omega)) ⟨hv, by decide, nm_r (es_m96 hq) (nm_r (nI_1 i) h)⟩
theorem xm_mc {post : Int32 → Prop} {f : Nat} (hf : f < 6) (hp : post (nI (es_mc F f 32))) : wpX_countMapped post (g, c, D, F, C, S, T, U) (nI f) := by
  refine es_l0 (fun n i => wX_countMapped_4 post (nI f) g c D F C S T U n (nI (es_mc F f i)) (nI i)) 32 (fun n => br_t (Int32.le_refl _) hp) (fun n i hi h => ?_)
  refine br_f (nI_ge (b := 32) hi (by decide)) ?_
  rw [es_ix f i, nI_clamp (n := 32 * f + i) (by omega)]
  refine ⟨vp_in_nI (by omega) (by decide), br_c (fun e => nm_r (Int32.add_zero _) (nm_r (nI_1 i) ?_)) (fun e => nm_r (nI_1 _) (nm_r (nI_1 i) ?_))⟩
  · have z : es_mc F f (i + 1) = es_mc F f i := if_pos e
    simp only [z] at h
    exact h
  · have z : es_mc F f (i + 1) = es_mc F f i + 1 := if_neg e
    simp only [z] at h
    exact h
theorem es_ex_s {F : Nat → Int32} {f i : Nat} (h : F (32 * f + i) = -1 ∨ (¬ es_pv F f i = -1 ∧ F (32 * f + i) = es_pv F f i + 1)) : es_ex F f (i + 1) = es_ex F f i := if_pos h
theorem es_ex_1 {F : Nat → Int32} {f i : Nat} (h : ¬ (F (32 * f + i) = -1 ∨ (¬ es_pv F f i = -1 ∧ F (32 * f + i) = es_pv F f i + 1))) : es_ex F f (i + 1) = es_ex F f i + 1 := if_neg h
theorem xe_46n {post : Int32 → Prop} {J : Int32 → Int32 → Int32 → Prop} {f i : Nat} (x1 : Int32) (hn : ¬ (¬ es_pv F f i = -1 ∧ F (32 * f + i) = es_pv F f i + 1)) (h : J (nI (es_ex F f (i + 1))) (F (32 * f + i)) (nI (i + 1))) :
    wX_countExtents_46 post J x1 (nI (es_ex F f i)) (nI i) (F (32 * f + i)) 0 g c D F C S T U := by
  refine br_c (fun e => nm_r (Int32.add_zero _) (nm_r (nI_1 i) ?_)) (fun e => br_t rfl (nm_r (nI_1 _) (nm_r (nI_1 i) ?_)))
  · rw [es_ex_s (Or.inl e)] at h
    exact h
  · rw [es_ex_1 (fun z => z.elim e hn)] at h
    exact h
theorem xe_46y {post : Int32 → Prop} {J : Int32 → Int32 → Int32 → Prop} {f i : Nat} (x1 : Int32) (hn : ¬ es_pv F f i = -1 ∧ F (32 * f + i) = es_pv F f i + 1) (h : J (nI (es_ex F f (i + 1))) (F (32 * f + i)) (nI (i + 1))) :
    wX_countExtents_46 post J x1 (nI (es_ex F f i)) (nI i) (F (32 * f + i)) 1 g c D F C S T U := by
  rw [es_ex_s (Or.inr hn)] at h
  exact br_c (fun e => nm_r (Int32.add_zero _) (nm_r (nI_1 i) h)) (fun e => br_f es_10 (nm_r (Int32.add_zero _) (nm_r (nI_1 i) h)))
theorem xe_ex {post : Int32 → Prop} {f : Nat} (hf : f < 6) (hp : post (nI (es_ex F f 32))) : wpX_countExtents post (g, c, D, F, C, S, T, U) (nI f) := by
  refine es_l0 (fun n i => wX_countExtents_7 post (nI f) g c D F C S T U n (nI (es_ex F f i)) (es_pv F f i) (nI i)) 32 (fun n => br_t (Int32.le_refl _) hp) (fun n i hi h => ?_)
  refine br_f (nI_ge (b := 32) hi (by decide)) ?_
  rw [es_ix f i, nI_clamp (n := 32 * f + i) (by omega)]
  exact ⟨vp_in_nI (by omega) (by decide), nm_e (br_c (fun e => xe_46n g c D F C S T U (nI f) (fun z => z.1 e) h)
    (fun e => br_c (fun e2 => xe_46y g c D F C S T U (nI f) ⟨e, e2⟩ h) (fun e2 => xe_46n g c D F C S T U (nI f) (fun z => e2 z.2) h)))⟩
theorem es_sb {x y : Int32} : x = y - 1 ↔ y = x + 1 := by
  constructor
  · intro h
    rw [h, Int32.sub_add_cancel]
  · intro h
    rw [h, Int32.add_sub_cancel]
theorem ye_ex {post : Int32 → Prop} {f : Nat} (hF : es_R 192 F) (hf : f < 6) (hp : post (nI (es_ex F f 32))) : wpY_runs post (g, c, F, P, C, B, D, T) (nI f) := by
  refine es_l0 (fun n i => wY_runs_4 post (nI f) g c F P C B D T n (nI (es_ex F f i)) (nI i)) 32 (fun n => br_t (Int32.le_refl _) hp) (fun n i hi h => ?_)
  have hr := es_neg (hF (32 * f + i) (by omega))
  refine br_f (nI_ge (b := 32) hi (by decide)) ?_
  rw [es_iy f i, nI_clamp (n := 32 * f + i) (by omega)]
  refine ⟨vp_in_nI (by omega) (by decide), nm_e (ek_if hr (fun e => nm_r (nI_1 i) ?_) (fun e => ?_))⟩
  · simp only [es_ex_s (Or.inl e)] at h
    exact h
  · cases i with
    | zero =>
      refine br_t rfl (nm_r (nI_1 _) (nm_r (nI_1 0) ?_))
      simp only [es_ex_1 (i := 0) (fun z => z.elim e (fun y => y.1 rfl))] at h
      exact h
    | succ i =>
      have hr2 := es_neg (hF (32 * f + i) (by omega))
      have hv : vp_in (nI (32 * f + i)) 192 := vp_in_nI (by omega) (by decide)
      refine br_f (nI_ne0 (by omega) (by omega)) ?_
      rw [show nI (32 * f + (i + 1)) - 1 = nI (32 * f + i) from nI_pred (32 * f + i), nI_clamp (n := 32 * f + i) (by omega)]
      refine ⟨hv, ek_if hr2 (fun e1 => nm_r (nI_1 _) (nm_r (nI_1 (i + 1)) ?_)) (fun e1 => ⟨hv, ek_if es_sb (fun e2 => nm_r (nI_1 (i + 1)) ?_) (fun e2 => nm_r (nI_1 _) (nm_r (nI_1 (i + 1)) ?_))⟩)⟩
      · simp only [es_ex_1 (i := i + 1) (fun z => z.elim e (fun y => y.1 e1))] at h
        exact h
      · simp only [es_ex_s (i := i + 1) (Or.inr ⟨e1, e2⟩)] at h
        exact h
      · simp only [es_ex_1 (i := i + 1) (fun z => z.elim e (fun y => e2 y.2))] at h
        exact h
theorem es_pm {p m : Nat} (h : m ≤ p + 1) : nI p - nI m + 1 = nI (p + 1 - m) := by
  have z : nI p - nI m + 1 = nI p + 1 - nI m := by grind
  rw [z, nI_1, pk_sub h]
theorem xw_8 {post : Int32 → SX → Prop} {G : Nat → Bool} {m : Nat} (hU : es_mk G U) (hm : 1 ≤ m) (hm2 : m ≤ 32) : ∀ d p r, p + d = 96 → r ≤ p → r < m →
    (∀ q, es_gs G m d p r = some q → post (nI q) (g, c, D, F, C, S, T, U)) → (es_gs G m d p r = none → post (-1) (g, c, D, F, C, S, T, U)) → wX_leastFreeRow_8 post (nI m) g c D F C S T U (d + 1) (nI r) (nI p) := by
  intro d
  induction d with
  | zero =>
    intro p r h _ _ _ hn
    obtain rfl : p = 96 := by omega
    exact br_t (Int32.le_refl _) (hn rfl)
  | succ d ih =>
    intro p r h hr hrm hs hn
    refine br_f (nI_ge (b := 96) (by omega) (by decide)) ⟨vp_in_nI (by omega) (by decide), ?_⟩
    rw [nI_clamp (n := p) (by omega)]
    by_cases e : G p = true
    · refine br_t ((hU p (by omega)).mpr e) ?_
      rw [nI_1]
      by_cases e2 : r + 1 = m
      · refine br_t (congrArg nI e2) ?_
        have z : es_gs G m (d + 1) p r = some (p + 1 - m) := (if_pos e).trans (if_pos e2)
        rw [es_pm (by omega)]
        exact hs _ z
      · have z : es_gs G m (d + 1) p r = es_gs G m d (p + 1) (r + 1) := (if_pos e).trans (if_neg e2)
        rw [z] at hs hn
        exact br_f (fun y => e2 ((nI_eq (by omega) (by omega)).mp y)) (nm_r (nI_1 p) (ih (p + 1) (r + 1) (by omega) (by omega) (by omega) hs hn))
    · refine br_f (fun y => e ((hU p (by omega)).mp y)) ?_
      have z : es_gs G m (d + 1) p r = es_gs G m d (p + 1) 0 := if_neg e
      rw [z] at hs hn
      exact br_f (fun y => absurd ((nI_eq (a := 0) (by decide) (by omega)).mp y) (by omega)) (nm_r (nI_1 p) (ih (p + 1) 0 (by omega) (by omega) (by omega) hs hn))
theorem xw_row {post : Int32 → SX → Prop} {m : Nat} (hF : es_R 192 F) (hC : es_R 192 C) (hS : es_R 96 S) (hm : 1 ≤ m) (hm2 : m ≤ 32)
    (hs : ∀ (U' : Nat → Int32) (q : Nat), es_gs (es_G F C S) m 96 0 0 = some q → post (nI q) (g, c, D, F, C, S, T, U')) (hn : ∀ U' : Nat → Int32, es_gs (es_G F C S) m 96 0 0 = none → post (-1) (g, c, D, F, C, S, T, U')) :
    wpX_leastFreeRow post (g, c, D, F, C, S, T, U) (nI m) := by
  unfold wpX_leastFreeRow
  refine xb_in g c D F C S T U hF hC hS (fun U' hU => ?_)
  exact ⟨97, xw_8 g c D F C S T U' hU hm hm2 96 0 0 rfl (Nat.le_refl 0) (by omega) (hs U') (hn U')⟩
theorem xv_mv {post : SX → Prop} {f st : Nat} (hF : es_R 192 F) (hf : f < 6) (hn : st + es_mc F f 32 ≤ 96) (hp : post (g, c, (es_mv D F f st 32).1, (es_mv D F f st 32).2.1, C, S, T, U)) : wpX_moveFile post (g, c, D, F, C, S, T, U) (nI f) (nI st) := by
  refine es_l0 (fun n i => wX_moveFile_5 post (nI f) g c n (nI (es_mv D F f st i).2.2) (nI i) (es_mv D F f st i).1 (es_mv D F f st i).2.1 C S T U) 32 (fun n => br_t (Int32.le_refl _) hp) (fun n i hi h => ?_)
  have hv : vp_in (nI (32 * f + i)) 192 := vp_in_nI (by omega) (by decide)
  refine br_f (nI_ge (b := 32) hi (by decide)) (nm_r (es_ix f i) ?_)
  rw [nI_clamp (n := 32 * f + i) (by omega), es_mv_F D F f st i (32 * f + i) (by omega)]
  refine ⟨hv, br_c (fun e => nm_r (nI_1 i) ?_) (fun e => ?_)⟩
  · simp only [es_mv_h e] at h
    exact h
  · have hb := es_mc_st e hi
    have hb2 : (es_mv D F f st i).2.2 < 96 := by rw [es_mv_p]; omega
    rw [nI_clamp (n := (es_mv D F f st i).2.2) (by omega)]
    simp only [es_mv_m e] at h
    have hv2 : vp_in (F (32 * f + i)) 96 := by
      rcases hF (32 * f + i) (by omega) with z | ⟨q, hq, z⟩
      · exact absurd z e
      · rw [z]
        exact vp_in_nI hq (by decide)
    exact ⟨hv, hv2, vp_in_nI hb2 (by decide), nm_e ⟨hv, nm_e (nm_r (nI_1 _) (nm_r (nI_1 i) h))⟩⟩
end
section
variable (D F C S T U P B : Nat → Int32)
theorem yv_mv {post : Int32 → SY → Prop} {g c f st : Nat} (hc : c < g) (hg : g ≤ 20) (hF : es_R 192 F) (hf : f < 6) (hn : st + es_mc F f 32 ≤ 96)
    (hp : post 1 (nI g, nI (es_nx g c C (es_mv D F f st 32).2.1).1, (es_mv D F f st 32).2.1, P, (es_nx g c C (es_mv D F f st 32).2.1).2, B, (es_mv D F f st 32).1, T)) : ∃ n, wY_gather_117 post (nI f) (nI g) (nI c) n (nI st) 0 F P C B D T := by
  refine es_l0 (fun n i => wY_gather_117 post (nI f) (nI g) (nI c) n (nI (es_mv D F f st i).2.2) (nI i) (es_mv D F f st i).2.1 P C B (es_mv D F f st i).1 T) 32 (fun n => br_t (Int32.le_refl _) (yc_ch _ _ C T P B hc hg hp)) (fun n i hi h => ?_)
  have hv : vp_in (nI (32 * f + i)) 192 := vp_in_nI (by omega) (by decide)
  refine br_f (nI_ge (b := 32) hi (by decide)) ?_
  rw [es_iy f i, nI_clamp (n := 32 * f + i) (by omega), es_mv_F D F f st i (32 * f + i) (by omega)]
  refine ⟨hv, nm_e (ek_if (es_neg (hF (32 * f + i) (by omega))) (fun e => nm_r (nI_1 i) ?_) (fun e => ?_))⟩
  · simp only [es_mv_h e] at h
    exact h
  · have hb := es_mc_st e hi
    have hb2 : (es_mv D F f st i).2.2 < 96 := by rw [es_mv_p]; omega
    rw [nI_clamp (n := (es_mv D F f st i).2.2) (by omega)]
    simp only [es_mv_m e] at h
    have hv2 : vp_in (F (32 * f + i)) 96 := by
      rcases hF (32 * f + i) (by omega) with z | ⟨q, hq, z⟩
      · exact absurd z e
      · rw [z]
        exact vp_in_nI hq (by decide)
    exact ⟨hv2, vp_in_nI hb2 (by decide), nm_e ⟨hv, nm_e (nm_r (nI_1 _) (nm_r (nI_1 i) h))⟩⟩
theorem yw_66 {post : Int32 → SY → Prop} {g c f m : Nat} (hc : c < g) (hg : g ≤ 20) (hT : es_Sn T S P) (hF : es_R 192 F) (hf : f < 6) (hm : 1 ≤ m) (hm2 : m = es_mc F f 32) : ∀ d p r, p + d = 96 → r ≤ p → r < m →
    (∀ q, es_gs (es_G F C S) m d p r = some q → post 1 (nI g, nI (es_nx g c C (es_mv D F f q 32).2.1).1, (es_mv D F f q 32).2.1, P, (es_nx g c C (es_mv D F f q 32).2.1).2, B, (es_mv D F f q 32).1, T)) →
    (es_gs (es_G F C S) m d p r = none → post 0 (nI g, nI c, F, P, C, B, D, T)) → wY_gather_66 post (nI f) (nI m) (nI g) (nI c) F P C B D T (d + 1) (nI p) (nI r) := by
  have hm3 : m ≤ 32 := by rw [hm2]; exact es_mc_le F f 32
  intro d
  induction d with
  | zero =>
    intro p r h _ hrm _ hn
    obtain rfl : p = 96 := by omega
    exact br_t (Int32.le_refl _) (br_f (nI_ge hrm (by omega)) (hn rfl))
  | succ d ih =>
    intro p r h hr hrm hs hn
    refine br_f (nI_ge (b := 96) (by omega) (by decide)) (br_f (nI_ge hrm (by omega)) (yi_fr _ _ D F C S T P B hT (by omega) (fun e => br_f es_10 (nm_r (nI_1 r) (nm_r (nI_1 p) ?_))) (fun e => br_t rfl (nm_r (nI_1 p) ?_))))
    · by_cases e2 : r + 1 = m
      · have z : es_gs (es_G F C S) m (d + 1) p r = some (p + 1 - m) := (if_pos e).trans (if_pos e2)
        have hx : wY_gather_102 post (nI f) (nI m) (nI (p + 1)) (nI (r + 1)) (nI g) (nI c) F P C B D T := by
          refine br_t (nI_le (by omega) (by omega)) (nm_r (pk_sub (by omega)) ?_)
          exact yv_mv D F C T P B hc hg hF hf (by omega) (hs _ z)
        refine br_c (fun _ => hx) (fun _ => br_t (nI_le (by omega) (by omega)) hx)
      · have z : es_gs (es_G F C S) m (d + 1) p r = es_gs (es_G F C S) m d (p + 1) (r + 1) := (if_pos e).trans (if_neg e2)
        rw [z] at hs hn
        exact ih (p + 1) (r + 1) (by omega) (by omega) (by omega) hs hn
    · have z : es_gs (es_G F C S) m (d + 1) p r = es_gs (es_G F C S) m d (p + 1) 0 := if_neg e
      rw [z] at hs hn
      exact ih (p + 1) 0 (by omega) (by omega) (by omega) hs hn
end
end
section
/-! what free answers; the constructors; argument checks of two and of five; the reference's gather: both sides -/
theorem es_rn_y {G : Nat → Bool} {i : Nat} (e : G i = true) : es_rn G (i + 1) = es_rn G i + 1 := if_pos e
theorem es_rn_n {G : Nat → Bool} {i : Nat} (e : ¬ G i = true) : es_rn G (i + 1) = 0 := if_neg e
theorem es_al_y {G : Nat → Bool} {i : Nat} (e : 0 < es_rn G (i + 1)) : es_al G (i + 1) = es_al G i + 1 := if_pos e
theorem es_al_n {G : Nat → Bool} {i : Nat} (e : ¬ 0 < es_rn G (i + 1)) : es_al G (i + 1) = es_al G i := if_neg e
theorem es_rw_y {G : Nat → Bool} {i : Nat} (e : es_rn G (i + 1) = 1) : es_rw G (i + 1) = es_rw G i + 1 := if_pos e
theorem es_rw_n {G : Nat → Bool} {i : Nat} (e : ¬ es_rn G (i + 1) = 1) : es_rw G (i + 1) = es_rw G i := if_neg e
theorem es_lg_y {G : Nat → Bool} {i : Nat} (e : es_lg G i < es_rn G (i + 1)) : es_lg G (i + 1) = es_rn G (i + 1) := if_pos e
theorem es_lg_n {G : Nat → Bool} {i : Nat} (e : ¬ es_lg G i < es_rn G (i + 1)) : es_lg G (i + 1) = es_lg G i := if_neg e
theorem es_nz {n : Nat} (h : n < 2 ^ 31) : nI n ≤ 0 ↔ ¬ 0 < n := by
  have z := nI_leI (a := n) (b := 0) h (by decide)
  rw [nI_0] at z
  rw [z]
  omega
def es_fa (G : Nat → Bool) (w : Nat) : Nat := if w = 0 then es_al G 96 else if w = 1 then es_lg G 96 else es_rw G 96
section
variable (g c : Int32) (D F C S T U P B : Nat → Int32)
theorem xz_53 {post : Int32 → SX → Prop} {J : Int32 → Int32 → Int32 → Int32 → Int32 → Prop} {G : Nat → Bool} {i : Nat} (x1 : Int32) (hi : i < 96)
    (h : J (nI (es_al G (i + 1))) (nI (es_lg G (i + 1))) (nI (es_rw G (i + 1))) (nI (es_rn G (i + 1))) (nI (i + 1))) :
    wX_free_53 post J x1 (nI (es_al G i)) (nI (es_lg G i)) (nI (es_rw G i)) (nI i) (nI (es_rn G (i + 1))) g c D F C S T U := by
  have b1 := es_rn_le G (i + 1)
  have b2 := es_lg_le G i
  have k81 : ∀ z, nI (es_rw G i) + z = nI (es_rw G (i + 1)) → wX_free_81 post J x1 (nI (es_al G (i + 1))) (nI (es_lg G i)) (nI (es_rn G (i + 1))) (nI i) z (nI (es_rw G i)) g c D F C S T U := by
    intro z ez
    refine nm_r ez (br_c (fun e => nm_r (nI_1 i) ?_) (fun e => nm_r (nI_1 i) ?_))
    · rw [nI_leI (by omega) (by omega)] at e
      rw [es_lg_n (by omega)] at h
      exact h
    · rw [nI_leI (by omega) (by omega)] at e
      rw [es_lg_y (by omega)] at h
      exact h
  have k66 : ∀ z, nI (es_al G i) + z = nI (es_al G (i + 1)) → wX_free_66 post J x1 (nI (es_lg G i)) (nI (es_rw G i)) (nI (es_rn G (i + 1))) (nI i) z (nI (es_al G i)) g c D F C S T U := by
    intro z ez
    refine nm_r ez (br_c (fun e => k81 1 ?_) (fun e => k81 0 ?_))
    · rw [es_rw_y ((es_ni1 (by omega)).mp e), nI_1]
    · rw [es_rw_n (fun y => e ((es_ni1 (by omega)).mpr y)), Int32.add_zero]
  refine br_c (fun e => k66 0 ?_) (fun e => k66 1 ?_)
  · rw [es_nz (by omega)] at e
    rw [es_al_n e, Int32.add_zero]
  · rw [es_nz (by omega)] at e
    rw [es_al_y (by omega), nI_1]
theorem yz_37 {post : Int32 → Prop} {J : Int32 → Int32 → Int32 → Int32 → Int32 → Prop} {G : Nat → Bool} {i : Nat} (x1 : Int32) (hi : i < 96)
    (h : J (nI (es_al G (i + 1))) (nI (es_lg G (i + 1))) (nI (es_rw G (i + 1))) (nI (es_rn G (i + 1))) (nI (i + 1))) :
    wY_free_37 post J x1 (nI (es_al G i)) (nI (es_lg G i)) (nI (es_rw G i)) (nI i) (nI (es_rn G (i + 1))) g c F P C B D T := by
  have b1 := es_rn_le G (i + 1)
  have b2 := es_lg_le G i
  have k56 : wY_free_56 post J x1 (nI (es_al G (i + 1))) (nI (es_lg G i)) (nI (es_rw G (i + 1))) (nI (es_rn G (i + 1))) (nI i) g c F P C B D T := by
    refine br_c (fun e => nm_r (nI_1 i) ?_) (fun e => nm_r (nI_1 i) ?_)
    · rw [nI_leI (by omega) (by omega)] at e
      rw [es_lg_n (by omega)] at h
      exact h
    · rw [nI_leI (by omega) (by omega)] at e
      rw [es_lg_y (by omega)] at h
      exact h
  have k47 : wY_free_47 post J x1 (nI (es_al G (i + 1))) (nI (es_lg G i)) (nI (es_rw G i)) (nI (es_rn G (i + 1))) (nI i) g c F P C B D T := by
    refine br_c (fun e => nm_r (nI_1 _) ?_) (fun e => ?_)
    · rw [es_rw_y ((es_ni1 (by omega)).mp e)] at k56
      exact k56
    · rw [es_rw_n (fun y => e ((es_ni1 (by omega)).mpr y))] at k56
      exact k56
  refine br_c (fun e => ?_) (fun e => nm_r (nI_1 _) ?_)
  · rw [es_nz (by omega)] at e
    rw [es_al_n e] at k47
    exact k47
  · rw [es_nz (by omega)] at e
    rw [es_al_y (by omega)] at k47
    exact k47
theorem xz_fr {post : Int32 → SX → Prop} {w : Nat} (hw : w < 3) (hF : es_R 192 F) (hC : es_R 192 C) (hS : es_R 96 S) (hp : ∀ U' : Nat → Int32, post (nI (es_fa (es_G F C S) w)) (g, c, D, F, C, S, T, U')) :
    wpX_free post (g, c, D, F, C, S, T, U) (nI w) := by
  refine br_f (nI_pos (by omega)) (br_t (nI_le (b := 2) (by omega) (by decide)) (xb_in g c D F C S T U hF hC hS (fun U' hU => ?_)))
  have hq := hp U'
  refine es_l0 (fun n i => wX_free_28 post (nI w) g c D F C S T U' n (nI (es_al (es_G F C S) i)) (nI (es_lg (es_G F C S) i)) (nI (es_rw (es_G F C S) i)) (nI (es_rn (es_G F C S) i)) (nI i)) 96 (fun n => br_t (Int32.le_refl _) ?_) (fun n i hi h => ?_)
  · refine br_c (fun e => ?_) (fun e => br_c (fun e2 => ?_) (fun e2 => ?_))
    · rw [es_ni0 (by omega)] at e
      rw [show es_fa (es_G F C S) w = es_al (es_G F C S) 96 from if_pos e] at hq
      exact hq
    · rw [es_ni0 (by omega)] at e
      rw [es_ni1 (by omega)] at e2
      rw [show es_fa (es_G F C S) w = es_lg (es_G F C S) 96 from (if_neg e).trans (if_pos e2)] at hq
      exact hq
    · rw [es_ni0 (by omega)] at e
      rw [es_ni1 (by omega)] at e2
      rw [show es_fa (es_G F C S) w = es_rw (es_G F C S) 96 from (if_neg e).trans (if_neg e2)] at hq
      exact hq
  · have hr := hU i hi
    refine br_f (nI_ge (b := 96) hi (by decide)) ⟨vp_in_nI hi (by decide), ?_⟩
    rw [nI_clamp (n := i) (by omega)]
    have h2 := xz_53 g c D F C S T U' (post := post) (G := es_G F C S) (nI w) hi h
    refine ek_if hr (fun e => ?_) (fun e => ?_)
    · rw [es_rn_y e] at h2
      rw [nI_1]
      exact h2
    · rw [es_rn_n e] at h2
      exact h2
theorem yz_fr {post : Int32 → Prop} (x1 : Int32) (hT : es_Sn T S P) (hp : (x1 = 0 → post (nI (es_al (es_G F C S) 96))) ∧ (¬ x1 = 0 → ((x1 = 1 → post (nI (es_lg (es_G F C S) 96))) ∧ (¬ x1 = 1 → ((x1 = 2 → post (nI (es_rw (es_G F C S) 96))) ∧ (¬ x1 = 2 → post (-1))))))) :
    wpY_free post (g, c, F, P, C, B, D, T) x1 := by
  refine es_l0 (fun n i => wY_free_13 post x1 g c F P C B D T n (nI (es_al (es_G F C S) i)) (nI (es_lg (es_G F C S) i)) (nI (es_rw (es_G F C S) i)) (nI (es_rn (es_G F C S) i)) (nI i)) 96 (fun n => br_t (Int32.le_refl _) hp) (fun n i hi h => ?_)
  have h2 := yz_37 g c D F C T P B (post := post) (G := es_G F C S) x1 hi h
  refine br_f (nI_ge (b := 96) hi (by decide)) (yi_fr g c D F C S T P B hT hi (fun e => br_f es_10 ?_) (fun e => br_t rfl ?_))
  · rw [es_rn_y e] at h2
    rw [nI_1]
    exact h2
  · rw [es_rn_n e] at h2
    exact h2
end
theorem es_gt {n : Nat} {x : Int32} (hn : n + 1 < 2 ^ 31) (h : nI (n + 1) ≤ x) : nI n < x := Int32.lt_of_lt_of_le (nI_lt (Nat.lt_succ_self n) hn) h
theorem es_ngt {n : Nat} {x : Int32} (hn : n + 1 < 2 ^ 31) (h : nI (n + 1) ≤ x) : ¬ x ≤ nI n := Int32.not_le.mpr (es_gt hn h)
theorem es_bad_ne {n j : Nat} {x : Int32} (hn : n < 2 ^ 31) (h : es_bad n x) (hj : j < n) : ¬ x = nI j := by
  intro e
  subst e
  rcases h with h | h
  · exact nI_pos (by omega) h
  · exact nI_ge hj hn h
/-- two arguments, one of them out of its range -/
def es_b2 (n m : Nat) (x y : Int32) : Prop := es_bad n x ∨ ∃ f : Nat, f < n ∧ x = nI f ∧ es_bad m y
theorem es_c2 (n m : Nat) (hn : n < 2 ^ 31) (hm : m < 2 ^ 31) (x y : Int32) : es_b2 n m x y ∨ ∃ f b : Nat, f < n ∧ b < m ∧ x = nI f ∧ y = nI b := by
  rcases es_cs n hn x with h | ⟨f, hf, e⟩
  · exact Or.inl (Or.inl h)
  · rcases es_cs m hm y with h | ⟨b, hb, e2⟩
    · exact Or.inl (Or.inr ⟨f, hf, e, h⟩)
    · exact Or.inr ⟨f, b, hf, hb, e, e2⟩
section
variable (g c : Int32) (D F C S T U P B : Nat → Int32)
theorem xq_fb_n {A Z : Prop} {x y : Int32} (h : es_b2 6 32 x y) (a : A) : wpX_isFile (fun r_1 => (r_1 = 0 → A) ∧ (¬ r_1 = 0 → wpX_isBlock (fun r_11 => (r_11 = 0 → A) ∧ (¬ r_11 = 0 → Z)) (g, c, D, F, C, S, T, U) y)) (g, c, D, F, C, S, T, U) x := by
  rcases h with h | ⟨f, hf, rfl, h⟩
  · exact xq_file_n g c D F C S T U h (br_t rfl a)
  · exact xq_file_y g c D F C S T U hf (br_f es_10 (xq_block_n g c D F C S T U h (br_t rfl a)))
theorem xq_fb_y {A Z : Prop} {f b : Nat} (hf : f < 6) (hb : b < 32) (z : Z) : wpX_isFile (fun r_1 => (r_1 = 0 → A) ∧ (¬ r_1 = 0 → wpX_isBlock (fun r_11 => (r_11 = 0 → A) ∧ (¬ r_11 = 0 → Z)) (g, c, D, F, C, S, T, U) (nI b))) (g, c, D, F, C, S, T, U) (nI f) :=
  xq_file_y g c D F C S T U hf (br_f es_10 (xq_block_y g c D F C S T U hb (br_f es_10 z)))
theorem yq_fb_n {A Z : Prop} {x y : Int32} (h : es_b2 6 32 x y) (a : A) : wpY_file (fun r_1 => (r_1 = 0 → A) ∧ (¬ r_1 = 0 → wpY_block (fun r_11 => (r_11 = 0 → A) ∧ (¬ r_11 = 0 → Z)) (g, c, F, P, C, B, D, T) y)) (g, c, F, P, C, B, D, T) x := by
  rcases h with h | ⟨f, hf, rfl, h⟩
  · exact yq_file_n g c D F C T P B h (br_t rfl a)
  · exact yq_file_y g c D F C T P B hf (br_f es_10 (yq_block_n g c D F C T P B h (br_t rfl a)))
theorem yq_fb_y {A Z : Prop} {f b : Nat} (hf : f < 6) (hb : b < 32) (z : Z) : wpY_file (fun r_1 => (r_1 = 0 → A) ∧ (¬ r_1 = 0 → wpY_block (fun r_11 => (r_11 = 0 → A) ∧ (¬ r_11 = 0 → Z)) (g, c, F, P, C, B, D, T) (nI b))) (g, c, F, P, C, B, D, T) (nI f) :=
  yq_file_y g c D F C T P B hf (br_f es_10 (yq_block_y g c D F C T P B hb (br_f es_10 z)))
/-- a range of blocks of a file -/
def es_ra (x y : Int32) : Prop := ∃ a m : Nat, x = nI a ∧ y = nI m ∧ 1 ≤ m ∧ a + m ≤ 32
theorem es_32m {a : Nat} (h : a ≤ 32) : 32 - nI a = nI (32 - a) := by
  have z := pk_sub (a := 32) (b := a) h
  rw [es_n32] at z
  exact z
theorem es_1of {x : Int32} (h : ¬ x < 1) : ∃ m : Nat, 1 ≤ m ∧ m < 2 ^ 31 ∧ x = nI m := by
  have h0 : ¬ x < 0 := fun z => h (Int32.lt_trans z (by decide))
  obtain ⟨m, hm, rfl⟩ := nI_of h0
  refine ⟨m, ?_, hm, rfl⟩
  have z := nI_ltI (a := m) (b := 1) hm (by decide)
  have e : ¬ m < 1 := fun y => h (z.mpr y)
  omega
theorem xq_ra_y {post : Int32 → Prop} {x y : Int32} (h : es_ra x y) (hp : post 1) : wpX_isRange post (g, c, D, F, C, S, T, U) x y := by
  obtain ⟨a, m, rfl, rfl, h1, h2⟩ := h
  unfold wpX_isRange
  dsimp only
  refine xq_block_y g c D F C S T U (by omega) (br_f es_10 (br_f (nI_nlt (b := 1) h1 (by omega)) ?_))
  rw [es_32m (by omega)]
  exact br_f (nI_nlt (by omega) (by omega)) hp
theorem xq_ra_n {post : Int32 → Prop} {x y : Int32} (h : ¬ es_ra x y) (hp : post 0) : wpX_isRange post (g, c, D, F, C, S, T, U) x y := by
  unfold wpX_isRange
  dsimp only
  rcases es_cs 32 (by decide) x with hx | ⟨a, ha, rfl⟩
  · exact xq_block_n g c D F C S T U hx (br_t rfl hp)
  · refine xq_block_y g c D F C S T U ha (br_f es_10 (br_c (fun _ => hp) (fun e => ?_)))
    obtain ⟨m, h1, hm, rfl⟩ := es_1of e
    rw [es_32m (by omega)]
    refine br_c (fun _ => hp) (fun e2 => absurd ⟨a, m, rfl, rfl, h1, ?_⟩ h)
    rw [nI_ltI (by omega) hm] at e2
    omega
/-- the reference refuses a copy -/
theorem yq_cp_n {post : Int32 → SY → Prop} {v1 v2 v3 v4 v5 : Int32} (h : ¬ ((∃ f : Nat, f < 6 ∧ v1 = nI f) ∧ (∃ f : Nat, f < 6 ∧ v3 = nI f) ∧ es_ra v2 v5 ∧ es_ra v4 v5)) (hp : post 0 (g, c, F, P, C, B, D, T)) :
    wpY_copy post (g, c, F, P, C, B, D, T) v1 v2 v3 v4 v5 := by
  unfold wpY_copy
  dsimp only
  rcases es_cs 6 (by decide) v1 with h1 | ⟨f1, hf1, e1⟩
  · exact yq_file_n g c D F C T P B h1 (br_t rfl hp)
  subst e1
  refine yq_file_y g c D F C T P B hf1 (br_f es_10 ?_)
  rcases es_cs 6 (by decide) v3 with h3 | ⟨f3, hf3, e3⟩
  · exact yq_file_n g c D F C T P B h3 (br_t rfl hp)
  subst e3
  refine yq_file_y g c D F C T P B hf3 (br_f es_10 (br_c (fun _ => hp) (fun e5 => br_c (fun _ => hp) (fun e6 => ?_))))
  obtain ⟨m, m1, hm, e7⟩ := es_1of e5
  subst e7
  have hm2 : ¬ 32 < m := fun z => e6 ((nI_ltI (a := 32) (b := m) (by decide) hm).mpr z)
  rcases es_cs 32 (by decide) v2 with h2 | ⟨a, ha, e2⟩
  · exact yq_block_n g c D F C T P B h2 (br_t rfl hp)
  subst e2
  refine yq_block_y g c D F C T P B ha (br_f es_10 ?_)
  rcases es_cs 32 (by decide) v4 with h4 | ⟨b, hb, e4⟩
  · exact yq_block_n g c D F C T P B h4 (br_t rfl hp)
  subst e4
  refine yq_block_y g c D F C T P B hb (br_f es_10 (br_c (fun _ => hp) (fun e8 => br_c (fun e9 => ?_) (fun _ => hp))))
  rw [nI_add] at e8 e9
  have k8 : ¬ 32 < a + m := fun z => e8 ((nI_ltI (a := 32) (b := a + m) (by decide) (by omega)).mpr z)
  have k9 : b + m ≤ 32 := (nI_leI (a := b + m) (b := 32) (by omega) (by decide)).mp e9
  exact absurd ⟨⟨f1, hf1, rfl⟩, ⟨f3, hf3, rfl⟩, ⟨a, m, rfl, rfl, m1, by omega⟩, ⟨b, m, rfl, rfl, m1, k9⟩⟩ h
end
theorem es_ho_u0 (a : Nat → Int32) (j : Nat) : upd (es_ho a 0 j) j (-1) = es_ho a 0 (j + 1) := by
  have h := es_ho_up a 0 j
  rw [Nat.zero_add] at h
  exact h
section
variable (g c : Int32) (D F C S T U P B : Nat → Int32)
theorem xi_109 {post : SX → Prop} (hp : post (g, c, D, F, C, es_ho S 0 96, T, U)) : ∃ n, wX_init_109 post g c n 0 D F C S T U := by
  have z := es_l0 (fun n i => wX_init_109 post g c n (nI i) D F C (es_ho S 0 i) T U) 96 (fun n => br_t (Int32.le_refl _) hp) (fun n i hi h => by
      refine br_f (nI_ge (b := 96) hi (by decide)) ⟨vp_in_nI hi (by decide), ?_⟩
      rw [nI_clamp (n := i) (by omega)]
      exact nm_r (es_ho_u0 S i) (nm_r (nI_1 i) h))
  rw [es_ho_0] at z
  exact z
theorem xi_80 {post : SX → Prop} (hp : post (g, c, D, es_ho F 0 192, es_ho C 0 192, es_ho S 0 96, T, U)) : ∃ n, wX_init_80 post g c n 0 D F C S T U := by
  have z := es_l0 (fun n i => wX_init_80 post g c n (nI i) D (es_ho F 0 i) (es_ho C 0 i) S T U) 192 (fun n => br_t (Int32.le_refl _) (xi_109 g c D _ _ S T U hp)) (fun n i hi h => by
      have hv : vp_in (nI i) 192 := vp_in_nI hi (by decide)
      refine br_f (nI_ge (b := 192) hi (by decide)) ⟨hv, ?_⟩
      rw [nI_clamp (n := i) (by omega)]
      exact nm_r (es_ho_u0 F i) ⟨hv, nm_r (es_ho_u0 C i) (nm_r (nI_1 i) h)⟩)
  rw [es_ho_0, es_ho_0] at z
  exact z
theorem yi_80 {post : SY → Prop} (hp : post (g, c, es_ho F 0 192, P, es_ho C 0 192, B, D, T)) : ∃ n, wY_init_80 post g c n 0 F P C B D T := by
  have z := es_l0 (fun n i => wY_init_80 post g c n (nI i) (es_ho F 0 i) P (es_ho C 0 i) B D T) 192 (fun n => br_t (Int32.le_refl _) hp) (fun n i hi h => by
      have hv : vp_in (nI i) 192 := vp_in_nI hi (by decide)
      refine br_f (nI_ge (b := 192) hi (by decide)) ⟨hv, ?_⟩
      rw [nI_clamp (n := i) (by omega)]
      exact nm_r (es_ho_u0 F i) ⟨hv, nm_r (es_ho_u0 C i) (nm_r (nI_1 i) h)⟩)
  rw [es_ho_0, es_ho_0] at z
  exact z
end
section
variable (D F C S T U P B : Nat → Int32)
theorem xm_ga {post : Int32 → SX → Prop} {g c f : Nat} (hc : c < g) (hg : g ≤ 20) (hF : es_R 192 F) (hC : es_R 192 C) (hS : es_R 96 S) (hf : f < 6)
    (h0 : es_mc F f 32 = 0 ∨ es_ex F f 32 = 1 → post 0 (nI g, nI c, D, F, C, S, T, U))
    (hn : ¬ (es_mc F f 32 = 0 ∨ es_ex F f 32 = 1) → es_gs (es_G F C S) (es_mc F f 32) 96 0 0 = none → ∀ U' : Nat → Int32, post 0 (nI g, nI c, D, F, C, S, T, U'))
    (hs : ¬ (es_mc F f 32 = 0 ∨ es_ex F f 32 = 1) → ∀ q, es_gs (es_G F C S) (es_mc F f 32) 96 0 0 = some q → ∀ U' : Nat → Int32,
      post 1 (nI g, nI (es_nx g c C (es_mv D F f q 32).2.1).1, (es_mv D F f q 32).1, (es_mv D F f q 32).2.1, (es_nx g c C (es_mv D F f q 32).2.1).2, S, T, U')) :
    wpX_gather post (nI g, nI c, D, F, C, S, T, U) (nI f) := by
  have hm := es_mc_le F f 32
  have hx := es_ex_le F f 32
  unfold wpX_gather
  dsimp only
  refine xq_file_y _ _ D F C S T U hf (br_f es_10 (xm_mc _ _ D F C S T U hf (br_c (fun e => ?_) (fun e => xe_ex _ _ D F C S T U hf (br_c (fun e2 => ?_) (fun e2 => ?_))))))
  · rw [es_ni0 (by omega)] at e
    exact h0 (Or.inl e)
  · rw [es_ni1 (by omega)] at e2
    exact h0 (Or.inr e2)
  · rw [es_ni0 (by omega)] at e
    rw [es_ni1 (by omega)] at e2
    have hz : ¬ (es_mc F f 32 = 0 ∨ es_ex F f 32 = 1) := fun z => z.elim e e2
    refine xw_row _ _ D F C S T U hF hC hS (by omega) hm (fun U' q eq => ?_) (fun U' eq => br_t rfl (hn hz eq U'))
    have hq := es_gs_lt 96 0 0 q (Nat.le_refl 0) eq
    exact br_f (es_ne (by omega)) (xv_mv _ _ D F C S T U' hF hf (by omega) (xc_ch _ _ C S T U' hc hg (hs hz q eq U')))
theorem ym_ga {post : Int32 → SY → Prop} {g c f : Nat} (hc : c < g) (hg : g ≤ 20) (hF : es_R 192 F) (hT : es_Sn T S P) (hf : f < 6)
    (h0 : es_mc F f 32 = 0 ∨ es_ex F f 32 = 1 → post 0 (nI g, nI c, F, P, C, B, D, T))
    (hn : ¬ (es_mc F f 32 = 0 ∨ es_ex F f 32 = 1) → es_gs (es_G F C S) (es_mc F f 32) 96 0 0 = none → post 0 (nI g, nI c, F, P, C, B, D, T))
    (hs : ¬ (es_mc F f 32 = 0 ∨ es_ex F f 32 = 1) → ∀ q, es_gs (es_G F C S) (es_mc F f 32) 96 0 0 = some q →
      post 1 (nI g, nI (es_nx g c C (es_mv D F f q 32).2.1).1, (es_mv D F f q 32).2.1, P, (es_nx g c C (es_mv D F f q 32).2.1).2, B, (es_mv D F f q 32).1, T)) :
    wpY_gather post (nI g, nI c, F, P, C, B, D, T) (nI f) := by
  have hm := es_mc_le F f 32
  have hx := es_ex_le F f 32
  unfold wpY_gather
  dsimp only
  refine yq_file_y _ _ D F C T P B hf (br_f es_10 ?_)
  refine es_l0 (fun n i => wY_gather_17 post (nI f) 0 (nI g) (nI c) F P C B D T n (nI (es_mc F f i)) (nI i)) 32 (fun n => br_t (Int32.le_refl _) (br_c (fun e => ?_) (fun e => ye_ex _ _ D F C T P B hF hf (br_c (fun e2 => ?_) (fun e2 => ?_))))) (fun n i hi h => ?_)
  · rw [es_ni0 (by omega)] at e
    exact h0 (Or.inl e)
  · rw [es_ni1 (by omega)] at e2
    exact h0 (Or.inr e2)
  · rw [es_ni0 (by omega)] at e
    rw [es_ni1 (by omega)] at e2
    have hz : ¬ (es_mc F f 32 = 0 ∨ es_ex F f 32 = 1) := fun z => z.elim e e2
    exact ⟨97, yw_66 D F C S T P B hc hg hT hF hf (by omega) rfl 96 0 0 rfl (Nat.le_refl 0) (by omega) (hs hz) (hn hz)⟩
  · refine br_f (nI_ge (b := 32) hi (by decide)) ?_
    rw [es_iy f i, nI_clamp (n := 32 * f + i) (by omega)]
    refine ⟨vp_in_nI (by omega) (by decide), ek_if (es_neg (hF (32 * f + i) (by omega))) (fun e => nm_r (nI_1 i) ?_) (fun e => nm_r (nI_1 _) (nm_r (nI_1 i) ?_))⟩
    · have z : es_mc F f (i + 1) = es_mc F f i := if_pos e
      simp only [z] at h
      exact h
    · have z : es_mc F f (i + 1) = es_mc F f i + 1 := if_neg e
      simp only [z] at h
      exact h
end
end
section
/-! the relation; reads: read, past, place, uses, free, extents, changes -/
/-- the same group, count, maps, committed maps, values and signs of life; what is there of the snapshots is the same, what is not there is holes for the component; the scratch arrays are free -/
def i_Rel (k : Nat) (u : SX) (v : SY) : Prop := ∃ (g c : Nat) (D F C S T U P B : Nat → Int32), u = (nI g, nI c, D, F, C, S, T, U) ∧ v = (nI g, nI c, F, P, C, B, D, T) ∧ 1 ≤ g ∧ g ≤ 20 ∧ c < g ∧ es_R 192 F ∧ es_R 192 C ∧ es_R 96 S ∧ es_Sn T S P
theorem i_up {k : Nat} {u : SX} {v : SY} (h : i_Rel k u v) : i_Rel (k + 6) u v := h
theorem rl_mk {k g c : Nat} {D F C S T U P B : Nat → Int32} (h1 : 1 ≤ g) (h2 : g ≤ 20) (hc : c < g) (hF : es_R 192 F) (hC : es_R 192 C) (hS : es_R 96 S) (hT : es_Sn T S P) : i_Rel k (nI g, nI c, D, F, C, S, T, U) (nI g, nI c, F, P, C, B, D, T) :=
  ⟨g, c, D, F, C, S, T, U, P, B, rfl, rfl, h1, h2, hc, hF, hC, hS, hT⟩
/-- the relation behind a change of values and maps -/
theorem rl_nx {k g c : Nat} {D F C S T U P B : Nat → Int32} (h1 : 1 ≤ g) (h2 : g ≤ 20) (hF : es_R 192 F) (hC : es_R 192 C) (hS : es_R 96 S) (hT : es_Sn T S P) : i_Rel k (nI g, nI (es_nx g c C F).1, D, F, (es_nx g c C F).2, S, T, U) (nI g, nI (es_nx g c C F).1, F, P, (es_nx g c C F).2, B, D, T) :=
  rl_mk h1 h2 (es_nx_lt h1) hF (es_nx_R hC hF) hS hT
theorem rl_R0 (n : Nat) : es_R n (es_ho (fun _ => 0) 0 n) := by
  intro k hk
  exact Or.inl (if_pos ⟨Nat.zero_le k, by omega⟩)
theorem rl_0 {k g : Nat} (h1 : 1 ≤ g) (h2 : g ≤ 20) : i_Rel k (nI g, 0, fun _ => 0, es_ho (fun _ => 0) 0 192, es_ho (fun _ => 0) 0 192, es_ho (fun _ => 0) 0 96, fun _ => 0, fun _ => 0) (nI g, 0, es_ho (fun _ => 0) 0 192, fun _ => 0, es_ho (fun _ => 0) 0 192, fun _ => 0, fun _ => 0, fun _ => 0) :=
  rl_mk (c := 0) h1 h2 h1 (rl_R0 192) (rl_R0 192) (rl_R0 96) (fun k hk => ⟨fun z => absurd rfl z, fun _ => if_pos ⟨Nat.zero_le k, by omega⟩⟩)
theorem i_vc0 (k0 : Int32) : wpX_init (fun u => wpY_init (fun v => i_Rel 1 u v) k0) k0 := by
  by_cases h : 1 ≤ k0
  · by_cases h2 : k0 ≤ 20
    · obtain ⟨j, h3, hj, rfl⟩ := es_1of (Int32.not_lt.mpr h)
      have h4 : j ≤ 20 := (nI_leI (b := 20) hj (by decide)).mp h2
      exact br_t h (br_t h2 (xi_80 _ _ _ _ _ _ _ _ (br_t h (br_t h2 (yi_80 _ _ _ _ _ _ _ _ (rl_0 h3 h4))))))
    · exact br_t h (br_f h2 (xi_80 _ _ _ _ _ _ _ _ (br_t h (br_f h2 (yi_80 _ _ _ _ _ _ _ _ (rl_0 (g := 20) (by omega) (by omega)))))))
  · exact br_f h (xi_80 _ _ _ _ _ _ _ _ (br_f h (yi_80 _ _ _ _ _ _ _ _ (rl_0 (g := 1) (by omega) (by omega)))))
theorem rl_val {x : Int32} {D : Nat → Int32} (hx : x = -1 ∨ ∃ q : Nat, q < 96 ∧ x = nI q) : ∃ r : Int32, (∀ (post : Int32 → Prop) (g c : Int32) (F C S T U : Nat → Int32), post r → wpX_valueAt post (g, c, D, F, C, S, T, U) x) ∧ (∀ (post : Int32 → Prop) (g c : Int32) (F C T P B : Nat → Int32), post r → wpY_valueOf post (g, c, F, P, C, B, D, T) x) := by
  rcases hx with e | ⟨q, hq, e⟩
  · subst e
    exact ⟨0, fun post g c F C S T U hp => br_t rfl hp, fun post g c F C T P B hp => br_f es_m1le hp⟩
  · subst e
    refine ⟨D q, fun post g c F C S T U hp => br_f (es_ne (by omega)) ⟨vp_in_nI hq (by decide), ?_⟩, fun post g c F C T P B hp => br_t (nI_pos' (by omega)) ⟨vp_in_nI hq (by decide), ?_⟩⟩
    · rw [nI_clamp (by omega)]
      exact hp
    · rw [nI_clamp (by omega)]
      exact hp
theorem i_vc_read {k : Nat} {u : SX} {v : SY} (I : i_Rel k u v) (hk : k + 6 ≤ 3073) (v1 : Int32) (v2 : Int32) : wpX_read (fun r => wpY_read (fun r' => r' = r ∧ i_Rel (k + 6) u v) v v1 v2) u v1 v2 := by
  have R := i_up I
  obtain ⟨g, c, D, F, C, S, T, U, P, B, rfl, rfl, h1, hg, hc, hF, hC, hS, hT⟩ := I
  unfold wpX_read wpY_read
  dsimp only
  rcases es_c2 6 32 (by decide) (by decide) v1 v2 with h | ⟨f, b, hf, hb, rfl, rfl⟩
  · exact xq_fb_n _ _ _ _ _ _ _ _ h (yq_fb_n _ _ _ _ _ _ _ _ h ⟨rfl, R⟩)
  · obtain ⟨r, hX, hY⟩ := rl_val (D := D) (hF (32 * f + b) (by omega))
    have hv : vp_in (nI (32 * f + b)) 192 := vp_in_nI (by omega) (by decide)
    rw [es_ix f b, es_iy f b, nI_clamp (n := 32 * f + b) (by omega)]
    exact xq_fb_y _ _ _ _ _ _ _ _ hf hb ⟨hv, hX _ _ _ _ _ _ _ _ (yq_fb_y _ _ _ _ _ _ _ _ hf hb ⟨hv, hY _ _ _ _ _ _ _ _ ⟨rfl, R⟩⟩)⟩
theorem i_vc_place {k : Nat} {u : SX} {v : SY} (I : i_Rel k u v) (hk : k + 6 ≤ 3073) (v1 : Int32) (v2 : Int32) : wpX_place (fun r => wpY_place (fun r' => r' = r ∧ i_Rel (k + 6) u v) v v1 v2) u v1 v2 := by
  have R := i_up I
  obtain ⟨g, c, D, F, C, S, T, U, P, B, rfl, rfl, h1, hg, hc, hF, hC, hS, hT⟩ := I
  unfold wpX_place wpY_place
  dsimp only
  rcases es_c2 6 32 (by decide) (by decide) v1 v2 with h | ⟨f, b, hf, hb, rfl, rfl⟩
  · exact xq_fb_n _ _ _ _ _ _ _ _ h (yq_fb_n _ _ _ _ _ _ _ _ h ⟨rfl, R⟩)
  · have hv : vp_in (nI (32 * f + b)) 192 := vp_in_nI (by omega) (by decide)
    rw [es_ix f b, es_iy f b, nI_clamp (n := 32 * f + b) (by omega)]
    exact xq_fb_y _ _ _ _ _ _ _ _ hf hb ⟨hv, yq_fb_y _ _ _ _ _ _ _ _ hf hb ⟨hv, rfl, R⟩⟩
theorem i_vc_past {k : Nat} {u : SX} {v : SY} (I : i_Rel k u v) (hk : k + 6 ≤ 3073) (v1 : Int32) (v2 : Int32) : wpX_past (fun r => wpY_past (fun r' => r' = r ∧ i_Rel (k + 6) u v) v v1 v2) u v1 v2 := by
  have R := i_up I
  obtain ⟨g, c, D, F, C, S, T, U, P, B, rfl, rfl, h1, hg, hc, hF, hC, hS, hT⟩ := I
  unfold wpX_past wpY_past
  dsimp only
  rcases es_cs 3 (by decide) v1 with h | ⟨s, hs, rfl⟩
  · exact xq_snap_n _ _ _ _ _ _ _ _ h (br_t rfl (yq_shot_n _ _ _ _ _ _ _ _ h (br_t rfl ⟨rfl, R⟩)))
  · refine xq_snap_y _ _ _ _ _ _ _ _ hs (br_f es_10 ?_)
    rcases es_cs 32 (by decide) v2 with h | ⟨b, hb, rfl⟩
    · refine xq_block_n _ _ _ _ _ _ _ _ h (br_t rfl ?_)
      by_cases ht : T s = 0
      · exact yq_shot_0 _ _ _ _ _ _ _ _ hs ht (br_t rfl ⟨rfl, R⟩)
      · exact yq_shot_1 _ _ _ _ _ _ _ _ hs ht (br_f es_10 (yq_block_n _ _ _ _ _ _ _ _ h (br_t rfl ⟨rfl, R⟩)))
    · have hv : vp_in (nI (32 * s + b)) 96 := vp_in_nI (by omega) (by decide)
      have hq := hT (32 * s + b) (by omega)
      rw [show (32 * s + b) / 32 = s from by omega] at hq
      rw [es_ix s b, es_iy s b, nI_clamp (n := 32 * s + b) (by omega)]
      refine xq_block_y _ _ _ _ _ _ _ _ hb (br_f es_10 ⟨hv, ?_⟩)
      by_cases ht : T s = 0
      · rw [hq.2 ht]
        exact br_t rfl (yq_shot_0 _ _ _ _ _ _ _ _ hs ht (br_t rfl ⟨rfl, R⟩))
      · obtain ⟨r, hX, hY⟩ := rl_val (D := D) (hS (32 * s + b) (by omega))
        rw [hq.1 ht] at hX hY ⊢
        exact hX _ _ _ _ _ _ _ _ (yq_shot_1 _ _ _ _ _ _ _ _ hs ht (br_f es_10 (yq_block_y _ _ _ _ _ _ _ _ hb (br_f es_10 ⟨hv, hY _ _ _ _ _ _ _ _ ⟨rfl, R⟩⟩))))
theorem i_vc_uses {k : Nat} {u : SX} {v : SY} (I : i_Rel k u v) (hk : k + 6 ≤ 3073) (v1 : Int32) : wpX_uses (fun r => wpY_uses (fun r' => r' = r ∧ i_Rel (k + 6) u v) v v1) u v1 := by
  have R := i_up I
  obtain ⟨g, c, D, F, C, S, T, U, P, B, rfl, rfl, h1, hg, hc, hF, hC, hS, hT⟩ := I
  unfold wpX_uses wpY_uses
  dsimp only
  rcases es_cs 96 (by decide) v1 with (h | h) | ⟨p, hp, rfl⟩
  · exact br_t h (br_t h ⟨rfl, R⟩)
  · have h0 : ¬ v1 < 0 := fun z => Int32.not_lt.mpr h (Int32.lt_trans z (by decide))
    exact br_f h0 (br_f (Int32.not_lt.mpr h) (br_f h0 (br_f (es_ngt (n := 95) (by decide) h) ⟨rfl, R⟩)))
  · have h0 : ¬ nI p < 0 := nI_pos (by omega)
    have hb := es_us_b F S (nI p)
    refine br_f h0 (br_t (nI_lt (b := 96) hp (by decide)) (xu_us _ _ D F C S T U ?_))
    have hY : ∀ r : Int32, (es_G F C S p = true → nI (es_us F S (nI p)) = r) → (¬ es_G F C S p = true → nI (es_us F S (nI p)) + 100 = r) → wpY_uses (fun r' => r' = r ∧ i_Rel (k + 6) (nI g, nI c, D, F, C, S, T, U) (nI g, nI c, F, P, C, B, D, T)) (nI g, nI c, F, P, C, B, D, T) (nI p) := fun r e1 e2 =>
      br_f h0 (br_t (nI_le (b := 95) (by omega) (by decide)) (yu_us _ _ D F C S T P B hT (es_ne (by omega)) (yi_fr _ _ D F C S T P B hT hp (fun e => br_f es_10 ⟨e1 e, R⟩) (fun e => br_t rfl ⟨e2 e, R⟩))))
    by_cases z : es_us F S (nI p) = 0
    · refine br_f (fun y => absurd ((nI_ltI (a := 0) (by decide) hb).mp y) (by omega)) (xk_co _ _ D F C S T U (fun e => br_t rfl (br_t rfl ?_)) (fun e => br_f es_10 (br_f es_10 ?_)))
      · exact hY _ (fun _ => rfl) (fun y => absurd (es_G_t.mpr ⟨z, e⟩) y)
      · exact hY _ (fun y => absurd (es_G_t.mp y).2 e) (fun _ => rfl)
    · exact br_t ((nI_ltI (a := 0) (by decide) hb).mpr (by omega)) (br_f es_10 (hY _ (fun y => absurd (es_G_t.mp y).1 z) (fun _ => rfl)))
theorem i_vc_free {k : Nat} {u : SX} {v : SY} (I : i_Rel k u v) (hk : k + 6 ≤ 3073) (v1 : Int32) : wpX_free (fun r u' => wpY_free (fun r' => r' = r ∧ i_Rel (k + 6) u' v) v v1) u v1 := by
  obtain ⟨g, c, D, F, C, S, T, U, P, B, rfl, rfl, h1, hg, hc, hF, hC, hS, hT⟩ := I
  rcases es_cs 3 (by decide) v1 with h | ⟨w, hw, rfl⟩
  · have hY : wpY_free (fun r' => r' = -1 ∧ i_Rel (k + 6) (nI g, nI c, D, F, C, S, T, U) (nI g, nI c, F, P, C, B, D, T)) (nI g, nI c, F, P, C, B, D, T) v1 :=
      yz_fr _ _ D F C S T P B v1 hT (br_f (es_bad_ne (j := 0) (by decide) h (by decide)) (br_f (es_bad_ne (j := 1) (by decide) h (by decide)) (br_f (es_bad_ne (j := 2) (by decide) h (by decide)) ⟨rfl, rl_mk h1 hg hc hF hC hS hT⟩)))
    rcases h with h | h
    · exact br_t h hY
    · have h0 : ¬ v1 < 0 := fun z => Int32.not_lt.mpr h (Int32.lt_trans z (by decide))
      exact br_f h0 (br_f (es_ngt (n := 2) (by decide) h) hY)
  · refine xz_fr _ _ D F C S T U hw hF hC hS (fun U' => yz_fr _ _ D F C S T P B (nI w) hT ?_)
    have R : i_Rel (k + 6) (nI g, nI c, D, F, C, S, T, U') (nI g, nI c, F, P, C, B, D, T) := rl_mk h1 hg hc hF hC hS hT
    have hw2 : w = 0 ∨ w = 1 ∨ w = 2 := by omega
    rcases hw2 with rfl | rfl | rfl
    · exact br_t rfl ⟨rfl, R⟩
    · exact br_f es_10 (br_t rfl ⟨rfl, R⟩)
    · exact br_f (by decide) (br_f (by decide) (br_t rfl ⟨rfl, R⟩))
theorem i_vc_extents {k : Nat} {u : SX} {v : SY} (I : i_Rel k u v) (hk : k + 6 ≤ 3073) (v1 : Int32) : wpX_extents (fun r => wpY_extents (fun r' => r' = r ∧ i_Rel (k + 6) u v) v v1) u v1 := by
  have R := i_up I
  obtain ⟨g, c, D, F, C, S, T, U, P, B, rfl, rfl, h1, hg, hc, hF, hC, hS, hT⟩ := I
  unfold wpX_extents wpY_extents
  dsimp only
  rcases es_cs 6 (by decide) v1 with h | ⟨f, hf, rfl⟩
  · exact xq_file_n _ _ _ _ _ _ _ _ h (br_t rfl (yq_file_n _ _ _ _ _ _ _ _ h (br_t rfl ⟨rfl, R⟩)))
  · exact xq_file_y _ _ _ _ _ _ _ _ hf (br_f es_10 (xe_ex _ _ D F C S T U hf (yq_file_y _ _ _ _ _ _ _ _ hf (br_f es_10 (ye_ex _ _ D F C T P B hF hf ⟨rfl, R⟩)))))
theorem i_vc_changes {k : Nat} {u : SX} {v : SY} (I : i_Rel k u v) (hk : k + 6 ≤ 3073) : wpX_changes (fun r => wpY_changes (fun r' => r' = r ∧ i_Rel (k + 6) u v) v) u := by
  have R := i_up I
  obtain ⟨g, c, D, F, C, S, T, U, P, B, rfl, rfl, h1, hg, hc, hF, hC, hS, hT⟩ := I
  exact ⟨rfl, R⟩
end
section
/-! the changes: write, punch, copy, commit, crash, snap, drop, revert, gather -/
theorem rw_id {F : Nat → Int32} {j p : Nat} (hj : j < 2 ^ 31) (e : F j = nI p) : upd F (nI j).toNatClampNeg (nI p) = F := by
  rw [nI_clamp hj]
  funext i
  by_cases h : i = j
  · subst h
    rw [pk_us, e]
  · exact pk_un h
theorem rw_up (a : Nat → Int32) {j : Nat} (x : Int32) (hj : j < 2 ^ 31) : upd a (nI j).toNatClampNeg x = upd a j x := by
  rw [nI_clamp hj]
section
variable (D F C S T U P B : Nat → Int32)
/-- how a write ends: in place, in a new block, or not at all -/
theorem xm_wr {post : Int32 → SX → Prop} {g c f b : Nat} (v3 : Int32) (hc : c < g) (hg : g ≤ 20) (hF : es_R 192 F) (hC : es_R 192 C) (hS : es_R 96 S) (hf : f < 6) (hb : b < 32)
    (ho : es_ow F C S (32 * f + b) → ∀ p, p < 96 → F (32 * f + b) = nI p → post 1 (nI g, nI (es_nx g c C F).1, upd D p v3, F, (es_nx g c C F).2, S, T, U))
    (hs : ¬ es_ow F C S (32 * f + b) → ∀ (U' : Nat → Int32) (q : Nat), q < 96 → es_an (es_G F C S) (es_go F f b) = some q →
      post 1 (nI g, nI (es_nx g c C (upd F (32 * f + b) (nI q))).1, upd D q v3, upd F (32 * f + b) (nI q), (es_nx g c C (upd F (32 * f + b) (nI q))).2, S, T, U'))
    (hn : ¬ es_ow F C S (32 * f + b) → ∀ U' : Nat → Int32, es_an (es_G F C S) (es_go F f b) = none → post 0 (nI g, nI c, D, F, C, S, T, U')) :
    wpX_write post (nI g, nI c, D, F, C, S, T, U) (nI f) (nI b) v3 := by
  have hv : vp_in (nI (32 * f + b)) 192 := vp_in_nI (by omega) (by decide)
  unfold wpX_write
  dsimp only
  refine xq_fb_y _ _ D F C S T U hf hb (nm_r (es_ix f b) ?_)
  by_cases h : es_ow F C S (32 * f + b)
  · refine xo_y _ _ D F C S T U (by omega) h (br_f es_10 ⟨hv, ?_⟩)
    rw [nI_clamp (n := 32 * f + b) (by omega)]
    rcases hF (32 * f + b) (by omega) with e | ⟨p, hp, e⟩
    · exact absurd e h.1
    · have z := ho h p hp e
      rw [e]
      exact br_f (es_ne (by omega)) ⟨hv, nm_r (rw_id (by omega) e) ⟨vp_in_nI hp (by decide), nm_r (rw_up D v3 (by omega)) (xc_ch _ F C S T U hc hg z)⟩⟩
  · refine xo_n _ _ D F C S T U (by omega) h (br_t rfl (xa_fb _ _ D F C S T U hF hC hS hf (by omega) (fun U' q e => ?_) (fun U' e => br_t rfl (hn h U' e))))
    have hq : q < 96 := es_an_lt (Nat.le_of_lt (es_go_lt hf b)) e
    exact br_f (es_ne (by omega)) ⟨hv, nm_r (rw_up F (nI q) (by omega)) ⟨vp_in_nI hq (by decide), nm_r (rw_up D v3 (by omega)) (xc_ch _ _ C S T U' hc hg (hs h U' q hq e))⟩⟩
theorem ym_wr {post : Int32 → SY → Prop} {g c f b : Nat} (v3 : Int32) (hc : c < g) (hg : g ≤ 20) (hF : es_R 192 F) (hT : es_Sn T S P) (hf : f < 6) (hb : b < 32)
    (ho : es_ow F C S (32 * f + b) → ∀ p, p < 96 → F (32 * f + b) = nI p → post 1 (nI g, nI (es_nx g c C F).1, F, P, (es_nx g c C F).2, B, upd D p v3, T))
    (hs : ¬ es_ow F C S (32 * f + b) → ∀ q, q < 96 → es_an (es_G F C S) (es_go F f b) = some q →
      post 1 (nI g, nI (es_nx g c C (upd F (32 * f + b) (nI q))).1, upd F (32 * f + b) (nI q), P, (es_nx g c C (upd F (32 * f + b) (nI q))).2, B, upd D q v3, T))
    (hn : ¬ es_ow F C S (32 * f + b) → es_an (es_G F C S) (es_go F f b) = none → post 0 (nI g, nI c, F, P, C, B, D, T)) :
    wpY_write post (nI g, nI c, F, P, C, B, D, T) (nI f) (nI b) v3 := by
  have hv : vp_in (nI (32 * f + b)) 192 := vp_in_nI (by omega) (by decide)
  have k55 : ¬ es_ow F C S (32 * f + b) → wY_write_55 post (nI f) (nI b) v3 (nI g) (nI c) F P C B D T := by
    intro h
    refine ya_al _ _ D F C S T P B hT hF hf (by omega) (fun q e => ?_) (fun e => br_f es_m1le (hn h e))
    have hq : q < 96 := es_an_lt (Nat.le_of_lt (es_go_lt hf b)) e
    rw [es_iy f b]
    exact br_t (nI_pos' (by omega)) ⟨hv, nm_r (rw_up F (nI q) (by omega)) ⟨vp_in_nI hq (by decide), nm_r (rw_up D v3 (by omega)) (yc_ch _ _ C T P B hc hg (hs h q hq e))⟩⟩
  unfold wpY_write
  dsimp only
  rw [es_iy f b, nI_clamp (n := 32 * f + b) (by omega)]
  refine yq_fb_y _ _ D F C T P B hf hb ⟨hv, nm_e ?_⟩
  rcases hF (32 * f + b) (by omega) with e | ⟨p, hp, e⟩
  · rw [e]
    exact br_t es_m1lt (k55 (fun z => z.1 e))
  · have hne : ¬ F (32 * f + b) = -1 := by rw [e]; exact es_ne (by omega)
    have hnl : ¬ F (32 * f + b) < 0 := by rw [e]; exact nI_pos (by omega)
    refine br_f hnl (yu_us _ _ D F C S T P B hT hne (br_c (fun e1 => yk_co _ _ D F C T P B (fun e2 => br_t rfl ?_) (fun e2 => br_f es_10 (k55 (fun z => e2 z.2.2)))) (fun e1 => k55 (fun z => e1 ((es_ni1 (es_us_b _ _ _)).mpr z.2.1)))))
    rw [es_ni1 (es_us_b _ _ _)] at e1
    have z := ho ⟨hne, e1, e2⟩ p hp e
    rw [e]
    exact ⟨vp_in_nI hp (by decide), nm_r (rw_up D v3 (by omega)) (yc_ch _ F C T P B hc hg z)⟩
end
theorem i_vc_write {k : Nat} {u : SX} {v : SY} (I : i_Rel k u v) (hk : k + 6 ≤ 3073) (v1 : Int32) (v2 : Int32) (v3 : Int32) : wpX_write (fun r u' => wpY_write (fun r' v' => r' = r ∧ i_Rel (k + 6) u' v') v v1 v2 v3) u v1 v2 v3 := by
  obtain ⟨g, c, D, F, C, S, T, U, P, B, rfl, rfl, h1, hg, hc, hF, hC, hS, hT⟩ := I
  rcases es_c2 6 32 (by decide) (by decide) v1 v2 with h | ⟨f, b, hf, hb, rfl, rfl⟩
  · unfold wpX_write wpY_write
    dsimp only
    exact xq_fb_n _ _ _ _ _ _ _ _ h (yq_fb_n _ _ _ _ _ _ _ _ h ⟨rfl, rl_mk h1 hg hc hF hC hS hT⟩)
  · refine xm_wr D F C S T U v3 hc hg hF hC hS hf hb (fun h p hp e => ?_) (fun h U' q hq e => ?_) (fun h U' e => ?_)
    · refine ym_wr D F C S T P B v3 hc hg hF hT hf hb (fun _ p' hp' e' => ?_) (fun y => absurd h y) (fun y => absurd h y)
      have z : p' = p := (nI_eq (by omega) (by omega)).mp (e'.symm.trans e)
      subst z
      exact ⟨rfl, rl_nx h1 hg hF hC hS hT⟩
    · refine ym_wr D F C S T P B v3 hc hg hF hT hf hb (fun y => absurd y h) (fun _ q' hq' e' => ?_) (fun _ e' => nomatch (e'.symm.trans e))
      have z : q' = q := Option.some.inj (e'.symm.trans e)
      subst z
      exact ⟨rfl, rl_nx h1 hg (es_R_upd hF hq) hC hS hT⟩
    · exact ym_wr D F C S T P B v3 hc hg hF hT hf hb (fun y => absurd y h) (fun _ q' hq' e' => nomatch (e'.symm.trans e)) (fun _ _ => ⟨rfl, rl_mk h1 hg hc hF hC hS hT⟩)
theorem i_vc_punch {k : Nat} {u : SX} {v : SY} (I : i_Rel k u v) (hk : k + 6 ≤ 3073) (v1 : Int32) (v2 : Int32) (v3 : Int32) : wpX_punch (fun r u' => wpY_punch (fun r' v' => r' = r ∧ i_Rel (k + 6) u' v') v v1 v2 v3) u v1 v2 v3 := by
  obtain ⟨g, c, D, F, C, S, T, U, P, B, rfl, rfl, h1, hg, hc, hF, hC, hS, hT⟩ := I
  have R : i_Rel (k + 6) (nI g, nI c, D, F, C, S, T, U) (nI g, nI c, F, P, C, B, D, T) := rl_mk h1 hg hc hF hC hS hT
  unfold wpX_punch wpY_punch
  dsimp only
  rcases es_c2 6 32 (by decide) (by decide) v1 v2 with h | ⟨f, b, hf, hb, rfl, rfl⟩
  · exact xq_fb_n _ _ _ _ _ _ _ _ h (yq_fb_n _ _ _ _ _ _ _ _ h ⟨rfl, R⟩)
  · refine xq_fb_y _ _ _ _ _ _ _ _ hf hb ?_
    by_cases h3 : 1 ≤ v3
    · obtain ⟨m, m1, hm, rfl⟩ := es_1of (Int32.not_lt.mpr h3)
      have hl : ∀ l : Nat, l ≤ m → b + l ≤ 32 → (l = m ∨ b + l = 32) → wX_punch_39 (fun r u' => wpY_file (fun r_1 => (r_1 = 0 → 0 = r ∧ i_Rel (k + 6) u' (nI g, nI c, F, P, C, B, D, T)) ∧ (¬ r_1 = 0 → wpY_block (fun r_11 => (r_11 = 0 → 0 = r ∧ i_Rel (k + 6) u' (nI g, nI c, F, P, C, B, D, T)) ∧ (¬ r_11 = 0 → (1 ≤ nI m → ∃ n26 : Nat, wY_punch_26 (fun r' v' => r' = r ∧ i_Rel (k + 6) u' v') (nI f) (nI b) (nI m) (nI g) (nI c) n26 (nI b) F P C B D T) ∧ (¬ 1 ≤ nI m → 0 = r ∧ i_Rel (k + 6) u' (nI g, nI c, F, P, C, B, D, T)))) (nI g, nI c, F, P, C, B, D, T) (nI b))) (nI g, nI c, F, P, C, B, D, T) (nI f)) (nI f) (nI b) (nI l) (nI g) (nI c) D F C S T U := by
        intro l l1 l2 l3
        unfold wX_punch_39
        rw [es_ix f b]
        refine xh_f _ _ D F C S T U (by omega) (xc_ch D _ C S T U hc hg ?_)
        exact yq_fb_y _ _ _ _ _ _ _ _ hf hb (br_t h3 (ys_pu D F C T P B hc hg hf hb hm l1 l2 l3 ⟨rfl, rl_nx h1 hg (es_R_ho hF) hC hS hT⟩))
      refine br_t h3 ?_
      rw [es_32m (by omega)]
      refine br_c (fun e => ?_) (fun e => ?_)
      · rw [nI_leI hm (by omega)] at e
        exact hl m (Nat.le_refl m) (by omega) (Or.inl rfl)
      · rw [nI_leI hm (by omega)] at e
        exact hl (32 - b) (by omega) (by omega) (Or.inr (by omega))
    · exact br_f h3 (yq_fb_y _ _ _ _ _ _ _ _ hf hb (br_f h3 ⟨rfl, R⟩))
theorem i_vc_copy {k : Nat} {u : SX} {v : SY} (I : i_Rel k u v) (hk : k + 6 ≤ 3073) (v1 : Int32) (v2 : Int32) (v3 : Int32) (v4 : Int32) (v5 : Int32) : wpX_copy (fun r u' => wpY_copy (fun r' v' => r' = r ∧ i_Rel (k + 6) u' v') v v1 v2 v3 v4 v5) u v1 v2 v3 v4 v5 := by
  obtain ⟨g, c, D, F, C, S, T, U, P, B, rfl, rfl, h1, hg, hc, hF, hC, hS, hT⟩ := I
  have R : i_Rel (k + 6) (nI g, nI c, D, F, C, S, T, U) (nI g, nI c, F, P, C, B, D, T) := rl_mk h1 hg hc hF hC hS hT
  unfold wpX_copy
  dsimp only
  rcases es_cs 6 (by decide) v1 with h | ⟨e, he, rfl⟩
  · exact xq_file_n _ _ _ _ _ _ _ _ h (br_t rfl (yq_cp_n _ _ D F C T P B (fun z => by
      obtain ⟨⟨j, hj, ej⟩, -⟩ := z
      exact es_bad_ne (by decide) h hj ej) ⟨rfl, R⟩))
  refine xq_file_y _ _ _ _ _ _ _ _ he (br_f es_10 ?_)
  rcases es_cs 6 (by decide) v3 with h | ⟨f, hf, rfl⟩
  · exact xq_file_n _ _ _ _ _ _ _ _ h (br_t rfl (yq_cp_n _ _ D F C T P B (fun z => by
      obtain ⟨-, ⟨j, hj, ej⟩, -⟩ := z
      exact es_bad_ne (by decide) h hj ej) ⟨rfl, R⟩))
  refine xq_file_y _ _ _ _ _ _ _ _ hf (br_f es_10 ?_)
  by_cases h2 : es_ra v2 v5
  case neg => exact xq_ra_n _ _ D F C S T U h2 (br_t rfl (yq_cp_n _ _ D F C T P B (fun z => h2 z.2.2.1) ⟨rfl, R⟩))
  refine xq_ra_y _ _ D F C S T U h2 (br_f es_10 ?_)
  by_cases h4 : es_ra v4 v5
  case neg => exact xq_ra_n _ _ D F C S T U h4 (br_t rfl (yq_cp_n _ _ D F C T P B (fun z => h4 z.2.2.2) ⟨rfl, R⟩))
  refine xq_ra_y _ _ D F C S T U h4 (br_f es_10 ?_)
  obtain ⟨a, m, rfl, rfl, m1, ha⟩ := h2
  obtain ⟨b, m', rfl, em, -, hb⟩ := h4
  obtain rfl : m = m' := (nI_eq (by omega) (by omega)).mp em
  rw [es_ix e a, es_ix f b]
  refine xs_ff _ _ D F C S T U (by omega) (by omega) (xc_ch D _ C S T U hc hg ?_)
  unfold wpY_copy
  dsimp only
  refine yq_file_y _ _ _ _ _ _ _ _ he (br_f es_10 (yq_file_y _ _ _ _ _ _ _ _ hf (br_f es_10 (br_f (nI_nlt (b := 1) m1 (by omega)) (br_f (nI_nlt (a := 32) (b := m) (by omega) (by decide)) (yq_block_y _ _ _ _ _ _ _ _ (by omega) (br_f es_10 (yq_block_y _ _ _ _ _ _ _ _ (by omega) (br_f es_10 ?_)))))))))
  rw [nI_add a m, nI_add b m]
  refine br_f (nI_nlt (a := 32) (b := a + m) ha (by decide)) (br_t (nI_le (b := 32) hb (by decide)) (ys_c1 D F C T P B hc hg he ha hf hb (fun B' => ⟨rfl, rl_nx h1 hg (es_R_cp hF hF (by omega)) hC hS hT⟩)))
theorem i_vc_commit {k : Nat} {u : SX} {v : SY} (I : i_Rel k u v) (hk : k + 6 ≤ 3073) : wpX_commit (fun r u' => wpY_commit (fun r' v' => r' = r ∧ i_Rel (k + 6) u' v') v) u := by
  obtain ⟨g, c, D, F, C, S, T, U, P, B, rfl, rfl, h1, hg, hc, hF, hC, hS, hT⟩ := I
  unfold wpX_commit wpY_commit
  dsimp only
  exact xr_co _ _ D F C S T U (yr_sv _ _ D F C T P B ⟨rfl, rl_mk (c := 0) h1 hg h1 hF (es_R_cp hC hF (by omega)) hS hT⟩)
theorem i_vc_crash {k : Nat} {u : SX} {v : SY} (I : i_Rel k u v) (hk : k + 6 ≤ 3073) : wpX_crash (fun r u' => wpY_crash (fun r' v' => r' = r ∧ i_Rel (k + 6) u' v') v) u := by
  obtain ⟨g, c, D, F, C, S, T, U, P, B, rfl, rfl, h1, hg, hc, hF, hC, hS, hT⟩ := I
  unfold wpX_crash
  dsimp only
  exact xr_fc _ _ D F C S T U (yr_cr _ _ D F C T P B ⟨rfl, rl_mk (c := 0) h1 hg h1 (es_R_cp hF hC (by omega)) hC hS hT⟩)
theorem i_vc_snap {k : Nat} {u : SX} {v : SY} (I : i_Rel k u v) (hk : k + 6 ≤ 3073) (v1 : Int32) (v2 : Int32) : wpX_snap (fun r u' => wpY_snap (fun r' v' => r' = r ∧ i_Rel (k + 6) u' v') v v1 v2) u v1 v2 := by
  obtain ⟨g, c, D, F, C, S, T, U, P, B, rfl, rfl, h1, hg, hc, hF, hC, hS, hT⟩ := I
  have R : i_Rel (k + 6) (nI g, nI c, D, F, C, S, T, U) (nI g, nI c, F, P, C, B, D, T) := rl_mk h1 hg hc hF hC hS hT
  unfold wpX_snap wpY_snap
  dsimp only
  rcases es_cs 3 (by decide) v1 with h | ⟨s, hs, rfl⟩
  · refine xq_snap_n _ _ _ _ _ _ _ _ h (br_t rfl ?_)
    rcases h with h | h
    · exact br_t h ⟨rfl, R⟩
    · exact br_c (fun _ => ⟨rfl, R⟩) (fun _ => br_t (es_gt (n := 2) (by decide) h) ⟨rfl, R⟩)
  · have hv : vp_in (nI s) 3 := vp_in_nI hs (by decide)
    have h0 : ¬ nI s < 0 := nI_pos (by omega)
    have h2 : ¬ 2 < nI s := nI_nlt (a := 2) (b := s) (by omega) (by decide)
    rw [nI_clamp (n := s) (by omega)]
    refine xq_snap_y _ _ _ _ _ _ _ _ hs (br_f es_10 ⟨hv, ?_⟩)
    by_cases ht : T s = 0
    case neg => exact br_f ht (br_f h0 (br_f h2 ⟨hv, br_f ht ⟨rfl, R⟩⟩))
    refine br_t ht ?_
    rcases es_cs 6 (by decide) v2 with h | ⟨f, hf, rfl⟩
    · exact xq_file_n _ _ _ _ _ _ _ _ h (br_t rfl (br_f h0 (br_f h2 ⟨hv, br_t ht (yq_file_n _ _ _ _ _ _ _ _ h (br_t rfl ⟨rfl, R⟩))⟩)))
    · rw [es_vb1, es_ix0 f, es_ix0 s]
      refine xq_file_y _ _ _ _ _ _ _ _ hf (br_f es_10 (xr_co _ _ D F C S T U (xs_fs _ _ D F _ S T U (m := 32) (by omega) (by omega) ⟨hv, nm_e ?_⟩)))
      refine br_f h0 (br_f h2 ⟨hv, br_t ht (yq_file_y _ _ _ _ _ _ _ _ hf (br_f es_10 (yr_sv _ _ D F C T P B ⟨hv, nm_e (ys_sn _ _ D F _ _ P B hs hf ⟨rfl, ?_⟩)⟩)))⟩)
      exact rl_mk (c := 0) h1 hg h1 hF (es_R_cp hC hF (by omega)) (es_R_cp hS hF (by omega)) (es_Sn_snap hT es_10)
theorem i_vc_drop {k : Nat} {u : SX} {v : SY} (I : i_Rel k u v) (hk : k + 6 ≤ 3073) (v1 : Int32) : wpX_drop (fun r u' => wpY_drop (fun r' v' => r' = r ∧ i_Rel (k + 6) u' v') v v1) u v1 := by
  obtain ⟨g, c, D, F, C, S, T, U, P, B, rfl, rfl, h1, hg, hc, hF, hC, hS, hT⟩ := I
  have R : i_Rel (k + 6) (nI g, nI c, D, F, C, S, T, U) (nI g, nI c, F, P, C, B, D, T) := rl_mk h1 hg hc hF hC hS hT
  unfold wpX_drop wpY_drop
  dsimp only
  rcases es_cs 3 (by decide) v1 with h | ⟨s, hs, rfl⟩
  · exact xq_snap_n _ _ _ _ _ _ _ _ h (br_t rfl (yq_shot_n _ _ _ _ _ _ _ _ h (br_t rfl ⟨rfl, R⟩)))
  · have hv : vp_in (nI s) 3 := vp_in_nI hs (by decide)
    rw [nI_clamp (n := s) (by omega)]
    refine xq_snap_y _ _ _ _ _ _ _ _ hs (br_f es_10 ⟨hv, ?_⟩)
    by_cases ht : T s = 0
    · exact br_t ht (yq_shot_0 _ _ _ _ _ _ _ _ hs ht (br_t rfl ⟨rfl, R⟩))
    · rw [es_vb0, es_ix0 s]
      refine br_f ht (xr_co _ _ D F C S T U (xh_s _ _ D F _ S T U (m := 32) (by omega) ⟨hv, nm_e ?_⟩))
      refine yq_shot_1 _ _ _ _ _ _ _ _ hs ht (br_f es_10 (yr_sv _ _ D F C T P B ⟨hv, nm_e ⟨rfl, ?_⟩⟩))
      exact rl_mk (c := 0) h1 hg h1 hF (es_R_cp hC hF (by omega)) (es_R_ho hS) (es_Sn_drop hT)
theorem i_vc_revert {k : Nat} {u : SX} {v : SY} (I : i_Rel k u v) (hk : k + 6 ≤ 3073) (v1 : Int32) (v2 : Int32) : wpX_revert (fun r u' => wpY_revert (fun r' v' => r' = r ∧ i_Rel (k + 6) u' v') v v1 v2) u v1 v2 := by
  obtain ⟨g, c, D, F, C, S, T, U, P, B, rfl, rfl, h1, hg, hc, hF, hC, hS, hT⟩ := I
  have R : i_Rel (k + 6) (nI g, nI c, D, F, C, S, T, U) (nI g, nI c, F, P, C, B, D, T) := rl_mk h1 hg hc hF hC hS hT
  unfold wpX_revert wpY_revert
  dsimp only
  rcases es_cs 6 (by decide) v1 with h | ⟨f, hf, rfl⟩
  · exact xq_file_n _ _ _ _ _ _ _ _ h (br_t rfl (yq_file_n _ _ _ _ _ _ _ _ h (br_t rfl ⟨rfl, R⟩)))
  refine xq_file_y _ _ _ _ _ _ _ _ hf (br_f es_10 ?_)
  rcases es_cs 3 (by decide) v2 with h | ⟨s, hs, rfl⟩
  · exact xq_snap_n _ _ _ _ _ _ _ _ h (br_t rfl (yq_file_y _ _ _ _ _ _ _ _ hf (br_f es_10 (yq_shot_n _ _ _ _ _ _ _ _ h (br_t rfl ⟨rfl, R⟩)))))
  have hv : vp_in (nI s) 3 := vp_in_nI hs (by decide)
  rw [nI_clamp (n := s) (by omega)]
  refine xq_snap_y _ _ _ _ _ _ _ _ hs (br_f es_10 ⟨hv, ?_⟩)
  by_cases ht : T s = 0
  · exact br_t ht (yq_file_y _ _ _ _ _ _ _ _ hf (br_f es_10 (yq_shot_0 _ _ _ _ _ _ _ _ hs ht (br_t rfl ⟨rfl, R⟩))))
  · rw [es_ix0 s, es_ix0 f]
    refine br_f ht (xs_sf _ _ D F C S T U (m := 32) (by omega) (by omega) (xc_ch D _ C S T U hc hg ?_))
    rw [es_rev hT hs ht]
    refine yq_file_y _ _ _ _ _ _ _ _ hf (br_f es_10 (yq_shot_1 _ _ _ _ _ _ _ _ hs ht (br_f es_10 (ys_rv D F C T P B hc hg hs hf ⟨rfl, ?_⟩))))
    refine rl_nx h1 hg ?_ hC hS hT
    rw [← es_rev hT hs ht]
    exact es_R_cp hF hS (by omega)
theorem i_vc_gather {k : Nat} {u : SX} {v : SY} (I : i_Rel k u v) (hk : k + 6 ≤ 3073) (v1 : Int32) : wpX_gather (fun r u' => wpY_gather (fun r' v' => r' = r ∧ i_Rel (k + 6) u' v') v v1) u v1 := by
  obtain ⟨g, c, D, F, C, S, T, U, P, B, rfl, rfl, h1, hg, hc, hF, hC, hS, hT⟩ := I
  have R : ∀ U' : Nat → Int32, i_Rel (k + 6) (nI g, nI c, D, F, C, S, T, U') (nI g, nI c, F, P, C, B, D, T) := fun U' => rl_mk h1 hg hc hF hC hS hT
  rcases es_cs 6 (by decide) v1 with h | ⟨f, hf, rfl⟩
  · unfold wpX_gather wpY_gather
    dsimp only
    exact xq_file_n _ _ _ _ _ _ _ _ h (br_t rfl (yq_file_n _ _ _ _ _ _ _ _ h (br_t rfl ⟨rfl, R U⟩)))
  · refine xm_ga D F C S T U hc hg hF hC hS hf (fun z => ?_) (fun z e U' => ?_) (fun z q e U' => ?_)
    · exact ym_ga D F C S T P B hc hg hF hT hf (fun _ => ⟨rfl, R U⟩) (fun y => absurd z y) (fun y => absurd z y)
    · exact ym_ga D F C S T P B hc hg hF hT hf (fun y => absurd y z) (fun _ _ => ⟨rfl, R U'⟩) (fun _ q' e' => nomatch (e'.symm.trans e))
    · refine ym_ga D F C S T P B hc hg hF hT hf (fun y => absurd y z) (fun _ e' => nomatch (e'.symm.trans e)) (fun _ q' e' => ?_)
      have y : q' = q := Option.some.inj (e'.symm.trans e)
      subst y
      have hq := es_gs_lt 96 0 0 q' (Nat.le_refl 0) e
      exact ⟨rfl, rl_nx h1 hg (es_mv_R hF (n := 32) (by omega) 32 (Nat.le_refl 32)) hC hS hT⟩
end
