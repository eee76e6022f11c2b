/-! snapshots under snap, drop, revert; the count of changes -/
theorem es_Sn_snap {T S P F : Nat → Int32} {s t : Nat} {x : Int32} (h : es_Sn T S P) (hx : ¬ x = 0) : es_Sn (upd T s x) (es_cp S F (32 * s) t 0 32) (es_cp P F (32 * s) t 0 32) := by
  intro k hk
  by_cases e : k / 32 = s
  · subst e
    rw [pk_us]
    exact ⟨fun _ => by rw [es_cp_in (by omega) (by omega), es_cp_in (by omega) (by omega)], fun z => absurd z hx⟩
  · rw [pk_un e]
    have a : ∀ Q : Nat → Int32, es_cp Q F (32 * s) t 0 32 k = Q k := fun Q => if_neg (fun z => by omega)
    rw [a, a]
    exact h k hk
theorem es_Sn_drop {T S P : Nat → Int32} {s : Nat} (h : es_Sn T S P) : es_Sn (upd T s 0) (es_ho S (32 * s) 32) P := by
  intro k hk
  by_cases e : k / 32 = s
  · subst e
    rw [pk_us]
    exact ⟨fun z => absurd rfl z, fun _ => if_pos ⟨by omega, by omega⟩⟩
  · rw [pk_un e]
    have a : es_ho S (32 * s) 32 k = S k := if_neg (fun z => by omega)
    rw [a]
    exact h k hk
theorem es_rev {T S P F : Nat → Int32} {s t : Nat} (h : es_Sn T S P) (hs : s < 3) (ht : ¬ T s = 0) : es_cp F S t (32 * s) 0 32 = es_cp F P t (32 * s) 0 32 := by
  funext k
  unfold es_cp
  by_cases c : t + 0 ≤ k ∧ k < t + 32
  · rw [if_pos c, if_pos c]
    exact (h _ (by omega)).1 (by rw [show (32 * s + (k - t)) / 32 = s from by omega]; exact ht)
  · rw [if_neg c, if_neg c]
/-- what is counted and committed behind a change -/
def es_nx (g c : Nat) (C F : Nat → Int32) : Nat × (Nat → Int32) := if c + 1 < g then (c + 1, C) else (0, es_cp C F 0 0 0 192)
theorem es_nx_l {g c : Nat} {C F : Nat → Int32} (h : c + 1 < g) : es_nx g c C F = (c + 1, C) := if_pos h
theorem es_nx_e {g c : Nat} {C F : Nat → Int32} (h : ¬ c + 1 < g) : es_nx g c C F = (0, es_cp C F 0 0 0 192) := if_neg h
theorem es_nx_lt {g c : Nat} {C F : Nat → Int32} (h : 1 ≤ g) : (es_nx g c C F).1 < g := by
  by_cases e : c + 1 < g
  · rw [es_nx_l e]; exact e
  · rw [es_nx_e e]; exact h
theorem es_nx_R {g c : Nat} {C F : Nat → Int32} (hC : es_R 192 C) (hF : es_R 192 F) : es_R 192 (es_nx g c C F).2 := by
  by_cases e : c + 1 < g
  · rw [es_nx_l e]; exact hC
  · rw [es_nx_e e]; exact es_R_cp hC hF (by omega)
/-- the marks of the blocks in use -/
def es_mk (G : Nat → Bool) (U : Nat → Int32) : Prop := ∀ p, p < 96 → (U p = 0 ↔ G p = true)
theorem es_ct_s {a : Nat → Int32} {x : Int32} {n : Nat} : es_ct a x (n + 1) = 0 ↔ es_ct a x n = 0 ∧ ¬ a n = x := by
  simp only [es_ct]
  by_cases h : a n = x
  · rw [if_pos h]
    exact ⟨fun z => absurd z (Nat.succ_ne_zero _), fun z => absurd h z.2⟩
  · rw [if_neg h]
    exact ⟨fun z => ⟨z, h⟩, fun z => z.1⟩
theorem es_G_k {F C S : Nat → Int32} {p : Nat} : es_G F C S p = true ↔ (es_ct F (nI p) 192 = 0 ∧ es_ct C (nI p) 192 = 0) ∧ es_ct S (nI p) 96 = 0 := by
  rw [es_G_t]
  unfold es_us
  omega
