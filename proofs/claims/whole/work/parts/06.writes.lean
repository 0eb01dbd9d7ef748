/-! the methods that store -/
def qs_arr (A : Nat → Int32) (F : Nat → Nat → Bool) : Prop := ∀ t, t < 4 → qs_row A t (F t)
def qs_mx (F : Nat → Nat → Bool) (t : Nat) (g : Nat → Bool) (i : Nat) : Nat → Nat → Bool := fun t' x => if t' = t ∧ x < i then g x else F t' x
theorem qs_mx_s {A : Nat → Int32} {F : Nat → Nat → Bool} {t : Nat} {g : Nat → Bool} {i : Nat} {v : Int32} (h : qs_arr A (qs_mx F t g i)) (ht : t < 4) (hi : i < 64) (hv : v = nI (g i).toNat) : qs_arr (upd A ((64 * nI t) + nI i).toNatClampNeg v) (qs_mx F t g (i + 1)) := by
  intro t' ht' x hx
  rw [qs_cl ht hi]
  by_cases e : t' = t ∧ x = i
  · obtain ⟨rfl, rfl⟩ := e
    rw [pk_us, hv]
    unfold qs_mx
    rw [if_pos ⟨rfl, by omega⟩]
  · rw [pk_un (by omega), h t' ht' x hx]
    have e2 : (t' = t ∧ x < i + 1) ↔ (t' = t ∧ x < i) := by omega
    unfold qs_mx
    simp only [e2]
theorem qs_mx_0 {A : Nat → Int32} {F : Nat → Nat → Bool} {t : Nat} {g : Nat → Bool} (h : qs_arr A F) : qs_arr A (qs_mx F t g 0) := by
  intro t' ht' x hx
  rw [h t' ht' x hx]
  unfold qs_mx
  rw [if_neg (by omega)]
theorem qs_mx_r {A : Nat → Int32} {F : Nat → Nat → Bool} {t : Nat} {g : Nat → Bool} (ht : t < 4) (h : qs_arr A (qs_mx F t g 64)) : qs_row A t g := by
  intro x hx
  rw [h t ht x hx]
  unfold qs_mx
  rw [if_pos ⟨rfl, hx⟩]
theorem qs_rel {U : Nat → Int64} {A : Nat → Int32} {t : Nat} {g : Nat → Bool} {w : Int64} (hA : qs_arr A (qs_mx (fun s => qs_b (U s)) t g 64)) (hw : ∀ x, x < 64 → qs_b w x = g x) : ∀ t', t' < 4 → qs_row A t' (qs_b (vp_updL U t w t')) := by
  intro t' ht' x hx
  rw [hA t' ht' x hx]
  unfold qs_mx
  by_cases e : t' = t
  · subst e
    rw [pk_uLs, hw x hx, if_pos ⟨rfl, hx⟩]
  · rw [pk_uLn e, if_neg (fun z => e z.1)]
/-! put -/
theorem qs_xPut (U : Nat → Int64) {t x : Nat} (ht : t < 4) (hx : x < 64) (b : Bool) (post : Int32 → SX → Prop) (hp : ∀ w, (∀ y, y < 64 → qs_b w y = if y = x then b else qs_b (U t) y) → post (nI (qs_b (U t) x).toNat) (vp_updL U t w)) : wX_put_27 post (nI t) (nI x) (nI b.toNat) U := by
  unfold wX_put_27
  rw [qs_c4 ht]
  refine nm_e ⟨qs_i4 ht, qs_xVal _ hx _ ?_⟩
  cases b
  · refine br_f (by decide) ⟨qs_i4 ht, qs_i4 ht, nm_e (hp _ fun y hy => ?_)⟩
    rw [qs_and, qs_xor, qs_s1 hx hy, qs_m1 y hy]
    by_cases e : y = x <;> simp [e]
  · refine br_t rfl ⟨qs_i4 ht, qs_i4 ht, nm_e (hp _ fun y hy => ?_)⟩
    rw [qs_or, qs_s1 hx hy]
    by_cases e : y = x <;> simp [e]
theorem qs_relput {U : Nat → Int64} {A : Nat → Int32} {t x : Nat} {b : Bool} {w : Int64} (I : ∀ t, t < 4 → qs_row A t (qs_b (U t))) (ht : t < 4) (hx : x < 64) (hw : ∀ y, y < 64 → qs_b w y = if y = x then b else qs_b (U t) y) : ∀ t', t' < 4 → qs_row (upd A ((64 * nI t) + nI x).toNatClampNeg (nI b.toNat)) t' (qs_b (vp_updL U t w t')) := by
  intro t' ht' y hy
  rw [qs_cl ht hx]
  by_cases e : t' = t
  · subst e
    rw [pk_uLs, hw y hy]
    by_cases e2 : y = x
    · subst e2
      rw [pk_us, if_pos rfl]
    · rw [pk_un (by omega), if_neg e2]
      exact I t' ht' y hy
  · rw [pk_uLn e, pk_un (by omega)]
    exact I t' ht' y hy
theorem qs_01 (v : Int32) : (∃ b : Bool, v = nI b.toNat) ∨ (¬ v = 0 ∧ ¬ v = 1 ∧ (v < 0 ∨ (¬ v < 0 ∧ ¬ v ≤ 1))) := by
  by_cases h0 : v = 0
  · exact Or.inl ⟨false, h0⟩
  · by_cases h1 : v = 1
    · exact Or.inl ⟨true, h1⟩
    · refine Or.inr ⟨h0, h1, ?_⟩
      by_cases hn : v < 0
      · exact Or.inl hn
      · refine Or.inr ⟨hn, fun h => ?_⟩
        obtain ⟨j, hj, rfl⟩ := nI_of hn
        have h2 : j ≤ 1 := (nI_leI (b := 1) hj (by decide)).mp h
        rcases (show j = 0 ∨ j = 1 by omega) with z | z
        · subst z; exact h0 rfl
        · subst z; exact h1 rfl
theorem qs_bp (b : Bool) : ¬ nI b.toNat < 0 ∧ nI b.toNat ≤ 1 := by cases b <;> decide
theorem i_vc_put {k : Nat} {u : SX} {v : SY} (I : i_Rel k u v) (hk : k + 5 ≤ 2560) (v1 : Int32) (v2 : Int32) (v3 : Int32) : wpX_put (fun r u' => wpY_put (fun r' v' => r' = r ∧ i_Rel (k + 5) u' v') v v1 v2 v3) u v1 v2 v3 := by
  obtain ⟨A, M⟩ := v
  unfold wpX_put wpY_put
  dsimp only
  rcases qs_tab v1 with ⟨t, ht, rfl⟩ | ⟨bX, bY⟩
  · rcases qs_pnt v2 with ⟨x, hx, rfl⟩ | ⟨bX, bY⟩
    · refine qs_xT ht _ (br_f qs_10 (qs_xP hx _ (br_f qs_10 ?_)))
      rcases qs_01 v3 with ⟨b, rfl⟩ | ⟨h0, h1, h2⟩
      · have H := qs_xPut u ht hx b (fun r u' => wpY_isTable (fun r_1 => (((r_1 = 0 → (-1000 = r ∧ i_Rel (k + 5) u' (A, M))) ∧ (¬ r_1 = 0 → (wpY_isPoint (fun r_5 => (((r_5 = 0 → (-1000 = r ∧ i_Rel (k + 5) u' (A, M))) ∧ (¬ r_5 = 0 → (((nI b.toNat < 0 → (-1000 = r ∧ i_Rel (k + 5) u' (A, M))) ∧ (¬ nI b.toNat < 0 → (((nI b.toNat ≤ 1 → (vp_in ((64 * nI t) + nI x) 256 ∧ ∀ x4_12 : Int32, x4_12 = A ((64 * nI t) + nI x).toNatClampNeg → (vp_in ((64 * nI t) + nI x) 256 ∧ ∀ a_tables_14 : Nat → Int32, a_tables_14 = upd A ((64 * nI t) + nI x).toNatClampNeg (nI b.toNat) → (x4_12 = r ∧ i_Rel (k + 5) u' (a_tables_14, M))))) ∧ (¬ nI b.toNat ≤ 1 → (-1000 = r ∧ i_Rel (k + 5) u' (A, M))))))))))) (A, M) (nI x)))))) (A, M) (nI t)) (fun w hw => qs_yT _ ht _ (br_f qs_10 (qs_yP _ hx _ (br_f qs_10 (br_f (qs_bp b).1 (br_t (qs_bp b).2 ⟨qs_in ht hx, nm_e ⟨qs_in ht hx, nm_e ⟨qs_rd (I t ht) ht hx, qs_relput I ht hx hw⟩⟩⟩))))))
        exact ⟨fun _ => H, fun _ => ⟨fun _ => H, fun n => absurd (by revert n; cases b <;> decide) n⟩⟩
      · refine br_f h0 (br_f h1 (qs_yT _ ht _ (br_f qs_10 (qs_yP _ hx _ (br_f qs_10 ?_)))))
        rcases h2 with h2 | ⟨h2, h3⟩
        · exact br_t h2 ⟨rfl, I⟩
        · exact br_f h2 (br_f h3 ⟨rfl, I⟩)
    · exact qs_xT ht _ (br_f qs_10 (bX _ (br_t rfl (qs_yT _ ht _ (br_f qs_10 (bY _ _ (br_t rfl ⟨rfl, I⟩)))))))
  · exact bX _ (br_t rfl (bY _ _ (br_t rfl ⟨rfl, I⟩)))
