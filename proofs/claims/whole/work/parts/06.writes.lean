/-! the methods that store -/
def qs_arr (A : Nat → Int32) (F : Nat → Nat → Bool) : Prop := ∀ t, t < 4 → qs_row A t (F t)
def qs_mx (F : Nat → Nat → Bool) (t : Nat) (g : Nat → Bool) (i : Nat) : Nat → Nat → Bool := fun t' x => if t' = t ∧ x < i then g x else F t' x
theorem qs_mx_s {A : Nat → Int32} {F : Nat → Nat → Bool} {t : Nat} {g : Nat → Bool} {i : Nat} {v : Int32} (h : qs_arr A (qs_mx F t g i)) (ht : t < 4) (hi : i < 64) (hv : v = nI (g i).toNat) : qs_arr (upd A ((64 * nI t) + nI i).toNatClampNeg v) (qs_mx F t g (i + 1)) := by
  intro t' ht' x hx
  rw [qs_cl ht hi]
  by_cases e : t' = t ∧ x = i
  · obtain ⟨rfl, rfl⟩ := e
    rw [pk_us, hv]
    unfold qs_mx
    rw [if_pos ⟨rfl, by omega⟩]
  · rw [pk_un (by omega), h t' ht' x hx]
    have e2 : (t' = t ∧ x < i + 1) ↔ (t' = t ∧ x < i) := by omega
    unfold qs_mx
    simp only [e2]
theorem qs_mx_0 {A : Nat → Int32} {F : Nat → Nat → Bool} {t : Nat} {g : Nat → Bool} (h : qs_arr A F) : qs_arr A (qs_mx F t g 0) := by
  intro t' ht' x hx
  rw [h t' ht' x hx]
  unfold qs_mx
  rw [if_neg (by omega)]
theorem qs_mx_r {A : Nat → Int32} {F : Nat → Nat → Bool} {t : Nat} {g : Nat → Bool} (ht : t < 4) (h : qs_arr A (qs_mx F t g 64)) : qs_row A t g := by
  intro x hx
  rw [h t ht x hx]
  unfold qs_mx
  rw [if_pos ⟨rfl, hx⟩]
theorem qs_rel {U : Nat → Int64} {A : Nat → Int32} {t : Nat} {g : Nat → Bool} {w : Int64} (hA : qs_arr A (qs_mx (fun s => qs_b (U s)) t g 64)) (hw : ∀ x, x < 64 → qs_b w x = g x) : ∀ t', t' < 4 → qs_row A t' (qs_b (vp_updL U t w t')) := by
  intro t' ht' x hx
  rw [hA t' ht' x hx]
  unfold qs_mx
  by_cases e : t' = t
  · subst e
    rw [pk_uLs, hw x hx, if_pos ⟨rfl, hx⟩]
  · rw [pk_uLn e, if_neg (fun z => e z.1)]
/-! put -/
theorem qs_xPut (U : Nat → Int64) {t x : Nat} (ht : t < 4) (hx : x < 64) (b : Bool) (post : Int32 → SX → Prop) (hp : ∀ w, (∀ y, y < 64 → qs_b w y = if y = x then b else qs_b (U t) y) → post (nI (qs_b (U t) x).toNat) (vp_updL U t w)) : wX_put_27 post (nI t) (nI x) (nI b.toNat) U := by
  unfold wX_put_27
  rw [qs_c4 ht]
  refine nm_e ⟨qs_i4 ht, qs_xVal _ hx _ ?_⟩
  cases b
  · refine br_f (by decide) ⟨qs_i4 ht, qs_i4 ht, nm_e (hp _ fun y hy => ?_)⟩
    rw [qs_and, qs_xor, qs_s1 hx hy, qs_m1 y hy]
    by_cases e : y = x <;> simp [e]
  · refine br_t rfl ⟨qs_i4 ht, qs_i4 ht, nm_e (hp _ fun y hy => ?_)⟩
    rw [qs_or, qs_s1 hx hy]
    by_cases e : y = x <;> simp [e]
theorem qs_relput {U : Nat → Int64} {A : Nat → Int32} {t x : Nat} {b : Bool} {w : Int64} (I : ∀ t, t < 4 → qs_row A t (qs_b (U t))) (ht : t < 4) (hx : x < 64) (hw : ∀ y, y < 64 → qs_b w y = if y = x then b else qs_b (U t) y) : ∀ t', t' < 4 → qs_row (upd A ((64 * nI t) + nI x).toNatClampNeg (nI b.toNat)) t' (qs_b (vp_updL U t w t')) := by
  intro t' ht' y hy
  rw [qs_cl ht hx]
  by_cases e : t' = t
  · subst e
    rw [pk_uLs, hw y hy]
    by_cases e2 : y = x
    · subst e2
      rw [pk_us, if_pos rfl]
    · rw [pk_un (by omega), if_neg e2]
      exact I t' ht' y hy
  · rw [pk_uLn e, pk_un (by omega)]
    exact I t' ht' y hy
theorem qs_01 (v : Int32) : (∃ b : Bool, v = nI b.toNat) ∨ (¬ v = 0 ∧ ¬ v = 1 ∧ (v < 0 ∨ (¬ v < 0 ∧ ¬ v ≤ 1))) := by
  by_cases h0 : v = 0
  · exact Or.inl ⟨false, h0⟩
  · by_cases h1 : v = 1
    · exact Or.inl ⟨true, h1⟩
    · refine Or.inr ⟨h0, h1, ?_⟩
      by_cases hn : v < 0
      · exact Or.inl hn
      · refine Or.inr ⟨hn, fun h => ?_⟩
        obtain ⟨j, hj, rfl⟩ := nI_of hn
        have h2 : j ≤ 1 := (nI_leI (b := 1) hj (by decide)).mp h
        rcases (show j = 0 ∨ j = 1 by omega) with z | z
        · subst z; exact h0 rfl
        · subst z; exact h1 rfl
theorem qs_bp (b : Bool) : ¬ nI b.toNat < 0 ∧ nI b.toNat ≤ 1 := by cases b <;> decide
theorem i_vc_put {k : Nat} {u : SX} {v : SY} (I : i_Rel k u v) (hk : k + 5 ≤ 2560) (v1 : Int32) (v2 : Int32) (v3 : Int32) : wpX_put (fun r u' => wpY_put (fun r' v' => r' = r ∧ i_Rel (k + 5) u' v') v v1 v2 v3) u v1 v2 v3 := by
  obtain ⟨A, M⟩ := v
  unfold wpX_put wpY_put
  dsimp only
  rcases qs_tab v1 with ⟨t, ht, rfl⟩ | ⟨bX, bY⟩
  · rcases qs_pnt v2 with ⟨x, hx, rfl⟩ | ⟨bX, bY⟩
    · refine qs_xT ht _ (br_f qs_10 (qs_xP hx _ (br_f qs_10 ?_)))
      rcases qs_01 v3 with ⟨b, rfl⟩ | ⟨h0, h1, h2⟩
      · cases b
        · exact br_t rfl (qs_xPut u ht hx false _ (fun w hw => qs_yT _ ht _ (br_f qs_10 (qs_yP _ hx _ (br_f qs_10 (br_f (qs_bp false).1 (br_t (qs_bp false).2 ⟨qs_in ht hx, nm_e ⟨qs_in ht hx, nm_e ⟨qs_rd (I t ht) ht hx, qs_relput I ht hx hw⟩⟩⟩)))))))
        · exact br_f (by decide) (br_t rfl (qs_xPut u ht hx true _ (fun w hw => qs_yT _ ht _ (br_f qs_10 (qs_yP _ hx _ (br_f qs_10 (br_f (qs_bp true).1 (br_t (qs_bp true).2 ⟨qs_in ht hx, nm_e ⟨qs_in ht hx, nm_e ⟨qs_rd (I t ht) ht hx, qs_relput I ht hx hw⟩⟩⟩))))))))
      · refine br_f h0 (br_f h1 (qs_yT _ ht _ (br_f qs_10 (qs_yP _ hx _ (br_f qs_10 ?_)))))
        rcases h2 with h2 | ⟨h2, h3⟩
        · exact br_t h2 ⟨rfl, I⟩
        · exact br_f h2 (br_f h3 ⟨rfl, I⟩)
    · exact qs_xT ht _ (br_f qs_10 (bX _ (br_t rfl (qs_yT _ ht _ (br_f qs_10 (bY _ _ (br_t rfl ⟨rfl, I⟩)))))))
  · exact bX _ (br_t rfl (bY _ _ (br_t rfl ⟨rfl, I⟩)))
/-! turnForm -/
theorem qs_yTurnL {F : Nat → Nat → Bool} {t u : Nat} (ht : t < 4) (hu : u < 64) (post : Int32 → SY → Prop) (M : Nat → Int32) {g : Nat → Bool} (hg : ∀ x, x < 64 → g x = (F t x ^^ decide (x &&& u = u))) (hp : ∀ A, qs_arr A (qs_mx F t g 64) → post (nI (qs_cnt g 64)) (A, M)) : ∀ (d i : Nat) (A : Nat → Int32), i + d = 64 → qs_arr A (qs_mx F t g i) → wY_turnForm_22 post (nI t) (nI u) (d + 1) (nI i) A M := by
  intro d
  induction d with
  | zero =>
    intro i A hi hA
    have e : i = 64 := by omega
    subst e
    exact br_t (nI_le (a := 64) (Nat.le_refl _) (by decide)) (qs_yCount A M ht (qs_mx_r ht hA) _ (hp A hA))
  | succ d ih =>
    intro i A hi hA
    have hi2 : i < 64 := by omega
    have hr : A ((64 * nI t) + nI i).toNatClampNeg = nI (F t i).toNat := by
      rw [qs_cl ht hi2, hA t ht i hi2]
      unfold qs_mx
      rw [if_neg (by omega)]
    refine br_f (nI_ge (b := 64) (by omega) (by decide)) (br_c (fun z => ?_) (fun z => ?_))
    · rw [qs_sub u hu i hi2, Nat.and_comm] at z
      exact ⟨qs_in ht hi2, qs_in ht hi2, nm_e (nm_r (nI_1 i) (ih (i + 1) _ (by omega) (qs_mx_s hA ht hi2 (by rw [hr, qs_bn, hg i hi2, decide_eq_true z, Bool.xor_true]))))⟩
    · rw [qs_sub u hu i hi2, Nat.and_comm] at z
      exact ⟨qs_in ht hi2, qs_in ht hi2, nm_e (nm_r (nI_1 i) (ih (i + 1) _ (by omega) (qs_mx_s hA ht hi2 (by rw [hr, hg i hi2, decide_eq_false z, Bool.xor_false]))))⟩
theorem i_vc_turnForm {k : Nat} {u : SX} {v : SY} (I : i_Rel k u v) (hk : k + 5 ≤ 2560) (v1 : Int32) (v2 : Int32) : wpX_turnForm (fun r u' => wpY_turnForm (fun r' v' => r' = r ∧ i_Rel (k + 5) u' v') v v1 v2) u v1 v2 := by
  obtain ⟨A, M⟩ := v
  unfold wpX_turnForm wpY_turnForm
  dsimp only
  rcases qs_tab v1 with ⟨t, ht, rfl⟩ | ⟨bX, bY⟩
  · rcases qs_pnt v2 with ⟨x, hx, rfl⟩ | ⟨bX, bY⟩
    · rw [qs_c4 ht]
      refine qs_xT ht _ (br_f qs_10 (qs_xP hx _ (br_f qs_10 ⟨qs_i4 ht, qs_xHold hx _ (fun r hr => ⟨qs_i4 ht, nm_e ⟨qs_i4 ht, ?_⟩⟩)⟩)))
      rw [pk_uLs]
      refine qs_xCount _ _ (qs_yT _ ht _ (br_f qs_10 (qs_yP _ hx _ (br_f qs_10 ⟨65, qs_yTurnL (F := fun s => qs_b (u s)) (g := qs_b (u t ^^^ r)) ht hx _ M (fun y hy => by rw [qs_xor, hr y hy]) (fun A' hA' => ⟨rfl, qs_rel hA' (fun _ _ => rfl)⟩) 64 0 A rfl (qs_mx_0 I)⟩))))
    · exact qs_xT ht _ (br_f qs_10 (bX _ (br_t rfl (qs_yT _ ht _ (br_f qs_10 (bY _ _ (br_t rfl ⟨rfl, I⟩)))))))
  · exact bX _ (br_t rfl (bY _ _ (br_t rfl ⟨rfl, I⟩)))
/-! takeMade, combine, shift -/
theorem qs_yTakeL {F : Nat → Nat → Bool} {t : Nat} (ht : t < 4) (post : Int32 → SY → Prop) (M : Nat → Int32) {g : Nat → Bool} (hM : ∀ x, x < 64 → M x = nI (g x).toNat) (hp : ∀ A, qs_arr A (qs_mx F t g 64) → post (nI (qs_cnt g 64)) (A, M)) : ∀ (d i : Nat) (A : Nat → Int32), i + d = 64 → qs_arr A (qs_mx F t g i) → wY_takeMade_2 post (nI t) (d + 1) (nI i) A M := by
  intro d
  induction d with
  | zero =>
    intro i A hi hA
    have e : i = 64 := by omega
    subst e
    exact br_t (nI_le (a := 64) (Nat.le_refl _) (by decide)) (qs_yCount A M ht (qs_mx_r ht hA) _ (hp A hA))
  | succ d ih =>
    intro i A hi hA
    have hi2 : i < 64 := by omega
    exact br_f (nI_ge (b := 64) (by omega) (by decide)) ⟨vp_in_nI hi2 (by decide), qs_in ht hi2, nm_e (nm_r (nI_1 i) (ih (i + 1) _ (by omega) (qs_mx_s hA ht hi2 (by rw [nI_clamp (by omega), hM i hi2]))))⟩
theorem qs_yTake {F : Nat → Nat → Bool} {t : Nat} (ht : t < 4) (post : Int32 → SY → Prop) (A M : Nat → Int32) {g : Nat → Bool} (hA : qs_arr A F) (hM : ∀ x, x < 64 → M x = nI (g x).toNat) (hp : ∀ A, qs_arr A (qs_mx F t g 64) → post (nI (qs_cnt g 64)) (A, M)) : wpY_takeMade post (A, M) (nI t) :=
  ⟨65, qs_yTakeL ht post M hM hp 64 0 A rfl (qs_mx_0 hA)⟩
theorem qs_mk_s {M : Nat → Int32} {g : Nat → Bool} {i : Nat} {v : Int32} (hi : i < 64) (h : ∀ x, x < i → M x = nI (g x).toNat) (hv : v = nI (g i).toNat) : ∀ x, x < i + 1 → upd M (nI i).toNatClampNeg v x = nI (g x).toNat := by
  intro x hx
  rw [nI_clamp (by omega)]
  by_cases e : x = i
  · subst e
    rw [pk_us, hv]
  · rw [pk_un e]
    exact h x (by omega)
def qs_op (o : Nat) (b c : Bool) : Bool := if o = 0 then b ^^ c else if o = 1 then b && c else if o = 2 then b || c else !(b ^^ c)
theorem qs_b1 (b : Bool) : nI b.toNat = 1 ↔ b = true := by cases b <;> decide
theorem qs_yCombL {F : Nat → Nat → Bool} {A : Nat → Int32} {t o r s : Nat} (ht : t < 4) (ho : o < 4) (hr : r < 4) (hs : s < 4) (hA : qs_arr A F) (post : Int32 → SY → Prop) (hp : ∀ A M, qs_arr A (qs_mx F t (fun x => qs_op o (F r x) (F s x)) 64) → post (nI (qs_cnt (fun x => qs_op o (F r x) (F s x)) 64)) (A, M)) : ∀ (d i : Nat) (M : Nat → Int32), i + d = 64 → (∀ x, x < i → M x = nI (qs_op o (F r x) (F s x)).toNat) → wY_combine_41 post (nI t) (nI o) (nI r) (nI s) (d + 1) (nI i) A M := by
  intro d
  induction d with
  | zero =>
    intro i M hi hM
    have e : i = 64 := by omega
    subst e
    exact br_t (nI_le (a := 64) (Nat.le_refl _) (by decide)) (qs_yTake ht _ A M hA hM (fun A' hA' => hp A' M hA'))
  | succ d ih =>
    intro i M hi hM
    have hi2 : i < 64 := by omega
    have H : ∀ v : Int32, v = nI (qs_op o (F r i) (F s i)).toNat → wY_combine_41 post (nI t) (nI o) (nI r) (nI s) (d + 1) (nI (i + 1)) A (upd M (nI i).toNatClampNeg v) := fun v hv => ih (i + 1) _ (by omega) (qs_mk_s (g := fun x => qs_op o (F r x) (F s x)) hi2 hM hv)
    have hin : vp_in (nI i) 64 := vp_in_nI hi2 (by decide)
    refine br_f (nI_ge (b := 64) (by omega) (by decide)) ⟨qs_in hr hi2, nm_r (qs_rd (hA r hr) hr hi2) ⟨qs_in hs hi2, nm_r (qs_rd (hA s hs) hs hi2) ?_⟩⟩
    refine pk_eq o 0 (fun z => ⟨hin, nm_e (nm_r (nI_1 i) (H _ ?_))⟩) (fun z0 => pk_eq o 1 (fun z => ⟨hin, nm_e (nm_r (nI_1 i) (H _ ?_))⟩) (fun z1 => pk_eq o 2 (fun z => ⟨hin, nm_e (nm_r (nI_1 i) (H _ ?_))⟩) (fun z2 => ?_)))
    · subst z; exact qs_bx _ _
    · subst z; exact qs_ba _ _
    · subst z; exact qs_bo _ _
    · have e : qs_op o (F r i) (F s i) = !(F r i ^^ F s i) := by
        unfold qs_op
        rw [if_neg z0, if_neg z1, if_neg z2]
      refine br_c (fun z => ⟨hin, nm_e (nm_r (nI_1 i) (H _ ?_))⟩) (fun z => ⟨hin, nm_e (nm_r (nI_1 i) (H _ ?_))⟩)
      · rw [qs_b1] at z
        rw [e, z, Bool.xor_true, Bool.not_not]
      · rw [qs_b1] at z
        rw [qs_bn, e, Bool.eq_false_iff.mpr z, Bool.xor_false]
theorem qs_xComb {o : Nat} (ho : o < 4) (w r : Int64) (post : Int64 → Prop) (hp : ∀ z, (∀ x, x < 64 → qs_b z x = qs_op o (qs_b w x) (qs_b r x)) → post z) : wpX_combined post (nI o) w r := by
  unfold wpX_combined
  refine br_f (nI_pos (by omega)) (pk_lt 2 o (fun z => hp _ (fun x hx => ?_)) (fun z => pk_eq o 0 (fun z => hp _ (fun x hx => ?_)) (fun z0 => pk_eq o 1 (fun z => hp _ (fun x hx => ?_)) (fun z1 => pk_eq o 2 (fun z => hp _ (fun x hx => ?_)) (fun _ => trivial)))))
  · unfold qs_op
    rw [if_neg (by omega), if_neg (by omega), if_neg (by omega), qs_xor, qs_xor, qs_m1 x hx, Bool.xor_true]
  · subst z; exact qs_xor _ _ _
  · subst z; exact qs_and _ _ _
  · subst z; exact qs_or _ _ _
theorem i_vc_combine {k : Nat} {u : SX} {v : SY} (I : i_Rel k u v) (hk : k + 5 ≤ 2560) (v1 : Int32) (v2 : Int32) (v3 : Int32) (v4 : Int32) : wpX_combine (fun r u' => wpY_combine (fun r' v' => r' = r ∧ i_Rel (k + 5) u' v') v v1 v2 v3 v4) u v1 v2 v3 v4 := by
  obtain ⟨A, M⟩ := v
  unfold wpX_combine wpY_combine
  dsimp only
  rcases qs_tab v1 with ⟨t, ht, rfl⟩ | ⟨bX, bY⟩
  · refine qs_xT ht _ (br_f qs_10 ?_)
    by_cases h0 : v2 < 0
    · exact br_t h0 (qs_yT _ ht _ (br_f qs_10 (br_t h0 ⟨rfl, I⟩)))
    · by_cases h3 : 3 < v2
      · exact br_f h0 (br_t h3 (qs_yT _ ht _ (br_f qs_10 (br_f h0 (br_t h3 ⟨rfl, I⟩)))))
      · refine br_f h0 (br_f h3 ?_)
        rcases qs_tab v3 with ⟨r, hr, rfl⟩ | ⟨bX, bY⟩
        · rcases qs_tab v4 with ⟨s, hs, rfl⟩ | ⟨bX, bY⟩
          · obtain ⟨o, ho, rfl⟩ := nI_of h0
            have ho4 : o < 4 := by
              rcases Nat.lt_or_ge o 4 with z | z
              · exact z
              · exact absurd (nI_lt (a := 3) (by omega) ho) h3
            rw [qs_c4 ht, qs_c4 hr, qs_c4 hs]
            refine qs_xT hr _ (br_f qs_10 (qs_xT hs _ (br_f qs_10 ⟨qs_i4 hr, qs_i4 hs, qs_xComb ho4 _ _ _ (fun z hz => ⟨qs_i4 ht, nm_e ⟨qs_i4 ht, ?_⟩⟩)⟩)))
            rw [pk_uLs]
            refine qs_xCount _ _ (qs_yT _ ht _ (br_f qs_10 (br_f h0 (br_f h3 (qs_yT _ hr _ (br_f qs_10 (qs_yT _ hs _ (br_f qs_10 ⟨65, qs_yCombL (F := fun s => qs_b (u s)) ht ho4 hr hs I _ (fun A' M' hA' => ⟨congrArg nI (qs_cnt_cg (fun x hx => (hz x hx).symm)), qs_rel hA' hz⟩) 64 0 M rfl (fun x hx => absurd hx (Nat.not_lt_zero x))⟩))))))))
          · exact qs_xT hr _ (br_f qs_10 (bX _ (br_t rfl (qs_yT _ ht _ (br_f qs_10 (br_f h0 (br_f h3 (qs_yT _ hr _ (br_f qs_10 (bY _ _ (br_t rfl ⟨rfl, I⟩)))))))))))
        · exact bX _ (br_t rfl (qs_yT _ ht _ (br_f qs_10 (br_f h0 (br_f h3 (bY _ _ (br_t rfl ⟨rfl, I⟩)))))))
  · exact bX _ (br_t rfl (bY _ _ (br_t rfl ⟨rfl, I⟩)))
theorem qs_yShiftL {F : Nat → Nat → Bool} {A : Nat → Int32} {t r a b : Nat} (ht : t < 4) (hr : r < 4) (ha : a < 64) (hA : qs_arr A F) (post : Int32 → SY → Prop) (hp : ∀ A M, qs_arr A (qs_mx F t (fun x => F r (x ^^^ a) ^^ qs_par b x) 64) → post (nI (qs_cnt (fun x => F r (x ^^^ a) ^^ qs_par b x) 64)) (A, M)) : ∀ (d i : Nat) (M : Nat → Int32), i + d = 64 → (∀ x, x < i → M x = nI (F r (x ^^^ a) ^^ qs_par b x).toNat) → wY_shift_40 post (nI t) (nI r) (nI a) (nI b) (d + 1) (nI i) A M := by
  intro d
  induction d with
  | zero =>
    intro i M hi hM
    have e : i = 64 := by omega
    subst e
    exact br_t (nI_le (a := 64) (Nat.le_refl _) (by decide)) (qs_yTake ht _ A M hA hM (fun A' hA' => hp A' M hA'))
  | succ d ih =>
    intro i M hi hM
    have hi2 : i < 64 := by omega
    exact br_f (nI_ge (b := 64) (by omega) (by decide)) ⟨qs_inX hr hi2 ha, qs_yProd A M b hi2 _ ⟨vp_in_nI hi2 (by decide), nm_e (nm_r (nI_1 i) (ih (i + 1) _ (by omega) (qs_mk_s (g := fun x => F r (x ^^^ a) ^^ qs_par b x) hi2 hM (by rw [qs_rdX (hA r hr) hr hi2 ha, qs_bx]))))⟩⟩
theorem i_vc_shift {k : Nat} {u : SX} {v : SY} (I : i_Rel k u v) (hk : k + 5 ≤ 2560) (v1 : Int32) (v2 : Int32) (v3 : Int32) (v4 : Int32) : wpX_shift (fun r u' => wpY_shift (fun r' v' => r' = r ∧ i_Rel (k + 5) u' v') v v1 v2 v3 v4) u v1 v2 v3 v4 := by
  obtain ⟨A, M⟩ := v
  unfold wpX_shift wpY_shift
  dsimp only
  rcases qs_tab v1 with ⟨t, ht, rfl⟩ | ⟨bX, bY⟩
  · refine qs_xT ht _ (br_f qs_10 ?_)
    rcases qs_tab v2 with ⟨r, hr, rfl⟩ | ⟨bX, bY⟩
    · refine qs_xT hr _ (br_f qs_10 ?_)
      rcases qs_pnt v3 with ⟨a, ha, rfl⟩ | ⟨bX, bY⟩
      · refine qs_xP ha _ (br_f qs_10 ?_)
        rcases qs_pnt v4 with ⟨b, hb, rfl⟩ | ⟨bX, bY⟩
        · rw [qs_c4 ht, qs_c4 hr]
          refine qs_xP hb _ (br_f qs_10 ⟨qs_i4 hr, qs_xMoved _ rfl ha _ (fun z hz => qs_xLin hb _ (fun y hy => ⟨qs_i4 ht, nm_e ⟨qs_i4 ht, ?_⟩⟩))⟩)
          rw [pk_uLs]
          have hw : ∀ x, x < 64 → qs_b (z ^^^ y) x = (qs_b (u r) (x ^^^ a) ^^ qs_par b x) := fun x hx => by rw [qs_xor, hz x hx, hy x hx]
          refine qs_xCount _ _ (qs_yT _ ht _ (br_f qs_10 (qs_yT _ hr _ (br_f qs_10 (qs_yP _ ha _ (br_f qs_10 (qs_yP _ hb _ (br_f qs_10 ⟨65, qs_yShiftL (F := fun s => qs_b (u s)) ht hr ha I _ (fun A' M' hA' => ⟨congrArg nI (qs_cnt_cg (fun x hx => (hw x hx).symm)), qs_rel hA' hw⟩) 64 0 M rfl (fun x hx => absurd hx (Nat.not_lt_zero x))⟩))))))))
        · exact bX _ (br_t rfl (qs_yT _ ht _ (br_f qs_10 (qs_yT _ hr _ (br_f qs_10 (qs_yP _ ha _ (br_f qs_10 (bY _ _ (br_t rfl ⟨rfl, I⟩)))))))))
      · exact bX _ (br_t rfl (qs_yT _ ht _ (br_f qs_10 (qs_yT _ hr _ (br_f qs_10 (bY _ _ (br_t rfl ⟨rfl, I⟩)))))))
    · exact bX _ (br_t rfl (qs_yT _ ht _ (br_f qs_10 (bY _ _ (br_t rfl ⟨rfl, I⟩)))))
  · exact bX _ (br_t rfl (bY _ _ (br_t rfl ⟨rfl, I⟩)))
