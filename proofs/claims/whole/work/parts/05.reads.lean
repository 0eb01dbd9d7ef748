/-! the relation: the reference's row t holds, point by point, the bits of the component's long t -/
def i_Rel (_ : Nat) (u : SX) (v : SY) : Prop := ∀ t, t < 4 → qs_row v.1 t (qs_b (u t))
theorem i_up {k : Nat} {u : SX} {v : SY} (h : i_Rel k u v) : i_Rel (k + 5) u v := h
theorem i_vc0 : wpX_init (fun u => wpY_init (fun v => i_Rel 0 u v)) := by
  unfold wpX_init wpY_init
  intro t ht x hx
  show (0 : Int32) = nI (qs_b 0 x).toNat
  rw [qs_0]
  rfl
theorem i_vc_value {k : Nat} {u : SX} {v : SY} (I : i_Rel k u v) (hk : k + 5 ≤ 2560) (v1 : Int32) (v2 : Int32) : wpX_value (fun r => wpY_value (fun r' => r' = r ∧ i_Rel (k + 5) u v) v v1 v2) u v1 v2 := by
  obtain ⟨A, M⟩ := v
  unfold wpX_value wpY_value
  dsimp only
  rcases qs_tab v1 with ⟨t, ht, rfl⟩ | ⟨bX, bY⟩
  · rcases qs_pnt v2 with ⟨x, hx, rfl⟩ | ⟨bX, bY⟩
    · rw [qs_c4 ht]
      exact qs_xT ht _ (br_f qs_10 (qs_xP hx _ (br_f qs_10 ⟨qs_i4 ht, qs_xVal _ hx _ (qs_yT _ ht _ (br_f qs_10 (qs_yP _ hx _ (br_f qs_10 ⟨qs_in ht hx, qs_rd (I t ht) ht hx, I⟩))))⟩)))
    · exact qs_xT ht _ (br_f qs_10 (bX _ (br_t rfl (qs_yT _ ht _ (br_f qs_10 (bY _ _ (br_t rfl ⟨rfl, I⟩)))))))
  · exact bX _ (br_t rfl (bY _ _ (br_t rfl ⟨rfl, I⟩)))
theorem i_vc_ones {k : Nat} {u : SX} {v : SY} (I : i_Rel k u v) (hk : k + 5 ≤ 2560) (v1 : Int32) : wpX_ones (fun r => wpY_ones (fun r' => r' = r ∧ i_Rel (k + 5) u v) v v1) u v1 := by
  obtain ⟨A, M⟩ := v
  unfold wpX_ones wpY_ones
  dsimp only
  rcases qs_tab v1 with ⟨t, ht, rfl⟩ | ⟨bX, bY⟩
  · rw [qs_c4 ht]
    exact qs_xT ht _ (br_f qs_10 ⟨qs_i4 ht, qs_xCount _ _ (qs_yT _ ht _ (br_f qs_10 (qs_yCount A M ht (I t ht) _ ⟨rfl, I⟩)))⟩)
  · exact bX _ (br_t rfl (bY _ _ (br_t rfl ⟨rfl, I⟩)))
theorem i_vc_form {k : Nat} {u : SX} {v : SY} (I : i_Rel k u v) (hk : k + 5 ≤ 2560) (v1 : Int32) (v2 : Int32) : wpX_form (fun r => wpY_form (fun r' => r' = r ∧ i_Rel (k + 5) u v) v v1 v2) u v1 v2 := by
  obtain ⟨A, M⟩ := v
  unfold wpX_form wpY_form
  dsimp only
  rcases qs_tab v1 with ⟨t, ht, rfl⟩ | ⟨bX, bY⟩
  · rcases qs_pnt v2 with ⟨x, hx, rfl⟩ | ⟨bX, bY⟩
    · rw [qs_c4 ht]
      exact qs_xT ht _ (br_f qs_10 (qs_xP hx _ (br_f qs_10 ⟨qs_i4 ht, qs_xForm _ hx _ (qs_yT _ ht _ (br_f qs_10 (qs_yP _ hx _ (br_f qs_10 (qs_yForm A M ht hx (I t ht) _ ⟨rfl, I⟩)))))⟩)))
    · exact qs_xT ht _ (br_f qs_10 (bX _ (br_t rfl (qs_yT _ ht _ (br_f qs_10 (bY _ _ (br_t rfl ⟨rfl, I⟩)))))))
  · exact bX _ (br_t rfl (bY _ _ (br_t rfl ⟨rfl, I⟩)))
theorem i_vc_spectrum {k : Nat} {u : SX} {v : SY} (I : i_Rel k u v) (hk : k + 5 ≤ 2560) (v1 : Int32) (v2 : Int32) : wpX_spectrum (fun r => wpY_spectrum (fun r' => r' = r ∧ i_Rel (k + 5) u v) v v1 v2) u v1 v2 := by
  obtain ⟨A, M⟩ := v
  unfold wpX_spectrum wpY_spectrum
  dsimp only
  rcases qs_tab v1 with ⟨t, ht, rfl⟩ | ⟨bX, bY⟩
  · rcases qs_pnt v2 with ⟨x, hx, rfl⟩ | ⟨bX, bY⟩
    · rw [qs_c4 ht]
      exact qs_xT ht _ (br_f qs_10 (qs_xP hx _ (br_f qs_10 ⟨qs_i4 ht, qs_xSpec _ hx _ (qs_yT _ ht _ (br_f qs_10 (qs_yP _ hx _ (br_f qs_10 (qs_ySpec A M ht (I t ht) _ ⟨rfl, I⟩)))))⟩)))
    · exact qs_xT ht _ (br_f qs_10 (bX _ (br_t rfl (qs_yT _ ht _ (br_f qs_10 (bY _ _ (br_t rfl ⟨rfl, I⟩)))))))
  · exact bX _ (br_t rfl (bY _ _ (br_t rfl ⟨rfl, I⟩)))
theorem qs_mvd (w r : Int64) {a : Nat} (hr : ∀ x, x < 64 → qs_b r x = qs_b w (x ^^^ a)) : qs_sm (qs_b w) a + qs_cnt (qs_b (w ^^^ r)) 64 = 64 := by
  have e : qs_cnt (qs_b (w ^^^ r)) 64 = qs_cnt (fun x => qs_b w x ^^ qs_b w (x ^^^ a)) 64 := qs_cnt_cg (fun x hx => by rw [qs_xor, hr x hx])
  rw [e]
  exact qs_cnt_not (fun x => qs_b w x ^^ qs_b w (x ^^^ a)) 64
theorem qs_ar3 (s c : Nat) (h : s + c = 64) : 2 * nI s - 64 = 64 - 2 * nI c := by
  have e : nI s = 64 - nI c := by
    rw [show s = 64 - c by omega]
    exact (pk_sub (a := 64) (by omega)).symm
  rw [e]
  grind
theorem i_vc_autocorrelation {k : Nat} {u : SX} {v : SY} (I : i_Rel k u v) (hk : k + 5 ≤ 2560) (v1 : Int32) (v2 : Int32) : wpX_autocorrelation (fun r => wpY_autocorrelation (fun r' => r' = r ∧ i_Rel (k + 5) u v) v v1 v2) u v1 v2 := by
  obtain ⟨A, M⟩ := v
  unfold wpX_autocorrelation wpY_autocorrelation
  dsimp only
  rcases qs_tab v1 with ⟨t, ht, rfl⟩ | ⟨bX, bY⟩
  · rcases qs_pnt v2 with ⟨x, hx, rfl⟩ | ⟨bX, bY⟩
    · rw [qs_c4 ht]
      exact qs_xT ht _ (br_f qs_10 (qs_xP hx _ (br_f qs_10 ⟨qs_i4 ht, qs_xMoved _ rfl hx _ (fun r hr => ⟨qs_i4 ht, qs_xSigns _ _ (qs_yT _ ht _ (br_f qs_10 (qs_yP _ hx _ (br_f qs_10 (qs_ySm A M rfl ht hx (I t ht) _ ⟨qs_ar3 _ _ (qs_mvd _ r hr), I⟩)))))⟩)⟩)))
    · exact qs_xT ht _ (br_f qs_10 (bX _ (br_t rfl (qs_yT _ ht _ (br_f qs_10 (bY _ _ (br_t rfl ⟨rfl, I⟩)))))))
  · exact bX _ (br_t rfl (bY _ _ (br_t rfl ⟨rfl, I⟩)))
