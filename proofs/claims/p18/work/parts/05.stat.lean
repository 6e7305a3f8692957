def qi_q (cp : Int32) (w m : Nat) (M x pt B P : Nat → Int) : Prop :=
  (cp = 0 ∧ ∀ i, i < 224 → P i = 0) ∨
  (cp = 1 ∧ 0 < m ∧ (∀ j k, j < m → k < m → B (j * 16 + k) = qa_bs pt m j k) ∧ (∀ k, k < 32 → P (96 + k) = qa_zp pt m k) ∧
    (∀ t k, t < 3 → k < 32 → P (t * 32 + k) = if k < m then qa_pz M x pt w m t k else 0) ∧ (∀ k, k < 32 → P (128 + k) = qa_pp M x pt w m k) ∧ (∀ k, m ≤ k + 1 → k < 32 → P (160 + k) = 0))
theorem qn_m32 (a : Nat) : nI a * 32 = nI (a * 32) := pk_mul a 32
theorem qn_m16 (a : Nat) : nI a * 16 = nI (a * 16) := pk_mul a 16
theorem qv_in {k N : Nat} (h : k < N) (hN : N < 2 ^ 31) : vp_in (nI k) N = True := eq_true (vp_in_nI h hN)
theorem qx_add {post : Int32 → Prop} (a b : Int) : wpX_add post () (qa_fe a) (qa_fe b) = post (qa_fe (a + b)) := by
  unfold wpX_add
  have h := qa_ladd a b
  rw [qa_rem0 (by rw [h]; omega), h, qa_cong (qa_add_mod a b)]
  exact propext ⟨fun z => z.2, fun z => ⟨by decide, z⟩⟩
theorem qx_mul {post : Int32 → Prop} (a b : Int) : wpX_multiply post () (qa_fe a) (qa_fe b) = post (qa_fe (a * b)) := by
  unfold wpX_multiply
  have h := qa_lmul a b
  rw [qa_rem0 (by rw [h]; exact (qa_mb' a b).1), h, qa_cong (qa_mm a b)]
  exact propext ⟨fun z => z.2, fun z => ⟨by decide, z⟩⟩
theorem qx_sub {post : Int32 → Prop} (a b : Int) : wpX_subtract post () (qa_fe a) (qa_fe b) = post (qa_fe (a - b)) := by
  unfold wpX_subtract
  by_cases h : qa_fe a < qa_fe b
  · rw [qa_sub2 (Int32.not_le.mpr h)]
    exact propext ⟨fun z => z.1 h, fun z => br_t h z⟩
  · rw [qa_sub1 (Int32.not_lt.mp h)]
    exact propext ⟨fun z => z.2 h, fun z => br_f h z⟩
theorem qx_sub0 {post : Int32 → Prop} (b : Int) : wpX_subtract post () 0 (qa_fe b) = post (qa_fe (0 - b)) := by
  rw [qa_0, qx_sub]
theorem qx_red {post : Int32 → Prop} (y : Int32) : wpX_reduce post () y = post (qa_fe y.toInt) := by
  unfold wpX_reduce
  have t := qa_redI (y := y) rfl
  apply propext
  constructor
  · intro z
    have z := z.2 _ rfl
    by_cases h : 0 ≤ y - y / 2147483647 * 2147483647
    · have := z.1 h
      rwa [t.2 (Int32.not_lt.mpr h)] at this
    · have := z.2 h
      rwa [t.1 (Int32.not_le.mp h)] at this
  · intro z
    refine ⟨by decide, fun r er => ?_⟩
    by_cases h : 0 ≤ r
    · exact br_t h (by rw [er, t.2 (by rw [← er]; exact Int32.not_lt.mpr h)]; exact z)
    · exact br_f h (by rw [er, t.1 (by rw [← er]; exact Int32.not_le.mp h)]; exact z)