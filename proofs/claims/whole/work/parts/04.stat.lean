theorem qn_m32 (a : Nat) : nI a * 32 = nI (a * 32) := pk_mul a 32
theorem qn_m16 (a : Nat) : nI a * 16 = nI (a * 16) := pk_mul a 16
theorem qv_in {k N : Nat} (h : k < N) (hN : N < 2 ^ 31) : vp_in (nI k) N = True := eq_true (vp_in_nI h hN)
theorem qx_add {post : Int32 → Prop} (a b : Int) : wpX_add post (qa_fe a) (qa_fe b) = post (qa_fe (a + b)) := by
  unfold wpX_add
  have h := qa_ladd a b
  rw [qa_rem0 (by rw [h]; omega), h, qa_cong (qa_add_mod a b)]
  exact propext ⟨fun z => z.2, fun z => ⟨by decide, z⟩⟩
theorem qx_mul {post : Int32 → Prop} (a b : Int) : wpX_multiply post (qa_fe a) (qa_fe b) = post (qa_fe (a * b)) := by
  unfold wpX_multiply
  have h := qa_lmul a b
  rw [qa_rem0 (by rw [h]; exact (qa_mb' a b).1), h, qa_cong (qa_mm a b)]
  exact propext ⟨fun z => z.2, fun z => ⟨by decide, z⟩⟩
theorem qx_sub {post : Int32 → Prop} (a b : Int) : wpX_subtract post (qa_fe a) (qa_fe b) = post (qa_fe (a - b)) := by
  unfold wpX_subtract
  by_cases h : qa_fe a < qa_fe b
  · rw [qa_sub2 (Int32.not_le.mpr h)]
    exact propext ⟨fun z => z.1 h, fun z => br_t h z⟩
  · rw [qa_sub1 (Int32.not_lt.mp h)]
    exact propext ⟨fun z => z.2 h, fun z => br_f h z⟩
theorem qx_sub0 {post : Int32 → Prop} (b : Int) : wpX_subtract post 0 (qa_fe b) = post (qa_fe (0 - b)) := by
  rw [qa_0, qx_sub]
theorem qx_red {post : Int32 → Prop} (y : Int32) : wpX_reduce post y = post (qa_fe y.toInt) := by
  unfold wpX_reduce
  have t := qa_redI (y := y) rfl
  apply propext
  constructor
  · intro z
    have z := z.2 _ rfl
    by_cases h : 0 ≤ y - y / 2147483647 * 2147483647
    · have := z.1 h
      rwa [t.2 (Int32.not_lt.mpr h)] at this
    · have := z.2 h
      rwa [t.1 (Int32.not_le.mp h)] at this
  · intro z
    refine ⟨by decide, fun r er => ?_⟩
    by_cases h : 0 ≤ r
    · exact br_t h (by rw [er, t.2 (by rw [← er]; exact Int32.not_lt.mpr h)]; exact z)
    · exact br_f h (by rw [er, t.1 (by rw [← er]; exact Int32.not_le.mp h)]; exact z)
theorem qy_red {post : Int32 → Prop} (u : SY) (y : Int64) : wpY_red post u y = post (qa_fe y.toInt) := by
  obtain ⟨a1, a2, a3, a4, a5, a6, a7, a8, a9, a10, a11, a12, a13, a14, a15, a16, a17, a18, a19, a20, a21, a22⟩ := u
  unfold wpY_red
  have t := qa_redL (y := y) rfl
  apply propext
  constructor
  · intro z
    have z := z.2 _ rfl
    by_cases h : 0 ≤ y - y / 2147483647 * 2147483647
    · have := z.1 h
      rwa [t.2 (Int64.not_lt.mpr h)] at this
    · have := z.2 h _ rfl
      rwa [t.1 (Int64.not_le.mp h)] at this
  · intro z
    refine ⟨by decide, fun r er => ?_⟩
    by_cases h : 0 ≤ r
    · exact br_t h (by rw [er, t.2 (by rw [← er]; exact Int64.not_lt.mpr h)]; exact z)
    · exact br_f h (fun q eq => by rw [eq, er, t.1 (by rw [← er]; exact Int64.not_le.mp h)]; exact z)
theorem qy_ac {post : Int32 → Prop} (u : SY) (s a b : Int) : wpY_red post u ((qa_fe s).toInt64 + (qa_fe a).toInt64 * (qa_fe b).toInt64) = post (qa_fe (s + a * b)) := by
  rw [qy_red, qa_lac, qa_cong (qa_ac_mod s a b)]
theorem qy_ac' {post : Int32 → Prop} (u : SY) (s a b : Int) : wpY_red post u ((qa_fe a).toInt64 * (qa_fe b).toInt64 + (qa_fe s).toInt64) = post (qa_fe (a * b + s)) := by
  rw [qy_red, qa_lac', Int.add_comm, qa_cong (qa_ac_mod s a b), Int.add_comm]
theorem qy_sc {post : Int32 → Prop} (u : SY) (s a b : Int) : wpY_red post u ((qa_fe s).toInt64 - (qa_fe a).toInt64 * (qa_fe b).toInt64) = post (qa_fe (s - a * b)) := by
  rw [qy_red, qa_lsc, qa_cong (qa_sc_mod s a b)]
theorem qy_mul {post : Int32 → Prop} (u : SY) (a b : Int) : wpY_red post u ((qa_fe a).toInt64 * (qa_fe b).toInt64) = post (qa_fe (a * b)) := by
  rw [qy_red, qa_lmul, qa_cong (qa_mm a b)]
theorem qy_add {post : Int32 → Prop} (u : SY) (a b : Int) : wpY_red post u ((qa_fe a).toInt64 + (qa_fe b).toInt64) = post (qa_fe (a + b)) := by
  rw [qy_red, qa_ladd, qa_cong (qa_add_mod a b)]
theorem qy_sub {post : Int32 → Prop} (u : SY) (a b : Int) : wpY_red post u ((qa_fe a).toInt64 - (qa_fe b).toInt64) = post (qa_fe (a - b)) := by
  rw [qy_red, qa_lsub, qa_cong (qa_sub_mod a b)]
theorem qy_den {post : Int32 → Prop} (u : SY) (s a b : Int) : wpY_red post u ((qa_fe s).toInt64 * (qa_fe a - qa_fe b).toInt64) = post (qa_fe (s * (a - b))) := by
  have h1 : (qa_fe a - qa_fe b).toInt64.toInt = a % 2147483647 - b % 2147483647 := by rw [Jvm.Kit.i64_of_i32, qa_subI]
  have h2 : ∀ x y : Int, 0 ≤ x → x < 2147483647 → -2147483647 < y → y < 2147483647 → -4611686014132420609 ≤ x * y ∧ x * y ≤ 4611686014132420609 := by
    intro x y a1 a2 a3 a4
    have u1 := Int.mul_le_mul_of_nonneg_left (show y ≤ 2147483647 by omega) a1
    have u2 := Int.mul_le_mul_of_nonneg_left (show -2147483647 ≤ y by omega) a1
    omega
  have h3 := h2 (s % 2147483647) (a % 2147483647 - b % 2147483647) (by omega) (by omega) (by omega) (by omega)
  have e : ((qa_fe s).toInt64 * (qa_fe a - qa_fe b).toInt64).toInt = (s % 2147483647) * (a % 2147483647 - b % 2147483647) := by
    rw [Jvm.Kit.i64_mul (by rw [qa_l, h1]; omega) (by rw [qa_l, h1]; omega), qa_l, h1]
  rw [qy_red, e]
  congr 1
  apply qa_cong
  rw [Int.mul_emod, qa_sub_mod, Int.emod_emod, ← Int.mul_emod]
theorem qy_i {post : Int32 → Prop} (u : SY) (y : Int32) : wpY_red post u y.toInt64 = post (qa_fe y.toInt) := by
  rw [qy_red, Jvm.Kit.i64_of_i32]
