def qa_rs (z : Int) : Nat := (z % 2147483647).toNat
def qa_fe (z : Int) : Int32 := nI (qa_rs z)
theorem qa_rs_lt (z : Int) : qa_rs z < 2147483647 := by unfold qa_rs; omega
theorem qa_rs_int (z : Int) : (qa_rs z : Int) = z % 2147483647 := by unfold qa_rs; omega
theorem qa_fe_int (z : Int) : (qa_fe z).toInt = z % 2147483647 := by
  have h := qa_rs_lt z
  unfold qa_fe
  rw [nI_toInt (by omega), qa_rs_int]
theorem qa_of {x : Int32} {z : Int} (h : x.toInt = z % 2147483647) : x = qa_fe z := Int32.toInt_inj.mp (by rw [h, qa_fe_int])
theorem qa_feq {a b : Int} : qa_fe a = qa_fe b ↔ a % 2147483647 = b % 2147483647 := by
  rw [← Int32.toInt_inj, qa_fe_int, qa_fe_int]
theorem qa_cong {a b : Int} (h : a % 2147483647 = b % 2147483647) : qa_fe a = qa_fe b := qa_feq.mpr h
theorem qa_nI {n : Nat} (h : n < 2147483647) : nI n = qa_fe (n : Int) := by
  apply qa_of
  rw [nI_toInt (by omega)]
  omega
theorem qa_0 : (0 : Int32) = qa_fe 0 := qa_of (by decide)
theorem qa_1 : (1 : Int32) = qa_fe 1 := qa_of (by decide)
theorem qa_p32 : (2147483647 : Int32).toInt = 2147483647 := by decide
theorem qa_p64 : (2147483647 : Int64).toInt = 2147483647 := by decide
theorem qa_ge0 (a : Int) : ¬ qa_fe a < 0 := nI_pos (by have := qa_rs_lt a; omega)
theorem qa_tm (a : Int) : (a.tmod 2147483647 < 0 → a.tmod 2147483647 + 2147483647 = a % 2147483647) ∧ (¬ a.tmod 2147483647 < 0 → a.tmod 2147483647 = a % 2147483647) := by
  have h1 := Int.lt_tmod_of_pos a (b := 2147483647) (by decide)
  have h2 := Int.tmod_lt_of_pos a (b := 2147483647) (by decide)
  have h3 := Int.tmod_add_mul_tdiv a 2147483647
  generalize a.tmod 2147483647 = t at *
  generalize a.tdiv 2147483647 = q at *
  omega
theorem qa_mb {x y : Int} (h1 : 0 ≤ x) (h2 : x < 2147483647) (h3 : 0 ≤ y) (h4 : y < 2147483647) : 0 ≤ x * y ∧ x * y ≤ 4611686009837453316 := by
  refine ⟨Int.mul_nonneg h1 h3, ?_⟩
  have := Int.mul_le_mul (a := x) (b := y) (c := 2147483646) (d := 2147483646) (by omega) (by omega) h3 (by decide)
  omega
theorem qa_mb' (a b : Int) : 0 ≤ (a % 2147483647) * (b % 2147483647) ∧ (a % 2147483647) * (b % 2147483647) ≤ 4611686009837453316 := qa_mb (by omega) (by omega) (by omega) (by omega)
theorem qa_mm (a b : Int) : (a % 2147483647) * (b % 2147483647) % 2147483647 = a * b % 2147483647 := (Int.mul_emod a b _).symm
theorem qa_l (a : Int) : (qa_fe a).toInt64.toInt = a % 2147483647 := by rw [Jvm.Kit.i64_of_i32, qa_fe_int]
theorem qa_lmul (a b : Int) : ((qa_fe a).toInt64 * (qa_fe b).toInt64).toInt = (a % 2147483647) * (b % 2147483647) := by
  have h := qa_mb' a b
  have e : (qa_fe a).toInt64.toInt * (qa_fe b).toInt64.toInt = (a % 2147483647) * (b % 2147483647) := by rw [qa_l, qa_l]
  rw [Jvm.Kit.i64_mul (by rw [e]; omega) (by rw [e]; omega), e]
theorem qa_ladd (a b : Int) : ((qa_fe a).toInt64 + (qa_fe b).toInt64).toInt = a % 2147483647 + b % 2147483647 := by
  rw [Jvm.Kit.i64_add (by rw [qa_l, qa_l]; omega) (by rw [qa_l, qa_l]; omega), qa_l, qa_l]
theorem qa_lsub (a b : Int) : ((qa_fe a).toInt64 - (qa_fe b).toInt64).toInt = a % 2147483647 - b % 2147483647 := by
  rw [Jvm.Kit.i64_sub (by rw [qa_l, qa_l]; omega) (by rw [qa_l, qa_l]; omega), qa_l, qa_l]
theorem qa_lac (s a b : Int) : ((qa_fe s).toInt64 + (qa_fe a).toInt64 * (qa_fe b).toInt64).toInt = s % 2147483647 + (a % 2147483647) * (b % 2147483647) := by
  have h := qa_mb' a b
  rw [Jvm.Kit.i64_add (by rw [qa_l, qa_lmul]; omega) (by rw [qa_l, qa_lmul]; omega), qa_l, qa_lmul]
theorem qa_lac' (s a b : Int) : ((qa_fe a).toInt64 * (qa_fe b).toInt64 + (qa_fe s).toInt64).toInt = (a % 2147483647) * (b % 2147483647) + s % 2147483647 := by
  have h := qa_mb' a b
  rw [Jvm.Kit.i64_add (by rw [qa_l, qa_lmul]; omega) (by rw [qa_l, qa_lmul]; omega), qa_l, qa_lmul]
theorem qa_lsc (s a b : Int) : ((qa_fe s).toInt64 - (qa_fe a).toInt64 * (qa_fe b).toInt64).toInt = s % 2147483647 - (a % 2147483647) * (b % 2147483647) := by
  have h := qa_mb' a b
  rw [Jvm.Kit.i64_sub (by rw [qa_l, qa_lmul]; omega) (by rw [qa_l, qa_lmul]; omega), qa_l, qa_lmul]
theorem qa_add_mod (a b : Int) : (a % 2147483647 + b % 2147483647) % 2147483647 = (a + b) % 2147483647 := by omega
theorem qa_sub_mod (a b : Int) : (a % 2147483647 - b % 2147483647) % 2147483647 = (a - b) % 2147483647 := by omega
theorem qa_ac_mod (s a b : Int) : (s % 2147483647 + (a % 2147483647) * (b % 2147483647)) % 2147483647 = (s + a * b) % 2147483647 := by
  have h := qa_mm a b
  generalize (a % 2147483647) * (b % 2147483647) = t at *
  generalize a * b = y at *
  omega
theorem qa_sc_mod (s a b : Int) : (s % 2147483647 - (a % 2147483647) * (b % 2147483647)) % 2147483647 = (s - a * b) % 2147483647 := by
  have h := qa_mm a b
  generalize (a % 2147483647) * (b % 2147483647) = t at *
  generalize a * b = y at *
  omega
theorem qa_rem0 {y : Int64} (h : 0 ≤ y.toInt) : (y - y / 2147483647 * 2147483647).toInt32 = qa_fe y.toInt := by
  apply qa_of
  have e := Jvm.Kit.i64_rem_nonneg (y := 2147483647) h
  rw [qa_p64] at e
  rw [Jvm.Kit.i32_of_i64 (by rw [e]; omega) (by rw [e]; omega), e]
theorem qa_redL {y r : Int64} (hr : r = y - y / 2147483647 * 2147483647) : (r < 0 → (r + 2147483647).toInt32 = qa_fe y.toInt) ∧ (¬ r < 0 → r.toInt32 = qa_fe y.toInt) := by
  have e : r.toInt = y.toInt.tmod 2147483647 := by rw [hr, Jvm.Kit.i64_rem, qa_p64]
  have t := qa_tm y.toInt
  have h1 := Int.lt_tmod_of_pos y.toInt (b := 2147483647) (by decide)
  have h2 := Int.tmod_lt_of_pos y.toInt (b := 2147483647) (by decide)
  rw [Int64.lt_iff_toInt_lt, Int64.toInt_zero, e]
  constructor
  · intro h
    have e2 : (r + 2147483647).toInt = y.toInt % 2147483647 := by
      rw [Jvm.Kit.i64_add (by rw [e, qa_p64]; omega) (by rw [e, qa_p64]; omega), e, qa_p64, t.1 h]
    apply qa_of
    rw [Jvm.Kit.i32_of_i64 (by rw [e2]; omega) (by rw [e2]; omega), e2]
  · intro h
    apply qa_of
    rw [Jvm.Kit.i32_of_i64 (by rw [e]; omega) (by rw [e]; omega), e, t.2 h]
theorem qa_redI {y r : Int32} (hr : r = y - y / 2147483647 * 2147483647) : (r < 0 → r + 2147483647 = qa_fe y.toInt) ∧ (¬ r < 0 → r = qa_fe y.toInt) := by
  have e : r.toInt = y.toInt.tmod 2147483647 := by rw [hr, rem_toInt, qa_p32]
  have t := qa_tm y.toInt
  have h1 := Int.lt_tmod_of_pos y.toInt (b := 2147483647) (by decide)
  have h2 := Int.tmod_lt_of_pos y.toInt (b := 2147483647) (by decide)
  rw [Int32.lt_iff_toInt_lt, Int32.toInt_zero, e]
  constructor
  · intro h
    apply qa_of
    rw [Jvm.Kit.i32_add (by rw [e, qa_p32]; omega) (by rw [e, qa_p32]; omega), e, qa_p32, t.1 h]
  · intro h
    apply qa_of
    rw [e, t.2 h]
theorem qa_sub1 {a b : Int} (h : qa_fe b ≤ qa_fe a) : qa_fe a - qa_fe b = qa_fe (a - b) := by
  rw [Int32.le_iff_toInt_le, qa_fe_int, qa_fe_int] at h
  apply qa_of
  rw [Jvm.Kit.i32_sub (by rw [qa_fe_int, qa_fe_int]; omega) (by rw [qa_fe_int, qa_fe_int]; omega), qa_fe_int, qa_fe_int]
  omega
theorem qa_subI (a b : Int) : (qa_fe a - qa_fe b).toInt = a % 2147483647 - b % 2147483647 := by
  rw [Jvm.Kit.i32_sub (by rw [qa_fe_int, qa_fe_int]; omega) (by rw [qa_fe_int, qa_fe_int]; omega), qa_fe_int, qa_fe_int]
theorem qa_sub2 {a b : Int} (h : ¬ qa_fe b ≤ qa_fe a) : qa_fe a - qa_fe b + 2147483647 = qa_fe (a - b) := by
  rw [Int32.le_iff_toInt_le, qa_fe_int, qa_fe_int] at h
  apply qa_of
  rw [Jvm.Kit.i32_add (by rw [qa_subI, qa_p32]; omega) (by rw [qa_subI, qa_p32]; omega), qa_subI, qa_p32]
  omega
def qa_uz (f : Nat → Int) (k : Nat) (x : Int) : Nat → Int := fun j => if j = k then x else f j
theorem qa_uzs {f : Nat → Int} {k : Nat} {x : Int} : qa_uz f k x k = x := if_pos rfl
theorem qa_uzn {f : Nat → Int} {k j : Nat} {x : Int} (h : j ≠ k) : qa_uz f k x j = f j := if_neg h
theorem qa_upd (f : Nat → Int) (k : Nat) (x : Int) : upd (fun i => qa_fe (f i)) k (qa_fe x) = fun i => qa_fe (qa_uz f k x i) := by
  funext i
  unfold upd qa_uz
  by_cases h : i = k
  · rw [if_pos h, if_pos h]
  · rw [if_neg h, if_neg h]
def qa_un (f : Nat → Nat) (k : Nat) (x : Nat) : Nat → Nat := fun j => if j = k then x else f j
theorem qa_uns {f : Nat → Nat} {k : Nat} {x : Nat} : qa_un f k x k = x := if_pos rfl
theorem qa_unn {f : Nat → Nat} {k j : Nat} {x : Nat} (h : j ≠ k) : qa_un f k x j = f j := if_neg h
theorem qa_updN (f : Nat → Nat) (k : Nat) (x : Nat) : upd (fun i => nI (f i)) k (nI x) = fun i => nI (qa_un f k x i) := by
  funext i
  unfold upd qa_un
  by_cases h : i = k
  · rw [if_pos h, if_pos h]
  · rw [if_neg h, if_neg h]
