section
def qa_rs (z : Int) : Nat := (z % 2147483647).toNat
def qa_fe (z : Int) : Int32 := nI (qa_rs z)
theorem qa_rs_lt (z : Int) : qa_rs z < 2147483647 := by unfold qa_rs; omega
theorem qa_rs_int (z : Int) : (qa_rs z : Int) = z % 2147483647 := by unfold qa_rs; omega
theorem qa_fe_int (z : Int) : (qa_fe z).toInt = z % 2147483647 := by
  have h := qa_rs_lt z
  unfold qa_fe
  rw [nI_toInt (by omega), qa_rs_int]
theorem qa_of {x : Int32} {z : Int} (h : x.toInt = z % 2147483647) : x = qa_fe z := Int32.toInt_inj.mp (by rw [h, qa_fe_int])
theorem qa_feq {a b : Int} : qa_fe a = qa_fe b ↔ a % 2147483647 = b % 2147483647 := by
  rw [← Int32.toInt_inj, qa_fe_int, qa_fe_int]
theorem qa_cong {a b : Int} (h : a % 2147483647 = b % 2147483647) : qa_fe a = qa_fe b := qa_feq.mpr h
theorem qa_nI {n : Nat} (h : n < 2147483647) : nI n = qa_fe (n : Int) := by
  apply qa_of
  rw [nI_toInt (by omega)]
  omega
theorem qa_0 : (0 : Int32) = qa_fe 0 := qa_of (by decide)
theorem qa_1 : (1 : Int32) = qa_fe 1 := qa_of (by decide)
theorem qa_p32 : (2147483647 : Int32).toInt = 2147483647 := by decide
theorem qa_p64 : (2147483647 : Int64).toInt = 2147483647 := by decide
theorem qa_ge0 (a : Int) : ¬ qa_fe a < 0 := nI_pos (by have := qa_rs_lt a; omega)
theorem qa_tm (a : Int) : (a.tmod 2147483647 < 0 → a.tmod 2147483647 + 2147483647 = a % 2147483647) ∧ (¬ a.tmod 2147483647 < 0 → a.tmod 2147483647 = a % 2147483647) := by
  have h1 := Int.lt_tmod_of_pos a (b := 2147483647) (by decide)
  have h2 := Int.tmod_lt_of_pos a (b := 2147483647) (by decide)
  have h3 := Int.tmod_add_mul_tdiv a 2147483647
  generalize a.tmod 2147483647 = t at *
  generalize a.tdiv 2147483647 = q at *
  omega
theorem qa_mb {x y : Int} (h1 : 0 ≤ x) (h2 : x < 2147483647) (h3 : 0 ≤ y) (h4 : y < 2147483647) : 0 ≤ x * y ∧ x * y ≤ 4611686009837453316 := by
  refine ⟨Int.mul_nonneg h1 h3, ?_⟩
  have := Int.mul_le_mul (a := x) (b := y) (c := 2147483646) (d := 2147483646) (by omega) (by omega) h3 (by decide)
  omega
theorem qa_mb' (a b : Int) : 0 ≤ (a % 2147483647) * (b % 2147483647) ∧ (a % 2147483647) * (b % 2147483647) ≤ 4611686009837453316 := qa_mb (by omega) (by omega) (by omega) (by omega)
theorem qa_mm (a b : Int) : (a % 2147483647) * (b % 2147483647) % 2147483647 = a * b % 2147483647 := (Int.mul_emod a b _).symm
theorem qa_l (a : Int) : (qa_fe a).toInt64.toInt = a % 2147483647 := by rw [Jvm.Kit.i64_of_i32, qa_fe_int]
theorem qa_lmul (a b : Int) : ((qa_fe a).toInt64 * (qa_fe b).toInt64).toInt = (a % 2147483647) * (b % 2147483647) := by
  have h := qa_mb' a b
  have e : (qa_fe a).toInt64.toInt * (qa_fe b).toInt64.toInt = (a % 2147483647) * (b % 2147483647) := by rw [qa_l, qa_l]
  rw [Jvm.Kit.i64_mul (by rw [e]; omega) (by rw [e]; omega), e]
theorem qa_ladd (a b : Int) : ((qa_fe a).toInt64 + (qa_fe b).toInt64).toInt = a % 2147483647 + b % 2147483647 := by
  rw [Jvm.Kit.i64_add (by rw [qa_l, qa_l]; omega) (by rw [qa_l, qa_l]; omega), qa_l, qa_l]
theorem qa_lsub (a b : Int) : ((qa_fe a).toInt64 - (qa_fe b).toInt64).toInt = a % 2147483647 - b % 2147483647 := by
  rw [Jvm.Kit.i64_sub (by rw [qa_l, qa_l]; omega) (by rw [qa_l, qa_l]; omega), qa_l, qa_l]
theorem qa_lac (s a b : Int) : ((qa_fe s).toInt64 + (qa_fe a).toInt64 * (qa_fe b).toInt64).toInt = s % 2147483647 + (a % 2147483647) * (b % 2147483647) := by
  have h := qa_mb' a b
  rw [Jvm.Kit.i64_add (by rw [qa_l, qa_lmul]; omega) (by rw [qa_l, qa_lmul]; omega), qa_l, qa_lmul]
theorem qa_lac' (s a b : Int) : ((qa_fe a).toInt64 * (qa_fe b).toInt64 + (qa_fe s).toInt64).toInt = (a % 2147483647) * (b % 2147483647) + s % 2147483647 := by
  have h := qa_mb' a b
  rw [Jvm.Kit.i64_add (by rw [qa_l, qa_lmul]; omega) (by rw [qa_l, qa_lmul]; omega), qa_l, qa_lmul]
theorem qa_lsc (s a b : Int) : ((qa_fe s).toInt64 - (qa_fe a).toInt64 * (qa_fe b).toInt64).toInt = s % 2147483647 - (a % 2147483647) * (b % 2147483647) := by
  have h := qa_mb' a b
  rw [Jvm.Kit.i64_sub (by rw [qa_l, qa_lmul]; omega) (by rw [qa_l, qa_lmul]; omega), qa_l, qa_lmul]
theorem qa_add_mod (a b : Int) : (a % 2147483647 + b % 2147483647) % 2147483647 = (a + b) % 2147483647 := by omega
theorem qa_sub_mod (a b : Int) : (a % 2147483647 - b % 2147483647) % 2147483647 = (a - b) % 2147483647 := by omega
theorem qa_ac_mod (s a b : Int) : (s % 2147483647 + (a % 2147483647) * (b % 2147483647)) % 2147483647 = (s + a * b) % 2147483647 := by
  have h := qa_mm a b
  generalize (a % 2147483647) * (b % 2147483647) = t at *
  generalize a * b = y at *
  omega
theorem qa_sc_mod (s a b : Int) : (s % 2147483647 - (a % 2147483647) * (b % 2147483647)) % 2147483647 = (s - a * b) % 2147483647 := by
  have h := qa_mm a b
  generalize (a % 2147483647) * (b % 2147483647) = t at *
  generalize a * b = y at *
  omega
theorem qa_rem0 {y : Int64} (h : 0 ≤ y.toInt) : (y - y / 2147483647 * 2147483647).toInt32 = qa_fe y.toInt := by
  apply qa_of
  have e := Jvm.Kit.i64_rem_nonneg (y := 2147483647) h
  rw [qa_p64] at e
  rw [Jvm.Kit.i32_of_i64 (by rw [e]; omega) (by rw [e]; omega), e]
theorem qa_redL {y r : Int64} (hr : r = y - y / 2147483647 * 2147483647) : (r < 0 → (r + 2147483647).toInt32 = qa_fe y.toInt) ∧ (¬ r < 0 → r.toInt32 = qa_fe y.toInt) := by
  have e : r.toInt = y.toInt.tmod 2147483647 := by rw [hr, Jvm.Kit.i64_rem, qa_p64]
  have t := qa_tm y.toInt
  have h1 := Int.lt_tmod_of_pos y.toInt (b := 2147483647) (by decide)
  have h2 := Int.tmod_lt_of_pos y.toInt (b := 2147483647) (by decide)
  rw [Int64.lt_iff_toInt_lt, Int64.toInt_zero, e]
  constructor
  · intro h
    have e2 : (r + 2147483647).toInt = y.toInt % 2147483647 := by
      rw [Jvm.Kit.i64_add (by rw [e, qa_p64]; omega) (by rw [e, qa_p64]; omega), e, qa_p64, t.1 h]
    apply qa_of
    rw [Jvm.Kit.i32_of_i64 (by rw [e2]; omega) (by rw [e2]; omega), e2]
  · intro h
    apply qa_of
    rw [Jvm.Kit.i32_of_i64 (by rw [e]; omega) (by rw [e]; omega), e, t.2 h]
theorem qa_redI {y r : Int32} (hr : r = y - y / 2147483647 * 2147483647) : (r < 0 → r + 2147483647 = qa_fe y.toInt) ∧ (¬ r < 0 → r = qa_fe y.toInt) := by
  have e : r.toInt = y.toInt.tmod 2147483647 := by rw [hr, rem_toInt, qa_p32]
  have t := qa_tm y.toInt
  have h1 := Int.lt_tmod_of_pos y.toInt (b := 2147483647) (by decide)
  have h2 := Int.tmod_lt_of_pos y.toInt (b := 2147483647) (by decide)
  rw [Int32.lt_iff_toInt_lt, Int32.toInt_zero, e]
  constructor
  · intro h
    apply qa_of
    rw [Jvm.Kit.i32_add (by rw [e, qa_p32]; omega) (by rw [e, qa_p32]; omega), e, qa_p32, t.1 h]
  · intro h
    apply qa_of
    rw [e, t.2 h]
theorem qa_sub1 {a b : Int} (h : qa_fe b ≤ qa_fe a) : qa_fe a - qa_fe b = qa_fe (a - b) := by
  rw [Int32.le_iff_toInt_le, qa_fe_int, qa_fe_int] at h
  apply qa_of
  rw [Jvm.Kit.i32_sub (by rw [qa_fe_int, qa_fe_int]; omega) (by rw [qa_fe_int, qa_fe_int]; omega), qa_fe_int, qa_fe_int]
  omega
theorem qa_subI (a b : Int) : (qa_fe a - qa_fe b).toInt = a % 2147483647 - b % 2147483647 := by
  rw [Jvm.Kit.i32_sub (by rw [qa_fe_int, qa_fe_int]; omega) (by rw [qa_fe_int, qa_fe_int]; omega), qa_fe_int, qa_fe_int]
theorem qa_sub2 {a b : Int} (h : ¬ qa_fe b ≤ qa_fe a) : qa_fe a - qa_fe b + 2147483647 = qa_fe (a - b) := by
  rw [Int32.le_iff_toInt_le, qa_fe_int, qa_fe_int] at h
  apply qa_of
  rw [Jvm.Kit.i32_add (by rw [qa_subI, qa_p32]; omega) (by rw [qa_subI, qa_p32]; omega), qa_subI, qa_p32]
  omega
def qa_uz (f : Nat → Int) (k : Nat) (x : Int) : Nat → Int := fun j => if j = k then x else f j
theorem qa_uzs {f : Nat → Int} {k : Nat} {x : Int} : qa_uz f k x k = x := if_pos rfl
theorem qa_uzn {f : Nat → Int} {k j : Nat} {x : Int} (h : j ≠ k) : qa_uz f k x j = f j := if_neg h
theorem qa_upd (f : Nat → Int) (k : Nat) (x : Int) : upd (fun i => qa_fe (f i)) k (qa_fe x) = fun i => qa_fe (qa_uz f k x i) := by
  funext i
  unfold upd qa_uz
  by_cases h : i = k
  · rw [if_pos h, if_pos h]
  · rw [if_neg h, if_neg h]
def qa_un (f : Nat → Nat) (k : Nat) (x : Nat) : Nat → Nat := fun j => if j = k then x else f j
theorem qa_uns {f : Nat → Nat} {k : Nat} {x : Nat} : qa_un f k x k = x := if_pos rfl
theorem qa_unn {f : Nat → Nat} {k j : Nat} {x : Nat} (h : j ≠ k) : qa_un f k x j = f j := if_neg h
theorem qa_updN (f : Nat → Nat) (k : Nat) (x : Nat) : upd (fun i => nI (f i)) k (nI x) = fun i => nI (qa_un f k x i) := by
  funext i
  unfold upd qa_un
  by_cases h : i = k
  · rw [if_pos h, if_pos h]
  · rw [if_neg h, if_neg h]
end
section
def qa_sm (f : Nat → Int) : Nat → Int
  | 0 => 0
  | n + 1 => qa_sm f n + f n
theorem qa_sm_c {f g : Nat → Int} {n : Nat} (h : ∀ i, i < n → f i = g i) : qa_sm f n = qa_sm g n := by
  induction n with
  | zero => rfl
  | succ n ih => rw [qa_sm, qa_sm, ih (fun i hi => h i (by omega)), h n (by omega)]
theorem qa_sm_0 {f : Nat → Int} {n : Nat} (h : ∀ i, i < n → f i = 0) : qa_sm f n = 0 := by
  induction n with
  | zero => rfl
  | succ n ih => rw [qa_sm, ih (fun i hi => h i (by omega)), h n (by omega)]; rfl
def qa_lin (a : Int) (f : Nat → Int) : Nat → Int := fun k => (if k = 0 then 0 else f (k - 1)) - a * f k
theorem qa_lin0 (a : Int) (f : Nat → Int) : qa_lin a f 0 = 0 - a * f 0 := rfl
theorem qa_linS (a : Int) (f : Nat → Int) (k : Nat) : qa_lin a f (k + 1) = f k - a * f (k + 1) := rfl
theorem qa_lin_comm (a b : Int) (f : Nat → Int) : qa_lin a (qa_lin b f) = qa_lin b (qa_lin a f) := by
  funext k
  match k with
  | 0 => simp only [qa_lin0]; grind
  | 1 => simp only [qa_linS, qa_lin0, Nat.zero_add]; grind
  | k + 2 => simp only [qa_linS]; grind
def qa_one : Nat → Int := fun k => if k = 0 then 1 else 0
def qa_zp (pt : Nat → Int) : Nat → Nat → Int
  | 0 => qa_one
  | n + 1 => qa_lin (pt n) (qa_zp pt n)
def qa_np (pt : Nat → Int) (j : Nat) : Nat → Nat → Int
  | 0 => qa_one
  | n + 1 => if n = j then qa_np pt j n else qa_lin (pt n) (qa_np pt j n)
def qa_dn (pt : Nat → Int) (j : Nat) : Nat → Int
  | 0 => 1
  | n + 1 => if n = j then qa_dn pt j n else qa_dn pt j n * (pt j - pt n)
theorem qa_np_e (pt : Nat → Int) (n : Nat) : qa_np pt n (n + 1) = qa_np pt n n := by rw [qa_np, if_pos rfl]
theorem qa_np_s {j n : Nat} (pt : Nat → Int) (h : n ≠ j) : qa_np pt j (n + 1) = qa_lin (pt n) (qa_np pt j n) := by rw [qa_np, if_neg h]
theorem qa_dn_e (pt : Nat → Int) (n : Nat) : qa_dn pt n (n + 1) = qa_dn pt n n := by rw [qa_dn, if_pos rfl]
theorem qa_dn_s {j n : Nat} (pt : Nat → Int) (h : n ≠ j) : qa_dn pt j (n + 1) = qa_dn pt j n * (pt j - pt n) := by rw [qa_dn, if_neg h]
theorem qa_np_lo (pt : Nat → Int) {j n : Nat} (h : n ≤ j) : qa_np pt j n = qa_zp pt n := by
  induction n with
  | zero => rfl
  | succ n ih => rw [qa_np_s pt (by omega), ih (by omega), qa_zp]
theorem qa_np_hi (pt : Nat → Int) {j n : Nat} (h : j < n) : qa_zp pt n = qa_lin (pt j) (qa_np pt j n) := by
  induction n with
  | zero => omega
  | succ n ih =>
    by_cases e : n = j
    · subst e
      rw [qa_np_e, qa_np_lo pt (Nat.le_refl n), qa_zp]
    · rw [qa_np_s pt e, qa_zp, ih (by omega), qa_lin_comm]
theorem qa_lin_deg {a : Int} {f : Nat → Int} {d : Nat} (h : ∀ k, d ≤ k → f k = 0) : ∀ k, d + 1 ≤ k → qa_lin a f k = 0 := by
  intro k hk
  obtain ⟨t, rfl⟩ : ∃ t, k = t + 1 := ⟨k - 1, by omega⟩
  rw [qa_linS, h t (by omega), h (t + 1) (by omega)]
  simp
theorem qa_one_deg : ∀ k, 1 ≤ k → qa_one k = 0 := by
  intro k hk
  exact if_neg (by omega)
theorem qa_zp_deg (pt : Nat → Int) (n : Nat) : ∀ k, n + 1 ≤ k → qa_zp pt n k = 0 := by
  induction n with
  | zero => exact qa_one_deg
  | succ n ih => exact qa_lin_deg ih
theorem qa_np_deg (pt : Nat → Int) {j n : Nat} (h : j < n) : ∀ k, n ≤ k → qa_np pt j n k = 0 := by
  induction n with
  | zero => omega
  | succ n ih =>
    by_cases e : n = j
    · subst e
      rw [qa_np_e, qa_np_lo pt (Nat.le_refl n)]
      exact qa_zp_deg pt n
    · rw [qa_np_s pt e]
      exact qa_lin_deg (ih (by omega))
def qa_ho (f : Nat → Int) (x : Int) : Nat → Nat → Int
  | 0 => fun _ => 0
  | d + 1 => fun k => qa_ho f x d (k + 1) * x + f k
theorem qa_ho_s (f : Nat → Int) (x : Int) (d k : Nat) : qa_ho f x (d + 1) k = qa_ho f x d (k + 1) * x + f k := rfl
theorem qa_ho_c {f g : Nat → Int} (x : Int) : ∀ d k, (∀ i, k ≤ i → i < k + d → f i = g i) → qa_ho f x d k = qa_ho g x d k := by
  intro d
  induction d with
  | zero => intro k _; rfl
  | succ d ih =>
    intro k h
    rw [qa_ho_s, qa_ho_s, ih (k + 1) (fun i h1 h2 => h i (by omega) (by omega)), h k (by omega) (by omega)]
theorem qa_ho_l {f : Nat → Int} (a x : Int) : ∀ d k, (∀ i, k + d ≤ i → f i = 0) → qa_ho (qa_lin a f) x d (k + 1) = f k + (x - a) * qa_ho f x d (k + 1) := by
  intro d
  induction d with
  | zero =>
    intro k h
    rw [h k (by omega)]
    simp only [qa_ho]
    omega
  | succ d ih =>
    intro k h
    rw [qa_ho_s, qa_ho_s, ih (k + 1) (fun i hi => h i (by omega)), qa_linS]
    grind
theorem qa_ho_up {f : Nat → Int} (x : Int) : ∀ d k, (∀ i, k + d ≤ i → f i = 0) → qa_ho f x (d + 1) k = qa_ho f x d k := by
  intro d
  induction d with
  | zero => intro k h; rw [qa_ho_s]; simp only [qa_ho]; rw [h k (by omega)]; simp
  | succ d ih =>
    intro k h
    rw [qa_ho_s, ih (k + 1) (fun i hi => h i (by omega)), ← qa_ho_s]
theorem qa_ho_lin {f : Nat → Int} (a x : Int) (d : Nat) (h : ∀ i, d + 1 ≤ i → f i = 0) : qa_ho (qa_lin a f) x (d + 2) 0 = (x - a) * qa_ho f x (d + 1) 0 := by
  have e : qa_ho f x (d + 1) 1 = qa_ho f x d 1 := qa_ho_up x d 1 (fun i hi => h i (by omega))
  rw [qa_ho_s, qa_ho_l a x (d + 1) 0 (fun i hi => h i (by omega)), qa_ho_s f x d 0, Nat.zero_add, e, qa_lin0]
  grind
theorem qa_zp_val (pt : Nat → Int) (j n : Nat) (h : n ≤ j) : qa_ho (qa_zp pt n) (pt j) (n + 1) 0 = qa_dn pt j n := by
  induction n with
  | zero => simp only [qa_ho, qa_zp, qa_one, qa_dn]; simp
  | succ n ih =>
    rw [qa_zp, qa_ho_lin _ _ n (qa_zp_deg pt n), ih (by omega), qa_dn_s pt (by omega), Int.mul_comm]
theorem qa_np_val (pt : Nat → Int) {j n : Nat} (h : j < n) : qa_ho (qa_np pt j n) (pt j) n 0 = qa_dn pt j n := by
  induction n with
  | zero => omega
  | succ n ih =>
    by_cases e : n = j
    · subst e
      rw [qa_np_e, qa_dn_e, qa_np_lo pt (Nat.le_refl n), qa_zp_val pt n n (Nat.le_refl n)]
    · obtain ⟨t, rfl⟩ : ∃ t, n = t + 1 := ⟨n - 1, by omega⟩
      rw [qa_np_s pt e, qa_ho_lin _ _ t (qa_np_deg pt (by omega)), ih (by omega), qa_dn_s pt e, Int.mul_comm]
def qa_pw (a : Int) : Nat → Int × Int
  | 0 => (1, a)
  | n + 1 => (if (((2147483645 : Int32) >>> (nI n &&& 31)) &&& 1) = 1 then (qa_pw a n).1 * (qa_pw a n).2 else (qa_pw a n).1, (qa_pw a n).2 * (qa_pw a n).2)
def qa_iv (a : Int) : Int := (qa_pw a 31).1
def qa_bs (pt : Nat → Int) (m j k : Nat) : Int := qa_np pt j m k * qa_iv (qa_dn pt j m)
def qa_mi (t j v : Nat) : Nat := (t * 16 + j) * 32 + v
def qa_rv (M x : Nat → Int) (w t j : Nat) : Int := qa_sm (fun v => M (qa_mi t j v) * x v) w
def qa_wv (F x : Nat → Int) (w i : Nat) : Int := qa_sm (fun v => F (i * 32 + v) * x v) w
def qa_pz (M x pt : Nat → Int) (w m t k : Nat) : Int := qa_sm (fun j => qa_rv M x w t j * qa_bs pt m j k) m
def qa_c2 (A B : Nat → Int) (i : Nat) (l t : Nat) : Int := qa_sm (fun b => if i + b = t then A i * B b else 0) l
def qa_c1 (A B : Nat → Int) (m : Nat) (i t : Nat) : Int := qa_sm (fun a => qa_c2 A B a m t) i
def qa_pp (M x pt : Nat → Int) (w m k : Nat) : Int := qa_c1 (qa_pz M x pt w m 0) (qa_pz M x pt w m 1) m m k - (if k < m then qa_pz M x pt w m 2 k else 0)
theorem qa_c2_s (A B : Nat → Int) (i l t : Nat) : qa_c2 A B i (l + 1) t = qa_c2 A B i l t + (if i + l = t then A i * B l else 0) := rfl
theorem qa_c1_s (A B : Nat → Int) (m i t : Nat) : qa_c1 A B m (i + 1) t = qa_c1 A B m i t + qa_c2 A B i m t := rfl
theorem qa_c2_c {A B A' B' : Nat → Int} {m : Nat} (hA : ∀ k, k < m → A k = A' k) (hB : ∀ k, k < m → B k = B' k) {i : Nat} (hi : i < m) : ∀ {l : Nat} (_ : l ≤ m) (t : Nat), qa_c2 A B i l t = qa_c2 A' B' i l t := by
  intro l hl t
  refine qa_sm_c fun b hb => ?_
  rw [hA i hi, hB b (by omega)]
theorem qa_c1_c {A B A' B' : Nat → Int} {m : Nat} (hA : ∀ k, k < m → A k = A' k) (hB : ∀ k, k < m → B k = B' k) {i : Nat} (hi : i ≤ m) (t : Nat) : qa_c1 A B m i t = qa_c1 A' B' m i t :=
  qa_sm_c fun a ha => qa_c2_c hA hB (by omega) (Nat.le_refl m) t
theorem qa_c2_0 {A B : Nat → Int} {i l t : Nat} (h : t < i ∨ i + l ≤ t) : qa_c2 A B i l t = 0 :=
  qa_sm_0 fun b hb => if_neg (by omega)
theorem qa_c1_0 {A B : Nat → Int} {m i t : Nat} (h : i + m ≤ t + 1) : qa_c1 A B m i t = 0 :=
  qa_sm_0 fun a ha => qa_c2_0 (Or.inr (by omega))
def qa_dst (Z g : Nat → Int) (i : Nat) (q : Int) (k : Nat) : Nat → Int := fun t => if i ≤ t ∧ t < i + k then g t - q * Z (t - i) else g t
theorem qa_dst_0 (Z g : Nat → Int) (i : Nat) (q : Int) : qa_dst Z g i q 0 = g := by
  funext t
  exact if_neg (by omega)
theorem qa_dst_s (Z g : Nat → Int) (i : Nat) (q : Int) (k : Nat) : qa_dst Z g i q (k + 1) = qa_uz (qa_dst Z g i q k) (i + k) (g (i + k) - q * Z k) := by
  funext t
  unfold qa_uz qa_dst
  by_cases h : t = i + k
  · subst h
    rw [if_pos (by omega), if_pos rfl, show i + k - i = k by omega]
  · rw [if_neg h]
    by_cases h2 : i ≤ t ∧ t < i + k
    · rw [if_pos (by omega), if_pos h2]
    · rw [if_neg (by omega), if_neg h2]
theorem qa_dst_at (Z g : Nat → Int) (i : Nat) (q : Int) (k : Nat) : qa_dst Z g i q k (i + k) = g (i + k) := if_neg (by omega)
def qa_rm (Z g : Nat → Int) (m : Nat) : Nat → Nat → Int
  | 0 => g
  | s + 1 => qa_dst Z (qa_rm Z g m s) (m - 2 - s) (qa_rm Z g m s (m - 2 - s + m)) (m + 1)
def qa_hh (Z g : Nat → Int) (m i : Nat) : Int := if i + 1 < m then qa_rm Z g m (m - 2 - i) (i + m) else 0
def qa_rr (Z g : Nat → Int) (m k : Nat) : Int := qa_rm Z g m (m - 1) k
theorem qa_pp_0 (M x pt : Nat → Int) (w m k : Nat) (h : 2 * m ≤ k + 1) (hm : 0 < m) : qa_pp M x pt w m k = 0 := by
  unfold qa_pp
  rw [qa_c1_0 (by omega), if_neg (by omega)]
  rfl
def qa_row (P : Nat → Int) (b m : Nat) (g : Nat → Int) : Nat → Int := fun i => if b ≤ i ∧ i < b + m then g (i - b) else P i
def qa_mix (k : Nat) (f g : Nat → Int) : Nat → Int := fun i => if i < k then f i else g i
theorem qa_row_in {P g : Nat → Int} {b m i : Nat} (h : i < m) : qa_row P b m g (b + i) = g i := by
  unfold qa_row
  rw [if_pos (by omega), Nat.add_sub_cancel_left]
theorem qa_row_out {P g : Nat → Int} {b m i : Nat} (h : i < b ∨ b + m ≤ i) : qa_row P b m g i = P i := if_neg (by omega)
theorem qa_row_0 (P g : Nat → Int) (b : Nat) : qa_row P b 0 g = P := by
  funext i
  exact if_neg (by omega)
theorem qa_row_s (P g : Nat → Int) (b v : Nat) : qa_uz (qa_row P b v g) (b + v) (g v) = qa_row P b (v + 1) g := by
  funext i
  unfold qa_uz qa_row
  by_cases h : i = b + v
  · subst h
    rw [if_pos rfl, if_pos (by omega), Nat.add_sub_cancel_left]
  · rw [if_neg h]
    by_cases h2 : b ≤ i ∧ i < b + v
    · rw [if_pos h2, if_pos (by omega)]
    · rw [if_neg h2, if_neg (by omega)]
theorem qa_row_u {P g : Nat → Int} {b m k : Nat} (h : k < m) (z : Int) : qa_uz (qa_row P b m g) (b + k) z = qa_row P b m (qa_uz g k z) := by
  funext i
  unfold qa_uz qa_row
  by_cases h1 : i = b + k
  · subst h1
    rw [if_pos rfl, if_pos (by omega)]
    exact (if_pos (by omega)).symm
  · rw [if_neg h1]
    by_cases h2 : b ≤ i ∧ i < b + m
    · rw [if_pos h2, if_pos h2]
      exact (if_neg (by omega)).symm
    · rw [if_neg h2, if_neg h2]
theorem qa_row_c {P g g' : Nat → Int} {b m : Nat} (h : ∀ i, i < m → g i = g' i) : qa_row P b m g = qa_row P b m g' := by
  funext i
  unfold qa_row
  by_cases h2 : b ≤ i ∧ i < b + m
  · rw [if_pos h2, if_pos h2, h _ (by omega)]
  · rw [if_neg h2, if_neg h2]
theorem qa_row_id {P g : Nat → Int} {b m : Nat} (h : ∀ i, i < m → g i = P (b + i)) : qa_row P b m g = P := by
  funext i
  unfold qa_row
  by_cases h2 : b ≤ i ∧ i < b + m
  · rw [if_pos h2, h _ (by omega), show b + (i - b) = i by omega]
  · rw [if_neg h2]
theorem qa_mix_0 (f g : Nat → Int) : qa_mix 0 f g = g := by
  funext i
  exact if_neg (by omega)
theorem qa_mix_s (f g : Nat → Int) (k : Nat) : qa_uz (qa_mix k f g) k (f k) = qa_mix (k + 1) f g := by
  funext i
  unfold qa_uz qa_mix
  by_cases h : i = k
  · subst h
    rw [if_pos rfl, if_pos (by omega)]
  · rw [if_neg h]
    by_cases h2 : i < k
    · rw [if_pos h2, if_pos (by omega)]
    · rw [if_neg h2, if_neg (by omega)]
theorem qa_mix_d (f g : Nat → Int) (k : Nat) : qa_uz (qa_mix (k + 1) f g) k (g k) = qa_mix k f g := by
  funext i
  unfold qa_uz qa_mix
  by_cases h : i = k
  · subst h
    rw [if_pos rfl, if_neg (by omega)]
  · rw [if_neg h]
    by_cases h2 : i < k
    · rw [if_pos h2, if_pos (by omega)]
    · rw [if_neg h2, if_neg (by omega)]
theorem qa_mix_lt {f g : Nat → Int} {k i : Nat} (h : i < k) : qa_mix k f g i = f i := if_pos h
theorem qa_mix_ge {f g : Nat → Int} {k i : Nat} (h : k ≤ i) : qa_mix k f g i = g i := if_neg (by omega)
end
section
def qf_ch : Nat → Nat → Nat
  | _, 0 => 1
  | 0, _ + 1 => 0
  | n + 1, k + 1 => qf_ch n k + qf_ch n (k + 1)
theorem qf_ch0 (n : Nat) : qf_ch n 0 = 1 := by cases n <;> rfl
theorem qf_chs (n k : Nat) : qf_ch (n + 1) (k + 1) = qf_ch n k + qf_ch n (k + 1) := rfl
theorem qf_ch_big : ∀ n k, n < k → qf_ch n k = 0 := by
  intro n
  induction n with
  | zero => intro k h; cases k with
    | zero => omega
    | succ k => rfl
  | succ n ih => intro k h; cases k with
    | zero => omega
    | succ k => rw [qf_chs, ih k (by omega), ih (k + 1) (by omega)]
theorem qf_ch_self : ∀ n, qf_ch n n = 1 := by
  intro n
  induction n with
  | zero => rfl
  | succ n ih => rw [qf_chs, ih, qf_ch_big n (n + 1) (by omega)]
theorem qf_abs : ∀ n k, (k + 1) * qf_ch (n + 1) (k + 1) = (n + 1) * qf_ch n k := by
  intro n
  induction n with
  | zero => intro k; cases k with
    | zero => rfl
    | succ k => rw [qf_ch_big _ _ (by omega), qf_ch_big _ _ (by omega), Nat.mul_zero, Nat.mul_zero]
  | succ n ih =>
    intro k
    cases k with
    | zero =>
      have := ih 0
      rw [qf_ch0] at *
      rw [qf_chs, qf_ch0]
      omega
    | succ k =>
      have h1 := ih k
      have h2 := ih (k + 1)
      rw [qf_chs (n + 1) (k + 1), Nat.mul_add, h2, qf_chs n k]
      rw [qf_chs n k] at h1
      generalize qf_ch n k = a at *
      generalize qf_ch n (k + 1) = b at *
      grind
def qf_sm (f : Nat → Nat) : Nat → Nat
  | 0 => 0
  | n + 1 => qf_sm f n + f n
theorem qf_sm_add (f g : Nat → Nat) (n : Nat) : qf_sm (fun i => f i + g i) n = qf_sm f n + qf_sm g n := by
  induction n with
  | zero => rfl
  | succ n ih => rw [qf_sm, ih, qf_sm, qf_sm]; omega
theorem qf_sm_mul (c : Nat) (f : Nat → Nat) (n : Nat) : qf_sm (fun i => c * f i) n = c * qf_sm f n := by
  induction n with
  | zero => rfl
  | succ n ih => rw [qf_sm, ih, qf_sm, Nat.mul_add]
theorem qf_sm_hd (f : Nat → Nat) (n : Nat) : qf_sm f (n + 1) = f 0 + qf_sm (fun i => f (i + 1)) n := by
  induction n with
  | zero => rw [qf_sm, qf_sm, qf_sm]; omega
  | succ n ih => rw [qf_sm, ih, qf_sm]; omega
theorem qf_sm_c {f g : Nat → Nat} {n : Nat} (h : ∀ i, i < n → f i = g i) : qf_sm f n = qf_sm g n := by
  induction n with
  | zero => rfl
  | succ n ih => rw [qf_sm, qf_sm, ih (fun i hi => h i (by omega)), h n (by omega)]
theorem qf_sm_dvd {p : Nat} {f : Nat → Nat} {n : Nat} (h : ∀ i, i < n → p ∣ f i) : p ∣ qf_sm f n := by
  induction n with
  | zero => exact Nat.dvd_zero p
  | succ n ih => rw [qf_sm]; exact Nat.dvd_add (ih fun i hi => h i (by omega)) (h n (by omega))
theorem qf_bin (a : Nat) : ∀ n, (a + 1) ^ n = qf_sm (fun k => qf_ch n k * a ^ k) (n + 1) := by
  intro n
  induction n with
  | zero => rfl
  | succ n ih =>
    rw [qf_sm_hd, qf_ch0, Nat.pow_zero, Nat.one_mul]
    have e : qf_sm (fun i => qf_ch (n + 1) (i + 1) * a ^ (i + 1)) (n + 1) = a * qf_sm (fun k => qf_ch n k * a ^ k) (n + 1) + qf_sm (fun i => qf_ch n (i + 1) * a ^ (i + 1)) (n + 1) := by
      rw [← qf_sm_mul, ← qf_sm_add]
      refine qf_sm_c fun i _ => ?_
      rw [qf_chs, Nat.add_mul, Nat.pow_succ]
      congr 1
      rw [← Nat.mul_assoc, Nat.mul_comm]
    have e2 := qf_sm_hd (fun k => qf_ch n k * a ^ k) (n + 1)
    rw [qf_sm, ← ih, qf_ch_big n (n + 1) (by omega), Nat.zero_mul, Nat.add_zero, qf_ch0, Nat.pow_zero, Nat.one_mul] at e2
    rw [e, ← ih, Nat.pow_succ, Nat.mul_add, Nat.mul_one]
    have e3 : a * (a + 1) ^ n = (a + 1) ^ n * a := Nat.mul_comm _ _
    omega
def qf_pr (p : Nat) : Prop := 1 < p ∧ ∀ d, 0 < d → d < p → Nat.Coprime d p
theorem qf_pch {p : Nat} (hp : qf_pr p) {k : Nat} (h0 : 0 < k) (h1 : k < p) : p ∣ qf_ch p k := by
  obtain ⟨q, rfl⟩ : ∃ q, p = q + 1 := ⟨p - 1, by have := hp.1; omega⟩
  obtain ⟨j, rfl⟩ : ∃ j, k = j + 1 := ⟨k - 1, by omega⟩
  have h := qf_abs q j
  have d : q + 1 ∣ (j + 1) * qf_ch (q + 1) (j + 1) := by rw [h]; exact Nat.dvd_mul_right _ _
  exact Nat.Coprime.dvd_of_dvd_mul_left (hp.2 (j + 1) h0 h1).symm d
theorem qf_step {p : Nat} (hp : qf_pr p) (a : Nat) : (a + 1) ^ p % p = (a ^ p + 1) % p := by
  obtain ⟨q, rfl⟩ : ∃ q, p = q + 1 := ⟨p - 1, by have := hp.1; omega⟩
  have e := qf_bin a (q + 1)
  rw [qf_sm, qf_ch_self, Nat.one_mul, qf_sm_hd, qf_ch0, Nat.pow_zero, Nat.one_mul] at e
  have d : q + 1 ∣ qf_sm (fun i => qf_ch (q + 1) (i + 1) * a ^ (i + 1)) q := by
    refine qf_sm_dvd fun i hi => ?_
    exact Nat.dvd_mul_right_of_dvd (qf_pch hp (by omega) (by omega)) _
  obtain ⟨c, hc⟩ := d
  rw [e, hc, show 1 + (q + 1) * c + a ^ (q + 1) = a ^ (q + 1) + 1 + (q + 1) * c by omega, Nat.add_mul_mod_self_left]
theorem qf_fer {p : Nat} (hp : qf_pr p) (a : Nat) : a ^ p % p = a % p := by
  induction a with
  | zero => rw [Nat.zero_pow (by have := hp.1; omega)]
  | succ a ih => rw [qf_step hp, Nat.add_mod, ih, ← Nat.add_mod]
theorem qf_inv {p : Nat} (hp : qf_pr p) {a : Nat} (h0 : 0 < a) (h1 : a < p) : a * a ^ (p - 2) % p = 1 := by
  have h2 := hp.1
  have e := qf_fer hp a
  have e2 : a ^ p = a * (a * a ^ (p - 2)) := by
    obtain ⟨q, rfl⟩ : ∃ q, p = q + 2 := ⟨p - 2, by omega⟩
    rw [Nat.add_sub_cancel, Nat.pow_add, Nat.mul_comm, ← Nat.mul_assoc]
    congr 1
    rw [Nat.pow_two]
  rw [e2] at e
  generalize a * a ^ (p - 2) = t at *
  have ht : 0 < t := by
    rcases Nat.eq_zero_or_pos t with z | z
    · subst z
      rw [Nat.mul_zero, Nat.zero_mod, Nat.mod_eq_of_lt h1] at e
      omega
    · exact z
  have d : p ∣ a * (t - 1) := by
    have z := Nat.dvd_of_mod_eq_zero (Nat.sub_mod_eq_zero_of_mod_eq e)
    rw [Nat.mul_sub, Nat.mul_one]
    exact z
  have d2 := Nat.Coprime.dvd_of_dvd_mul_left (hp.2 a h0 h1).symm d
  obtain ⟨c, hc⟩ := d2
  have : t = 1 + p * c := by omega
  rw [this, Nat.add_mul_mod_self_left, Nat.mod_eq_of_lt h2]
def qf_ck (p : Nat) : Nat → Bool
  | 0 => true
  | n + 1 => (p % (n + 2) != 0) && qf_ck p n
theorem qf_ck_e {p : Nat} : ∀ n, qf_ck p n = true → ∀ d, 2 ≤ d → d ≤ n + 1 → p % d ≠ 0 := by
  intro n
  induction n with
  | zero => intro _ d h1 h2; omega
  | succ n ih =>
    intro h d h1 h2
    rw [qf_ck, Bool.and_eq_true] at h
    by_cases e : d = n + 2
    · subst e
      simpa using h.1
    · exact ih h.2 d h1 (by omega)
theorem qf_ck_p : qf_ck 2147483647 46340 = true := by decide +kernel
theorem qf_prime_of {p r : Nat} (h1 : 1 < p) (hr : p < (r + 2) * (r + 2)) (h : ∀ d, 2 ≤ d → d ≤ r + 1 → p % d ≠ 0) : qf_pr p := by
  refine ⟨h1, fun d h0 hd => ?_⟩
  have g1 : Nat.gcd d p ∣ p := Nat.gcd_dvd_right d p
  have g2 : Nat.gcd d p ≤ d := Nat.gcd_le_left p h0
  have g3 : 0 < Nat.gcd d p := Nat.gcd_pos_of_pos_left p h0
  show Nat.gcd d p = 1
  generalize Nat.gcd d p = g at *
  obtain ⟨c, hc⟩ := g1
  by_cases e : g = 1
  · exact e
  · exfalso
    have hc2 : 2 ≤ c := by
      rcases c with _ | _ | c
      · omega
      · omega
      · omega
    by_cases hg : g ≤ r + 1
    · exact h g (by omega) hg (by rw [hc]; exact Nat.mul_mod_right g c)
    · by_cases hcr : c ≤ r + 1
      · exact h c hc2 hcr (by rw [hc]; exact Nat.mul_mod_left g c)
      · have := Nat.mul_le_mul (show r + 2 ≤ g by omega) (show r + 2 ≤ c by omega)
        omega
theorem qf_p : qf_pr 2147483647 := qf_prime_of (r := 46340) (by decide) (by decide) (qf_ck_e 46340 qf_ck_p)
end
section
theorem qf_powmod {p : Nat} (a b : Int) (h : a % (p : Int) = b % (p : Int)) (k : Nat) : a ^ k % (p : Int) = b ^ k % (p : Int) := by
  induction k with
  | zero => rw [Int.pow_zero, Int.pow_zero]
  | succ k ih => rw [Int.pow_succ, Int.pow_succ, Int.mul_emod, ih, h, ← Int.mul_emod]
theorem qf_unit {p e : Nat} (hp : qf_pr p) (he : e + 2 = p) {a : Int} (h : a % (p : Int) ≠ 0) : a * a ^ e % (p : Int) = 1 := by
  have h2 := hp.1
  have hp0 : (0 : Int) < (p : Int) := by omega
  have b1 := Int.emod_nonneg a (show (p : Int) ≠ 0 by omega)
  have b2 := Int.emod_lt_of_pos a hp0
  obtain ⟨n, hn⟩ : ∃ n : Nat, a % (p : Int) = (n : Int) := ⟨(a % (p : Int)).toNat, by omega⟩
  have hm : a % (p : Int) = (n : Int) % (p : Int) := by rw [hn]; exact (Int.emod_eq_of_lt (by omega) (by omega)).symm
  have i := qf_inv hp (a := n) (by omega) (by omega)
  rw [show p - 2 = e by omega] at i
  rw [Int.mul_emod, hm, qf_powmod a n hm e, ← Int.mul_emod]
  have : ((n * n ^ e % p : Nat) : Int) = 1 := by rw [i]; rfl
  rw [Int.natCast_emod, Int.natCast_mul, Int.natCast_pow] at this
  exact this
theorem qf_dom {p : Nat} (hp : qf_pr p) {a b : Int} (h : a * b % (p : Int) = 0) (ha : a % (p : Int) ≠ 0) : b % (p : Int) = 0 := by
  have h2 := hp.1
  have u := qf_unit hp (show (p - 2) + 2 = p by omega) ha
  generalize a ^ (p - 2) = c at u
  have e : b * (a * c) = (a * b) * c := by grind
  have e1 : b * (a * c) % (p : Int) = 0 := by rw [e, Int.mul_emod, h, Int.zero_mul, Int.zero_emod]
  rw [Int.mul_emod, u, Int.mul_one, Int.emod_emod] at e1
  exact e1
theorem qf_lc {p : Nat} {a b c : Int} (hc : c % (p : Int) = 0) (h : (a * b + c) % (p : Int) = 0) : a * b % (p : Int) = 0 := by
  obtain ⟨x, hx⟩ := Int.dvd_of_emod_eq_zero hc
  obtain ⟨y, hy⟩ := Int.dvd_of_emod_eq_zero h
  exact Int.emod_eq_zero_of_dvd ⟨y - x, by rw [Int.mul_sub]; omega⟩
theorem qf_lc2 {p : Nat} {a b c : Int} (hb : b % (p : Int) = 0) (hc : c % (p : Int) = 0) : (b - a * c) % (p : Int) = 0 := by
  obtain ⟨x, hx⟩ := Int.dvd_of_emod_eq_zero hb
  obtain ⟨y, hy⟩ := Int.dvd_of_emod_eq_zero hc
  exact Int.emod_eq_zero_of_dvd ⟨x - a * y, by rw [hx, hy]; grind⟩
theorem qf_ho_add {f g h : Nat → Int} (x : Int) : ∀ d k, (∀ i, k ≤ i → f i = g i + h i) → qa_ho f x d k = qa_ho g x d k + qa_ho h x d k := by
  intro d
  induction d with
  | zero => intro k _; rfl
  | succ d ih =>
    intro k hf
    rw [qa_ho_s, qa_ho_s, qa_ho_s, ih (k + 1) (fun i hi => hf i (by omega)), hf k (by omega)]
    grind
theorem qf_ho_0 {f : Nat → Int} (x : Int) : ∀ d k, (∀ i, k ≤ i → f i = 0) → qa_ho f x d k = 0 := by
  intro d
  induction d with
  | zero => intro k _; rfl
  | succ d ih =>
    intro k hf
    rw [qa_ho_s, ih (k + 1) (fun i hi => hf i (by omega)), hf k (by omega)]
    simp
theorem qf_root {p : Nat} (hp : qf_pr p) : ∀ (m : Nat) (f pts : Nat → Int), (∀ k, m ≤ k → f k = 0) → (∀ i j, i < j → j < m → (pts i - pts j) % (p : Int) ≠ 0) → (∀ j, j < m → qa_ho f (pts j) m 0 % (p : Int) = 0) → ∀ k, k < m → f k % (p : Int) = 0 := by
  intro m
  induction m with
  | zero => intro f pts _ _ _ k hk; omega
  | succ m ih =>
    intro f pts hf hd hz
    have hc := hz m (by omega)
    generalize hac : qa_ho f (pts m) (m + 1) 0 = c at hc
    generalize hg : (fun k => if k < m then qa_ho f (pts m) (m - k) (k + 1) else 0 : Nat → Int) = g
    have g0 : ∀ k, m ≤ k → g k = 0 := by
      intro k hk
      rw [← hg]
      exact if_neg (by omega)
    have gs : ∀ k, f (k + 1) = g k - pts m * g (k + 1) := by
      intro k
      by_cases h1 : k < m
      · have e1 : g k = qa_ho f (pts m) (m - k) (k + 1) := by rw [← hg]; exact if_pos h1
        have e2 : g (k + 1) = qa_ho f (pts m) (m - k - 1) (k + 1 + 1) := by
          by_cases h2 : k + 1 < m
          · rw [← hg]
            show (if k + 1 < m then qa_ho f (pts m) (m - (k + 1)) (k + 1 + 1) else 0) = _
            rw [if_pos h2, show m - (k + 1) = m - k - 1 by omega]
          · rw [g0 (k + 1) (by omega), show m - k - 1 = 0 by omega]
            rfl
        obtain ⟨t, ht⟩ : ∃ t, m - k = t + 1 := ⟨m - k - 1, by omega⟩
        rw [e1, e2, ht, qa_ho_s, Nat.add_sub_cancel]
        grind
      · rw [g0 k (by omega), g0 (k + 1) (by omega), hf (k + 1) (by omega)]
        simp
    have gz : f 0 = c - pts m * g 0 := by
      rw [← hac, qa_ho_s]
      by_cases h1 : 0 < m
      · have e1 : g 0 = qa_ho f (pts m) m 1 := by rw [← hg]; exact if_pos h1
        rw [e1]
        grind
      · rw [g0 0 (by omega), show m = 0 by omega]
        simp only [qa_ho]
        grind
    have fe : ∀ k, f k = qa_lin (pts m) g k + (if k = 0 then c else 0) := by
      intro k
      cases k with
      | zero => rw [gz, qa_lin0, if_pos rfl]; omega
      | succ k => rw [gs, qa_linS, if_neg (by omega)]; omega
    have gr : ∀ k, k < m → g k % (p : Int) = 0 := by
      refine ih g pts g0 (fun i j h1 h2 => hd i j h1 (by omega)) fun j hj => ?_
      have h := hz j (by omega)
      obtain ⟨t, rfl⟩ : ∃ t, m = t + 1 := ⟨m - 1, by omega⟩
      rw [qf_ho_add (g := qa_lin (pts (t + 1)) g) (h := fun k => if k = 0 then c else 0) (pts j) (t + 2) 0 (fun i _ => fe i), qa_ho_lin _ _ t g0] at h
      have e : qa_ho (fun k => if k = 0 then c else 0) (pts j) (t + 2) 0 = c := by
        rw [qa_ho_s, qf_ho_0 (pts j) (t + 1) 1 (fun i hi => if_neg (by omega))]
        rw [if_pos rfl, Int.zero_mul, Int.zero_add]
      rw [e] at h
      exact qf_dom hp (qf_lc hc h) (hd j (t + 1) (by omega) (by omega))
    intro k hk
    cases k with
    | zero =>
      rw [gz]
      by_cases h1 : 0 < m
      · exact qf_lc2 hc (gr 0 h1)
      · rw [g0 0 (by omega)]
        rw [Int.mul_zero, Int.sub_zero]
        exact hc
    | succ k =>
      rw [gs]
      by_cases h1 : k + 1 < m
      · exact qf_lc2 (gr k (by omega)) (gr (k + 1) h1)
      · rw [g0 (k + 1) (by omega), Int.mul_zero, Int.sub_zero]
        exact gr k (by omega)
end
section
def qi_q (cp : Int32) (w m : Nat) (M x pt B P : Nat → Int) : Prop :=
  (cp = 0 ∧ ∀ i, i < 224 → P i = 0) ∨
  (cp = 1 ∧ 0 < m ∧ (∀ j k, j < m → k < m → B (j * 16 + k) = qa_bs pt m j k) ∧ (∀ k, k < 32 → P (96 + k) = qa_zp pt m k) ∧
    (∀ t k, t < 3 → k < 32 → P (t * 32 + k) = if k < m then qa_pz M x pt w m t k else 0) ∧ (∀ k, k < 32 → P (128 + k) = qa_pp M x pt w m k) ∧ (∀ k, m ≤ k + 1 → k < 32 → P (160 + k) = 0))
theorem qn_m32 (a : Nat) : nI a * 32 = nI (a * 32) := pk_mul a 32
theorem qn_m16 (a : Nat) : nI a * 16 = nI (a * 16) := pk_mul a 16
theorem qv_in {k N : Nat} (h : k < N) (hN : N < 2 ^ 31) : vp_in (nI k) N = True := eq_true (vp_in_nI h hN)
theorem qx_add {post : Int32 → Prop} (a b : Int) : wpX_add post () (qa_fe a) (qa_fe b) = post (qa_fe (a + b)) := by
  unfold wpX_add
  have h := qa_ladd a b
  rw [qa_rem0 (by rw [h]; omega), h, qa_cong (qa_add_mod a b)]
  exact propext ⟨fun z => z.2, fun z => ⟨by decide, z⟩⟩
theorem qx_mul {post : Int32 → Prop} (a b : Int) : wpX_multiply post () (qa_fe a) (qa_fe b) = post (qa_fe (a * b)) := by
  unfold wpX_multiply
  have h := qa_lmul a b
  rw [qa_rem0 (by rw [h]; exact (qa_mb' a b).1), h, qa_cong (qa_mm a b)]
  exact propext ⟨fun z => z.2, fun z => ⟨by decide, z⟩⟩
theorem qx_sub {post : Int32 → Prop} (a b : Int) : wpX_subtract post () (qa_fe a) (qa_fe b) = post (qa_fe (a - b)) := by
  unfold wpX_subtract
  by_cases h : qa_fe a < qa_fe b
  · rw [qa_sub2 (Int32.not_le.mpr h)]
    exact propext ⟨fun z => z.1 h, fun z => br_t h z⟩
  · rw [qa_sub1 (Int32.not_lt.mp h)]
    exact propext ⟨fun z => z.2 h, fun z => br_f h z⟩
theorem qx_sub0 {post : Int32 → Prop} (b : Int) : wpX_subtract post () 0 (qa_fe b) = post (qa_fe (0 - b)) := by
  rw [qa_0, qx_sub]
theorem qx_red {post : Int32 → Prop} (y : Int32) : wpX_reduce post () y = post (qa_fe y.toInt) := by
  unfold wpX_reduce
  have t := qa_redI (y := y) rfl
  apply propext
  constructor
  · intro z
    have z := z.2 _ rfl
    by_cases h : 0 ≤ y - y / 2147483647 * 2147483647
    · have := z.1 h
      rwa [t.2 (Int32.not_lt.mpr h)] at this
    · have := z.2 h
      rwa [t.1 (Int32.not_le.mp h)] at this
  · intro z
    refine ⟨by decide, fun r er => ?_⟩
    by_cases h : 0 ≤ r
    · exact br_t h (by rw [er, t.2 (by rw [← er]; exact Int32.not_lt.mpr h)]; exact z)
    · exact br_f h (by rw [er, t.1 (by rw [← er]; exact Int32.not_le.mp h)]; exact z)
end
section
section QX
variable {W C w m : Nat} {cp hq : Int32} {K : Nat → Nat} {L R : Nat → Int32} {x F M pt B P : Nat → Int}
theorem qn_0a (i : Nat) : (0 : Int32) + nI i = nI i := Int32.zero_add _
theorem qn_32a (i : Nat) : (32 : Int32) + nI i = nI (32 + i) := nI_add 32 i
theorem qn_64a (i : Nat) : (64 : Int32) + nI i = nI (64 + i) := nI_add 64 i
theorem qn_96a (i : Nat) : (96 : Int32) + nI i = nI (96 + i) := nI_add 96 i
theorem qn_128a (i : Nat) : (128 : Int32) + nI i = nI (128 + i) := nI_add 128 i
theorem qn_160a (i : Nat) : (160 : Int32) + nI i = nI (160 + i) := nI_add 160 i
theorem qn_192a (i : Nat) : (192 : Int32) + nI i = nI (192 + i) := nI_add 192 i
theorem qn_32 : (32 : Int32) = nI 32 := by decide
theorem qn_16 : (16 : Int32) = nI 16 := by decide
theorem qx_rv_l {post : Int32 → Prop} (hw : w ≤ 32) {t j : Nat} (ht : t < 3) (hj : j < 16) (h : post (qa_fe (qa_rv M x w t j))) : ∀ n v, v ≤ w → w - v < n → wX_rowValue_12 post (nI ((t * 16 + j) * 32)) (nI W) (nI C) (nI w) (nI m) cp hq (fun zi => nI (K zi)) L R (fun zi => qa_fe (x zi)) (fun zi => qa_fe (F zi)) (fun zi => qa_fe (M zi)) (fun zi => qa_fe (pt zi)) (fun zi => qa_fe (B zi)) (fun zi => qa_fe (P zi)) n (qa_fe (qa_sm (fun v => M (qa_mi t j v) * x v) v)) (nI v) := by
  intro n
  induction n with
  | zero => intros; omega
  | succ n ih =>
    intro v hv hn
    by_cases h1 : v < w
    · have h2 : ¬ w ≤ v := by omega
      simp (disch := omega) only [wX_rowValue_12, h2, not_true, not_false_iff, true_implies, false_implies, true_and, and_true, forall_eq, nI_add, nI_1, nI_clamp, nI_leI, nI_ltI, nI_eq, qn_m32, qn_m16, qv_in, qx_mul, qx_add, qx_sub, qa_upd]
      exact ih (v + 1) (by omega) (by omega)
    · obtain rfl : v = w := by omega
      simp (disch := omega) only [wX_rowValue_12, Nat.le_refl, not_true, not_false_iff, true_implies, false_implies, true_and, and_true, forall_eq, nI_add, nI_1, nI_clamp, nI_leI, nI_ltI, nI_eq, qn_m32, qn_m16, qv_in, qx_mul, qx_add, qx_sub, qa_upd]
      exact h
theorem qx_rv {post : Int32 → Prop} (hw : w ≤ 32) {t j : Nat} (ht : t < 3) (hj : j < 16) (h : post (qa_fe (qa_rv M x w t j))) : wpX_rowValue post ((nI W), (nI C), (nI w), (nI m), cp, hq, (fun zi => nI (K zi)), L, R, (fun zi => qa_fe (x zi)), (fun zi => qa_fe (F zi)), (fun zi => qa_fe (M zi)), (fun zi => qa_fe (pt zi)), (fun zi => qa_fe (B zi)), (fun zi => qa_fe (P zi))) (nI t) (nI j) := by
  have := qx_rv_l (W := W) (C := C) (m := m) (cp := cp) (hq := hq) (K := K) (L := L) (R := R) (F := F) (pt := pt) (B := B) (P := P) hw ht hj h (w + 1) 0 (by omega) (by omega)
  rw [nI_0] at this
  simp only [wpX_rowValue, wpX_matrixRow, qn_m16, nI_add, qn_m32]
  exact ⟨w + 1, this⟩
theorem qx_wv_l {post : Int32 → Prop} (hw : w ≤ 32) {a : Nat} (ha : a < 32) (h : post (qa_fe (qa_wv F x w a))) : ∀ n v, v ≤ w → w - v < n → wX_wireValue_4 post (nI a) (nI W) (nI C) (nI w) (nI m) cp hq (fun zi => nI (K zi)) L R (fun zi => qa_fe (x zi)) (fun zi => qa_fe (F zi)) (fun zi => qa_fe (M zi)) (fun zi => qa_fe (pt zi)) (fun zi => qa_fe (B zi)) (fun zi => qa_fe (P zi)) n (qa_fe (qa_sm (fun v => F (a * 32 + v) * x v) v)) (nI v) := by
  intro n
  induction n with
  | zero => intros; omega
  | succ n ih =>
    intro v hv hn
    by_cases h1 : v < w
    · have h2 : ¬ w ≤ v := by omega
      simp (disch := omega) only [wX_wireValue_4, h2, not_true, not_false_iff, true_implies, false_implies, true_and, and_true, forall_eq, nI_add, nI_1, nI_clamp, nI_leI, nI_ltI, nI_eq, qn_m32, qn_m16, qv_in, qx_mul, qx_add, qx_sub, qa_upd]
      exact ih (v + 1) (by omega) (by omega)
    · obtain rfl : v = w := by omega
      simp (disch := omega) only [wX_wireValue_4, Nat.le_refl, not_true, not_false_iff, true_implies, false_implies, true_and, and_true, forall_eq, nI_add, nI_1, nI_clamp, nI_leI, nI_ltI, nI_eq, qn_m32, qn_m16, qv_in, qx_mul, qx_add, qx_sub, qa_upd]
      exact h
theorem qx_wv {post : Int32 → Prop} (hw : w ≤ 32) {a : Nat} (ha : a < 32) (h : post (qa_fe (qa_wv F x w a))) : wpX_wireValue post ((nI W), (nI C), (nI w), (nI m), cp, hq, (fun zi => nI (K zi)), L, R, (fun zi => qa_fe (x zi)), (fun zi => qa_fe (F zi)), (fun zi => qa_fe (M zi)), (fun zi => qa_fe (pt zi)), (fun zi => qa_fe (B zi)), (fun zi => qa_fe (P zi))) (nI a) := by
  have := qx_wv_l (W := W) (C := C) (m := m) (cp := cp) (hq := hq) (K := K) (L := L) (R := R) (M := M) (pt := pt) (B := B) (P := P) hw ha h (w + 1) 0 (by omega) (by omega)
  rw [nI_0] at this
  exact ⟨w + 1, this⟩
theorem qx_inv_l {post : Int32 → Prop} (a : Int) (h : post (qa_fe (qa_iv a))) : ∀ n i, i ≤ 31 → 31 - i < n → wX_invert_6 post n (qa_fe (qa_pw a i).1) (qa_fe (qa_pw a i).2) (nI i) := by
  have l : (31 : Int32) = nI 31 := by decide
  intro n
  induction n with
  | zero => intros; omega
  | succ n ih =>
    intro i hi hn
    by_cases h1 : i < 31
    · have h2 : ¬ (31 : Int32) ≤ nI i := by rw [l]; exact nI_ge h1 (by omega)
      have i2 := ih (i + 1) (by omega) (by omega)
      by_cases hb : (((2147483645 : Int32) >>> (nI i &&& 31)) &&& 1) = 1
      · refine br_f h2 (br_t hb ?_)
        rw [qx_mul]
        unfold wX_invert_28
        rw [qx_mul]
        rw [qa_pw, if_pos hb] at i2
        exact nm_r (nI_1 i) i2
      · refine br_f h2 (br_f hb ?_)
        unfold wX_invert_28
        rw [qx_mul]
        rw [qa_pw, if_neg hb] at i2
        exact nm_r (nI_1 i) i2
    · obtain rfl : i = 31 := by omega
      exact br_t (by decide) h
theorem qx_inv {post : Int32 → Prop} (a : Int) (h : post (qa_fe (qa_iv a))) : wpX_invert post () (qa_fe a) := by
  have := qx_inv_l a h 32 0 (by omega) (by omega)
  rw [qa_pw, ← qa_1, nI_0] at this
  exact ⟨32, this⟩
def qx_d (c : Nat) : Int32 := nI c - 1
theorem qx_ds (c : Nat) : qx_d (c + 1) = nI c := nI_pred c
theorem qx_dm (c : Nat) : nI c + (-1) = qx_d c := (Int32.sub_eq_add_neg _ _).symm
theorem qx_d0 : qx_d 0 < 0 := by decide
theorem qx_pv_l {post : Int32 → Prop} {t l : Nat} (ht : t < 7) (hl : l ≤ 32) (r : Int) (h : post (qa_fe (qa_ho (fun k => P (t * 32 + k)) r l 0))) : ∀ c n, c ≤ l → c < n → wX_polyValue_11 post (nI t) (qa_fe r) (nI W) (nI C) (nI w) (nI m) cp hq (fun zi => nI (K zi)) L R (fun zi => qa_fe (x zi)) (fun zi => qa_fe (F zi)) (fun zi => qa_fe (M zi)) (fun zi => qa_fe (pt zi)) (fun zi => qa_fe (B zi)) (fun zi => qa_fe (P zi)) n (qa_fe (qa_ho (fun k => P (t * 32 + k)) r (l - c) c)) (qx_d c) := by
  intro c
  induction c with
  | zero =>
    intro n _ hn
    obtain ⟨n, rfl⟩ : ∃ k, n = k + 1 := ⟨n - 1, by omega⟩
    exact br_t qx_d0 h
  | succ c ih =>
    intro n hc hn
    obtain ⟨n, rfl⟩ : ∃ k, n = k + 1 := ⟨n - 1, by omega⟩
    rw [qx_ds]
    have h1 : ¬ nI c < 0 := nI_pos (by omega)
    have i2 := ih n (by omega) (by omega)
    rw [show l - c = (l - (c + 1)) + 1 by omega, qa_ho_s] at i2
    simp (disch := omega) only [wX_polyValue_11, h1, qx_dm, not_true, not_false_iff, true_implies, false_implies, true_and, and_true, forall_eq, nI_add, nI_1, nI_clamp, nI_leI, nI_ltI, nI_eq, qn_m32, qn_m16, qv_in, qx_mul, qx_add, qx_sub, qa_upd]
    exact i2
theorem qx_pv_g {post : Int32 → Prop} {t l : Nat} (ht : t < 7) (hl : l ≤ 32) (r : Int) (h : post (qa_fe (qa_ho (fun k => P (t * 32 + k)) r l 0))) : ∃ n, wX_polyValue_11 post (nI t) (qa_fe r) (nI W) (nI C) (nI w) (nI m) cp hq (fun zi => nI (K zi)) L R (fun zi => qa_fe (x zi)) (fun zi => qa_fe (F zi)) (fun zi => qa_fe (M zi)) (fun zi => qa_fe (pt zi)) (fun zi => qa_fe (B zi)) (fun zi => qa_fe (P zi)) n 0 (qx_d l) := by
  have := qx_pv_l (W := W) (C := C) (w := w) (m := m) (cp := cp) (hq := hq) (K := K) (L := L) (R := R) (x := x) (F := F) (M := M) (pt := pt) (B := B) ht hl r h l (l + 1) (by omega) (by omega)
  rw [Nat.sub_self] at this
  exact ⟨l + 1, this⟩
def qa_len (t m : Nat) : Nat := if t = 3 then m + 1 else if t = 4 then 2 * m - 1 else m
theorem qx_len {post : Int32 → Prop} {t : Nat} (ht : t < 7) (hm : 0 < m) (hm2 : m ≤ 16) (h : post (nI (qa_len t m))) : wpX_polyLength post ((nI W), (nI C), (nI w), (nI m), cp, hq, (fun zi => nI (K zi)), L, R, (fun zi => qa_fe (x zi)), (fun zi => qa_fe (F zi)), (fun zi => qa_fe (M zi)), (fun zi => qa_fe (pt zi)), (fun zi => qa_fe (B zi)), (fun zi => qa_fe (P zi))) (nI t) := by
  have e3 : (3 : Int32) = nI 3 := by decide
  have e4 : (4 : Int32) = nI 4 := by decide
  unfold wpX_polyLength qa_len at *
  by_cases h3 : t = 3
  · subst h3
    rw [if_pos rfl] at h
    exact br_t rfl (by rw [nI_1]; exact h)
  · rw [if_neg h3] at h
    refine br_f (by rw [e3, nI_eq (by omega) (by omega)]; exact h3) ?_
    by_cases h4 : t = 4
    · subst h4
      rw [if_pos rfl] at h
      refine br_t rfl ?_
      have : (2 : Int32) * nI m - 1 = nI (2 * m - 1) := by
        rw [show (2 : Int32) = nI 2 by decide, pk_mul, show (1 : Int32) = nI 1 by decide, pk_sub (by omega)]
      rw [this]
      exact h
    · rw [if_neg h4] at h
      exact br_f (by rw [e4, nI_eq (by omega) (by omega)]; exact h4) h
theorem qx_pv {post : Int32 → Prop} {t : Nat} (ht : t < 7) (hm : 0 < m) (hm2 : m ≤ 16) (r : Int) (h : post (qa_fe (qa_ho (fun k => P (t * 32 + k)) r (qa_len t m) 0))) : wpX_polyValue post ((nI W), (nI C), (nI w), (nI m), cp, hq, (fun zi => nI (K zi)), L, R, (fun zi => qa_fe (x zi)), (fun zi => qa_fe (F zi)), (fun zi => qa_fe (M zi)), (fun zi => qa_fe (pt zi)), (fun zi => qa_fe (B zi)), (fun zi => qa_fe (P zi))) (nI t) (qa_fe r) := by
  unfold wpX_polyValue
  refine qx_len ht hm hm2 ?_
  refine nm_r (e' := qx_d (qa_len t m)) rfl ?_
  exact qx_pv_g ht (by unfold qa_len; split <;> (try split) <;> omega) r h
def qa_sat (M x : Nat → Int) (w m : Nat) : Prop := ∀ j, j < m → qa_fe (qa_rv M x w 0 j * qa_rv M x w 1 j) = qa_fe (qa_rv M x w 2 j)
theorem qx_sat_l {post : Int32 → Prop} (hw : w ≤ 32) (hm : m ≤ 16) (h1 : qa_sat M x w m → post 1) (h0 : ¬ qa_sat M x w m → post 0) : ∀ n j, j ≤ m → m - j < n → (∀ i, i < j → qa_fe (qa_rv M x w 0 i * qa_rv M x w 1 i) = qa_fe (qa_rv M x w 2 i)) → wX_isSatisfied_2 post (nI W) (nI C) (nI w) (nI m) cp hq (fun zi => nI (K zi)) L R (fun zi => qa_fe (x zi)) (fun zi => qa_fe (F zi)) (fun zi => qa_fe (M zi)) (fun zi => qa_fe (pt zi)) (fun zi => qa_fe (B zi)) (fun zi => qa_fe (P zi)) n (nI j) := by
  intro n
  induction n with
  | zero => intros; omega
  | succ n ih =>
    intro j hj hn hI
    by_cases z : j < m
    · have z2 : ¬ nI m ≤ nI j := nI_ge z (by omega)
      refine br_f z2 ?_
      refine qx_rv (t := 0) hw (by omega) (by omega) ?_
      refine qx_rv (t := 1) hw (by omega) (by omega) ?_
      rw [qx_mul]
      refine qx_rv (t := 2) hw (by omega) (by omega) ?_
      by_cases e : qa_fe (qa_rv M x w 0 j * qa_rv M x w 1 j) = qa_fe (qa_rv M x w 2 j)
      · refine br_t e (nm_r (nI_1 j) ?_)
        refine ih (j + 1) (by omega) (by omega) fun i hi => ?_
        by_cases q : i = j
        · rw [q]; exact e
        · exact hI i (by omega)
      · exact br_f e (h0 fun q => e (q j z))
    · obtain rfl : j = m := by omega
      exact br_t (nI_le (Nat.le_refl _) (by omega)) (h1 hI)
theorem qx_sat {post : Int32 → Prop} (hw : w ≤ 32) (hm : m ≤ 16) (h1 : qa_sat M x w m → post 1) (h0 : ¬ qa_sat M x w m → post 0) : wpX_isSatisfied post ((nI W), (nI C), (nI w), (nI m), cp, hq, (fun zi => nI (K zi)), L, R, (fun zi => qa_fe (x zi)), (fun zi => qa_fe (F zi)), (fun zi => qa_fe (M zi)), (fun zi => qa_fe (pt zi)), (fun zi => qa_fe (B zi)), (fun zi => qa_fe (P zi))) := by
  have := qx_sat_l (W := W) (C := C) (cp := cp) (hq := hq) (K := K) (L := L) (R := R) (F := F) (pt := pt) (B := B) (P := P) hw hm h1 h0 (m + 1) 0 (by omega) (by omega) (fun i hi => by omega)
  rw [nI_0] at this
  exact ⟨m + 1, this⟩
def qa_rz (P : Nat → Int) (m : Nat) : Prop := ∀ k, k < m → qa_fe (P (192 + k)) = 0
theorem qx_rz_l {post : Int32 → Prop} (hm : m ≤ 16) (h1 : qa_rz P m → post 1) (h0 : ¬ qa_rz P m → post 0) : ∀ n k, k ≤ m → m - k < n → (∀ i, i < k → qa_fe (P (192 + i)) = 0) → wX_remainderIsZero_2 post (nI W) (nI C) (nI w) (nI m) cp hq (fun zi => nI (K zi)) L R (fun zi => qa_fe (x zi)) (fun zi => qa_fe (F zi)) (fun zi => qa_fe (M zi)) (fun zi => qa_fe (pt zi)) (fun zi => qa_fe (B zi)) (fun zi => qa_fe (P zi)) n (nI k) := by
  intro n
  induction n with
  | zero => intros; omega
  | succ n ih =>
    intro k hk hn hI
    by_cases z : k < m
    · have z2 : ¬ nI m ≤ nI k := nI_ge z (by omega)
      have ci : ((192 : Int32) + nI k).toNatClampNeg = 192 + k := by rw [qn_192a, nI_clamp (by omega)]
      refine br_f z2 ⟨by rw [qn_192a]; exact vp_in_nI (by omega) (by omega), ?_⟩
      by_cases e : qa_fe (P (192 + k)) = 0
      · refine br_t (by rw [ci]; exact e) (nm_r (nI_1 k) ?_)
        refine ih (k + 1) (by omega) (by omega) fun i hi => ?_
        by_cases q : i = k
        · rw [q]; exact e
        · exact hI i (by omega)
      · exact br_f (by rw [ci]; exact e) (h0 fun q => e (q k z))
    · obtain rfl : k = m := by omega
      exact br_t (nI_le (Nat.le_refl _) (by omega)) (h1 hI)
theorem qx_rz {post : Int32 → Prop} (hm : m ≤ 16) (h1 : qa_rz P m → post 1) (h0 : ¬ qa_rz P m → post 0) : wpX_remainderIsZero post ((nI W), (nI C), (nI w), (nI m), cp, hq, (fun zi => nI (K zi)), L, R, (fun zi => qa_fe (x zi)), (fun zi => qa_fe (F zi)), (fun zi => qa_fe (M zi)), (fun zi => qa_fe (pt zi)), (fun zi => qa_fe (B zi)), (fun zi => qa_fe (P zi))) := by
  have := qx_rz_l (W := W) (C := C) (w := w) (cp := cp) (hq := hq) (K := K) (L := L) (R := R) (x := x) (F := F) (M := M) (pt := pt) (B := B) hm h1 h0 (m + 1) 0 (by omega) (by omega) (fun i hi => by omega)
  rw [nI_0] at this
  exact ⟨m + 1, this⟩
end QX
end
section
section QX
variable {W C w m : Nat} {cp hq : Int32} {K : Nat → Nat} {L R : Nat → Int32} {x F M pt B P : Nat → Int}
theorem qx_ip57 {post : St2 → Prop} {J : Int32 → (Nat → Int32) → (Nat → Int32) → (Nat → Int32) → (Nat → Int32) → (Nat → Int32) → (Nat → Int32) → (Nat → Int32) → (Nat → Int32) → (Nat → Int32) → Prop} (hm : m ≤ 16) {t j : Nat} (ht : t < 3) (hj : j < m) (x1 : Int32) (v : Int) (f b : Nat → Int) (hB : ∀ k, k < m → B (j * 16 + k) = b k) (h : J (nI (j + 1)) (fun zi => nI (K zi)) L R (fun zi => qa_fe (x zi)) (fun zi => qa_fe (F zi)) (fun zi => qa_fe (M zi)) (fun zi => qa_fe (pt zi)) (fun zi => qa_fe (B zi)) (fun zi => qa_fe ((qa_row P (t * 32) m (fun k => f k + v * b k)) zi))) : ∀ n k, k ≤ m → m - k < n → wX_interpolate_57 post J x1 (nI (t * 32)) (nI j) (qa_fe v) (nI W) (nI C) (nI w) (nI m) cp hq n (nI k) (fun zi => nI (K zi)) L R (fun zi => qa_fe (x zi)) (fun zi => qa_fe (F zi)) (fun zi => qa_fe (M zi)) (fun zi => qa_fe (pt zi)) (fun zi => qa_fe (B zi)) (fun zi => qa_fe ((qa_row P (t * 32) m (qa_mix k (fun k => f k + v * b k) f)) zi)) := by
  intro n
  induction n with
  | zero => intros; omega
  | succ n ih =>
    intro k hk hn
    by_cases h1 : k < m
    · have h2 : ¬ m ≤ k := by omega
      simp (disch := omega) only [wX_interpolate_57, h2, not_true, not_false_iff, true_implies, false_implies, true_and, and_true, forall_eq, nI_add, nI_1, nI_clamp, nI_leI, nI_ltI, nI_eq, qn_m32, qn_m16, qv_in, qx_mul, qx_add, qx_sub, qa_upd]
      rw [hB k h1, qa_row_in h1, qa_mix_ge (Nat.le_refl k), qa_row_u h1, qa_mix_s (fun k => f k + v * b k) f k]
      exact ih (k + 1) (by omega) (by omega)
    · obtain rfl : k = m := by omega
      simp (disch := omega) only [wX_interpolate_57, Nat.le_refl, not_true, not_false_iff, true_implies, false_implies, true_and, and_true, forall_eq, nI_add, nI_1, nI_clamp, nI_leI, nI_ltI, nI_eq, qn_m32, qn_m16, qv_in, qx_mul, qx_add, qx_sub, qa_upd]
      rw [qa_row_c (g' := fun k => f k + v * b k) (fun i hi => qa_mix_lt hi)]
      exact h
def qa_ps (M x pt : Nat → Int) (w m t j k : Nat) : Int := qa_sm (fun j => qa_rv M x w t j * qa_bs pt m j k) j
theorem qx_ip36 {post : St2 → Prop} (hw : w ≤ 32) (hm : m ≤ 16) {t : Nat} (ht : t < 3) (hB : ∀ j k, j < m → k < m → B (j * 16 + k) = qa_bs pt m j k) (h : post ((nI W), (nI C), (nI w), (nI m), cp, hq, (fun zi => nI (K zi)), L, R, (fun zi => qa_fe (x zi)), (fun zi => qa_fe (F zi)), (fun zi => qa_fe (M zi)), (fun zi => qa_fe (pt zi)), (fun zi => qa_fe (B zi)), (fun zi => qa_fe ((qa_row P (t * 32) m (qa_pz M x pt w m t)) zi)))) : ∀ n j, j ≤ m → m - j < n → wX_interpolate_36 post (nI t) (nI (t * 32)) (nI W) (nI C) (nI w) (nI m) cp hq n (nI j) (fun zi => nI (K zi)) L R (fun zi => qa_fe (x zi)) (fun zi => qa_fe (F zi)) (fun zi => qa_fe (M zi)) (fun zi => qa_fe (pt zi)) (fun zi => qa_fe (B zi)) (fun zi => qa_fe ((qa_row P (t * 32) m (qa_ps M x pt w m t j)) zi)) := by
  intro n
  induction n with
  | zero => intros; omega
  | succ n ih =>
    intro j hj hn
    by_cases h1 : j < m
    · have h2 : ¬ nI m ≤ nI j := nI_ge h1 (by omega)
      refine br_f h2 (qx_rv hw ht (by omega) ⟨m + 1, ?_⟩)
      have := qx_ip57 (post := post) (J := wX_interpolate_36 post (nI t) (nI (t * 32)) (nI W) (nI C) (nI w) (nI m) cp hq n) (K := K) (L := L) (R := R) (W := W) (C := C) (w := w) (cp := cp) (hq := hq) (x := x) (F := F) (M := M) (pt := pt) (P := P) hm ht h1 (nI t) (qa_rv M x w t j) (qa_ps M x pt w m t j) (qa_bs pt m j) (fun k hk => hB j k h1 hk) (ih (j + 1) (by omega) (by omega)) (m + 1) 0 (by omega) (by omega)
      rw [qa_mix_0] at this
      exact this
    · obtain rfl : j = m := by omega
      exact br_t (nI_le (Nat.le_refl _) (by omega)) h
theorem qx_ip8 {post : St2 → Prop} (hm : m ≤ 16) {t : Nat} (ht : t < 3) (h : ∃ n, wX_interpolate_36 post (nI t) (nI (t * 32)) (nI W) (nI C) (nI w) (nI m) cp hq n 0 (fun zi => nI (K zi)) L R (fun zi => qa_fe (x zi)) (fun zi => qa_fe (F zi)) (fun zi => qa_fe (M zi)) (fun zi => qa_fe (pt zi)) (fun zi => qa_fe (B zi)) (fun zi => qa_fe ((qa_row P (t * 32) m (fun _ => 0)) zi))) : ∀ n k, k ≤ m → m - k < n → wX_interpolate_8 post (nI t) (nI (t * 32)) (nI W) (nI C) (nI w) (nI m) cp hq n (nI k) (fun zi => nI (K zi)) L R (fun zi => qa_fe (x zi)) (fun zi => qa_fe (F zi)) (fun zi => qa_fe (M zi)) (fun zi => qa_fe (pt zi)) (fun zi => qa_fe (B zi)) (fun zi => qa_fe ((qa_row P (t * 32) k (fun _ => 0)) zi)) := by
  intro n
  induction n with
  | zero => intros; omega
  | succ n ih =>
    intro k hk hn
    by_cases h1 : k < m
    · have h2 : ¬ m ≤ k := by omega
      simp (disch := omega) only [wX_interpolate_8, h2, qa_0, not_true, not_false_iff, true_implies, false_implies, true_and, and_true, forall_eq, nI_add, nI_1, nI_clamp, nI_leI, nI_ltI, nI_eq, qn_m32, qn_m16, qv_in, qx_mul, qx_add, qx_sub, qa_upd]
      rw [qa_row_s P (fun _ => 0) (t * 32) k]
      exact ih (k + 1) (by omega) (by omega)
    · obtain rfl : k = m := by omega
      exact br_t (nI_le (Nat.le_refl _) (by omega)) h
theorem qx_ip {post : St2 → Prop} (hw : w ≤ 32) (hm : m ≤ 16) {t : Nat} (ht : t < 3) (hB : ∀ j k, j < m → k < m → B (j * 16 + k) = qa_bs pt m j k) (h : post ((nI W), (nI C), (nI w), (nI m), cp, hq, (fun zi => nI (K zi)), L, R, (fun zi => qa_fe (x zi)), (fun zi => qa_fe (F zi)), (fun zi => qa_fe (M zi)), (fun zi => qa_fe (pt zi)), (fun zi => qa_fe (B zi)), (fun zi => qa_fe ((qa_row P (t * 32) m (qa_pz M x pt w m t)) zi)))) : wpX_interpolate post ((nI W), (nI C), (nI w), (nI m), cp, hq, (fun zi => nI (K zi)), L, R, (fun zi => qa_fe (x zi)), (fun zi => qa_fe (F zi)), (fun zi => qa_fe (M zi)), (fun zi => qa_fe (pt zi)), (fun zi => qa_fe (B zi)), (fun zi => qa_fe (P zi))) (nI t) (nI t) := by
  unfold wpX_interpolate
  refine nm_r (qn_m32 t) ⟨m + 1, ?_⟩
  have h36 := qx_ip36 (K := K) (L := L) (R := R) (W := W) (C := C) (cp := cp) (hq := hq) (F := F) (P := P) hw hm ht hB h (m + 1) 0 (by omega) (by omega)
  have := qx_ip8 (post := post) (K := K) (L := L) (R := R) (W := W) (C := C) (w := w) (cp := cp) (hq := hq) (x := x) (F := F) (M := M) (pt := pt) (B := B) (P := P) hm ht ⟨m + 1, h36⟩ (m + 1) 0 (by omega) (by omega)
  rw [qa_row_0] at this
  exact this
theorem qx_pm67 {post : St2 → Prop} {J : Int32 → (Nat → Int32) → (Nat → Int32) → (Nat → Int32) → (Nat → Int32) → (Nat → Int32) → (Nat → Int32) → (Nat → Int32) → (Nat → Int32) → (Nat → Int32) → Prop} (hm : m ≤ 16) {i : Nat} (hi : i < m) (f : Nat → Int) (h : J (nI (i + 1)) (fun zi => nI (K zi)) L R (fun zi => qa_fe (x zi)) (fun zi => qa_fe (F zi)) (fun zi => qa_fe (M zi)) (fun zi => qa_fe (pt zi)) (fun zi => qa_fe (B zi)) (fun zi => qa_fe ((qa_row P 128 32 (fun t => f t + qa_c2 P (fun k => P (32 + k)) i m t)) zi))) : ∀ n k, k ≤ m → m - k < n → wX_buildProductMinusC_67 post J 0 32 128 (nI i) (nI W) (nI C) (nI w) (nI m) cp hq n (nI k) (fun zi => nI (K zi)) L R (fun zi => qa_fe (x zi)) (fun zi => qa_fe (F zi)) (fun zi => qa_fe (M zi)) (fun zi => qa_fe (pt zi)) (fun zi => qa_fe (B zi)) (fun zi => qa_fe ((qa_row P 128 32 (fun t => f t + qa_c2 P (fun k => P (32 + k)) i k t)) zi)) := by
  intro n
  induction n with
  | zero => intros; omega
  | succ n ih =>
    intro k hk hn
    by_cases h1 : k < m
    · have h2 : ¬ m ≤ k := by omega
      simp (disch := omega) only [wX_buildProductMinusC_67, h2, qn_0a, qn_32a, qn_128a, not_true, not_false_iff, true_implies, false_implies, true_and, and_true, forall_eq, nI_add, nI_1, nI_clamp, nI_leI, nI_ltI, nI_eq, qn_m32, qn_m16, qv_in, qx_mul, qx_add, qx_sub, qa_upd]
      rw [Nat.add_assoc 128 i k, qa_row_in (show i + k < 32 by omega), qa_row_out (show i < 128 ∨ 128 + 32 ≤ i by omega), qa_row_out (show 32 + k < 128 ∨ 128 + 32 ≤ 32 + k by omega), qa_row_u (show i + k < 32 by omega)]
      have e : qa_uz (fun t => f t + qa_c2 P (fun k => P (32 + k)) i k t) (i + k) (f (i + k) + qa_c2 P (fun k => P (32 + k)) i k (i + k) + P i * P (32 + k)) = (fun t => f t + qa_c2 P (fun k => P (32 + k)) i (k + 1) t) := by
        funext t
        unfold qa_uz
        dsimp only
        rw [qa_c2_s]
        by_cases ht : t = i + k
        · rw [if_pos ht, if_pos ht.symm, ht, Int.add_assoc]
        · rw [if_neg ht, if_neg (fun q => ht q.symm), Int.add_zero]
      rw [e]
      exact ih (k + 1) (by omega) (by omega)
    · obtain rfl : k = m := by omega
      exact br_t (nI_le (Nat.le_refl _) (by omega)) (nm_r (nI_1 i) h)
theorem qx_pm55 {post : St2 → Prop} (hm : m ≤ 16) (f : Nat → Int) (h : post ((nI W), (nI C), (nI w), (nI m), cp, hq, (fun zi => nI (K zi)), L, R, (fun zi => qa_fe (x zi)), (fun zi => qa_fe (F zi)), (fun zi => qa_fe (M zi)), (fun zi => qa_fe (pt zi)), (fun zi => qa_fe (B zi)), (fun zi => qa_fe ((qa_row P 128 32 (fun t => f t + qa_c1 P (fun k => P (32 + k)) m m t)) zi)))) : ∀ n i, i ≤ m → m - i < n → wX_buildProductMinusC_55 post 0 32 128 (nI W) (nI C) (nI w) (nI m) cp hq n (nI i) (fun zi => nI (K zi)) L R (fun zi => qa_fe (x zi)) (fun zi => qa_fe (F zi)) (fun zi => qa_fe (M zi)) (fun zi => qa_fe (pt zi)) (fun zi => qa_fe (B zi)) (fun zi => qa_fe ((qa_row P 128 32 (fun t => f t + qa_c1 P (fun k => P (32 + k)) m i t)) zi)) := by
  intro n
  induction n with
  | zero => intros; omega
  | succ n ih =>
    intro i hi hn
    by_cases h1 : i < m
    · refine br_f (nI_ge h1 (by omega)) ⟨m + 1, ?_⟩
      have i2 := ih (i + 1) (by omega) (by omega)
      simp only [qa_c1_s, ← Int.add_assoc] at i2
      have := qx_pm67 (post := post) (J := wX_buildProductMinusC_55 post 0 32 128 (nI W) (nI C) (nI w) (nI m) cp hq n) (K := K) (L := L) (R := R) (W := W) (C := C) (w := w) (cp := cp) (hq := hq) (x := x) (F := F) (M := M) (pt := pt) (B := B) (P := P) hm h1 (fun t => f t + qa_c1 P (fun k => P (32 + k)) m i t) i2 (m + 1) 0 (by omega) (by omega)
      have e : (fun t => f t + qa_c1 P (fun k => P (32 + k)) m i t + qa_c2 P (fun k => P (32 + k)) i 0 t) = (fun t => f t + qa_c1 P (fun k => P (32 + k)) m i t) := by
        funext t
        exact Int.add_zero _
      rw [e] at this
      exact this
    · obtain rfl : i = m := by omega
      exact br_t (nI_le (Nat.le_refl _) (by omega)) h
theorem qx_pm16 {post : St2 → Prop} (h : ∃ n, wX_buildProductMinusC_55 post 0 32 128 (nI W) (nI C) (nI w) (nI m) cp hq n 0 (fun zi => nI (K zi)) L R (fun zi => qa_fe (x zi)) (fun zi => qa_fe (F zi)) (fun zi => qa_fe (M zi)) (fun zi => qa_fe (pt zi)) (fun zi => qa_fe (B zi)) (fun zi => qa_fe ((qa_row P 128 32 (fun t => 0 - P (64 + t))) zi))) : ∀ n k, k ≤ 32 → 32 - k < n → wX_buildProductMinusC_16 post 0 32 64 128 (nI W) (nI C) (nI w) (nI m) cp hq n (nI k) (fun zi => nI (K zi)) L R (fun zi => qa_fe (x zi)) (fun zi => qa_fe (F zi)) (fun zi => qa_fe (M zi)) (fun zi => qa_fe (pt zi)) (fun zi => qa_fe (B zi)) (fun zi => qa_fe ((qa_row P 128 k (fun t => 0 - P (64 + t))) zi)) := by
  intro n
  induction n with
  | zero => intros; omega
  | succ n ih =>
    intro k hk hn
    by_cases h1 : k < 32
    · have h2 : ¬ (32 : Int32) ≤ nI k := by rw [qn_32]; exact nI_ge h1 (by omega)
      simp (disch := omega) only [wX_buildProductMinusC_16, h2, qn_64a, qn_128a, qx_sub0, not_true, not_false_iff, true_implies, false_implies, true_and, and_true, forall_eq, nI_add, nI_1, nI_clamp, nI_leI, nI_ltI, nI_eq, qn_m32, qn_m16, qv_in, qx_mul, qx_add, qx_sub, qa_upd]
      rw [qa_row_out (show 64 + k < 128 ∨ 128 + k ≤ 64 + k by omega), qa_row_s P (fun t => 0 - P (64 + t)) 128 k]
      exact ih (k + 1) (by omega) (by omega)
    · obtain rfl : k = 32 := by omega
      exact br_t (by decide) h
theorem qx_pm {post : St2 → Prop} (hm : m ≤ 16) (h : post ((nI W), (nI C), (nI w), (nI m), cp, hq, (fun zi => nI (K zi)), L, R, (fun zi => qa_fe (x zi)), (fun zi => qa_fe (F zi)), (fun zi => qa_fe (M zi)), (fun zi => qa_fe (pt zi)), (fun zi => qa_fe (B zi)), (fun zi => qa_fe ((qa_row P 128 32 (fun t => 0 - P (64 + t) + qa_c1 P (fun k => P (32 + k)) m m t)) zi)))) : wpX_buildProductMinusC post ((nI W), (nI C), (nI w), (nI m), cp, hq, (fun zi => nI (K zi)), L, R, (fun zi => qa_fe (x zi)), (fun zi => qa_fe (F zi)), (fun zi => qa_fe (M zi)), (fun zi => qa_fe (pt zi)), (fun zi => qa_fe (B zi)), (fun zi => qa_fe (P zi))) := by
  have h55 := qx_pm55 (K := K) (L := L) (R := R) (W := W) (C := C) (w := w) (cp := cp) (hq := hq) (x := x) (F := F) (M := M) (pt := pt) (B := B) hm (fun t => 0 - P (64 + t)) h (m + 1) 0 (by omega) (by omega)
  have e : (fun t => 0 - P (64 + t) + qa_c1 P (fun k => P (32 + k)) m 0 t) = (fun t => 0 - P (64 + t)) := by
    funext t
    exact Int.add_zero _
  rw [e] at h55
  have := qx_pm16 (post := post) (K := K) (L := L) (R := R) (W := W) (C := C) (w := w) (m := m) (cp := cp) (hq := hq) (x := x) (F := F) (M := M) (pt := pt) (B := B) (P := P) ⟨m + 1, h55⟩ 33 0 (by omega) (by omega)
  rw [qa_row_0] at this
  exact ⟨33, this⟩
theorem qx_rf {post : St2 → Prop} (hw : w ≤ 32) (hm : m ≤ 16) (hB : ∀ j k, j < m → k < m → B (j * 16 + k) = qa_bs pt m j k) (hP : ∀ t k, t < 3 → m ≤ k → k < 32 → P (t * 32 + k) = 0)
    (h : ∀ P' : Nat → Int, (∀ i, 96 ≤ i → i < 128 → P' i = P i) → (∀ i, 160 ≤ i → P' i = P i) → (∀ t k, t < 3 → k < 32 → P' (t * 32 + k) = if k < m then qa_pz M x pt w m t k else 0) → (∀ k, k < 32 → P' (128 + k) = qa_pp M x pt w m k) → post ((nI W), (nI C), (nI w), (nI m), cp, hq, (fun zi => nI (K zi)), L, R, (fun zi => qa_fe (x zi)), (fun zi => qa_fe (F zi)), (fun zi => qa_fe (M zi)), (fun zi => qa_fe (pt zi)), (fun zi => qa_fe (B zi)), (fun zi => qa_fe (P' zi)))) : wpX_refreshPolys post ((nI W), (nI C), (nI w), (nI m), cp, hq, (fun zi => nI (K zi)), L, R, (fun zi => qa_fe (x zi)), (fun zi => qa_fe (F zi)), (fun zi => qa_fe (M zi)), (fun zi => qa_fe (pt zi)), (fun zi => qa_fe (B zi)), (fun zi => qa_fe (P zi))) := by
  unfold wpX_refreshPolys
  refine qx_ip (t := 0) hw hm (by omega) hB ?_
  refine qx_ip (t := 1) hw hm (by omega) hB ?_
  refine qx_ip (t := 2) hw hm (by omega) hB ?_
  refine qx_pm hm ?_
  generalize hQ : qa_row (qa_row (qa_row P (0 * 32) m (qa_pz M x pt w m 0)) (1 * 32) m (qa_pz M x pt w m 1)) (2 * 32) m (qa_pz M x pt w m 2) = Q
  have q1 : ∀ t k, t < 3 → k < 32 → Q (t * 32 + k) = if k < m then qa_pz M x pt w m t k else 0 := by
    intro t k ht hk
    rw [← hQ]
    have ht : t = 0 ∨ t = 1 ∨ t = 2 := by omega
    by_cases hkm : k < m
    · rw [if_pos hkm]
      rcases ht with rfl | rfl | rfl
      · rw [qa_row_out (by omega), qa_row_out (by omega), qa_row_in hkm]
      · rw [qa_row_out (by omega), qa_row_in hkm]
      · rw [qa_row_in hkm]
    · rw [if_neg hkm]
      rcases ht with rfl | rfl | rfl
      · rw [qa_row_out (by omega), qa_row_out (by omega), qa_row_out (by omega)]; exact hP 0 k (by omega) (by omega) hk
      · rw [qa_row_out (by omega), qa_row_out (by omega), qa_row_out (by omega)]; exact hP 1 k (by omega) (by omega) hk
      · rw [qa_row_out (by omega), qa_row_out (by omega), qa_row_out (by omega)]; exact hP 2 k (by omega) (by omega) hk
  have q2 : ∀ i, 96 ≤ i → Q i = P i := by
    intro i hi
    rw [← hQ, qa_row_out (by omega), qa_row_out (by omega), qa_row_out (by omega)]
  refine h _ (fun i h1 h2 => ?_) (fun i h1 => ?_) (fun t k ht hk => ?_) (fun k hk => ?_)
  · rw [qa_row_out (by omega), q2 i h1]
  · rw [qa_row_out (by omega), q2 i (by omega)]
  · rw [qa_row_out (by omega), q1 t k ht hk]
  · rw [qa_row_in hk]
    unfold qa_pp
    have e2 := q1 2 k (by omega) hk
    rw [show 2 * 32 + k = 64 + k by omega] at e2
    rw [e2, qa_c1_c (A' := qa_pz M x pt w m 0) (B' := qa_pz M x pt w m 1) (m := m) (fun k hk => ?_) (fun k hk => ?_) (Nat.le_refl m)]
    · omega
    · have := q1 0 k (by omega) (by omega)
      rw [if_pos hk, show 0 * 32 + k = k by omega] at this
      exact this
    · have := q1 1 k (by omega) (by omega)
      rw [if_pos hk, show 1 * 32 + k = 32 + k by omega] at this
      exact this
end QX
end
section
section QX
variable {W C w m : Nat} {cp hq : Int32} {K : Nat → Nat} {L R : Nat → Int32} {x F M pt B P : Nat → Int}
theorem qx_bv24 {post : St2 → Prop} {J : Int32 → (Nat → Int32) → (Nat → Int32) → (Nat → Int32) → (Nat → Int32) → (Nat → Int32) → (Nat → Int32) → (Nat → Int32) → (Nat → Int32) → (Nat → Int32) → Prop} {j : Nat} (hj : j < 16) (z : Nat → Int) (h : J (nI (j + 1)) (fun zi => nI (K zi)) L R (fun zi => qa_fe (x zi)) (fun zi => qa_fe (F zi)) (fun zi => qa_fe (M zi)) (fun zi => qa_fe (pt zi)) (fun zi => qa_fe (B zi)) (fun zi => qa_fe ((qa_row P 96 32 (qa_lin (pt j) z)) zi))) : ∀ k n, k ≤ 16 → k < n → wX_buildVanishing_24 post J 96 (nI j) (nI W) (nI C) (nI w) (nI m) cp hq n (nI k) (fun zi => nI (K zi)) L R (fun zi => qa_fe (x zi)) (fun zi => qa_fe (F zi)) (fun zi => qa_fe (M zi)) (fun zi => qa_fe (pt zi)) (fun zi => qa_fe (B zi)) (fun zi => qa_fe ((qa_row P 96 32 (qa_mix (k + 1) z (qa_lin (pt j) z))) zi)) := by
  intro k
  induction k with
  | zero =>
    intro n _ hn
    obtain ⟨n, rfl⟩ : ∃ k, n = k + 1 := ⟨n - 1, by omega⟩
    have h1 : (nI 0) ≤ 0 := by decide
    have c96 : (96 : Int32).toNatClampNeg = 96 := by decide
    have v96 : vp_in (96 : Int32) 224 = True := eq_true (vp_in_nI (n := 96) (by omega) (by omega))
    simp (disch := omega) only [wX_buildVanishing_24, h1, c96, v96, qx_sub0, not_true, not_false_iff, true_implies, false_implies, true_and, and_true, forall_eq, nI_add, nI_1, nI_clamp, nI_leI, nI_ltI, nI_eq, qn_m32, qn_m16, qv_in, qx_mul, qx_add, qx_sub, qa_upd]
    have e1 : qa_row P 96 32 (qa_mix (0 + 1) z (qa_lin (pt j) z)) 96 = z 0 := by
      rw [show 96 = 96 + 0 from rfl, qa_row_in (by omega), qa_mix_lt (by omega)]
    have e2 := qa_row_u (P := P) (g := qa_mix (0 + 1) z (qa_lin (pt j) z)) (b := 96) (m := 32) (k := 0) (by omega) (0 - pt j * z 0)
    rw [← qa_lin0, qa_mix_d, qa_mix_0] at e2
    rw [e1, ← qa_lin0, show 96 = 96 + 0 from rfl, e2]
    exact h
  | succ k ih =>
    intro n hk hn
    obtain ⟨n, rfl⟩ : ∃ k, n = k + 1 := ⟨n - 1, by omega⟩
    have h1 : ¬ (nI (k + 1)) ≤ 0 := nI_nle (by omega) (by omega)
    have e0 : nI (96 + (k + 1)) - 1 = nI (96 + k) := nI_pred (96 + k)
    have e1 : qa_row P 96 32 (qa_mix (k + 1 + 1) z (qa_lin (pt j) z)) (96 + (k + 1)) = z (k + 1) := by
      rw [qa_row_in (by omega), qa_mix_lt (by omega)]
    have e2 : qa_row P 96 32 (qa_mix (k + 1 + 1) z (qa_lin (pt j) z)) (96 + k) = z k := by
      rw [qa_row_in (by omega), qa_mix_lt (by omega)]
    have e3 := qa_row_u (P := P) (g := qa_mix (k + 1 + 1) z (qa_lin (pt j) z)) (b := 96) (m := 32) (k := k + 1) (by omega) (z k - pt j * z (k + 1))
    rw [← qa_linS, qa_mix_d] at e3
    simp (disch := omega) only [wX_buildVanishing_24, h1, qn_96a, e0, pk_m1, e1, e2, not_true, not_false_iff, true_implies, false_implies, true_and, and_true, forall_eq, nI_add, nI_1, nI_clamp, nI_leI, nI_ltI, nI_eq, qn_m32, qn_m16, qv_in, qx_mul, qx_add, qx_sub, qa_upd]
    rw [← qa_linS, e3]
    exact ih n (by omega) (by omega)
theorem qx_bv12 {post : St2 → Prop} (hm : m ≤ 16) (h : post ((nI W), (nI C), (nI w), (nI m), cp, hq, (fun zi => nI (K zi)), L, R, (fun zi => qa_fe (x zi)), (fun zi => qa_fe (F zi)), (fun zi => qa_fe (M zi)), (fun zi => qa_fe (pt zi)), (fun zi => qa_fe (B zi)), (fun zi => qa_fe ((qa_row P 96 32 (qa_zp pt m)) zi)))) : ∀ n j, j ≤ m → m - j < n → wX_buildVanishing_12 post 96 (nI W) (nI C) (nI w) (nI m) cp hq n (nI j) (fun zi => nI (K zi)) L R (fun zi => qa_fe (x zi)) (fun zi => qa_fe (F zi)) (fun zi => qa_fe (M zi)) (fun zi => qa_fe (pt zi)) (fun zi => qa_fe (B zi)) (fun zi => qa_fe ((qa_row P 96 32 (qa_zp pt j)) zi)) := by
  intro n
  induction n with
  | zero => intros; omega
  | succ n ih =>
    intro j hj hn
    by_cases h1 : j < m
    · refine br_f (nI_ge h1 (by omega)) (nm_r (nI_1 j) ⟨j + 2, ?_⟩)
      have := qx_bv24 (post := post) (J := wX_buildVanishing_12 post 96 (nI W) (nI C) (nI w) (nI m) cp hq n) (K := K) (L := L) (R := R) (W := W) (C := C) (w := w) (m := m) (cp := cp) (hq := hq) (x := x) (F := F) (M := M) (pt := pt) (B := B) (P := P) (show j < 16 by omega) (qa_zp pt j) (ih (j + 1) (by omega) (by omega)) (j + 1) (j + 2) (by omega) (by omega)
      rw [qa_row_c (g' := qa_zp pt j) (fun i hi => ?_)] at this
      · exact this
      · by_cases q : i < j + 1 + 1
        · rw [qa_mix_lt q]
        · rw [qa_mix_ge (by omega), qa_zp_deg pt j i (by omega), qa_lin_deg (qa_zp_deg pt j) i (by omega)]
    · obtain rfl : j = m := by omega
      exact br_t (nI_le (Nat.le_refl _) (by omega)) h
theorem qx_bv {post : St2 → Prop} (hm : m ≤ 16) (hP : ∀ i, i < 224 → P i = 0) (h : post ((nI W), (nI C), (nI w), (nI m), cp, hq, (fun zi => nI (K zi)), L, R, (fun zi => qa_fe (x zi)), (fun zi => qa_fe (F zi)), (fun zi => qa_fe (M zi)), (fun zi => qa_fe (pt zi)), (fun zi => qa_fe (B zi)), (fun zi => qa_fe ((qa_row P 96 32 (qa_zp pt m)) zi)))) : wpX_buildVanishing post ((nI W), (nI C), (nI w), (nI m), cp, hq, (fun zi => nI (K zi)), L, R, (fun zi => qa_fe (x zi)), (fun zi => qa_fe (F zi)), (fun zi => qa_fe (M zi)), (fun zi => qa_fe (pt zi)), (fun zi => qa_fe (B zi)), (fun zi => qa_fe (P zi))) := by
  unfold wpX_buildVanishing
  have e : upd (fun i => qa_fe (P i)) 96 1 = (fun i => qa_fe ((qa_row P 96 32 (qa_zp pt 0)) i)) := by
    rw [qa_1, qa_upd]
    congr 1
    funext i
    congr 1
    unfold qa_uz qa_row
    by_cases h1 : i = 96
    · subst h1
      rw [if_pos rfl, if_pos (by omega)]
      rfl
    · rw [if_neg h1]
      by_cases h2 : 96 ≤ i ∧ i < 96 + 32
      · rw [if_pos h2, hP i (by omega)]
        exact (qa_one_deg (i - 96) (by omega)).symm
      · rw [if_neg h2]
  refine nm_r e ⟨m + 1, ?_⟩
  exact qx_bv12 (K := K) (L := L) (R := R) (W := W) (C := C) (w := w) (cp := cp) (hq := hq) (x := x) (F := F) (M := M) (B := B) hm h (m + 1) 0 (by omega) (by omega)
theorem qx_br107 {post : St2 → Prop} (hm : m ≤ 16) {j : Nat} (hj : j < m) (s : Int) (f : Nat → Int) (h : post ((nI W), (nI C), (nI w), (nI m), cp, hq, (fun zi => nI (K zi)), L, R, (fun zi => qa_fe (x zi)), (fun zi => qa_fe (F zi)), (fun zi => qa_fe (M zi)), (fun zi => qa_fe (pt zi)), (fun zi => qa_fe ((qa_row B (j * 16) m (fun k => f k * s)) zi)), (fun zi => qa_fe (P zi)))) : ∀ n k, k ≤ m → m - k < n → wX_buildBasisRow_107 post (nI (j * 16)) (qa_fe s) (nI W) (nI C) (nI w) (nI m) cp hq n (nI k) (fun zi => nI (K zi)) L R (fun zi => qa_fe (x zi)) (fun zi => qa_fe (F zi)) (fun zi => qa_fe (M zi)) (fun zi => qa_fe (pt zi)) (fun zi => qa_fe ((qa_row B (j * 16) m (qa_mix k (fun k => f k * s) f)) zi)) (fun zi => qa_fe (P zi)) := by
  intro n
  induction n with
  | zero => intros; omega
  | succ n ih =>
    intro k hk hn
    by_cases h1 : k < m
    · have h2 : ¬ m ≤ k := by omega
      simp (disch := omega) only [wX_buildBasisRow_107, h2, not_true, not_false_iff, true_implies, false_implies, true_and, and_true, forall_eq, nI_add, nI_1, nI_clamp, nI_leI, nI_ltI, nI_eq, qn_m32, qn_m16, qv_in, qx_mul, qx_add, qx_sub, qa_upd]
      rw [qa_row_in h1, qa_mix_ge (Nat.le_refl k), qa_row_u h1, qa_mix_s (fun k => f k * s) f k]
      exact ih (k + 1) (by omega) (by omega)
    · obtain rfl : k = m := by omega
      simp (disch := omega) only [wX_buildBasisRow_107, Nat.le_refl, not_true, not_false_iff, true_implies, false_implies, true_and, and_true, forall_eq, nI_add, nI_1, nI_clamp, nI_leI, nI_ltI, nI_eq, qn_m32, qn_m16, qv_in, qx_mul, qx_add, qx_sub, qa_upd]
      rw [qa_row_c (g' := fun k => f k * s) (fun i hi => qa_mix_lt hi)]
      exact h
theorem qx_br22 {post : St2 → Prop} (hm : m ≤ 16) {j : Nat} (hj : j < m) (hZ : ∀ k, k < 32 → P (96 + k) = qa_zp pt m k) (h : post ((nI W), (nI C), (nI w), (nI m), cp, hq, (fun zi => nI (K zi)), L, R, (fun zi => qa_fe (x zi)), (fun zi => qa_fe (F zi)), (fun zi => qa_fe (M zi)), (fun zi => qa_fe (pt zi)), (fun zi => qa_fe ((qa_row B (j * 16) m (qa_bs pt m j)) zi)), (fun zi => qa_fe (P zi)))) : ∀ c n, c ≤ m → c < n → wX_buildBasisRow_22 post (nI j) (nI (j * 16)) 96 (nI W) (nI C) (nI w) (nI m) cp hq n (qa_fe (qa_np pt j m c)) (qa_fe (qa_ho (qa_np pt j m) (pt j) (m - c) c)) (qx_d c) (fun zi => nI (K zi)) L R (fun zi => qa_fe (x zi)) (fun zi => qa_fe (F zi)) (fun zi => qa_fe (M zi)) (fun zi => qa_fe (pt zi)) (fun zi => qa_fe ((qa_row B (j * 16) m (qa_mix c (fun i => B (j * 16 + i)) (qa_np pt j m))) zi)) (fun zi => qa_fe (P zi)) := by
  intro c
  induction c with
  | zero =>
    intro n _ hn
    obtain ⟨n, rfl⟩ : ∃ k, n = k + 1 := ⟨n - 1, by omega⟩
    refine br_t qx_d0 ?_
    rw [Nat.sub_zero, qa_np_val pt hj]
    refine qx_inv _ ⟨m + 1, ?_⟩
    have := qx_br107 (post := post) (K := K) (L := L) (R := R) (W := W) (C := C) (w := w) (m := m) (cp := cp) (hq := hq) (x := x) (F := F) (M := M) (pt := pt) (B := B) (P := P) hm hj (qa_iv (qa_dn pt j m)) (qa_np pt j m) h (m + 1) 0 (by omega) (by omega)
    rw [qa_mix_0] at this ⊢
    exact this
  | succ c ih =>
    intro n hc hn
    obtain ⟨n, rfl⟩ : ∃ k, n = k + 1 := ⟨n - 1, by omega⟩
    rw [qx_ds]
    have h1 : ¬ nI c < 0 := nI_pos (by omega)
    have i2 := ih n (by omega) (by omega)
    rw [show m - c = (m - (c + 1)) + 1 by omega, qa_ho_s] at i2
    have ez : P (96 + c + 1) = qa_zp pt m (c + 1) := by rw [Nat.add_assoc]; exact hZ (c + 1) (by omega)
    have en : qa_zp pt m (c + 1) + pt j * qa_np pt j m (c + 1) = qa_np pt j m c := by
      rw [qa_np_hi pt hj, qa_linS]
      omega
    have eu := qa_row_u (P := B) (g := qa_mix (c + 1) (fun i => B (j * 16 + i)) (qa_np pt j m)) (b := j * 16) (m := m) (k := c) (by omega) (qa_np pt j m c)
    rw [qa_mix_d] at eu
    simp (disch := omega) only [wX_buildBasisRow_22, h1, qn_96a, qx_dm, ez, en, eu, not_true, not_false_iff, true_implies, false_implies, true_and, and_true, forall_eq, nI_add, nI_1, nI_clamp, nI_leI, nI_ltI, nI_eq, qn_m32, qn_m16, qv_in, qx_mul, qx_add, qx_sub, qa_upd]
    rw [Int.mul_comm (pt j)]
    exact i2
theorem qx_br {post : St2 → Prop} (hm : m ≤ 16) {j : Nat} (hj : j < m) (hZ : ∀ k, k < 32 → P (96 + k) = qa_zp pt m k) (h : post ((nI W), (nI C), (nI w), (nI m), cp, hq, (fun zi => nI (K zi)), L, R, (fun zi => qa_fe (x zi)), (fun zi => qa_fe (F zi)), (fun zi => qa_fe (M zi)), (fun zi => qa_fe (pt zi)), (fun zi => qa_fe ((qa_row B (j * 16) m (qa_bs pt m j)) zi)), (fun zi => qa_fe (P zi)))) : wpX_buildBasisRow post ((nI W), (nI C), (nI w), (nI m), cp, hq, (fun zi => nI (K zi)), L, R, (fun zi => qa_fe (x zi)), (fun zi => qa_fe (F zi)), (fun zi => qa_fe (M zi)), (fun zi => qa_fe (pt zi)), (fun zi => qa_fe (B zi)), (fun zi => qa_fe (P zi))) (nI j) := by
  unfold wpX_buildBasisRow
  refine nm_r (qn_m16 j) (nm_r (e' := qx_d m) rfl ⟨m + 1, ?_⟩)
  have := qx_br22 (K := K) (L := L) (R := R) (W := W) (C := C) (w := w) (cp := cp) (hq := hq) (x := x) (F := F) (M := M) hm hj hZ h m (m + 1) (by omega) (by omega)
  rw [Nat.sub_self, qa_np_deg pt hj m (Nat.le_refl m), qa_row_id (P := B) (b := j * 16) (m := m) (g := qa_mix m (fun i => B (j * 16 + i)) (qa_np pt j m)) (fun i hi => qa_mix_lt hi)] at this
  exact this
theorem qx_cp22 {post : Int32 → St2 → Prop} (hw : w ≤ 32) (hm : m ≤ 16) (hZ : ∀ k, k < 32 → P (96 + k) = qa_zp pt m k) (hP : ∀ t k, t < 3 → k < 32 → P (t * 32 + k) = 0)
    (h : ∀ B' P' : Nat → Int, (∀ j k, j < m → k < m → B' (j * 16 + k) = qa_bs pt m j k) → (∀ i, 96 ≤ i → i < 128 → P' i = P i) → (∀ i, 160 ≤ i → P' i = P i) → (∀ t k, t < 3 → k < 32 → P' (t * 32 + k) = if k < m then qa_pz M x pt w m t k else 0) → (∀ k, k < 32 → P' (128 + k) = qa_pp M x pt w m k) → post (nI m) ((nI W), (nI C), (nI w), (nI m), 1, hq, (fun zi => nI (K zi)), L, R, (fun zi => qa_fe (x zi)), (fun zi => qa_fe (F zi)), (fun zi => qa_fe (M zi)), (fun zi => qa_fe (pt zi)), (fun zi => qa_fe (B' zi)), (fun zi => qa_fe (P' zi)))) : ∀ n j (B' : Nat → Int), j ≤ m → m - j < n → (∀ i k, i < j → k < m → B' (i * 16 + k) = qa_bs pt m i k) → wX_compile_22 post n (nI j) (nI W) (nI C) (nI w) (nI m) cp hq (fun zi => nI (K zi)) L R (fun zi => qa_fe (x zi)) (fun zi => qa_fe (F zi)) (fun zi => qa_fe (M zi)) (fun zi => qa_fe (pt zi)) (fun zi => qa_fe (B' zi)) (fun zi => qa_fe (P zi)) := by
  intro n
  induction n with
  | zero => intros; omega
  | succ n ih =>
    intro j B' hj hn hI
    by_cases h1 : j < m
    · refine br_f (nI_ge h1 (by omega)) ?_
      refine qx_br hm h1 hZ (nm_r (nI_1 j) ?_)
      refine ih (j + 1) _ (by omega) (by omega) fun i k hi hk => ?_
      by_cases q : i = j
      · rw [q, qa_row_in hk]
      · rw [qa_row_out (by omega)]
        exact hI i k (by omega) hk
    · obtain rfl : j = m := by omega
      refine br_t (nI_le (Nat.le_refl _) (by omega)) ?_
      exact qx_rf hw hm hI (fun t k ht _ hk => hP t k ht hk) fun P' p1 p2 p3 p4 => h B' P' hI p1 p2 p3 p4
theorem qx_cp {post : Int32 → St2 → Prop} (hw : w ≤ 32) (hm0 : 0 < m) (hm : m ≤ 16) (hP : ∀ i, i < 224 → P i = 0) (h : ∀ B' P' : Nat → Int, qi_q 1 w m M x pt B' P' → post (nI m) ((nI W), (nI C), (nI w), (nI m), 1, hq, (fun zi => nI (K zi)), L, R, (fun zi => qa_fe (x zi)), (fun zi => qa_fe (F zi)), (fun zi => qa_fe (M zi)), (fun zi => qa_fe (pt zi)), (fun zi => qa_fe (B' zi)), (fun zi => qa_fe (P' zi)))) : wpX_compile post ((nI W), (nI C), (nI w), (nI m), 0, hq, (fun zi => nI (K zi)), L, R, (fun zi => qa_fe (x zi)), (fun zi => qa_fe (F zi)), (fun zi => qa_fe (M zi)), (fun zi => qa_fe (pt zi)), (fun zi => qa_fe (B zi)), (fun zi => qa_fe (P zi))) := by
  unfold wpX_compile
  refine br_t rfl (br_f (nI_ne0 hm0 (by omega)) ?_)
  refine qx_bv hm hP ⟨m + 1, ?_⟩
  refine qx_cp22 (P := qa_row P 96 32 (qa_zp pt m)) hw hm (fun k hk => qa_row_in hk) (fun t k ht hk => by rw [qa_row_out (by omega)]; exact hP _ (by omega)) (fun B' P' b p1 p2 p3 p4 => ?_) (m + 1) 0 B (by omega) (by omega) (fun i k hi _ => by omega)
  refine h B' P' (Or.inr ⟨rfl, hm0, b, fun k hk => ?_, p3, p4, fun k h1 h2 => ?_⟩)
  · rw [p1 (96 + k) (by omega) (by omega), qa_row_in hk]
  · rw [p2 (160 + k) (by omega), qa_row_out (by omega)]
    exact hP _ (by omega)
theorem qx_bq95 {post : St2 → Prop} {J : Int32 → (Nat → Int32) → (Nat → Int32) → (Nat → Int32) → (Nat → Int32) → (Nat → Int32) → (Nat → Int32) → (Nat → Int32) → (Nat → Int32) → (Nat → Int32) → Prop} (hm : m ≤ 16) {i : Nat} (hi : i + 1 < m) (Z g : Nat → Int) (q : Int) (hZ : ∀ k, k < 32 → P (96 + k) = Z k) (h : J (qx_d i) (fun zi => nI (K zi)) L R (fun zi => qa_fe (x zi)) (fun zi => qa_fe (F zi)) (fun zi => qa_fe (M zi)) (fun zi => qa_fe (pt zi)) (fun zi => qa_fe (B zi)) (fun zi => qa_fe ((qa_row P 192 32 (qa_dst Z g i q (m + 1))) zi))) : ∀ n k, k ≤ m + 1 → m + 1 - k < n → wX_buildQuotient_95 post J 96 160 192 (nI i) (qa_fe q) (nI W) (nI C) (nI w) (nI m) cp hq n (nI k) (fun zi => nI (K zi)) L R (fun zi => qa_fe (x zi)) (fun zi => qa_fe (F zi)) (fun zi => qa_fe (M zi)) (fun zi => qa_fe (pt zi)) (fun zi => qa_fe (B zi)) (fun zi => qa_fe ((qa_row P 192 32 (qa_dst Z g i q k)) zi)) := by
  intro n
  induction n with
  | zero => intros; omega
  | succ n ih =>
    intro k hk hn
    by_cases h1 : k ≤ m
    · have h2 : ¬ m < k := by omega
      have e1 : qa_row P 192 32 (qa_dst Z g i q k) (192 + (i + k)) = g (i + k) := by rw [qa_row_in (by omega), qa_dst_at]
      have e2 : qa_row P 192 32 (qa_dst Z g i q k) (96 + k) = Z k := by rw [qa_row_out (by omega), hZ k (by omega)]
      have e3 := qa_row_u (P := P) (g := qa_dst Z g i q k) (b := 192) (m := 32) (k := i + k) (by omega) (g (i + k) - q * Z k)
      rw [← qa_dst_s] at e3
      simp (disch := omega) only [wX_buildQuotient_95, h2, qn_96a, qn_192a, Nat.add_assoc 192 i k, e1, e2, e3, not_true, not_false_iff, true_implies, false_implies, true_and, and_true, forall_eq, nI_add, nI_1, nI_clamp, nI_leI, nI_ltI, nI_eq, qn_m32, qn_m16, qv_in, qx_mul, qx_add, qx_sub, qa_upd]
      exact ih (k + 1) (by omega) (by omega)
    · obtain rfl : k = m + 1 := by omega
      exact br_t (nI_lt (by omega) (by omega)) (nm_r (qx_dm i) h)
theorem qx_row_uo {P g : Nat → Int} {b n k : Nat} (z : Int) (h : k < b ∨ b + n ≤ k) : qa_uz (qa_row P b n g) k z = qa_row (qa_uz P k z) b n g := by
  funext i
  unfold qa_uz qa_row
  by_cases h1 : i = k
  · subst h1
    rw [if_pos rfl, if_neg (by omega)]
    exact (if_pos rfl).symm
  · rw [if_neg h1]
    by_cases h2 : b ≤ i ∧ i < b + n
    · rw [if_pos h2, if_pos h2]
    · rw [if_neg h2, if_neg h2]
      exact (if_neg h1).symm
theorem qx_bq59 {post : St2 → Prop} (hm0 : 0 < m) (hm : m ≤ 16) (Z g : Nat → Int) (h : ∀ Q : Nat → Int, (∀ i, i < 160 → Q i = P i) → (∀ k, k < 32 → Q (160 + k) = if k + 1 < m then qa_hh Z g m k else P (160 + k)) → post ((nI W), (nI C), (nI w), (nI m), cp, hq, (fun zi => nI (K zi)), L, R, (fun zi => qa_fe (x zi)), (fun zi => qa_fe (F zi)), (fun zi => qa_fe (M zi)), (fun zi => qa_fe (pt zi)), (fun zi => qa_fe (B zi)), (fun zi => qa_fe ((qa_row Q 192 32 (qa_rm Z g m (m - 1))) zi)))) (hZ : ∀ k, k < 32 → P (96 + k) = Z k) : ∀ c n Q, c + 1 ≤ m → c < n → (∀ i, i < 160 → Q i = P i) → (∀ k, k < 32 → Q (160 + k) = if c ≤ k ∧ k + 1 < m then qa_hh Z g m k else P (160 + k)) → wX_buildQuotient_59 post 96 160 192 (nI W) (nI C) (nI w) (nI m) cp hq n (qx_d c) (fun zi => nI (K zi)) L R (fun zi => qa_fe (x zi)) (fun zi => qa_fe (F zi)) (fun zi => qa_fe (M zi)) (fun zi => qa_fe (pt zi)) (fun zi => qa_fe (B zi)) (fun zi => qa_fe ((qa_row Q 192 32 (qa_rm Z g m (m - 1 - c))) zi)) := by
  intro c
  induction c with
  | zero =>
    intro n Q _ hn q1 q2
    obtain ⟨n, rfl⟩ : ∃ k, n = k + 1 := ⟨n - 1, by omega⟩
    refine br_t qx_d0 ?_
    rw [Nat.sub_zero]
    refine h Q q1 fun k hk => ?_
    rw [q2 k hk]
    by_cases z : k + 1 < m
    · rw [if_pos ⟨by omega, z⟩, if_pos z]
    · rw [if_neg (by omega), if_neg z]
  | succ c ih =>
    intro n Q hc hn q1 q2
    obtain ⟨n, rfl⟩ : ∃ k, n = k + 1 := ⟨n - 1, by omega⟩
    rw [qx_ds]
    have h1 : ¬ nI c < 0 := nI_pos (by omega)
    generalize hs : m - 1 - (c + 1) = s
    have hs2 : m - 2 - s = c := by omega
    have hs3 : m - 1 - c = s + 1 := by omega
    have e1 : qa_row Q 192 32 (qa_rm Z g m s) (192 + (c + m)) = qa_hh Z g m c := by
      rw [qa_row_in (by omega)]
      unfold qa_hh
      rw [if_pos (by omega), show m - 2 - c = s by omega]
    have e3 := qx_row_uo (P := Q) (g := qa_rm Z g m s) (b := 192) (n := 32) (k := 160 + c) (qa_hh Z g m c) (by omega)
    have i2 := ih n (qa_uz Q (160 + c) (qa_hh Z g m c)) (by omega) (by omega) (fun i hi => by rw [qa_uzn (by omega)]; exact q1 i hi) (fun k hk => by
      by_cases z : k = c
      · rw [z, qa_uzs, if_pos ⟨by omega, by omega⟩]
      · rw [qa_uzn (by omega), q2 k hk]
        by_cases y : c + 1 ≤ k ∧ k + 1 < m
        · rw [if_pos y, if_pos ⟨by omega, y.2⟩]
        · rw [if_neg y, if_neg (by omega)])
    rw [hs3, qa_rm, hs2] at i2
    have e4 : qa_rm Z g m s (c + m) = qa_hh Z g m c := by
      unfold qa_hh
      rw [if_pos (by omega), show m - 2 - c = s by omega]
    rw [e4] at i2
    simp (disch := omega) only [wX_buildQuotient_59, h1, qn_160a, qn_192a, Nat.add_assoc 192 c m, e1, e3, not_true, not_false_iff, true_implies, false_implies, true_and, and_true, forall_eq, nI_add, nI_1, nI_clamp, nI_leI, nI_ltI, nI_eq, qn_m32, qn_m16, qv_in, qx_mul, qx_add, qx_sub, qa_upd]
    refine ⟨m + 2, ?_⟩
    have := qx_bq95 (post := post) (J := wX_buildQuotient_59 post 96 160 192 (nI W) (nI C) (nI w) (nI m) cp hq n) (K := K) (L := L) (R := R) (W := W) (C := C) (w := w) (m := m) (cp := cp) (hq := hq) (x := x) (F := F) (M := M) (pt := pt) (B := B) (P := qa_uz Q (160 + c) (qa_hh Z g m c)) hm (i := c) (by omega) Z (qa_rm Z g m s) (qa_hh Z g m c) (fun k hk => by rw [qa_uzn (by omega), q1 _ (by omega), hZ k hk]) i2 (m + 2) 0 (by omega) (by omega)
    rw [qa_dst_0] at this
    exact this
theorem qx_bq19 {post : St2 → Prop} (h : ∃ n, wX_buildQuotient_59 post 96 160 192 (nI W) (nI C) (nI w) (nI m) cp hq n (nI m - 2) (fun zi => nI (K zi)) L R (fun zi => qa_fe (x zi)) (fun zi => qa_fe (F zi)) (fun zi => qa_fe (M zi)) (fun zi => qa_fe (pt zi)) (fun zi => qa_fe (B zi)) (fun zi => qa_fe ((qa_row P 192 32 (fun k => P (128 + k))) zi))) : ∀ n k, k ≤ 32 → 32 - k < n → wX_buildQuotient_19 post 96 128 160 192 (nI W) (nI C) (nI w) (nI m) cp hq n (nI k) (fun zi => nI (K zi)) L R (fun zi => qa_fe (x zi)) (fun zi => qa_fe (F zi)) (fun zi => qa_fe (M zi)) (fun zi => qa_fe (pt zi)) (fun zi => qa_fe (B zi)) (fun zi => qa_fe ((qa_row P 192 k (fun k => P (128 + k))) zi)) := by
  intro n
  induction n with
  | zero => intros; omega
  | succ n ih =>
    intro k hk hn
    by_cases h1 : k < 32
    · have h2 : ¬ (32 : Int32) ≤ nI k := by rw [qn_32]; exact nI_ge h1 (by omega)
      simp (disch := omega) only [wX_buildQuotient_19, h2, qn_128a, qn_192a, not_true, not_false_iff, true_implies, false_implies, true_and, and_true, forall_eq, nI_add, nI_1, nI_clamp, nI_leI, nI_ltI, nI_eq, qn_m32, qn_m16, qv_in, qx_mul, qx_add, qx_sub, qa_upd]
      rw [qa_row_out (show 128 + k < 192 ∨ 192 + k ≤ 128 + k by omega), qa_row_s P (fun k => P (128 + k)) 192 k]
      exact ih (k + 1) (by omega) (by omega)
    · obtain rfl : k = 32 := by omega
      exact br_t (by decide) (nm_e h)
theorem qx_bq {post : St2 → Prop} (hm0 : 0 < m) (hm : m ≤ 16) (Z : Nat → Int) (hZ : ∀ k, k < 32 → P (96 + k) = Z k) (h : ∀ P' : Nat → Int, (∀ i, i < 160 → P' i = P i) → (∀ k, k < 32 → P' (160 + k) = if k + 1 < m then qa_hh Z (fun k => P (128 + k)) m k else P (160 + k)) → (∀ k, k < 32 → P' (192 + k) = qa_rr Z (fun k => P (128 + k)) m k) → post ((nI W), (nI C), (nI w), (nI m), cp, hq, (fun zi => nI (K zi)), L, R, (fun zi => qa_fe (x zi)), (fun zi => qa_fe (F zi)), (fun zi => qa_fe (M zi)), (fun zi => qa_fe (pt zi)), (fun zi => qa_fe (B zi)), (fun zi => qa_fe (P' zi)))) : wpX_buildQuotient post ((nI W), (nI C), (nI w), (nI m), cp, hq, (fun zi => nI (K zi)), L, R, (fun zi => qa_fe (x zi)), (fun zi => qa_fe (F zi)), (fun zi => qa_fe (M zi)), (fun zi => qa_fe (pt zi)), (fun zi => qa_fe (B zi)), (fun zi => qa_fe (P zi))) := by
  have e : nI m - 2 = qx_d (m - 1) := by
    unfold qx_d
    rw [show (2 : Int32) = 1 + 1 by decide, ← Int32.sub_sub]
    congr 1
    obtain ⟨q, rfl⟩ : ∃ q, m = q + 1 := ⟨m - 1, by omega⟩
    exact nI_pred q
  have h59 := qx_bq59 (post := post) (K := K) (L := L) (R := R) (W := W) (C := C) (w := w) (m := m) (cp := cp) (hq := hq) (x := x) (F := F) (M := M) (pt := pt) (B := B) (P := P) hm0 hm Z (fun k => P (128 + k)) (fun Q q1 q2 => h _ (fun i hi => by rw [qa_row_out (by omega)]; exact q1 i hi) (fun k hk => by rw [qa_row_out (by omega)]; exact q2 k hk) (fun k hk => by rw [qa_row_in hk]; rfl)) hZ (m - 1) m P (by omega) (by omega) (fun i _ => rfl) (fun k hk => by rw [if_neg (by omega)])
  rw [Nat.sub_self, ← e] at h59
  have := qx_bq19 (post := post) (K := K) (L := L) (R := R) (W := W) (C := C) (w := w) (m := m) (cp := cp) (hq := hq) (x := x) (F := F) (M := M) (pt := pt) (B := B) (P := P) ⟨m, h59⟩ 33 0 (by omega) (by omega)
  rw [qa_row_0] at this
  exact ⟨33, this⟩
end QX
end
section
section QX
variable {W C w m : Nat} {cp hq : Int32} {K : Nat → Nat} {L R : Nat → Int32} {x F M pt B P : Nat → Int}
theorem qx_mw {post : Int32 → St2 → Prop} (hw : w < 32) (kd : Nat) (h : post (nI w) ((nI W), (nI C), (nI (w + 1)), (nI m), cp, hq, (fun zi => nI (qa_un K w kd zi)), L, R, (fun zi => qa_fe (x zi)), (fun zi => qa_fe (F zi)), (fun zi => qa_fe (M zi)), (fun zi => qa_fe (pt zi)), (fun zi => qa_fe (B zi)), (fun zi => qa_fe (P zi)))) : wpX_makeWire post ((nI W), (nI C), (nI w), (nI m), cp, hq, (fun zi => nI (K zi)), L, R, (fun zi => qa_fe (x zi)), (fun zi => qa_fe (F zi)), (fun zi => qa_fe (M zi)), (fun zi => qa_fe (pt zi)), (fun zi => qa_fe (B zi)), (fun zi => qa_fe (P zi))) (nI kd) := by
  unfold wpX_makeWire
  refine ⟨vp_in_nI hw (by omega), nm_r ?_ (nm_r (nI_1 w) h)⟩
  rw [nI_clamp (by omega), qa_updN]
theorem qx_mv {post : Int32 → St2 → Prop} (hw : w < 32) (kd : Nat) (h : post (nI w) ((nI W), (nI C), (nI (w + 1)), (nI m), cp, hq, (fun zi => nI (qa_un K w kd zi)), L, R, (fun zi => qa_fe (x zi)), (fun zi => qa_fe ((qa_uz F (w * 32 + w) 1) zi)), (fun zi => qa_fe (M zi)), (fun zi => qa_fe (pt zi)), (fun zi => qa_fe (B zi)), (fun zi => qa_fe (P zi)))) : wpX_makeVariable post ((nI W), (nI C), (nI w), (nI m), cp, hq, (fun zi => nI (K zi)), L, R, (fun zi => qa_fe (x zi)), (fun zi => qa_fe (F zi)), (fun zi => qa_fe (M zi)), (fun zi => qa_fe (pt zi)), (fun zi => qa_fe (B zi)), (fun zi => qa_fe (P zi))) (nI kd) := by
  unfold wpX_makeVariable
  refine qx_mw hw kd ?_
  dsimp only
  rw [qn_m32, nI_add, nI_clamp (by omega), qa_1, qa_upd]
  exact ⟨vp_in_nI (by omega) (by omega), nm_e h⟩
theorem qx_ms9 {post : Int32 → St2 → Prop} {a b u : Nat} (ha : a < u) (hb : b < u) (hu : u < 32) (h : post (nI u) ((nI W), (nI C), (nI w), (nI m), cp, hq, (fun zi => nI (K zi)), L, R, (fun zi => qa_fe (x zi)), (fun zi => qa_fe ((qa_row F (u * 32) u (fun v => F (a * 32 + v) + F (b * 32 + v))) zi)), (fun zi => qa_fe (M zi)), (fun zi => qa_fe (pt zi)), (fun zi => qa_fe (B zi)), (fun zi => qa_fe (P zi)))) : ∀ n v, v ≤ u → u - v < n → wX_makeSum_9 post (nI a) (nI b) (nI u) (nI W) (nI C) (nI w) (nI m) cp hq n (nI v) (fun zi => nI (K zi)) L R (fun zi => qa_fe (x zi)) (fun zi => qa_fe ((qa_row F (u * 32) v (fun v => F (a * 32 + v) + F (b * 32 + v))) zi)) (fun zi => qa_fe (M zi)) (fun zi => qa_fe (pt zi)) (fun zi => qa_fe (B zi)) (fun zi => qa_fe (P zi)) := by
  intro n
  induction n with
  | zero => intros; omega
  | succ n ih =>
    intro v hv hn
    by_cases h1 : v < u
    · have h2 : ¬ u ≤ v := by omega
      have e1 : qa_row F (u * 32) v (fun v => F (a * 32 + v) + F (b * 32 + v)) (a * 32 + v) = F (a * 32 + v) := qa_row_out (by omega)
      have e2 : qa_row F (u * 32) v (fun v => F (a * 32 + v) + F (b * 32 + v)) (b * 32 + v) = F (b * 32 + v) := qa_row_out (by omega)
      have e3 := qa_row_s F (fun v => F (a * 32 + v) + F (b * 32 + v)) (u * 32) v
      simp (disch := omega) only [wX_makeSum_9, h2, e1, e2, e3, not_true, not_false_iff, true_implies, false_implies, true_and, and_true, forall_eq, nI_add, nI_1, nI_clamp, nI_leI, nI_ltI, nI_eq, qn_m32, qn_m16, qv_in, qx_mul, qx_add, qx_sub, qa_upd]
      exact ih (v + 1) (by omega) (by omega)
    · obtain rfl : v = u := by omega
      exact br_t (nI_le (Nat.le_refl _) (by omega)) h
theorem qx_ms {post : Int32 → St2 → Prop} {a b : Nat} (ha : a < w) (hb : b < w) (hw : w < 32) (h : post (nI w) ((nI W), (nI C), (nI (w + 1)), (nI m), cp, hq, (fun zi => nI (qa_un K w 2 zi)), L, R, (fun zi => qa_fe (x zi)), (fun zi => qa_fe ((qa_row F (w * 32) w (fun v => F (a * 32 + v) + F (b * 32 + v))) zi)), (fun zi => qa_fe (M zi)), (fun zi => qa_fe (pt zi)), (fun zi => qa_fe (B zi)), (fun zi => qa_fe (P zi)))) : wpX_makeSum post ((nI W), (nI C), (nI w), (nI m), cp, hq, (fun zi => nI (K zi)), L, R, (fun zi => qa_fe (x zi)), (fun zi => qa_fe (F zi)), (fun zi => qa_fe (M zi)), (fun zi => qa_fe (pt zi)), (fun zi => qa_fe (B zi)), (fun zi => qa_fe (P zi))) (nI a) (nI b) := by
  unfold wpX_makeSum
  refine qx_mw hw 2 ⟨w + 1, ?_⟩
  have := qx_ms9 (post := post) (W := W) (C := C) (w := w + 1) (m := m) (cp := cp) (hq := hq) (K := qa_un K w 2) (L := L) (R := R) (x := x) (F := F) (M := M) (pt := pt) (B := B) (P := P) ha hb hw h (w + 1) 0 (by omega) (by omega)
  rw [qa_row_0, nI_0] at this
  exact this
theorem qx_mm9 {post : Int32 → St2 → Prop} {a u : Nat} (c : Int) (ha : a < u) (hu : u < 32) (h : post (nI u) ((nI W), (nI C), (nI w), (nI m), cp, hq, (fun zi => nI (K zi)), L, R, (fun zi => qa_fe (x zi)), (fun zi => qa_fe ((qa_row F (u * 32) u (fun v => c * F (a * 32 + v))) zi)), (fun zi => qa_fe (M zi)), (fun zi => qa_fe (pt zi)), (fun zi => qa_fe (B zi)), (fun zi => qa_fe (P zi)))) : ∀ n v, v ≤ u → u - v < n → wX_makeMultiple_9 post (nI a) (qa_fe c) (nI u) (nI W) (nI C) (nI w) (nI m) cp hq n (nI v) (fun zi => nI (K zi)) L R (fun zi => qa_fe (x zi)) (fun zi => qa_fe ((qa_row F (u * 32) v (fun v => c * F (a * 32 + v))) zi)) (fun zi => qa_fe (M zi)) (fun zi => qa_fe (pt zi)) (fun zi => qa_fe (B zi)) (fun zi => qa_fe (P zi)) := by
  intro n
  induction n with
  | zero => intros; omega
  | succ n ih =>
    intro v hv hn
    by_cases h1 : v < u
    · have h2 : ¬ u ≤ v := by omega
      have e1 : qa_row F (u * 32) v (fun v => c * F (a * 32 + v)) (a * 32 + v) = F (a * 32 + v) := qa_row_out (by omega)
      have e3 := qa_row_s F (fun v => c * F (a * 32 + v)) (u * 32) v
      simp (disch := omega) only [wX_makeMultiple_9, h2, e1, e3, not_true, not_false_iff, true_implies, false_implies, true_and, and_true, forall_eq, nI_add, nI_1, nI_clamp, nI_leI, nI_ltI, nI_eq, qn_m32, qn_m16, qv_in, qx_mul, qx_add, qx_sub, qa_upd]
      exact ih (v + 1) (by omega) (by omega)
    · obtain rfl : v = u := by omega
      exact br_t (nI_le (Nat.le_refl _) (by omega)) h
theorem qx_mm {post : Int32 → St2 → Prop} {a : Nat} (c : Int) (ha : a < w) (hw : w < 32) (h : post (nI w) ((nI W), (nI C), (nI (w + 1)), (nI m), cp, hq, (fun zi => nI (qa_un K w 4 zi)), L, R, (fun zi => qa_fe (x zi)), (fun zi => qa_fe ((qa_row F (w * 32) w (fun v => c * F (a * 32 + v))) zi)), (fun zi => qa_fe (M zi)), (fun zi => qa_fe (pt zi)), (fun zi => qa_fe (B zi)), (fun zi => qa_fe (P zi)))) : wpX_makeMultiple post ((nI W), (nI C), (nI w), (nI m), cp, hq, (fun zi => nI (K zi)), L, R, (fun zi => qa_fe (x zi)), (fun zi => qa_fe (F zi)), (fun zi => qa_fe (M zi)), (fun zi => qa_fe (pt zi)), (fun zi => qa_fe (B zi)), (fun zi => qa_fe (P zi))) (nI a) (qa_fe c) := by
  unfold wpX_makeMultiple
  refine qx_mw hw 4 ⟨w + 1, ?_⟩
  have := qx_mm9 (post := post) (W := W) (C := C) (w := w + 1) (m := m) (cp := cp) (hq := hq) (K := qa_un K w 4) (L := L) (R := R) (x := x) (F := F) (M := M) (pt := pt) (B := B) (P := P) c ha hw h (w + 1) 0 (by omega) (by omega)
  rw [qa_row_0, nI_0] at this
  exact this
def qx_pM (M F : Nat → Int) (m u a b v : Nat) : Nat → Int := qa_row (qa_row M (qa_mi 0 m 0) v (fun v => F (a * 32 + v))) (qa_mi 1 m 0) v (fun v => F (b * 32 + v))
theorem qx_mp53 {post : Int32 → St2 → Prop} {a b u : Nat} (ha : a < u) (hb : b < u) (hu : u < 32) (hm : m < 16) (h : post (nI u) ((nI W), (nI C), (nI w), (nI (m + 1)), cp, hq, (fun zi => nI (K zi)), L, R, (fun zi => qa_fe (x zi)), (fun zi => qa_fe (F zi)), (fun zi => qa_fe ((qa_uz (qx_pM M F m u a b u) (qa_mi 2 m u) 1) zi)), (fun zi => qa_fe (pt zi)), (fun zi => qa_fe (B zi)), (fun zi => qa_fe (P zi)))) : ∀ n v, v ≤ u → u - v < n → wX_makeProduct_53 post (nI a) (nI b) (nI u) (nI (qa_mi 0 m 0)) (nI (qa_mi 1 m 0)) (nI (qa_mi 2 m 0)) (nI W) (nI C) (nI w) (nI m) cp hq n (nI v) (fun zi => nI (K zi)) L R (fun zi => qa_fe (x zi)) (fun zi => qa_fe (F zi)) (fun zi => qa_fe ((qx_pM M F m u a b v) zi)) (fun zi => qa_fe (pt zi)) (fun zi => qa_fe (B zi)) (fun zi => qa_fe (P zi)) := by
  have m0 : ∀ i, nI (qa_mi 0 m 0) + nI i = nI ((0 * 16 + m) * 32 + i) := fun i => nI_add _ _
  have m1 : ∀ i, nI (qa_mi 1 m 0) + nI i = nI ((1 * 16 + m) * 32 + i) := fun i => nI_add _ _
  have m2 : ∀ i, nI (qa_mi 2 m 0) + nI i = nI ((2 * 16 + m) * 32 + i) := fun i => nI_add _ _
  intro n
  induction n with
  | zero => intros; omega
  | succ n ih =>
    intro v hv hn
    by_cases h1 : v < u
    · refine br_f (nI_ge h1 (by omega)) ?_
      rw [m0, m1, qn_m32, qn_m32, nI_add, nI_add, nI_clamp (by omega), nI_clamp (by omega), nI_clamp (by omega), nI_clamp (by omega)]
      refine ⟨vp_in_nI (by omega) (by omega), vp_in_nI (by omega) (by omega), nm_r (qa_upd _ _ _) ⟨vp_in_nI (by omega) (by omega), vp_in_nI (by omega) (by omega), nm_r ((qa_upd _ _ _).trans ?_) (nm_r (nI_1 v) (ih (v + 1) (by omega) (by omega)))⟩⟩
      congr 1
      funext zi
      congr 1
      have e := qx_row_uo (P := qa_row M (qa_mi 0 m 0) v (fun v => F (a * 32 + v))) (g := fun v => F (b * 32 + v)) (b := qa_mi 1 m 0) (n := v) (k := (0 * 16 + m) * 32 + v) (F (a * 32 + v)) (by unfold qa_mi; omega)
      have e2 := qa_row_s M (fun v => F (a * 32 + v)) (qa_mi 0 m 0) v
      have e3 := qa_row_s (qa_row M (qa_mi 0 m 0) (v + 1) (fun v => F (a * 32 + v))) (fun v => F (b * 32 + v)) (qa_mi 1 m 0) v
      unfold qx_pM
      rw [e]
      rw [show (0 * 16 + m) * 32 + v = qa_mi 0 m 0 + v from rfl, show (1 * 16 + m) * 32 + v = qa_mi 1 m 0 + v from rfl, e2, e3]
    · obtain rfl : v = u := by omega
      refine br_t (nI_le (Nat.le_refl _) (by omega)) ?_
      rw [m2, nI_clamp (by omega), qa_1]
      exact ⟨vp_in_nI (by omega) (by omega), nm_r (qa_upd _ _ _) (nm_r (nI_1 m) h)⟩
theorem qx_mp {post : Int32 → St2 → Prop} {a b : Nat} (ha : a < w) (hb : b < w) (hw : w < 32) (hm : m < 16) (h : post (nI w) ((nI W), (nI C), (nI (w + 1)), (nI (m + 1)), cp, hq, (fun zi => nI (qa_un K w 3 zi)), (upd L w (nI a)), (upd R w (nI b)), (fun zi => qa_fe (x zi)), (fun zi => qa_fe ((qa_uz F (w * 32 + w) 1) zi)), (fun zi => qa_fe ((qa_uz (qx_pM M (qa_uz F (w * 32 + w) 1) m w a b w) (qa_mi 2 m w) 1) zi)), (fun zi => qa_fe (pt zi)), (fun zi => qa_fe (B zi)), (fun zi => qa_fe (P zi)))) : wpX_makeProduct post ((nI W), (nI C), (nI w), (nI m), cp, hq, (fun zi => nI (K zi)), L, R, (fun zi => qa_fe (x zi)), (fun zi => qa_fe (F zi)), (fun zi => qa_fe (M zi)), (fun zi => qa_fe (pt zi)), (fun zi => qa_fe (B zi)), (fun zi => qa_fe (P zi))) (nI a) (nI b) := by
  unfold wpX_makeProduct
  refine qx_mv hw 3 ⟨vp_in_nI hw (by omega), ?_⟩
  rw [nI_clamp (by omega)]
  refine nm_e ⟨vp_in_nI hw (by omega), nm_e ?_⟩
  have r0 : ((0 : Int32) * 16 + nI m) * 32 = nI (qa_mi 0 m 0) := by
    rw [show (0 : Int32) = nI 0 by decide, qn_m16, nI_add, qn_m32]; rfl
  have r1 : ((1 : Int32) * 16 + nI m) * 32 = nI (qa_mi 1 m 0) := by
    rw [show (1 : Int32) = nI 1 by decide, qn_m16, nI_add, qn_m32]; rfl
  have r2 : ((2 : Int32) * 16 + nI m) * 32 = nI (qa_mi 2 m 0) := by
    rw [show (2 : Int32) = nI 2 by decide, qn_m16, nI_add, qn_m32]; rfl
  unfold wpX_matrixRow
  rw [r0, r1, r2]
  refine ⟨w + 1, ?_⟩
  have := qx_mp53 (post := post) (W := W) (C := C) (w := w + 1) (m := m) (cp := cp) (hq := hq) (K := qa_un K w 3) (L := upd L w (nI a)) (R := upd R w (nI b)) (x := x) (F := qa_uz F (w * 32 + w) 1) (M := M) (pt := pt) (B := B) (P := P) ha hb hw hm h (w + 1) 0 (by omega) (by omega)
  unfold qx_pM at this
  rw [qa_row_0, qa_row_0, nI_0] at this
  exact this
theorem qx_ae58 {post : Int32 → St2 → Prop} {a b : Nat} (ha : a < w) (hb : b < w) (hw : w ≤ 32) (hm : m < 16) (h : post (nI m) ((nI W), (nI C), (nI w), (nI (m + 1)), cp, hq, (fun zi => nI (K zi)), L, R, (fun zi => qa_fe (x zi)), (fun zi => qa_fe (F zi)), (fun zi => qa_fe ((qa_uz (qa_row M (qa_mi 0 m 0) w (fun v => F (a * 32 + v) - F (b * 32 + v))) (qa_mi 1 m 0) 1) zi)), (fun zi => qa_fe (pt zi)), (fun zi => qa_fe (B zi)), (fun zi => qa_fe (P zi)))) : ∀ n v, v ≤ w → w - v < n → wX_assertEqual_58 post (nI a) (nI b) (nI m) (nI (qa_mi 0 m 0)) (nI (qa_mi 1 m 0)) (nI W) (nI C) (nI w) (nI m) cp hq n (nI v) (fun zi => nI (K zi)) L R (fun zi => qa_fe (x zi)) (fun zi => qa_fe (F zi)) (fun zi => qa_fe ((qa_row M (qa_mi 0 m 0) v (fun v => F (a * 32 + v) - F (b * 32 + v))) zi)) (fun zi => qa_fe (pt zi)) (fun zi => qa_fe (B zi)) (fun zi => qa_fe (P zi)) := by
  have m0 : ∀ i, nI (qa_mi 0 m 0) + nI i = nI ((0 * 16 + m) * 32 + i) := fun i => nI_add _ _
  intro n
  induction n with
  | zero => intros; omega
  | succ n ih =>
    intro v hv hn
    by_cases h1 : v < w
    · refine br_f (nI_ge h1 (by omega)) ?_
      rw [m0, qn_m32, qn_m32, nI_add, nI_add, nI_clamp (by omega), nI_clamp (by omega), nI_clamp (by omega)]
      refine ⟨vp_in_nI (by omega) (by omega), vp_in_nI (by omega) (by omega), ?_⟩
      rw [qx_sub]
      refine ⟨vp_in_nI (by omega) (by omega), nm_r ((qa_upd _ _ _).trans ?_) (nm_r (nI_1 v) (ih (v + 1) (by omega) (by omega)))⟩
      rw [← qa_row_s M (fun v => F (a * 32 + v) - F (b * 32 + v)) (qa_mi 0 m 0) v]
      rfl
    · obtain rfl : v = w := by omega
      have hr : qa_mi 1 m 0 < 1536 := by unfold qa_mi; omega
      refine br_t (nI_le (Nat.le_refl _) (by omega)) ⟨vp_in_nI hr (by omega), ?_⟩
      rw [nI_clamp (by omega), qa_1]
      exact nm_r (qa_upd _ _ _) (nm_r (nI_1 m) h)
theorem qx_ae {post : Int32 → St2 → Prop} {a b : Nat} (ha : a < w) (hb : b < w) (hw : w ≤ 32) (hm : m < 16) (h : post (nI m) ((nI W), (nI C), (nI w), (nI (m + 1)), cp, hq, (fun zi => nI (K zi)), L, R, (fun zi => qa_fe (x zi)), (fun zi => qa_fe (F zi)), (fun zi => qa_fe ((qa_uz (qa_row M (qa_mi 0 m 0) w (fun v => F (a * 32 + v) - F (b * 32 + v))) (qa_mi 1 m 0) 1) zi)), (fun zi => qa_fe (pt zi)), (fun zi => qa_fe (B zi)), (fun zi => qa_fe (P zi)))) : wpX_matrixRow (fun r_37 => (wpX_matrixRow (fun r_38 => (∃ n58 : Nat, wX_assertEqual_58 post (nI a) (nI b) (nI m) r_37 r_38 (nI W) (nI C) (nI w) (nI m) cp hq n58 0 (fun zi => nI (K zi)) L R (fun zi => qa_fe (x zi)) (fun zi => qa_fe (F zi)) (fun zi => qa_fe (M zi)) (fun zi => qa_fe (pt zi)) (fun zi => qa_fe (B zi)) (fun zi => qa_fe (P zi)))) () 1 (nI m))) () 0 (nI m) := by
  have r0 : ((0 : Int32) * 16 + nI m) * 32 = nI (qa_mi 0 m 0) := by
    rw [show (0 : Int32) = nI 0 by decide, qn_m16, nI_add, qn_m32]; rfl
  have r1 : ((1 : Int32) * 16 + nI m) * 32 = nI (qa_mi 1 m 0) := by
    rw [show (1 : Int32) = nI 1 by decide, qn_m16, nI_add, qn_m32]; rfl
  unfold wpX_matrixRow
  rw [r0, r1]
  refine ⟨w + 1, ?_⟩
  have := qx_ae58 (post := post) (W := W) (C := C) (w := w) (m := m) (cp := cp) (hq := hq) (K := K) (L := L) (R := R) (x := x) (F := F) (M := M) (pt := pt) (B := B) (P := P) ha hb hw hm h (w + 1) 0 (by omega) (by omega)
  rw [qa_row_0, nI_0] at this
  exact this
def qa_ds (pt : Nat → Int) (C j : Nat) (z : Int) : Prop := ∀ k, k < C → k ≠ j → qa_fe (pt k) ≠ qa_fe z
theorem qx_sp29 {post : Int32 → St2 → Prop} (hC : C ≤ 16) {j : Nat} (hj : j < C) (z : Int) (h1 : qa_ds pt C j z → post 1 ((nI W), (nI C), (nI w), (nI m), cp, hq, (fun zi => nI (K zi)), L, R, (fun zi => qa_fe (x zi)), (fun zi => qa_fe (F zi)), (fun zi => qa_fe (M zi)), (fun zi => qa_fe ((qa_uz pt j z) zi)), (fun zi => qa_fe (B zi)), (fun zi => qa_fe (P zi)))) (h0 : ¬ qa_ds pt C j z → post 0 ((nI W), (nI C), (nI w), (nI m), cp, hq, (fun zi => nI (K zi)), L, R, (fun zi => qa_fe (x zi)), (fun zi => qa_fe (F zi)), (fun zi => qa_fe (M zi)), (fun zi => qa_fe (pt zi)), (fun zi => qa_fe (B zi)), (fun zi => qa_fe (P zi)))) : ∀ n k, k ≤ C → C - k < n → (∀ i, i < k → i ≠ j → qa_fe (pt i) ≠ qa_fe z) → wX_setPoint_29 post (nI j) (qa_fe z) (nI W) (nI C) (nI w) (nI m) cp hq (fun zi => nI (K zi)) L R (fun zi => qa_fe (x zi)) (fun zi => qa_fe (F zi)) (fun zi => qa_fe (M zi)) (fun zi => qa_fe (pt zi)) (fun zi => qa_fe (B zi)) (fun zi => qa_fe (P zi)) n (nI k) := by
  intro n
  induction n with
  | zero => intros; omega
  | succ n ih =>
    intro k hk hn hI
    by_cases h2 : k < C
    · refine br_f (nI_ge h2 (by omega)) ?_
      by_cases e : k = j
      · exact br_t (by rw [e]) (nm_r (nI_1 k) (ih (k + 1) (by omega) (by omega) fun i hi hn => hI i (by omega) hn))
      · refine br_f (by rw [nI_eq (by omega) (by omega)]; exact e) ⟨vp_in_nI (by omega) (by omega), ?_⟩
        rw [nI_clamp (by omega)]
        by_cases q : qa_fe (pt k) = qa_fe z
        · exact br_t q (h0 fun y => y k h2 e q)
        · refine br_f q (nm_r (nI_1 k) (ih (k + 1) (by omega) (by omega) fun i hi hn => ?_))
          by_cases y : i = k
          · rw [y]; exact q
          · exact hI i (by omega) hn
    · obtain rfl : k = C := by omega
      refine br_t (nI_le (Nat.le_refl _) (by omega)) ⟨vp_in_nI (by omega) (by omega), ?_⟩
      rw [nI_clamp (by omega)]
      exact nm_r (qa_upd _ _ _) (h1 hI)
theorem qx_wc {post : St2 → Prop} {x0 : Nat → Int} (hw : w ≤ 32) (hm : m ≤ 16) (hQ : qi_q cp w m M x0 pt B P) (h : ∀ P' : Nat → Int, qi_q cp w m M x pt B P' → post ((nI W), (nI C), (nI w), (nI m), cp, 0, (fun zi => nI (K zi)), L, R, (fun zi => qa_fe (x zi)), (fun zi => qa_fe (F zi)), (fun zi => qa_fe (M zi)), (fun zi => qa_fe (pt zi)), (fun zi => qa_fe (B zi)), (fun zi => qa_fe (P' zi)))) : wpX_witnessChanged post ((nI W), (nI C), (nI w), (nI m), cp, hq, (fun zi => nI (K zi)), L, R, (fun zi => qa_fe (x zi)), (fun zi => qa_fe (F zi)), (fun zi => qa_fe (M zi)), (fun zi => qa_fe (pt zi)), (fun zi => qa_fe (B zi)), (fun zi => qa_fe (P zi))) := by
  unfold wpX_witnessChanged
  rcases hQ with ⟨rfl, z⟩ | ⟨rfl, m0, q1, q2, q3, q4, q5⟩
  · exact br_t rfl (h P (Or.inl ⟨rfl, z⟩))
  · refine br_f (by decide) ?_
    refine qx_rf hw hm q1 (fun t k ht h1 h2 => by rw [q3 t k ht h2, if_neg (by omega)]) fun P' p1 p2 p3 p4 => ?_
    exact h P' (Or.inr ⟨rfl, m0, q1, fun k hk => by rw [p1 _ (by omega) (by omega), q2 k hk], p3, p4, fun k h1 h2 => by rw [p2 _ (by omega), q5 k h1 h2]⟩)
theorem qx_iw {post : Int32 → Prop} {j : Nat} (hw : w ≤ 32) (hj : j < w) (h : post 1) : wpX_isWire post ((nI W), (nI C), (nI w), (nI m), cp, hq, (fun zi => nI (K zi)), L, R, (fun zi => qa_fe (x zi)), (fun zi => qa_fe (F zi)), (fun zi => qa_fe (M zi)), (fun zi => qa_fe (pt zi)), (fun zi => qa_fe (B zi)), (fun zi => qa_fe (P zi))) (nI j) := by
  unfold wpX_isWire
  exact br_f (nI_pos (by omega)) (br_f (nI_ge hj (by omega)) h)
theorem qx_nw1 {post : Int32 → Prop} {p : Int32} (hp : p < 0) (h : post 0) : wpX_isWire post ((nI W), (nI C), (nI w), (nI m), cp, hq, (fun zi => nI (K zi)), L, R, (fun zi => qa_fe (x zi)), (fun zi => qa_fe (F zi)), (fun zi => qa_fe (M zi)), (fun zi => qa_fe (pt zi)), (fun zi => qa_fe (B zi)), (fun zi => qa_fe (P zi))) p := by
  unfold wpX_isWire
  exact br_t hp h
theorem qm_ge {p : Int32} {n : Nat} (hn : n < 2 ^ 31) (h : nI n ≤ p) : ¬ p < 0 ∧ ¬ p < nI n :=
  ⟨Int32.not_lt.mpr (Int32.le_trans (nI_pos' hn) h), Int32.not_lt.mpr h⟩
theorem qx_nw2 {post : Int32 → Prop} {p : Int32} (hw : w ≤ 32) (hp : nI w ≤ p) (h : post 0) : wpX_isWire post ((nI W), (nI C), (nI w), (nI m), cp, hq, (fun zi => nI (K zi)), L, R, (fun zi => qa_fe (x zi)), (fun zi => qa_fe (F zi)), (fun zi => qa_fe (M zi)), (fun zi => qa_fe (pt zi)), (fun zi => qa_fe (B zi)), (fun zi => qa_fe (P zi))) p := by
  unfold wpX_isWire
  exact br_f (qm_ge (by omega) hp).1 (br_t hp h)
theorem qx_nw {post : Int32 → Prop} {p : Int32} (hw : w ≤ 32) (hp : p < 0 ∨ nI w ≤ p) (h : post 0) : wpX_isWire post ((nI W), (nI C), (nI w), (nI m), cp, hq, (fun zi => nI (K zi)), L, R, (fun zi => qa_fe (x zi)), (fun zi => qa_fe (F zi)), (fun zi => qa_fe (M zi)), (fun zi => qa_fe (pt zi)), (fun zi => qa_fe (B zi)), (fun zi => qa_fe (P zi))) p :=
  hp.elim (fun z => qx_nw1 z h) (fun z => qx_nw2 hw z h)
end QX
end
section
theorem qs_hd (f : Nat → Int) (n : Nat) : qa_sm f (n + 1) = f 0 + qa_sm (fun i => f (i + 1)) n := by
  induction n with
  | zero => simp only [qa_sm]; omega
  | succ n ih => rw [qa_sm, ih, qa_sm]; omega
theorem qs_add (f g : Nat → Int) (n : Nat) : qa_sm (fun i => f i + g i) n = qa_sm f n + qa_sm g n := by
  induction n with
  | zero => rfl
  | succ n ih => rw [qa_sm, ih, qa_sm, qa_sm]; omega
theorem qs_sub (f g : Nat → Int) (n : Nat) : qa_sm (fun i => f i - g i) n = qa_sm f n - qa_sm g n := by
  induction n with
  | zero => rfl
  | succ n ih => rw [qa_sm, ih, qa_sm, qa_sm]; omega
theorem qs_mul (c : Int) (f : Nat → Int) (n : Nat) : qa_sm (fun i => c * f i) n = c * qa_sm f n := by
  induction n with
  | zero => simp only [qa_sm]; omega
  | succ n ih => rw [qa_sm, ih, qa_sm, Int.mul_add]
theorem qs_mulr (c : Int) (f : Nat → Int) (n : Nat) : qa_sm (fun i => f i * c) n = qa_sm f n * c := by
  induction n with
  | zero => simp only [qa_sm]; omega
  | succ n ih => rw [qa_sm, ih, qa_sm, Int.add_mul]
theorem qs_swap (f : Nat → Nat → Int) (n m : Nat) : qa_sm (fun i => qa_sm (fun j => f i j) m) n = qa_sm (fun j => qa_sm (fun i => f i j) n) m := by
  induction n with
  | zero => exact (qa_sm_0 fun _ _ => rfl).symm
  | succ n ih => rw [qa_sm, ih, ← qs_add]; rfl
theorem qs_one {f : Nat → Int} {n j : Nat} (hj : j < n) (h : ∀ i, i < n → i ≠ j → f i = 0) : qa_sm f n = f j := by
  induction n with
  | zero => omega
  | succ n ih =>
    rw [qa_sm]
    by_cases e : j = n
    · subst e
      rw [qa_sm_0 fun i hi => h i (by omega) (by omega)]
      omega
    · rw [ih (by omega) (fun i hi hn => h i (by omega) hn), h n (by omega) (by omega)]
      omega
theorem qs_ext {f : Nat → Int} {n m : Nat} (h : n ≤ m) (h0 : ∀ i, n ≤ i → i < m → f i = 0) : qa_sm f m = qa_sm f n := by
  induction m with
  | zero => rw [show n = 0 by omega]
  | succ m ih =>
    by_cases e : n = m + 1
    · rw [e]
    · rw [qa_sm, ih (by omega) (fun i h1 h2 => h0 i h1 (by omega)), h0 m (by omega) (by omega)]
      omega
def qe_v (f : Nat → Int) (x : Int) (n : Nat) : Int := qa_sm (fun k => f k * x ^ k) n
theorem qe_ho (f : Nat → Int) (x : Int) : ∀ n k, qa_ho f x n k = qa_sm (fun i => f (k + i) * x ^ i) n := by
  intro n
  induction n with
  | zero => intro k; rfl
  | succ n ih =>
    intro k
    rw [qa_ho_s, ih (k + 1), qs_hd, ← qs_mulr, Int.add_comm]
    congr 1
    · rw [Nat.add_zero, Int.pow_zero, Int.mul_one]
    · refine qa_sm_c fun i _ => ?_
      rw [show k + 1 + i = k + (i + 1) by omega, Int.pow_succ, Int.mul_assoc]
theorem qe_ho0 (f : Nat → Int) (x : Int) (n : Nat) : qa_ho f x n 0 = qe_v f x n := by
  rw [qe_ho]
  exact qa_sm_c fun i _ => by rw [Nat.zero_add]
theorem qe_zroot (pt : Nat → Int) {n i : Nat} (h : i < n) : qa_ho (qa_zp pt n) (pt i) (n + 1) 0 = 0 := by
  obtain ⟨t, rfl⟩ : ∃ t, n = t + 1 := ⟨n - 1, by omega⟩
  rw [qa_np_hi pt h, qa_ho_lin _ _ t (qa_np_deg pt h), Int.sub_self, Int.zero_mul]
theorem qe_nroot (pt : Nat → Int) {j i : Nat} (hij : i ≠ j) : ∀ n, j < n → i < n → qa_ho (qa_np pt j n) (pt i) n 0 = 0 := by
  intro n
  induction n with
  | zero => omega
  | succ n ih =>
    intro hj hi
    by_cases e : n = j
    · subst e
      rw [qa_np_e, qa_np_lo pt (Nat.le_refl n)]
      exact qe_zroot pt (by omega)
    · obtain ⟨t, rfl⟩ : ∃ t, n = t + 1 := ⟨n - 1, by omega⟩
      rw [qa_np_s pt e, qa_ho_lin _ _ t (qa_np_deg pt (by omega))]
      by_cases q : i = t + 1
      · rw [q, Int.sub_self, Int.zero_mul]
      · rw [ih (by omega) (by omega), Int.mul_zero]
def qe_e : Nat → Nat
  | 0 => 0
  | n + 1 => if (((2147483645 : Int32) >>> (nI n &&& 31)) &&& 1) = 1 then qe_e n + 2 ^ n else qe_e n
theorem qe_e31 : qe_e 31 + 2 = 2147483647 := by decide +kernel
theorem qe_pw (a : Int) : ∀ n, (qa_pw a n).1 = a ^ (qe_e n) ∧ (qa_pw a n).2 = a ^ (2 ^ n) := by
  intro n
  induction n with
  | zero => exact ⟨by rw [qe_e, Int.pow_zero]; rfl, by rw [Nat.pow_zero, Int.pow_one]; rfl⟩
  | succ n ih =>
    rw [qa_pw, qe_e]
    refine ⟨?_, ?_⟩
    · by_cases h : (((2147483645 : Int32) >>> (nI n &&& 31)) &&& 1) = 1
      · rw [if_pos h, if_pos h, ih.1, ih.2, Int.pow_add]
      · rw [if_neg h, if_neg h, ih.1]
    · show (qa_pw a n).2 * (qa_pw a n).2 = _
      rw [ih.2, ← Int.pow_add, Nat.pow_succ]
      congr 1
      omega
theorem qe_dom {a b : Int} (h : a * b % 2147483647 = 0) (ha : a % 2147483647 ≠ 0) : b % 2147483647 = 0 := qf_dom qf_p h ha
theorem qe_iv {a : Int} (ha : a % 2147483647 ≠ 0) : a * qa_iv a % 2147483647 = 1 := by
  unfold qa_iv
  rw [(qe_pw a 31).1]
  exact qf_unit qf_p qe_e31 ha
theorem qe_dn {pt : Nat → Int} {j m : Nat} (hd : ∀ i, i < m → i ≠ j → (pt j - pt i) % 2147483647 ≠ 0) : ∀ n, n ≤ m → qa_dn pt j n % 2147483647 ≠ 0 := by
  intro n
  induction n with
  | zero => intro _; rw [qa_dn]; decide
  | succ n ih =>
    intro hn
    by_cases e : n = j
    · subst e
      rw [qa_dn_e]
      exact ih (by omega)
    · rw [qa_dn_s pt e]
      intro h
      exact hd n (by omega) e (qe_dom h (ih (by omega)))
theorem qe_pz {M x pt : Nat → Int} {w m t j : Nat} (hd : ∀ i j, i < m → j < m → i ≠ j → (pt i - pt j) % 2147483647 ≠ 0) (hj : j < m) : qa_ho (qa_pz M x pt w m t) (pt j) m 0 % 2147483647 = qa_rv M x w t j % 2147483647 := by
  have e1 : qa_ho (qa_pz M x pt w m t) (pt j) m 0 = qa_sm (fun i => qa_rv M x w t i * qa_iv (qa_dn pt i m) * qa_ho (qa_np pt i m) (pt j) m 0) m := by
    rw [qe_ho0]
    unfold qe_v
    have e2 : ∀ k, k < m → qa_pz M x pt w m t k * pt j ^ k = qa_sm (fun i => qa_rv M x w t i * qa_iv (qa_dn pt i m) * (qa_np pt i m k * pt j ^ k)) m := by
      intro k _
      unfold qa_pz
      rw [← qs_mulr]
      refine qa_sm_c fun i _ => ?_
      unfold qa_bs
      grind
    rw [qa_sm_c e2, qs_swap (fun k i => qa_rv M x w t i * qa_iv (qa_dn pt i m) * (qa_np pt i m k * pt j ^ k))]
    refine qa_sm_c fun i _ => ?_
    rw [qs_mul, qe_ho0]
    rfl
  rw [e1, qs_one hj (fun i hi hn => by rw [qe_nroot pt (fun q => hn q.symm) m hi hj, Int.mul_zero]), qa_np_val pt hj]
  have u := qe_iv (qe_dn (fun i hi hn => hd j i hj hi (fun q => hn q.symm)) m (Nat.le_refl m))
  generalize qa_dn pt j m = d at u
  have e3 : qa_rv M x w t j * qa_iv d * d = qa_rv M x w t j * (d * qa_iv d) := by grind
  rw [e3, Int.mul_emod, u, Int.mul_one, Int.emod_emod]
theorem qe_c2 (A B : Nat → Int) (x : Int) (a l n : Nat) (h : a + l ≤ n) : qe_v (qa_c2 A B a l) x n = A a * x ^ a * qe_v B x l := by
  unfold qe_v
  have e : ∀ t, t < n → qa_c2 A B a l t * x ^ t = qa_sm (fun b => (if a + b = t then A a * B b else 0) * x ^ t) l := by
    intro t _
    unfold qa_c2
    rw [← qs_mulr]
  rw [qa_sm_c e, qs_swap (fun t b => (if a + b = t then A a * B b else 0) * x ^ t), ← qs_mul]
  refine qa_sm_c fun b hb => ?_
  rw [qs_one (j := a + b) (by omega) (fun t _ ht => by rw [if_neg (fun q => ht q.symm), Int.zero_mul]), if_pos rfl, Int.pow_add]
  grind
theorem qe_c1 (A B : Nat → Int) (x : Int) (l i n : Nat) (h : i + l ≤ n + 1) : qe_v (qa_c1 A B l i) x n = qe_v A x i * qe_v B x l := by
  have e : ∀ t, t < n → qa_c1 A B l i t * x ^ t = qa_sm (fun a => qa_c2 A B a l t * x ^ t) i := by
    intro t _
    unfold qa_c1
    rw [← qs_mulr]
  unfold qe_v
  rw [qa_sm_c e, qs_swap (fun t a => qa_c2 A B a l t * x ^ t), ← qs_mulr]
  refine qa_sm_c fun a ha => ?_
  exact qe_c2 A B x a l n (by omega)
theorem qe_zpm (pt : Nat → Int) : ∀ n, qa_zp pt n n = 1 := by
  intro n
  induction n with
  | zero => rfl
  | succ n ih => rw [qa_zp, qa_linS, ih, qa_zp_deg pt n (n + 1) (Nat.le_refl _), Int.mul_zero]; rfl
def qe_d (Z H : Nat → Int) (m i t : Nat) : Int := if i ≤ t ∧ t ≤ i + m then H i * Z (t - i) else 0
theorem qe_rm (Z g : Nat → Int) {m : Nat} : ∀ s, s + 1 ≤ m → ∀ t, qa_rm Z g m s t + qa_sm (fun i => qe_d Z (qa_hh Z g m) m (m - 1 - s + i) t) s = g t := by
  intro s
  induction s with
  | zero => intro _ t; exact Int.add_zero _
  | succ s ih =>
    intro hs t
    have h := ih (by omega) t
    rw [qs_hd, qa_rm]
    have e : ∀ i, i < s → qe_d Z (qa_hh Z g m) m (m - 1 - (s + 1) + (i + 1)) t = qe_d Z (qa_hh Z g m) m (m - 1 - s + i) t := by
      intro i _
      rw [show m - 1 - (s + 1) + (i + 1) = m - 1 - s + i by omega]
    rw [qa_sm_c e, ← h]
    have eh : qa_rm Z g m s (m - 2 - s + m) = qa_hh Z g m (m - 2 - s) := by
      unfold qa_hh
      rw [if_pos (by omega), show m - 2 - (m - 2 - s) = s by omega]
    rw [eh, show m - 1 - (s + 1) + 0 = m - 2 - s by omega]
    unfold qa_dst qe_d
    by_cases q : m - 2 - s ≤ t ∧ t < m - 2 - s + (m + 1)
    · rw [if_pos q, if_pos (by omega)]
      omega
    · rw [if_neg q, if_neg (by omega)]
      omega
theorem qe_hi (pt g : Nat → Int) {m : Nat} (hg : ∀ t, 2 * m ≤ t + 1 → g t = 0) : ∀ s, s + 1 ≤ m → ∀ t, 2 * m ≤ t + 1 + s → qa_rm (qa_zp pt m) g m s t = 0 := by
  intro s
  induction s with
  | zero => intro _ t ht; exact hg t (by omega)
  | succ s ih =>
    intro hs t ht
    rw [qa_rm]
    unfold qa_dst
    by_cases q : 2 * m ≤ t + 1 + s
    · rw [if_neg (by omega)]
      exact ih (by omega) t q
    · have et : t = m - 2 - s + m := by omega
      rw [if_pos (by omega), show t - (m - 2 - s) = m by omega, qe_zpm, ← et]
      omega
theorem qe_div (pt g : Nat → Int) {m : Nat} (hm : 0 < m) (t : Nat) : qa_rr (qa_zp pt m) g m t + qa_sm (fun i => qe_d (qa_zp pt m) (qa_hh (qa_zp pt m) g m) m i t) (m - 1) = g t := by
  have := qe_rm (qa_zp pt m) g (m := m) (m - 1) (by omega) t
  rw [show m - 1 - (m - 1) = 0 by omega] at this
  have e : ∀ i, i < m - 1 → qe_d (qa_zp pt m) (qa_hh (qa_zp pt m) g m) m (0 + i) t = qe_d (qa_zp pt m) (qa_hh (qa_zp pt m) g m) m i t := fun i _ => by rw [Nat.zero_add]
  rw [qa_sm_c e] at this
  exact this
theorem qe_rr0 (pt g : Nat → Int) {m : Nat} (hm : 0 < m) (hg : ∀ t, 2 * m ≤ t + 1 → g t = 0) {t : Nat} (ht : m ≤ t) : qa_rr (qa_zp pt m) g m t = 0 := qe_hi pt g hg (m - 1) (by omega) t (by omega)
theorem qe_hh0 (Z g : Nat → Int) {m i : Nat} (h : m ≤ i + 1) : qa_hh Z g m i = 0 := if_neg (by omega)
theorem qe_dc (Z H : Nat → Int) (m i t : Nat) : qe_d Z H m i t = qa_c2 H Z i (m + 1) t := by
  unfold qe_d qa_c2
  by_cases q : i ≤ t ∧ t ≤ i + m
  · rw [if_pos q, qs_one (j := t - i) (by omega) (fun b _ hb => if_neg (by omega)), if_pos (by omega)]
  · rw [if_neg q]
    exact (qa_sm_0 fun b hb => if_neg (by omega)).symm
theorem qe_id (pt g : Nat → Int) {m : Nat} (hm : 0 < m) (hg : ∀ t, 2 * m ≤ t + 1 → g t = 0) (x : Int) : qe_v g x (2 * m - 1) = qe_v (qa_hh (qa_zp pt m) g m) x m * qe_v (qa_zp pt m) x (m + 1) + qe_v (qa_rr (qa_zp pt m) g m) x m := by
  have e1 : qe_v g x (2 * m - 1) = qe_v (qa_rr (qa_zp pt m) g m) x (2 * m - 1) + qe_v (qa_c1 (qa_hh (qa_zp pt m) g m) (qa_zp pt m) (m + 1) (m - 1)) x (2 * m - 1) := by
    unfold qe_v
    rw [← qs_add]
    refine qa_sm_c fun t _ => ?_
    rw [← Int.add_mul]
    congr 1
    rw [← qe_div pt g hm t]
    congr 1
    unfold qa_c1
    exact qa_sm_c fun i _ => qe_dc _ _ _ _ _
  have e2 : qe_v (qa_rr (qa_zp pt m) g m) x (2 * m - 1) = qe_v (qa_rr (qa_zp pt m) g m) x m := qs_ext (by omega) (fun i h1 _ => by rw [qe_rr0 pt g hm hg h1, Int.zero_mul])
  have e3 : qe_v (qa_hh (qa_zp pt m) g m) x m = qe_v (qa_hh (qa_zp pt m) g m) x (m - 1) := qs_ext (by omega) (fun i h1 _ => by rw [qe_hh0 _ _ (by omega), Int.zero_mul])
  rw [e1, e2, qe_c1 _ _ _ _ _ _ (by omega), e3, Int.add_comm]
theorem qe_pp {M x pt : Nat → Int} {w m : Nat} (hm : 0 < m) (y : Int) : qe_v (qa_pp M x pt w m) y (2 * m - 1) = qe_v (qa_pz M x pt w m 0) y m * qe_v (qa_pz M x pt w m 1) y m - qe_v (qa_pz M x pt w m 2) y m := by
  have e1 : qe_v (qa_pp M x pt w m) y (2 * m - 1) = qe_v (qa_c1 (qa_pz M x pt w m 0) (qa_pz M x pt w m 1) m m) y (2 * m - 1) - qe_v (fun k => if k < m then qa_pz M x pt w m 2 k else 0) y (2 * m - 1) := by
    unfold qe_v
    rw [← qs_sub]
    refine qa_sm_c fun t _ => ?_
    rw [← Int.sub_mul]
    rfl
  have e2 : qe_v (fun k => if k < m then qa_pz M x pt w m 2 k else 0) y (2 * m - 1) = qe_v (qa_pz M x pt w m 2) y m := by
    unfold qe_v
    rw [qs_ext (n := m) (by omega) (fun i h1 _ => by dsimp only; rw [if_neg (by omega), Int.zero_mul])]
    exact qa_sm_c fun i hi => by dsimp only; rw [if_pos hi]
  rw [e1, e2, qe_c1 _ _ _ _ _ _ (by omega)]
theorem qe_rpt {M x pt : Nat → Int} {w m j : Nat} (hm : 0 < m) (hd : ∀ i j, i < m → j < m → i ≠ j → (pt i - pt j) % 2147483647 ≠ 0) (hj : j < m) : qe_v (qa_rr (qa_zp pt m) (qa_pp M x pt w m) m) (pt j) m % 2147483647 = (qa_rv M x w 0 j * qa_rv M x w 1 j - qa_rv M x w 2 j) % 2147483647 := by
  have e1 := qe_id pt (qa_pp M x pt w m) hm (fun t ht => qa_pp_0 M x pt w m t ht hm) (pt j)
  have ez := qe_zroot pt hj
  rw [qe_ho0] at ez
  rw [ez, Int.mul_zero, Int.zero_add, qe_pp hm] at e1
  rw [← e1]
  have a0 := qe_pz (M := M) (x := x) (w := w) (t := 0) hd hj
  have a1 := qe_pz (M := M) (x := x) (w := w) (t := 1) hd hj
  have a2 := qe_pz (M := M) (x := x) (w := w) (t := 2) hd hj
  rw [qe_ho0] at a0 a1 a2
  rw [Int.sub_emod, Int.mul_emod, a0, a1, a2, ← Int.mul_emod, ← Int.sub_emod]
theorem qe_sat {M x pt : Nat → Int} {w m : Nat} (hm : 0 < m) (hd : ∀ i j, i < m → j < m → i ≠ j → (pt i - pt j) % 2147483647 ≠ 0) : qa_sat M x w m ↔ ∀ k, k < m → qa_fe (qa_rr (qa_zp pt m) (qa_pp M x pt w m) m k) = 0 := by
  have f0 : ∀ z : Int, qa_fe z = 0 ↔ z % 2147483647 = 0 := fun z => by
    rw [qa_0, qa_feq]
    omega
  have s0 : qa_sat M x w m ↔ ∀ j, j < m → qe_v (qa_rr (qa_zp pt m) (qa_pp M x pt w m) m) (pt j) m % 2147483647 = 0 := by
    refine ⟨fun h j hj => ?_, fun h j hj => ?_⟩
    · rw [qe_rpt hm hd hj]
      have := qa_feq.mp (h j hj)
      omega
    · have := h j hj
      rw [qe_rpt hm hd hj] at this
      apply qa_cong
      omega
  rw [s0]
  refine ⟨fun h k hk => ?_, fun h j hj => ?_⟩
  · rw [f0]
    exact qf_root qf_p m (qa_rr (qa_zp pt m) (qa_pp M x pt w m) m) pt (fun k hk => qe_rr0 pt _ hm (fun t ht => qa_pp_0 M x pt w m t ht hm) hk) (fun i j h1 h2 => hd i j (by omega) h2 (by omega)) (fun j hj => by rw [qe_ho0]; exact h j hj) k hk
  · unfold qe_v
    have : ∀ n, n ≤ m → qa_sm (fun k => qa_rr (qa_zp pt m) (qa_pp M x pt w m) m k * pt j ^ k) n % 2147483647 = 0 := by
      intro n
      induction n with
      | zero => intro _; rfl
      | succ n ih =>
        intro hn
        rw [qa_sm, Int.add_emod, ih (by omega), Int.mul_emod, (f0 _).mp (h n (by omega)), Int.zero_mul]
        rfl
    exact this m (Nat.le_refl m)
theorem qe_cert {M x pt : Nat → Int} {w m : Nat} (hm : 0 < m) (h : ∀ k, k < m → qa_fe (qa_rr (qa_zp pt m) (qa_pp M x pt w m) m k) = 0) (y : Int) : qe_v (qa_pp M x pt w m) y (2 * m - 1) % 2147483647 = qe_v (qa_hh (qa_zp pt m) (qa_pp M x pt w m) m) y m * qe_v (qa_zp pt m) y (m + 1) % 2147483647 := by
  have f0 : ∀ z : Int, qa_fe z = 0 ↔ z % 2147483647 = 0 := fun z => by
    rw [qa_0, qa_feq]
    omega
  rw [qe_id pt (qa_pp M x pt w m) hm (fun t ht => qa_pp_0 M x pt w m t ht hm) y]
  have : ∀ n, n ≤ m → qa_sm (fun k => qa_rr (qa_zp pt m) (qa_pp M x pt w m) m k * y ^ k) n % 2147483647 = 0 := by
    intro n
    induction n with
    | zero => intro _; rfl
    | succ n ih =>
      intro hn
      rw [qa_sm, Int.add_emod, ih (by omega), Int.mul_emod, (f0 _).mp (h n (by omega)), Int.zero_mul]
      rfl
  have h0 : qe_v (qa_rr (qa_zp pt m) (qa_pp M x pt w m) m) y m % 2147483647 = 0 := this m (Nat.le_refl m)
  generalize qe_v (qa_rr (qa_zp pt m) (qa_pp M x pt w m) m) y m = r at h0
  generalize qe_v (qa_hh (qa_zp pt m) (qa_pp M x pt w m) m) y m * qe_v (qa_zp pt m) y (m + 1) = q
  omega
end
section
def qj_h (cp hq : Int32) (w m : Nat) (M x pt P : Nat → Int) : Prop := hq = 0 ∨ (hq = 1 ∧ cp = 1 ∧ ∀ k, k < 32 → P (160 + k) = qa_hh (qa_zp pt m) (qa_pp M x pt w m) m k ∧ P (192 + k) = qa_rr (qa_zp pt m) (qa_pp M x pt w m) m k)
def qj_k (w : Nat) (K : Nat → Nat) (L R : Nat → Int32) : Prop := (∀ i, i < w → K i < 5) ∧ (∀ i, i < w → K i = 3 → ∃ a b, a < 32 ∧ b < 32 ∧ L i = nI a ∧ R i = nI b)
def qj_d (pt : Nat → Int) : Prop := ∀ i j, i < 8 → j < 8 → i ≠ j → qa_fe (pt i) ≠ qa_fe (pt j)
def qj_p (w m : Nat) (cp hq : Int32) (K : Nat → Nat) (L R : Nat → Int32) (x M pt B P : Nat → Int) : Prop := 1 ≤ w ∧ w ≤ 16 ∧ m ≤ 8 ∧ qj_k w K L R ∧ qj_d pt ∧ qi_q cp w m M x pt B P ∧ qj_h cp hq w m M x pt P
def qj_I (u : St2) : Prop := ∃ (w m : Nat) (cp hq : Int32) (K : Nat → Nat) (L R : Nat → Int32) (x F M pt B P : Nat → Int), u = ((nI 16), (nI 8), (nI w), (nI m), cp, hq, (fun zi => nI (K zi)), L, R, (fun zi => qa_fe (x zi)), (fun zi => qa_fe (F zi)), (fun zi => qa_fe (M zi)), (fun zi => qa_fe (pt zi)), (fun zi => qa_fe (B zi)), (fun zi => qa_fe (P zi))) ∧ qj_p w m cp hq K L R x M pt B P
section QJ
variable {w m : Nat} {cp hq : Int32} {K : Nat → Nat} {L R : Nat → Int32} {x F M pt B P : Nat → Int}
theorem qj_mk (h : qj_p w m cp hq K L R x M pt B P) : qj_I ((nI 16), (nI 8), (nI w), (nI m), cp, hq, (fun zi => nI (K zi)), L, R, (fun zi => qa_fe (x zi)), (fun zi => qa_fe (F zi)), (fun zi => qa_fe (M zi)), (fun zi => qa_fe (pt zi)), (fun zi => qa_fe (B zi)), (fun zi => qa_fe (P zi))) := ⟨w, m, cp, hq, K, L, R, x, F, M, pt, B, P, rfl, h⟩
theorem qi_cp (hQ : qi_q cp w m M x pt B P) : cp = 0 ∨ cp = 1 := hQ.elim (fun z => Or.inl z.1) (fun z => Or.inr z.1)
theorem qi_q0 {w' m' : Nat} {M' x' pt' B' : Nat → Int} (hQ : qi_q 0 w m M x pt B P) : qi_q 0 w' m' M' x' pt' B' P := hQ.elim (fun z => Or.inl z) (fun z => absurd z.1 (by decide))
theorem qj_h0 {w' m' : Nat} {M' x' pt' P' : Nat → Int} (hH : qj_h 0 hq w m M x pt P) : qj_h 0 hq w' m' M' x' pt' P' := hH.elim (fun z => Or.inl z) (fun z => absurd z.2.1 (by decide))
theorem qj_ks (hk : qj_k w K L R) (kd : Nat) (h5 : kd < 5) {L' R' : Nat → Int32} (hL : ∀ i, i < w → L' i = L i) (hR : ∀ i, i < w → R' i = R i) (h3 : kd = 3 → ∃ a b, a < 32 ∧ b < 32 ∧ L' w = nI a ∧ R' w = nI b) : qj_k (w + 1) (qa_un K w kd) L' R' := by
  refine ⟨fun i hi => ?_, fun i hi e => ?_⟩
  · by_cases q : i = w
    · rw [q, qa_uns]; exact h5
    · rw [qa_unn q]; exact hk.1 i (by omega)
  · by_cases q : i = w
    · rw [q, qa_uns] at e
      rw [q]
      exact h3 e
    · rw [qa_unn q] at e
      rw [hL i (by omega), hR i (by omega)]
      exact hk.2 i (by omega) e
theorem qj_addInput {post : Int32 → St2 → Prop} {u : St2} (I : qj_I u) (h : ∀ r u', qj_I u' → post r u') : wpX_addInput post u := by
  obtain ⟨w, m, cp, hq, K, L, R, x, F, M, pt, B, P, rfl, I⟩ := I
  have s := qj_mk (F := F) I
  obtain ⟨n1, n2, n3, hk, hd, hQ, hH⟩ := I
  rcases qi_cp hQ with rfl | rfl
  · by_cases e : w = 16
    · subst e
      exact br_t rfl (br_t rfl (h _ _ s))
    · refine br_t rfl (br_f (by rw [nI_eq (by omega) (by omega)]; exact e) (qx_mv (by omega) 1 (h _ _ ?_)))
      exact qj_mk ⟨by omega, by omega, n3, qj_ks hk 1 (by omega) (fun _ _ => rfl) (fun _ _ => rfl) (fun e => absurd e (by omega)), hd, qi_q0 hQ, qj_h0 hH⟩
  · exact br_f (by decide) (h _ _ s)
theorem qj_addGate {post : Int32 → St2 → Prop} {u : St2} (I : qj_I u) (v1 v2 v3 : Int32) (h : ∀ r u', qj_I u' → post r u') : wpX_addGate post u v1 v2 v3 := by
  obtain ⟨w, m, cp, hq, K, L, R, x, F, M, pt, B, P, rfl, I⟩ := I
  have s := qj_mk (F := F) I
  obtain ⟨n1, n2, n3, hk, hd, hQ, hH⟩ := I
  unfold wpX_addGate
  rcases qi_cp hQ with rfl | rfl
  · refine br_t rfl ?_
    by_cases hv : v1 = 2 ∨ v1 = 3 ∨ v1 = 4
    · have gk : ∀ post : Int32 → Prop, post 1 → wpX_isGateKind post () v1 := by
        intro post h
        rcases hv with e | e | e
        · exact br_t e h
        · exact br_f (by rw [e]; decide) (br_t e h)
        · exact br_f (by rw [e]; decide) (br_f (by rw [e]; decide) (br_t e h))
      refine gk _ (br_f (by decide) ?_)
      rcases pk_ix v2 (n := w) (by omega) with z | z | ⟨a, ha, rfl⟩
      · exact qx_nw (by omega) (Or.inl z) (br_t rfl (h _ _ s))
      · exact qx_nw (by omega) (Or.inr z) (br_t rfl (h _ _ s))
      · refine qx_iw (by omega) ha (br_f (by decide) ?_)
        by_cases g4 : v1 = 4
        · subst g4
          refine br_t rfl ?_
          by_cases e : w = 16
          · subst e
            exact br_t rfl (h _ _ s)
          · refine br_f (by rw [nI_eq (by omega) (by omega)]; exact e) (br_f (by decide) (br_f (by decide) (br_f (by decide) ?_)))
            rw [qx_red]
            refine qx_mm _ ha (by omega) (h _ _ ?_)
            exact qj_mk ⟨by omega, by omega, n3, qj_ks hk 4 (by omega) (fun _ _ => rfl) (fun _ _ => rfl) (fun e => absurd e (by omega)), hd, qi_q0 hQ, qj_h0 hH⟩
        · refine br_f g4 ?_
          rcases pk_ix v3 (n := w) (by omega) with z | z | ⟨b, hb, rfl⟩
          · exact qx_nw (by omega) (Or.inl z) (br_t rfl (h _ _ s))
          · exact qx_nw (by omega) (Or.inr z) (br_t rfl (h _ _ s))
          · refine qx_iw (by omega) hb (br_f (by decide) ?_)
            by_cases e : w = 16
            · subst e
              exact br_t rfl (h _ _ s)
            · refine br_f (by rw [nI_eq (by omega) (by omega)]; exact e) ?_
              by_cases g3 : v1 = 3
              · subst g3
                refine br_t rfl ?_
                by_cases em : m = 8
                · subst em
                  exact br_t rfl (h _ _ s)
                · refine br_f (by rw [nI_eq (by omega) (by omega)]; exact em) (br_t rfl (qx_mp ha hb (by omega) (by omega) (h _ _ ?_)))
                  exact qj_mk ⟨by omega, by omega, by omega, qj_ks hk 3 (by omega) (fun i hi => pk_un (by omega)) (fun i hi => pk_un (by omega)) (fun _ => ⟨a, b, by omega, by omega, pk_us, pk_us⟩), hd, qi_q0 hQ, qj_h0 hH⟩
              · have g2 : v1 = 2 := by
                  rcases hv with y | y | y
                  · exact y
                  · exact absurd y g3
                  · exact absurd y g4
                subst g2
                refine br_f (by decide) (br_f (by decide) (br_t rfl (qx_ms ha hb (by omega) (h _ _ ?_))))
                exact qj_mk ⟨by omega, by omega, n3, qj_ks hk 2 (by omega) (fun _ _ => rfl) (fun _ _ => rfl) (fun e => absurd e (by omega)), hd, qi_q0 hQ, qj_h0 hH⟩
    · have q2 : ¬ v1 = 2 := fun z => hv (Or.inl z)
      have q3 : ¬ v1 = 3 := fun z => hv (Or.inr (Or.inl z))
      have q4 : ¬ v1 = 4 := fun z => hv (Or.inr (Or.inr z))
      exact br_f q2 (br_f q3 (br_f q4 (br_t rfl (h _ _ s))))
  · exact br_f (by decide) (h _ _ s)
theorem qj_assertEqual {post : Int32 → St2 → Prop} {u : St2} (I : qj_I u) (v1 v2 : Int32) (h : ∀ r u', qj_I u' → post r u') : wpX_assertEqual post u v1 v2 := by
  obtain ⟨w, m, cp, hq, K, L, R, x, F, M, pt, B, P, rfl, I⟩ := I
  have s := qj_mk (F := F) I
  obtain ⟨n1, n2, n3, hk, hd, hQ, hH⟩ := I
  unfold wpX_assertEqual
  rcases qi_cp hQ with rfl | rfl
  · refine br_t rfl ?_
    rcases pk_ix v1 (n := w) (by omega) with z | z | ⟨a, ha, rfl⟩
    · exact qx_nw (by omega) (Or.inl z) (br_t rfl (h _ _ s))
    · exact qx_nw (by omega) (Or.inr z) (br_t rfl (h _ _ s))
    · refine qx_iw (by omega) ha (br_f (by decide) ?_)
      rcases pk_ix v2 (n := w) (by omega) with z | z | ⟨b, hb, rfl⟩
      · exact qx_nw (by omega) (Or.inl z) (br_t rfl (h _ _ s))
      · exact qx_nw (by omega) (Or.inr z) (br_t rfl (h _ _ s))
      · refine qx_iw (by omega) hb (br_f (by decide) ?_)
        by_cases em : m = 8
        · subst em
          exact br_t rfl (h _ _ s)
        · refine br_f (by rw [nI_eq (by omega) (by omega)]; exact em) (qx_ae ha hb (by omega) (by omega) (h _ _ ?_))
          exact qj_mk ⟨n1, n2, by omega, hk, hd, qi_q0 hQ, qj_h0 hH⟩
  · exact br_f (by decide) (h _ _ s)
theorem qj_setPoint {post : Int32 → St2 → Prop} {u : St2} (I : qj_I u) (v1 v2 : Int32) (h : ∀ r u', qj_I u' → post r u') : wpX_setPoint post u v1 v2 := by
  obtain ⟨w, m, cp, hq, K, L, R, x, F, M, pt, B, P, rfl, I⟩ := I
  have s := qj_mk (F := F) I
  obtain ⟨n1, n2, n3, hk, hd, hQ, hH⟩ := I
  rcases qi_cp hQ with rfl | rfl
  · rcases pk_ix v1 (n := 8) (by omega) with z | z | ⟨j, hj, rfl⟩
    · exact br_t rfl (br_t z (h _ _ s))
    · have q := qm_ge (by omega) z
      exact br_t rfl (br_f q.1 (br_f q.2 (h _ _ s)))
    · refine br_t rfl (br_f (nI_pos (by omega)) (br_t (nI_lt hj (by omega)) ?_))
      rw [qx_red]
      refine ⟨9, qx_sp29 (C := 8) (by omega) hj v2.toInt (fun d => h _ _ ?_) (fun _ => h _ _ s) 9 0 (by omega) (by omega) (fun i hi => by omega)⟩
      refine qj_mk ⟨n1, n2, n3, hk, fun i l hi hl hne => ?_, qi_q0 hQ, qj_h0 hH⟩
      by_cases e : i = j
      · subst e
        rw [qa_uzs, qa_uzn (by omega)]
        exact fun y => d l hl (by omega) y.symm
      · by_cases e2 : l = j
        · subst e2
          rw [qa_uzs, qa_uzn (by omega)]
          exact d i hi e
        · rw [qa_uzn e, qa_uzn e2]
          exact hd i l hi hl hne
  · exact br_f (by decide) (h _ _ s)
theorem qj_compile {post : Int32 → St2 → Prop} {u : St2} (I : qj_I u) (h : ∀ r u', qj_I u' → post r u') : wpX_compile post u := by
  obtain ⟨w, m, cp, hq, K, L, R, x, F, M, pt, B, P, rfl, I⟩ := I
  have s := qj_mk (F := F) I
  obtain ⟨n1, n2, n3, hk, hd, hQ, hH⟩ := I
  rcases id hQ with ⟨rfl, hP⟩ | ⟨rfl, -⟩
  · have hq0 : hq = 0 := hH.elim id (fun z => absurd z.2.1 (by decide))
    subst hq0
    by_cases e : m = 0
    · subst e
      exact br_t rfl (br_t rfl (h _ _ s))
    · exact qx_cp (by omega) (by omega) (by omega) hP fun B' P' hQ' => h _ _ (qj_mk ⟨n1, n2, n3, hk, hd, hQ', Or.inl rfl⟩)
  · exact br_f (by decide) (h _ _ s)
theorem qj_set30 {post : Int32 → St2 → Prop} (n1 : 1 ≤ w) (n2 : w ≤ 16) (n3 : m ≤ 8) (hk : qj_k w K L R) (hd : qj_d pt) (hQ : qi_q cp w m M x pt B P) {j : Nat} (hj : j < w) (v : Int32) (h : ∀ r u', qj_I u' → post r u') : wX_setWitness_30 post (nI j) v (nI 16) (nI 8) (nI w) (nI m) cp hq (fun zi => nI (K zi)) L R (fun zi => qa_fe (x zi)) (fun zi => qa_fe (F zi)) (fun zi => qa_fe (M zi)) (fun zi => qa_fe (pt zi)) (fun zi => qa_fe (B zi)) (fun zi => qa_fe (P zi)) := by
  unfold wX_setWitness_30
  rw [qx_red]
  refine ⟨vp_in_nI (by omega) (by omega), ?_⟩
  rw [nI_clamp (by omega)]
  exact nm_r (qa_upd _ _ _) (qx_wc (by omega) (by omega) hQ fun P' hQ' => h _ _ (qj_mk ⟨n1, n2, n3, hk, hd, hQ', Or.inl rfl⟩))
theorem qj_setWitness {post : Int32 → St2 → Prop} {u : St2} (I : qj_I u) (v1 v2 : Int32) (h : ∀ r u', qj_I u' → post r u') : wpX_setWitness post u v1 v2 := by
  obtain ⟨w, m, cp, hq, K, L, R, x, F, M, pt, B, P, rfl, I⟩ := I
  have s := qj_mk (F := F) I
  obtain ⟨n1, n2, n3, hk, hd, hQ, hH⟩ := I
  unfold wpX_setWitness
  rcases pk_ix v1 (n := w) (by omega) with z | z | ⟨j, hj, rfl⟩
  · exact qx_nw (by omega) (Or.inl z) (br_t rfl (h _ _ s))
  · exact qx_nw (by omega) (Or.inr z) (br_t rfl (h _ _ s))
  · have vi : vp_in (nI j) 32 := vp_in_nI (by omega) (by omega)
    refine qx_iw (by omega) hj (br_f (by decide) ⟨vi, br_c (fun _ => ?_) (fun _ => ⟨vi, br_c (fun _ => ?_) (fun _ => h _ _ s)⟩)⟩)
    · exact qj_set30 n1 n2 n3 hk hd hQ hj v2 h
    · exact qj_set30 n1 n2 n3 hk hd hQ hj v2 h
theorem qj_solve4 {post : Int32 → St2 → Prop} {x0 : Nat → Int} (n1 : 1 ≤ w) (n2 : w ≤ 16) (n3 : m ≤ 8) (hk : qj_k w K L R) (hd : qj_d pt) (hQ : qi_q cp w m M x0 pt B P) (h : ∀ r u', qj_I u' → post r u') : ∀ n i (r : Int32) (x : Nat → Int), i ≤ w → w - i < n → wX_solve_4 post (nI 16) (nI 8) (nI w) (nI m) cp hq n r (nI i) (fun zi => nI (K zi)) L R (fun zi => qa_fe (x zi)) (fun zi => qa_fe (F zi)) (fun zi => qa_fe (M zi)) (fun zi => qa_fe (pt zi)) (fun zi => qa_fe (B zi)) (fun zi => qa_fe (P zi)) := by
  intro n
  induction n with
  | zero => intros; omega
  | succ n ih =>
    intro i r x hi hn
    by_cases z : i < w
    · have vi : vp_in (nI i) 32 := vp_in_nI (by omega) (by omega)
      have cl : (nI i).toNatClampNeg = i := nI_clamp (by omega)
      refine br_f (nI_ge z (by omega)) ⟨vi, ?_⟩
      rw [cl]
      by_cases k3 : K i = 3
      · obtain ⟨a, b, ha, hb, o3, o4⟩ := hk.2 i z k3
        refine br_t (congrArg nI k3) ⟨vi, ?_⟩
        rw [o3, o4]
        refine qx_wv (by omega) (by omega) ⟨vi, ?_⟩
        refine qx_wv (by omega) (by omega) ?_
        rw [qx_mul]
        refine ⟨vi, br_c (fun _ => nm_r (nI_1 i) (ih (i + 1) r x (by omega) (by omega))) (fun _ => ⟨vi, nm_r (qa_upd _ _ _) (nm_e (nm_r (nI_1 i) (ih (i + 1) (r + 1) _ (by omega) (by omega))))⟩)⟩
      · have e3 : ¬ nI (K i) = 3 := by
          have := hk.1 i z
          rw [show (3 : Int32) = nI 3 by decide, nI_eq (by omega) (by omega)]
          exact k3
        exact br_f e3 (nm_r (nI_1 i) (ih (i + 1) r x (by omega) (by omega)))
    · obtain rfl : i = w := by omega
      exact br_t (nI_le (Nat.le_refl _) (by omega)) (qx_wc (by omega) (by omega) hQ fun P' hQ' => h _ _ (qj_mk ⟨n1, n2, n3, hk, hd, hQ', Or.inl rfl⟩))
theorem qj_solve {post : Int32 → St2 → Prop} {u : St2} (I : qj_I u) (h : ∀ r u', qj_I u' → post r u') : wpX_solve post u := by
  obtain ⟨w, m, cp, hq, K, L, R, x, F, M, pt, B, P, rfl, I⟩ := I
  obtain ⟨n1, n2, n3, hk, hd, hQ, hH⟩ := I
  exact ⟨w + 1, qj_solve4 n1 n2 n3 hk hd hQ h (w + 1) 0 0 x (by omega) (by omega)⟩
theorem qj_dd (hd : qj_d pt) (n3 : m ≤ 8) : ∀ i j, i < m → j < m → i ≠ j → (pt i - pt j) % 2147483647 ≠ 0 := by
  intro i j hi hj hne h
  refine hd i j (by omega) (by omega) hne (qa_cong ?_)
  omega
theorem qj_div {post : Int32 → St2 → Prop} (I : qj_p w m 1 hq K L R x M pt B P) (h1 : qa_sat M x w m → ∀ u', qj_I u' → post 1 u') (h0 : ¬ qa_sat M x w m → ∀ u', qj_I u' → post 0 u') : wpX_divide post ((nI 16), (nI 8), (nI w), (nI m), 1, hq, (fun zi => nI (K zi)), L, R, (fun zi => qa_fe (x zi)), (fun zi => qa_fe (F zi)), (fun zi => qa_fe (M zi)), (fun zi => qa_fe (pt zi)), (fun zi => qa_fe (B zi)), (fun zi => qa_fe (P zi))) := by
  obtain ⟨n1, n2, n3, hk, hd, hQ, hH⟩ := I
  rcases id hQ with ⟨y, -⟩ | ⟨-, m0, q1, q2, q3, q4, q5⟩
  · exact absurd y (by decide)
  · have c1 : ¬ (1 : Int32) = 0 := by decide
    refine br_f c1 ?_
    refine qx_bq m0 (by omega) (qa_zp pt m) q2 fun P' p1 p2 p3 => ?_
    have cg : ∀ s t, t < 32 → qa_rm (qa_zp pt m) (fun k => P (128 + k)) m s t = qa_rm (qa_zp pt m) (qa_pp M x pt w m) m s t := by
      intro s
      induction s with
      | zero => exact q4
      | succ s ih =>
        intro t ht
        rw [qa_rm, qa_rm]
        unfold qa_dst
        rw [ih t ht, ih (m - 2 - s + m) (by omega)]
    have eH : ∀ k, k < 32 → P' (160 + k) = qa_hh (qa_zp pt m) (qa_pp M x pt w m) m k := by
      intro k hk
      rw [p2 k hk]
      unfold qa_hh
      by_cases y : k + 1 < m
      · rw [if_pos y, if_pos y, if_pos y, cg _ _ (by omega)]
      · rw [if_neg y, if_neg y, q5 k (by omega) hk]
    have eR : ∀ k, k < 32 → P' (192 + k) = qa_rr (qa_zp pt m) (qa_pp M x pt w m) m k := by
      intro k hk
      rw [p3 k hk]
      exact cg _ _ hk
    have hQ' : qi_q 1 w m M x pt B P' := Or.inr ⟨rfl, m0, q1, fun k hk => by rw [p1 _ (by omega), q2 k hk], fun t k ht hk => by rw [p1 _ (by omega), q3 t k ht hk], fun k hk => by rw [p1 _ (by omega), q4 k hk], fun k h1 h2 => by rw [eH k h2]; unfold qa_hh; rw [if_neg (by omega)]⟩
    have s' := qj_mk (F := F) (show qj_p w m 1 1 K L R x M pt B P' from ⟨n1, n2, n3, hk, hd, hQ', Or.inr ⟨rfl, rfl, fun k hk => ⟨eH k hk, eR k hk⟩⟩⟩)
    have iff : qa_rz P' m ↔ qa_sat M x w m := by
      rw [qe_sat m0 (qj_dd hd n3)]
      exact ⟨fun h k hk => by rw [← eR k (by omega)]; exact h k hk, fun h k hk => by rw [eR k (by omega)]; exact h k hk⟩
    exact qx_rz (by omega) (fun d => br_f c1 (h1 (iff.mp d) _ s')) (fun d => br_t rfl (h0 (fun y => d (iff.mpr y)) _ s'))
theorem qj_i0 {post : Int32 → Prop} (p : Int32) (h : post (nI w)) : wpX_info post ((nI 16), (nI 8), (nI w), (nI m), cp, hq, (fun zi => nI (K zi)), L, R, (fun zi => qa_fe (x zi)), (fun zi => qa_fe (F zi)), (fun zi => qa_fe (M zi)), (fun zi => qa_fe (pt zi)), (fun zi => qa_fe (B zi)), (fun zi => qa_fe (P zi))) 0 p := br_f (by decide) (br_f (by decide) (br_t rfl h))
theorem qj_i1 {post : Int32 → Prop} (p : Int32) (h : post (nI m)) : wpX_info post ((nI 16), (nI 8), (nI w), (nI m), cp, hq, (fun zi => nI (K zi)), L, R, (fun zi => qa_fe (x zi)), (fun zi => qa_fe (F zi)), (fun zi => qa_fe (M zi)), (fun zi => qa_fe (pt zi)), (fun zi => qa_fe (B zi)), (fun zi => qa_fe (P zi))) 1 p := br_f (by decide) (br_f (by decide) (br_f (by decide) (br_t rfl h)))
theorem qj_i2 {post : Int32 → Prop} (p : Int32) (h1 : ¬ cp = 0 → post 1) (h0 : cp = 0 → post 0) : wpX_info post ((nI 16), (nI 8), (nI w), (nI m), cp, hq, (fun zi => nI (K zi)), L, R, (fun zi => qa_fe (x zi)), (fun zi => qa_fe (F zi)), (fun zi => qa_fe (M zi)), (fun zi => qa_fe (pt zi)), (fun zi => qa_fe (B zi)), (fun zi => qa_fe (P zi))) 2 p := br_f (by decide) (br_f (by decide) (br_f (by decide) (br_f (by decide) (br_t rfl (br_c h0 h1)))))
theorem qj_i3 {post : Int32 → Prop} (p : Int32) (h1 : ¬ hq = 0 → post 1) (h0 : hq = 0 → post 0) : wpX_info post ((nI 16), (nI 8), (nI w), (nI m), cp, hq, (fun zi => nI (K zi)), L, R, (fun zi => qa_fe (x zi)), (fun zi => qa_fe (F zi)), (fun zi => qa_fe (M zi)), (fun zi => qa_fe (pt zi)), (fun zi => qa_fe (B zi)), (fun zi => qa_fe (P zi))) 3 p := br_f (by decide) (br_f (by decide) (br_f (by decide) (br_f (by decide) (br_f (by decide) (br_t rfl (br_c h0 h1))))))
theorem qj_i4 {post : Int32 → Prop} (n2 : w ≤ 16) (n3 : m ≤ 8) (p : Int32) (h1 : qa_sat M x w m → post 1) (h0 : ¬ qa_sat M x w m → post 0) : wpX_info post ((nI 16), (nI 8), (nI w), (nI m), cp, hq, (fun zi => nI (K zi)), L, R, (fun zi => qa_fe (x zi)), (fun zi => qa_fe (F zi)), (fun zi => qa_fe (M zi)), (fun zi => qa_fe (pt zi)), (fun zi => qa_fe (B zi)), (fun zi => qa_fe (P zi))) 4 p := by
  refine br_f (by decide) (br_f (by decide) (br_f (by decide) (br_f (by decide) (br_f (by decide) (br_f (by decide) (br_t rfl ?_))))))
  exact qx_sat (by omega) (by omega) (fun s => br_f (by decide) (h1 s)) (fun s => br_t rfl (h0 s))
theorem qj_divideOk {post : Int32 → St2 → Prop} {u : St2} (I : qj_I u) (h : ∀ u', qj_I u' → post 1 u') : wpL_divideOk post u := by
  obtain ⟨w, m, cp, hq, K, L, R, x, F, M, pt, B, P, rfl, I⟩ := I
  have s := qj_mk (F := F) I
  have I2 := I
  obtain ⟨n1, n2, n3, hk, hd, hQ, hH⟩ := I2
  unfold wpL_divideOk
  rcases qi_cp hQ with rfl | rfl
  · exact qj_i2 0 (fun y => absurd rfl y) (fun _ => br_f (by decide) (h _ s))
  · refine qj_i2 0 (fun _ => br_t rfl ?_) (fun y => absurd y (by decide))
    refine qj_i4 n2 n3 0 (fun sa => ?_) (fun sa => ?_)
    · refine qj_div I (fun _ u' J => ?_) (fun y => absurd sa y)
      obtain ⟨w, m, cp, hq, K, L, R, x, F, M, pt, B, P, rfl, J⟩ := J
      exact br_t rfl (br_t rfl (br_t rfl (h _ (qj_mk J))))
    · refine qj_div I (fun y => absurd y sa) (fun _ u' J => ?_)
      obtain ⟨w, m, cp, hq, K, L, R, x, F, M, pt, B, P, rfl, J⟩ := J
      exact br_f (by decide) (br_f (by decide) (br_t rfl (h _ (qj_mk J))))
end QJ
end
section
theorem qk_l0 : (0 : Int64) = (qa_fe 0).toInt64 := by rw [← qa_0]; decide
theorem qk_lmul (a b : Int) : ((qa_fe a).toInt64 * (qa_fe b).toInt64) - ((qa_fe a).toInt64 * (qa_fe b).toInt64) / 2147483647 * 2147483647 = (qa_fe (a * b)).toInt64 := by
  apply Int64.toInt_inj.mp
  have h := qa_lmul a b
  rw [Jvm.Kit.i64_rem_nonneg (by rw [h]; exact (qa_mb' a b).1), h, qa_p64, qa_mm, qa_l]
theorem qk_ladd (a b : Int) : ((qa_fe a).toInt64 + (qa_fe b).toInt64) - ((qa_fe a).toInt64 + (qa_fe b).toInt64) / 2147483647 * 2147483647 = (qa_fe (a + b)).toInt64 := by
  apply Int64.toInt_inj.mp
  have h := qa_ladd a b
  rw [Jvm.Kit.i64_rem_nonneg (by rw [h]; omega), h, qa_p64, qa_add_mod, qa_l]
theorem qk_field {post : Int32 → Prop} (z : Int) (h : post 1) : wpL_field post () (qa_fe z) := by
  refine br_f (qa_ge0 z) (br_f ?_ h)
  intro y
  rw [Int32.le_iff_toInt_le, qa_fe_int, qa_p32] at y
  omega
section QK
variable {w m : Nat} {K : Nat → Nat} {L R : Nat → Int32} {x F M pt B P : Nat → Int}
theorem qk_ir {post : Int32 → Prop} {t : Nat} (ht : t < 7) (h : post 1) : wpX_isReadable post ((nI 16), (nI 8), (nI w), (nI m), 1, 1, (fun zi => nI (K zi)), L, R, (fun zi => qa_fe (x zi)), (fun zi => qa_fe (F zi)), (fun zi => qa_fe (M zi)), (fun zi => qa_fe (pt zi)), (fun zi => qa_fe (B zi)), (fun zi => qa_fe (P zi))) (nI t) := by
  have t6 : ¬ (6 : Int32) < nI t := Int32.not_lt.mpr (nI_le (b := 6) (by omega) (by omega))
  exact br_f (nI_pos (by omega)) (br_f t6 (br_f (by decide) (br_f (by decide) h)))
theorem qk_len {t : Nat} (ht : t < 7) (hm : m ≤ 16) : qa_len t m ≤ 32 := by
  unfold qa_len
  split
  · omega
  · split <;> omega
theorem qk_co {post : Int32 → Prop} {t k : Nat} (ht : t < 7) (m0 : 0 < m) (hm : m ≤ 16) (hk : k < qa_len t m) (h : post (qa_fe (P (t * 32 + k)))) : wpX_coeff post ((nI 16), (nI 8), (nI w), (nI m), 1, 1, (fun zi => nI (K zi)), L, R, (fun zi => qa_fe (x zi)), (fun zi => qa_fe (F zi)), (fun zi => qa_fe (M zi)), (fun zi => qa_fe (pt zi)), (fun zi => qa_fe (B zi)), (fun zi => qa_fe (P zi))) (nI t) (nI k) := by
  have hl := qk_len ht hm
  unfold wpX_coeff
  refine qk_ir ht (br_f (by decide) (br_f (nI_pos (by omega)) (qx_len ht m0 hm (br_t (nI_lt hk (by omega)) ?_))))
  rw [qn_m32, nI_add, nI_clamp (by omega)]
  exact ⟨vp_in_nI (by omega) (by omega), h⟩
theorem qk_ev {post : Int32 → Prop} {t : Nat} (ht : t < 7) (m0 : 0 < m) (hm : m ≤ 16) (p : Int32) (h : post (qa_fe (qa_ho (fun k => P (t * 32 + k)) p.toInt (qa_len t m) 0))) : wpX_evaluate post ((nI 16), (nI 8), (nI w), (nI m), 1, 1, (fun zi => nI (K zi)), L, R, (fun zi => qa_fe (x zi)), (fun zi => qa_fe (F zi)), (fun zi => qa_fe (M zi)), (fun zi => qa_fe (pt zi)), (fun zi => qa_fe (B zi)), (fun zi => qa_fe (P zi))) (nI t) p := by
  unfold wpX_evaluate
  refine qk_ir ht (br_f (by decide) ?_)
  rw [qx_red]
  exact qx_pv ht m0 hm _ h
theorem qk_at {post : Int32 → Prop} (m0 : 0 < m) (hm : m ≤ 16) (p : Int32) (he : qa_fe (qa_ho (fun k => P (4 * 32 + k)) p.toInt (qa_len 4 m) 0) = qa_fe (qa_ho (fun k => P (5 * 32 + k)) p.toInt (qa_len 5 m) 0 * qa_ho (fun k => P (3 * 32 + k)) p.toInt (qa_len 3 m) 0)) (h : post 1) : wpX_checkAt post ((nI 16), (nI 8), (nI w), (nI m), 1, 1, (fun zi => nI (K zi)), L, R, (fun zi => qa_fe (x zi)), (fun zi => qa_fe (F zi)), (fun zi => qa_fe (M zi)), (fun zi => qa_fe (pt zi)), (fun zi => qa_fe (B zi)), (fun zi => qa_fe (P zi))) p := by
  unfold wpX_checkAt
  refine br_f (by decide) ?_
  rw [qx_red]
  refine qx_pv (t := 5) (by omega) m0 hm _ ?_
  refine qx_pv (t := 3) (by omega) m0 hm _ ?_
  refine qx_pv (t := 4) (by omega) m0 hm _ ?_
  rw [qx_mul]
  exact br_t he h
theorem qk_220 {post : Int32 → Prop} {J : Int32 → Prop} (m0 : 0 < m) (hm : m ≤ 8) (x1 x2 x4 : Int32) {k : Nat} (hk : k < 2 * m - 1) (z : Int) (he : qa_fe (P (128 + k)) = qa_fe z) (h : J (nI (k + 1))) : wL_check_220 post J x1 x2 x4 (nI k) (qa_fe z).toInt64 (nI 16) (nI 8) (nI w) (nI m) 1 1 (fun zi => nI (K zi)) L R (fun zi => qa_fe (x zi)) (fun zi => qa_fe (F zi)) (fun zi => qa_fe (M zi)) (fun zi => qa_fe (pt zi)) (fun zi => qa_fe (B zi)) (fun zi => qa_fe (P zi)) := by
  unfold wL_check_220
  refine qk_co (t := 4) (k := k) (by omega) m0 (by omega) (by unfold qa_len; rw [if_neg (by omega), if_pos rfl]; exact hk) ?_
  exact qk_field _ (br_f (by decide) (br_t (by rw [← he]) (nm_r (nI_1 k) h)))
theorem qk_107 {post : Int32 → Prop} {J : Int32 → Prop} {Z H Q : Nat → Int} (m0 : 0 < m) (hm : m ≤ 8) (x1 x4 : Int32) {k : Nat} (hk : k < 2 * m - 1) (hZ : ∀ k, k < 32 → P (96 + k) = Z k) (hH : ∀ k, k < 32 → P (160 + k) = H k) (hR : ∀ k, k < 32 → P (192 + k) = Q k) (hP : P (128 + k) = qa_sm (fun i => qe_d Z H m i k) m + (if k < m then Q k else 0)) (h : J (nI (k + 1))) : ∀ n i, i ≤ m → m - i < n → wL_check_107 post J x1 (nI m) x4 (nI k) (nI 16) (nI 8) (nI w) (nI m) 1 1 (fun zi => nI (K zi)) L R (fun zi => qa_fe (x zi)) (fun zi => qa_fe (F zi)) (fun zi => qa_fe (M zi)) (fun zi => qa_fe (pt zi)) (fun zi => qa_fe (B zi)) (fun zi => qa_fe (P zi)) n (qa_fe (qa_sm (fun i => qe_d Z H m i k) i)).toInt64 (nI i) := by
  intro n
  induction n with
  | zero => intros; omega
  | succ n ih =>
    intro i hi hn
    by_cases z : i < m
    · have i2 := ih (i + 1) (by omega) (by omega)
      refine br_f (nI_ge z (by omega)) ?_
      by_cases c1 : k < i
      · have e0 : qe_d Z H m i k = 0 := if_neg (by omega)
        rw [qa_sm, e0, Int.add_zero] at i2
        exact nm_e (br_t (pk_sneg (by omega) c1) (nm_r (nI_1 i) i2))
      · refine nm_r (pk_sub (by omega)) (br_f (nI_pos (by omega)) ?_)
        by_cases c2 : k - i ≤ m
        · have e0 : qe_d Z H m i k = H i * Z (k - i) := if_pos (by omega)
          rw [qa_sm, e0] at i2
          refine br_t (nI_le c2 (by omega)) ?_
          refine qk_co (t := 5) (k := i) (by omega) m0 (by omega) (by unfold qa_len; rw [if_neg (by omega), if_neg (by omega)]; exact z) ?_
          refine qk_co (t := 3) (k := k - i) (by omega) m0 (by omega) (by unfold qa_len; rw [if_pos rfl]; omega) ?_
          refine qk_field _ (br_f (by decide) (qk_field _ (br_f (by decide) ⟨by decide, by decide, ?_⟩)))
          rw [show P (5 * 32 + i) = H i from hH i (by omega), show P (3 * 32 + (k - i)) = Z (k - i) from hZ (k - i) (by omega)]
          rw [qk_lmul, qk_ladd]
          exact nm_e (nm_r (nI_1 i) i2)
        · have e0 : qe_d Z H m i k = 0 := if_neg (by omega)
          rw [qa_sm, e0, Int.add_zero] at i2
          exact br_f (nI_ge (by omega) (by omega)) (nm_r (nI_1 i) i2)
    · obtain rfl : i = m := by omega
      refine br_t (nI_le (Nat.le_refl _) (by omega)) ?_
      by_cases c : i ≤ k
      · rw [if_neg (by omega), Int.add_zero] at hP
        exact br_t (nI_le c (by omega)) (qk_220 m0 hm x1 (nI i) x4 hk _ (by rw [hP]) h)
      · rw [if_pos (by omega)] at hP
        refine br_f (nI_ge (by omega) (by omega)) ?_
        refine qk_co (t := 6) (k := k) (by omega) m0 (by omega) (by unfold qa_len; rw [if_neg (by omega), if_neg (by omega)]; omega) ⟨by decide, ?_⟩
        rw [show P (6 * 32 + k) = Q k from hR k (by omega), qk_ladd]
        exact nm_e (qk_220 m0 hm x1 (nI i) x4 hk _ (by rw [hP]) h)
theorem qk_91 {post : Int32 → Prop} {Z H Q : Nat → Int} (m0 : 0 < m) (hm : m ≤ 8) (x1 x4 : Int32) (hZ : ∀ k, k < 32 → P (96 + k) = Z k) (hH : ∀ k, k < 32 → P (160 + k) = H k) (hR : ∀ k, k < 32 → P (192 + k) = Q k) (hP : ∀ k, k < 2 * m - 1 → P (128 + k) = qa_sm (fun i => qe_d Z H m i k) m + (if k < m then Q k else 0)) (hc : ¬ x4 = 0 → qa_fe (qa_ho (fun k => P (4 * 32 + k)) x1.toInt (qa_len 4 m) 0) = qa_fe (qa_ho (fun k => P (5 * 32 + k)) x1.toInt (qa_len 5 m) 0 * qa_ho (fun k => P (3 * 32 + k)) x1.toInt (qa_len 3 m) 0)) (h : post 1) : ∀ n k, k ≤ 2 * m - 1 → 2 * m - 1 - k < n → wL_check_91 post x1 (nI m) x4 (nI 16) (nI 8) (nI w) (nI m) 1 1 (fun zi => nI (K zi)) L R (fun zi => qa_fe (x zi)) (fun zi => qa_fe (F zi)) (fun zi => qa_fe (M zi)) (fun zi => qa_fe (pt zi)) (fun zi => qa_fe (B zi)) (fun zi => qa_fe (P zi)) n (nI k) := by
  have l : (2 : Int32) * nI m - 1 = nI (2 * m - 1) := by
    rw [show (2 : Int32) = nI 2 by decide, pk_mul, show (1 : Int32) = nI 1 by decide, pk_sub (by omega)]
  intro n
  induction n with
  | zero => intros; omega
  | succ n ih =>
    intro k hk hn
    by_cases z : k < 2 * m - 1
    · refine br_f (by rw [l]; exact nI_ge z (by omega)) ⟨m + 1, ?_⟩
      exact qk_107 m0 hm x1 x4 z hZ hH hR (hP k z) (ih (k + 1) (by omega) (by omega)) (m + 1) 0 (by omega) (by omega)
    · obtain rfl : k = 2 * m - 1 := by omega
      refine br_t (by rw [l]; exact nI_le (Nat.le_refl _) (by omega)) (br_c (fun _ => h) (fun e => ?_))
      refine qk_at m0 (by omega) x1 (hc e) (br_t rfl ?_)
      refine qk_ev (t := 4) (by omega) m0 (by omega) x1 ?_
      refine qk_ev (t := 5) (by omega) m0 (by omega) x1 ?_
      refine qk_ev (t := 3) (by omega) m0 (by omega) x1 ?_
      refine qk_field _ (br_f (by decide) (qk_field _ (br_f (by decide) (qk_field _ (br_f (by decide) ⟨by decide, br_t ?_ h⟩)))))
      rw [qk_lmul, hc e]
theorem qk_24 {post : Int32 → Prop} {Q : Nat → Int} (m0 : 0 < m) (hw : w ≤ 16) (hm : m ≤ 8) (x1 : Int32) (hR : ∀ k, k < 32 → P (192 + k) = Q k) (hs : qa_sat M x w m ↔ ∀ k, k < m → qa_fe (Q k) = 0) (h1 : qa_sat M x w m → ∃ n, wL_check_91 post x1 (nI m) 1 (nI 16) (nI 8) (nI w) (nI m) 1 1 (fun zi => nI (K zi)) L R (fun zi => qa_fe (x zi)) (fun zi => qa_fe (F zi)) (fun zi => qa_fe (M zi)) (fun zi => qa_fe (pt zi)) (fun zi => qa_fe (B zi)) (fun zi => qa_fe (P zi)) n 0) (h0 : ∃ n, wL_check_91 post x1 (nI m) 0 (nI 16) (nI 8) (nI w) (nI m) 1 1 (fun zi => nI (K zi)) L R (fun zi => qa_fe (x zi)) (fun zi => qa_fe (F zi)) (fun zi => qa_fe (M zi)) (fun zi => qa_fe (pt zi)) (fun zi => qa_fe (B zi)) (fun zi => qa_fe (P zi)) n 0) : ∀ n k (r : Int32), k ≤ m → m - k < n → ((r = 1 ∧ ∀ i, i < k → qa_fe (Q i) = 0) ∨ (r = 0 ∧ ¬ (∀ i, i < m → qa_fe (Q i) = 0))) → wL_check_24 post x1 (nI m) (nI 16) (nI 8) (nI w) (nI m) 1 1 (fun zi => nI (K zi)) L R (fun zi => qa_fe (x zi)) (fun zi => qa_fe (F zi)) (fun zi => qa_fe (M zi)) (fun zi => qa_fe (pt zi)) (fun zi => qa_fe (B zi)) (fun zi => qa_fe (P zi)) n r (nI k) := by
  intro n
  induction n with
  | zero => intros; omega
  | succ n ih =>
    intro k r hk hn hr
    by_cases z : k < m
    · refine br_f (nI_ge z (by omega)) ?_
      refine qk_co (t := 6) (k := k) (by omega) m0 (by omega) (by unfold qa_len; rw [if_neg (by omega), if_neg (by omega)]; exact z) ?_
      rw [show P (6 * 32 + k) = Q k from hR k (by omega)]
      refine qk_field _ (br_f (by decide) ?_)
      by_cases q : qa_fe (Q k) = 0
      · refine br_t q (nm_r (nI_1 k) (ih (k + 1) r (by omega) (by omega) ?_))
        rcases hr with ⟨e, hr⟩ | hr
        · refine Or.inl ⟨e, fun i hi => ?_⟩
          by_cases y : i = k
          · rw [y]; exact q
          · exact hr i (by omega)
        · exact Or.inr hr
      · exact br_f q (nm_r (nI_1 k) (ih (k + 1) 0 (by omega) (by omega) (Or.inr ⟨rfl, fun y => q (y k z)⟩)))
    · obtain rfl : k = m := by omega
      refine br_t (nI_le (Nat.le_refl _) (by omega)) ?_
      refine qj_i4 hw hm 0 (fun s => br_t rfl ?_) (fun s => br_f (by decide) ?_)
      · rcases hr with ⟨rfl, hr⟩ | ⟨rfl, hr⟩
        · exact br_t rfl (h1 s)
        · exact absurd (hs.mp s) hr
      · rcases hr with ⟨rfl, hr⟩ | ⟨rfl, hr⟩
        · exact absurd (hs.mpr hr) s
        · exact br_t rfl h0
end QK
theorem qk_check {post : Int32 → Prop} {u : St2} (I : qj_I u) (p : Int32) (h : post 1) : wpL_check post u p := by
  obtain ⟨w, m, cp, hq, K, L, R, x, F, M, pt, B, P, rfl, I⟩ := I
  obtain ⟨n1, n2, n3, hk, hd, hQ, hH⟩ := I
  unfold wpL_check
  rcases id hH with rfl | ⟨rfl, rfl, hHR⟩
  · exact qj_i3 0 (fun y => absurd rfl y) (fun _ => br_f (by decide) h)
  · rcases id hQ with ⟨y, -⟩ | ⟨-, m0, q1, q2, q3, q4, q5⟩
    · exact absurd y (by decide)
    · refine qj_i3 0 (fun _ => br_t rfl ?_) (fun y => absurd y (by decide))
      refine qj_i1 0 ⟨m + 1, ?_⟩
      have hg : ∀ t, 2 * m ≤ t + 1 → qa_pp M x pt w m t = 0 := fun t ht => qa_pp_0 M x pt w m t ht m0
      have hP : ∀ k, k < 2 * m - 1 → P (128 + k) = qa_sm (fun i => qe_d (qa_zp pt m) (qa_hh (qa_zp pt m) (qa_pp M x pt w m) m) m i k) m + (if k < m then qa_rr (qa_zp pt m) (qa_pp M x pt w m) m k else 0) := by
        intro k hk
        have e1 := qe_div pt (qa_pp M x pt w m) m0 k
        have e2 : qa_sm (fun i => qe_d (qa_zp pt m) (qa_hh (qa_zp pt m) (qa_pp M x pt w m) m) m i k) m = qa_sm (fun i => qe_d (qa_zp pt m) (qa_hh (qa_zp pt m) (qa_pp M x pt w m) m) m i k) (m - 1) := by
          refine qs_ext (by omega) fun i h1 h2 => ?_
          unfold qe_d
          rw [qe_hh0 _ _ (by omega), Int.zero_mul]
          split <;> rfl
        rw [q4 k (by omega), e2, ← e1]
        by_cases y : k < m
        · rw [if_pos y, Int.add_comm]
        · rw [if_neg y, qe_rr0 pt _ m0 hg (by omega), Int.add_comm]
      have hs := qe_sat (M := M) (x := x) (w := w) m0 (qj_dd hd n3)
      have v4 : ∀ y : Int, qa_ho (fun k => P (4 * 32 + k)) y (qa_len 4 m) 0 = qe_v (qa_pp M x pt w m) y (2 * m - 1) := by
        intro y
        rw [← qe_ho0]
        unfold qa_len
        rw [if_neg (by omega), if_pos rfl]
        exact qa_ho_c y _ _ fun i _ h2 => q4 i (by omega)
      have v5 : ∀ y : Int, qa_ho (fun k => P (5 * 32 + k)) y (qa_len 5 m) 0 = qe_v (qa_hh (qa_zp pt m) (qa_pp M x pt w m) m) y m := by
        intro y
        rw [← qe_ho0]
        unfold qa_len
        rw [if_neg (by omega), if_neg (by omega)]
        exact qa_ho_c y _ _ fun i _ h2 => (hHR i (by omega)).1
      have v3 : ∀ y : Int, qa_ho (fun k => P (3 * 32 + k)) y (qa_len 3 m) 0 = qe_v (qa_zp pt m) y (m + 1) := by
        intro y
        rw [← qe_ho0]
        unfold qa_len
        rw [if_pos rfl]
        exact qa_ho_c y _ _ fun i _ h2 => q2 i (by omega)
      refine qk_24 (Q := qa_rr (qa_zp pt m) (qa_pp M x pt w m) m) m0 n2 n3 p (fun k hk => (hHR k hk).2) hs (fun s => ⟨2 * m, ?_⟩) ⟨2 * m, ?_⟩ (m + 1) 0 1 (by omega) (by omega) (Or.inl ⟨rfl, fun i hi => by omega⟩)
      · exact qk_91 m0 n3 p 1 q2 (fun k hk => (hHR k hk).1) (fun k hk => (hHR k hk).2) hP (fun _ => by rw [v4, v5, v3]; exact qa_cong (qe_cert m0 (hs.mp s) p.toInt)) h (2 * m) 0 (by omega) (by omega)
      · exact qk_91 m0 n3 p 0 q2 (fun k hk => (hHR k hk).1) (fun k hk => (hHR k hk).2) hP (fun y => absurd rfl y) h (2 * m) 0 (by omega) (by omega)
end
section
def qc_pt (k : Nat) : Nat → Int := fun i => if i < k then (i : Int) + 1 else 0
theorem qc_pt_s (k : Nat) (hk : k < 16) : upd (fun zi => qa_fe (qc_pt k zi)) k (nI k + 1) = fun zi => qa_fe (qc_pt (k + 1) zi) := by
  rw [nI_1, qa_nI (by omega), qa_upd]
  funext zi
  congr 1
  unfold qa_uz qc_pt
  by_cases h : zi = k
  · subst h
    rw [if_pos rfl, if_pos (by omega)]
    rfl
  · rw [if_neg h]
    by_cases h2 : zi < k
    · rw [if_pos h2, if_pos (by omega)]
    · rw [if_neg h2, if_neg (by omega)]
theorem qc_x105 {post : St2 → Prop} {mc ms kc ks : Nat} (h : post (nI 16, nI 8, nI 1, nI 0, 0, 0, (fun zi => nI ((fun _ => 0) zi)), (fun _ => 0), (fun _ => 0), (fun zi => qa_fe (qa_uz (fun _ => 0) 0 1 zi)), (fun zi => qa_fe (qa_uz (fun _ => 0) 0 1 zi)), (fun zi => qa_fe ((fun _ => 0) zi)), (fun zi => qa_fe (qc_pt 16 zi)), (fun zi => qa_fe ((fun _ => 0) zi)), (fun zi => qa_fe ((fun _ => 0) zi)))) : ∀ n k, k ≤ 16 → 16 - k < n → wX_init_105 post mc ms kc ks (nI 16) (nI 8) 0 0 0 0 n (nI k) (fun _ => 0) (fun _ => 0) (fun _ => 0) (fun _ => 0) (fun _ => 0) (fun _ => 0) (fun zi => qa_fe (qc_pt k zi)) (fun _ => 0) (fun _ => 0) := by
  intro n
  induction n with
  | zero => intros; omega
  | succ n ih =>
    intro k hk hn
    by_cases h1 : k < 16
    · refine br_f (by rw [qn_16]; exact nI_ge h1 (by omega)) ⟨vp_in_nI h1 (by omega), ?_⟩
      rw [nI_clamp (by omega)]
      exact nm_r (qc_pt_s k h1) (nm_r (nI_1 k) (ih (k + 1) (by omega) (by omega)))
    · obtain rfl : k = 16 := by omega
      refine br_t (by decide) ?_
      refine qx_mv (w := 0) (m := 0) (K := fun _ => 0) (x := fun _ => 0) (F := fun _ => 0) (M := fun _ => 0) (pt := qc_pt 16) (B := fun _ => 0) (P := fun _ => 0) (by omega) 0 ?_
      have e1 : (fun zi => nI (qa_un (fun _ => 0) 0 0 zi)) = (fun zi => nI ((fun _ => 0) zi)) := by
        funext zi
        congr 1
        unfold qa_un
        split <;> rfl
      refine nm_r (e' := fun zi => qa_fe (qa_uz (fun _ => 0) 0 1 zi)) ?_ ?_
      · rw [qa_1]
        exact qa_upd (fun _ => 0) 0 1
      · rw [e1]
        exact h
theorem qc_pt0 : (fun zi => qa_fe (qc_pt 0 zi)) = (fun _ => 0) := by
  funext zi
  unfold qc_pt
  rw [if_neg (by omega), ← qa_0]
theorem qc_rel : qj_I (nI 16, nI 8, nI 1, nI 0, 0, 0, (fun zi => nI ((fun _ => 0) zi)), (fun _ => 0), (fun _ => 0), (fun zi => qa_fe (qa_uz (fun _ => 0) 0 1 zi)), (fun zi => qa_fe (qa_uz (fun _ => 0) 0 1 zi)), (fun zi => qa_fe ((fun _ => 0) zi)), (fun zi => qa_fe (qc_pt 16 zi)), (fun zi => qa_fe ((fun _ => 0) zi)), (fun zi => qa_fe ((fun _ => 0) zi))) := by
  refine qj_mk (w := 1) (m := 0) (K := fun _ => 0) (x := qa_uz (fun _ => 0) 0 1) (F := qa_uz (fun _ => 0) 0 1) (M := fun _ => 0) (pt := qc_pt 16) (B := fun _ => 0) (P := fun _ => 0) ⟨by omega, by omega, by omega, ⟨fun i hi => (by decide : (0 : Nat) < 5), fun i hi e => absurd (show (0 : Nat) = 3 from e) (by decide)⟩, fun i j hi hj hne h => ?_, Or.inl ⟨rfl, fun _ _ => rfl⟩, Or.inl rfl⟩
  have := qa_feq.mp h
  unfold qc_pt at this
  rw [if_pos (by omega), if_pos (by omega)] at this
  omega
theorem qc_init {post : St2 → Prop} (h : ∀ u, qj_I u → post u) : wpX_init post 9 3184 (0, 0, 0, 0, 0, 0) 16 8 := by
  have hx := qc_x105 (post := post) (mc := 9) (ms := 3184) (kc := 9) (ks := 3184) (h _ qc_rel) 17 0 (by omega) (by omega)
  rw [qc_pt0] at hx
  unfold wpX_init
  refine ⟨by decide, by decide, by decide, by decide, by decide, by decide, by decide, by decide, by decide, by decide, by decide, by decide, by decide, by decide, by decide, by decide, by decide, by decide, ?_⟩
  exact br_t (by decide) (br_t (by decide) (br_t (by decide) (br_t (by decide) ⟨17, hx⟩)))
theorem ql_cell {post : Int32 → Prop} {N0 j : Nat} {xs : Nat → Int32} (hN : N0 ≤ 260) (hj : j < 1000) (h : ∀ r, post r) : wpL_cell post N0 xs () (nI j) := by
  refine br_c (fun _ => h _) (fun z => ⟨?_, h _⟩)
  have z2 : ¬ nI N0 ≤ nI j := z
  rw [nI_leI (by omega) (by omega)] at z2
  exact vp_in_nI (by omega) (by omega)
theorem ql_nn {post : Int32 → Prop} (r : Int32) (h : ∀ q, q < 2 ^ 31 → post (nI q)) : wpL_nn post () r := by
  obtain ⟨q, hq, e⟩ := pk_andE r (m := 2147483647) 31 (by decide)
  unfold wpL_nn
  rw [e]
  exact h q hq
section QL
variable {w m N0 : Nat} {xs : Nat → Int32} {cp hq : Int32} {K : Nat → Nat} {L R : Nat → Int32} {x F M pt B P : Nat → Int} {post : Int32 → Prop} {kc ks : Nat}
theorem ql_425 {J : Int32 → Int32 → Int32 → Int32 → Int32 → Int32 → Int32 → Int32 → (Nat → Int32) → (Nat → Int32) → (Nat → Int32) → (Nat → Int32) → (Nat → Int32) → (Nat → Int32) → (Nat → Int32) → (Nat → Int32) → (Nat → Int32) → Prop} (hN : N0 ≤ 260) {j : Nat} (hj : j < 1000) (x4 : Int32) (t : Nat) (hp : qj_p w m cp hq K L R x M pt B P) (h : J (nI (j + 1)) (nI (t + 1)) (nI 16) (nI 8) (nI w) (nI m) cp hq (fun zi => nI (K zi)) L R (fun zi => qa_fe (x zi)) (fun zi => qa_fe (F zi)) (fun zi => qa_fe (M zi)) (fun zi => qa_fe (pt zi)) (fun zi => qa_fe (B zi)) (fun zi => qa_fe (P zi))) : wL_law_425 post N0 xs J (nI j) x4 (nI t) kc ks (nI 16) (nI 8) (nI w) (nI m) cp hq (fun zi => nI (K zi)) L R (fun zi => qa_fe (x zi)) (fun zi => qa_fe (F zi)) (fun zi => qa_fe (M zi)) (fun zi => qa_fe (pt zi)) (fun zi => qa_fe (B zi)) (fun zi => qa_fe (P zi)) := by
  unfold wL_law_425
  refine nm_r (nI_1 j) (ql_cell hN hj fun r => ?_)
  exact qk_check (qj_mk hp) r (br_f (by decide) (nm_r (nI_1 t) h))
theorem ql_291 (hN : N0 ≤ 260) (h1 : post 1) {nw : Nat} (hw : nw ≤ 27) : ∀ n j t (w m : Nat) (cp hq : Int32) (K : Nat → Nat) (L R : Nat → Int32) (x F M pt B P : Nat → Int), t ≤ nw → nw - t < n → j + 4 * (nw - t) ≤ 500 → qj_p w m cp hq K L R x M pt B P → wL_law_291 post N0 xs (nI nw) kc ks n (nI j) (nI t) (nI 16) (nI 8) (nI w) (nI m) cp hq (fun zi => nI (K zi)) L R (fun zi => qa_fe (x zi)) (fun zi => qa_fe (F zi)) (fun zi => qa_fe (M zi)) (fun zi => qa_fe (pt zi)) (fun zi => qa_fe (B zi)) (fun zi => qa_fe (P zi)) := by
  intro n
  induction n with
  | zero => intros; omega
  | succ n ih =>
    intro j t w m cp hq K L R x F M pt B P ht hn hj hp
    have hw1 : 1 ≤ w := hp.1
    have hw2 : w ≤ 16 := hp.2.1
    by_cases z : t < nw
    · refine br_f (nI_ge z (by omega)) (nm_r (nI_1 j) (ql_cell hN (by omega) fun r1 => ql_nn r1 fun q1 hq1 => ⟨by decide, fun x6 _ => ?_⟩))
      refine qj_i0 0 (nm_r (nI_1 (j + 1)) (ql_cell hN (by omega) fun r2 => ql_nn r2 fun q2 hq2 => ⟨nI_ne0 (by omega) (by omega), fun x8 _ => ?_⟩))
      refine br_c (fun _ => ?_) (fun _ => br_c (fun _ => ?_) (fun _ => br_c (fun _ => ?_) (fun _ => br_c (fun _ => ?_) (fun _ => br_c (fun _ => ?_) (fun _ => ?_)))))
      · refine nm_r (nI_1 (j + 2)) (ql_cell hN (by omega) fun r3 => ?_)
        refine qj_setWitness (qj_mk hp) _ _ fun r u' J => ?_
        obtain ⟨w, m, cp, hq, K, L, R, x, F, M, pt, B, P, rfl, J⟩ := J
        exact ql_425 hN (by omega) _ t J (ih _ _ _ _ _ _ _ _ _ _ _ _ _ _ _ (by omega) (by omega) (by omega) J)
      · refine nm_r (nI_1 (j + 2)) (ql_cell hN (by omega) fun r3 => ql_nn r3 fun q3 hq3 => ⟨by decide, ?_⟩)
        refine qj_setWitness (qj_mk hp) _ _ fun r u' J => ?_
        obtain ⟨w, m, cp, hq, K, L, R, x, F, M, pt, B, P, rfl, J⟩ := J
        exact ql_425 hN (by omega) _ t J (ih _ _ _ _ _ _ _ _ _ _ _ _ _ _ _ (by omega) (by omega) (by omega) J)
      · refine qj_solve (qj_mk hp) fun r u' J => ?_
        obtain ⟨w, m, cp, hq, K, L, R, x, F, M, pt, B, P, rfl, J⟩ := J
        exact ql_425 hN (by omega) _ t J (ih _ _ _ _ _ _ _ _ _ _ _ _ _ _ _ (by omega) (by omega) (by omega) J)
      · unfold wL_law_416
        refine qj_divideOk (qj_mk hp) fun u' J => ?_
        obtain ⟨w, m, cp, hq, K, L, R, x, F, M, pt, B, P, rfl, J⟩ := J
        exact br_f (by decide) (ql_425 hN (by omega) _ t J (ih _ _ _ _ _ _ _ _ _ _ _ _ _ _ _ (by omega) (by omega) (by omega) J))
      · unfold wL_law_416
        refine qj_divideOk (qj_mk hp) fun u' J => ?_
        obtain ⟨w, m, cp, hq, K, L, R, x, F, M, pt, B, P, rfl, J⟩ := J
        exact br_f (by decide) (ql_425 hN (by omega) _ t J (ih _ _ _ _ _ _ _ _ _ _ _ _ _ _ _ (by omega) (by omega) (by omega) J))
      · exact ql_425 hN (by omega) _ t hp (ih _ _ _ _ _ _ _ _ _ _ _ _ _ _ _ (by omega) (by omega) (by omega) hp)
    · obtain rfl : t = nw := by omega
      refine br_t (nI_le (Nat.le_refl _) (by omega)) (qj_solve (qj_mk hp) fun r u' J => ?_)
      obtain ⟨w, m, cp, hq, K, L, R, x, F, M, pt, B, P, rfl, J⟩ := J
      refine qj_divideOk (qj_mk J) fun u' J => ?_
      obtain ⟨w, m, cp, hq, K, L, R, x, F, M, pt, B, P, rfl, J⟩ := J
      exact br_f (by decide) (nm_r (nI_1 j) (ql_cell hN (by omega) fun r => qk_check (qj_mk J) r h1))
theorem ql_265 (hN : N0 ≤ 260) (h1 : post 1) {j : Nat} (hj : j ≤ 200) (hp : qj_p w m cp hq K L R x M pt B P) : wL_law_265 post N0 xs (nI j) kc ks (nI 16) (nI 8) (nI w) (nI m) cp hq (fun zi => nI (K zi)) L R (fun zi => qa_fe (x zi)) (fun zi => qa_fe (F zi)) (fun zi => qa_fe (M zi)) (fun zi => qa_fe (pt zi)) (fun zi => qa_fe (B zi)) (fun zi => qa_fe (P zi)) := by
  unfold wL_law_265
  refine qj_compile (qj_mk hp) fun r u' J => ?_
  obtain ⟨w, m, cp, hq, K, L, R, x, F, M, pt, B, P, rfl, J⟩ := J
  refine nm_r (nI_1 j) (ql_cell hN (by omega) fun r => ql_nn r fun q hq => ⟨by decide, ?_⟩)
  have e : (4 : Int32) + (nI q - nI q / 24 * 24) = nI (4 + q % 24) := by
    have := pk_rem (a := q) (d := 24) hq (by omega) (by omega)
    rw [show (24 : Int32) = nI 24 by decide, this]
    exact nI_add 4 (q % 24)
  have hl : 4 + q % 24 ≤ 27 := by omega
  exact nm_r e ⟨4 + q % 24 + 1, ql_291 hN h1 hl _ _ 0 _ _ _ _ _ _ _ _ _ _ _ _ _ (by omega) (by omega) (by omega) J⟩
theorem ql_44 (hN : N0 ≤ 260) (h1 : post 1) {nb : Nat} (hb : nb ≤ 12) : ∀ n j t (w m : Nat) (cp hq : Int32) (K : Nat → Nat) (L R : Nat → Int32) (x F M pt B P : Nat → Int), t ≤ nb → nb - t < n → j + 4 * (nb - t) ≤ 100 → qj_p w m cp hq K L R x M pt B P → wL_law_44 post N0 xs (nI nb) kc ks n (nI j) (nI t) (nI 16) (nI 8) (nI w) (nI m) cp hq (fun zi => nI (K zi)) L R (fun zi => qa_fe (x zi)) (fun zi => qa_fe (F zi)) (fun zi => qa_fe (M zi)) (fun zi => qa_fe (pt zi)) (fun zi => qa_fe (B zi)) (fun zi => qa_fe (P zi)) := by
  intro n
  induction n with
  | zero => intros; omega
  | succ n ih =>
    intro j t w m cp hq K L R x F M pt B P ht hn hj hp
    have hw1 : 1 ≤ w := hp.1
    have hw2 : w ≤ 16 := hp.2.1
    by_cases z : t < nb
    · refine br_f (nI_ge z (by omega)) (nm_r (nI_1 j) (ql_cell hN (by omega) fun r1 => ql_nn r1 fun q1 hq1 => ⟨by decide, fun x5 _ => ?_⟩))
      refine qj_i0 0 (nm_r (nI_1 (j + 1)) (ql_cell hN (by omega) fun r2 => ql_nn r2 fun q2 hq2 => ⟨nI_ne0 (by omega) (by omega), fun x7 _ => ?_⟩))
      refine nm_r (nI_1 (j + 2)) (ql_cell hN (by omega) fun r3 => ql_nn r3 fun q3 hq3 => ⟨nI_ne0 (by omega) (by omega), fun x8 _ => ?_⟩)
      refine br_c (fun _ => ?_) (fun _ => br_c (fun _ => ?_) (fun _ => br_c (fun _ => ?_) (fun _ => br_c (fun _ => ?_) (fun _ => br_c (fun _ => ?_) (fun _ => br_c (fun _ => ?_) (fun _ => ⟨by decide, ?_⟩))))))
      · refine qj_addInput (qj_mk hp) fun r u' J => ?_
        obtain ⟨w, m, cp, hq, K, L, R, x, F, M, pt, B, P, rfl, J⟩ := J
        exact nm_r (nI_1 t) (ih _ _ _ _ _ _ _ _ _ _ _ _ _ _ _ (by omega) (by omega) (by omega) J)
      · refine qj_addGate (qj_mk hp) _ _ _ fun r u' J => ?_
        obtain ⟨w, m, cp, hq, K, L, R, x, F, M, pt, B, P, rfl, J⟩ := J
        exact nm_r (nI_1 t) (ih _ _ _ _ _ _ _ _ _ _ _ _ _ _ _ (by omega) (by omega) (by omega) J)
      · unfold wL_law_150
        refine qj_addGate (qj_mk hp) _ _ _ fun r u' J => ?_
        obtain ⟨w, m, cp, hq, K, L, R, x, F, M, pt, B, P, rfl, J⟩ := J
        exact nm_r (nI_1 t) (ih _ _ _ _ _ _ _ _ _ _ _ _ _ _ _ (by omega) (by omega) (by omega) J)
      · unfold wL_law_150
        refine qj_addGate (qj_mk hp) _ _ _ fun r u' J => ?_
        obtain ⟨w, m, cp, hq, K, L, R, x, F, M, pt, B, P, rfl, J⟩ := J
        exact nm_r (nI_1 t) (ih _ _ _ _ _ _ _ _ _ _ _ _ _ _ _ (by omega) (by omega) (by omega) J)
      · refine nm_r (nI_1 (j + 3)) (ql_cell hN (by omega) fun r4 => ?_)
        refine qj_addGate (qj_mk hp) _ _ _ fun r u' J => ?_
        obtain ⟨w, m, cp, hq, K, L, R, x, F, M, pt, B, P, rfl, J⟩ := J
        exact nm_r (nI_1 t) (ih _ _ _ _ _ _ _ _ _ _ _ _ _ _ _ (by omega) (by omega) (by omega) J)
      · refine nm_r (nI_1 (j + 3)) (ql_cell hN (by omega) fun r4 => br_c (fun _ => ?_) (fun _ => ?_))
        · unfold wL_law_217
          refine qj_assertEqual (qj_mk hp) _ _ fun r u' J => ?_
          obtain ⟨w, m, cp, hq, K, L, R, x, F, M, pt, B, P, rfl, J⟩ := J
          exact nm_r (nI_1 t) (ih _ _ _ _ _ _ _ _ _ _ _ _ _ _ _ (by omega) (by omega) (by omega) J)
        · unfold wL_law_217
          refine qj_assertEqual (qj_mk hp) _ _ fun r u' J => ?_
          obtain ⟨w, m, cp, hq, K, L, R, x, F, M, pt, B, P, rfl, J⟩ := J
          exact nm_r (nI_1 t) (ih _ _ _ _ _ _ _ _ _ _ _ _ _ _ _ (by omega) (by omega) (by omega) J)
      · refine nm_r (nI_1 (j + 3)) (ql_cell hN (by omega) fun r4 => ?_)
        refine qj_setPoint (qj_mk hp) _ _ fun r u' J => ?_
        obtain ⟨w, m, cp, hq, K, L, R, x, F, M, pt, B, P, rfl, J⟩ := J
        exact nm_r (nI_1 t) (ih _ _ _ _ _ _ _ _ _ _ _ _ _ _ _ (by omega) (by omega) (by omega) J)
    · obtain rfl : t = nb := by omega
      refine br_t (nI_le (Nat.le_refl _) (by omega)) (qj_i1 0 (br_c (fun _ => ?_) (fun _ => ?_)))
      · refine qj_addGate (qj_mk hp) _ _ _ fun r u' J => ?_
        obtain ⟨w, m, cp, hq, K, L, R, x, F, M, pt, B, P, rfl, J⟩ := J
        exact ql_265 hN h1 (by omega) J
      · exact ql_265 hN h1 (by omega) hp
end QL
theorem i_vc (xs : Nat → Int32) (L : Nat) (hL : L ≤ 260) : wpL_law (fun r => r = 1) L xs := by
  refine ⟨9, 3184, by omega, by omega, ?_⟩
  refine qc_init fun u J => ?_
  obtain ⟨w, m, cp, hq, K, L0, R, x, F, M, pt, B, P, rfl, J⟩ := J
  refine qj_addInput (qj_mk J) fun r u' J => ?_
  obtain ⟨w, m, cp, hq, K, L1, R, x, F, M, pt, B, P, rfl, J⟩ := J
  refine qj_addInput (qj_mk J) fun r u' J => ?_
  obtain ⟨w, m, cp, hq, K, L2, R, x, F, M, pt, B, P, rfl, J⟩ := J
  refine nm_r (nI_1 0) (ql_cell (j := 0) hL (by omega) fun r => ql_nn r fun q hq => ⟨by decide, ?_⟩)
  have e : (1 : Int32) + (nI q - nI q / 12 * 12) = nI (1 + q % 12) := by
    have := pk_rem (a := q) (d := 12) hq (by omega) (by omega)
    rw [show (12 : Int32) = nI 12 by decide, this]
    exact nI_add 1 (q % 12)
  have hl : 1 + q % 12 ≤ 12 := by omega
  exact nm_r e ⟨1 + q % 12 + 1, ql_44 (post := fun r => r = 1) hL rfl hl (1 + q % 12 + 1) (0 + 1) 0 _ _ _ _ _ _ _ _ _ _ _ _ _ (by omega) (by omega) (by omega) J⟩
end
