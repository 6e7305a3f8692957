section
theorem pk_us {f : Nat → Int32} {k : Nat} {x : Int32} : upd f k x k = x := if_pos rfl
theorem pk_un {f : Nat → Int32} {k j : Nat} {x : Int32} (h : j ≠ k) : upd f k x j = f j := if_neg h
theorem pk_sub {a b : Nat} (h : b ≤ a) : nI a - nI b = nI (a - b) := by
  obtain ⟨c, rfl⟩ : ∃ c, a = c + b := ⟨a - b, by omega⟩
  rw [← nI_add, Int32.add_sub_cancel, Nat.add_sub_cancel]
theorem pk_m1 (n : Nat) : nI (n + 1) + (-1) = nI n := by
  rw [← nI_1, Int32.add_assoc, show (1 : Int32) + (-1) = 0 from rfl, Int32.add_zero]
theorem pk_mul (a b : Nat) : nI a * nI b = nI (a * b) := (Int32.ofNat_mul a b).symm
theorem pk_ix (x : Int32) {n : Nat} (hn : n < 2 ^ 31) : x < 0 ∨ nI n ≤ x ∨ ∃ j : Nat, j < n ∧ x = nI j := by
  by_cases h : x < 0
  · exact Or.inl h
  · obtain ⟨j, hj, rfl⟩ := nI_of h
    by_cases h2 : j < n
    · exact Or.inr (Or.inr ⟨j, h2, rfl⟩)
    · exact Or.inr (Or.inl (nI_le (by omega) hj))
theorem pk_le {x y : Int32} {A B : Prop} (a b : Nat) (f : a ≤ b → A) (g : b < a → B) (hx : x = nI a := by rfl) (hy : y = nI b := by rfl) (ha : a < 2 ^ 31 := by omega) (hb : b < 2 ^ 31 := by omega) : (x ≤ y → A) ∧ (¬ x ≤ y → B) := by
  subst hx hy
  rw [nI_leI ha hb]
  exact ⟨f, fun z => g (by omega)⟩
theorem pk_lt {x y : Int32} {A B : Prop} (a b : Nat) (f : a < b → A) (g : b ≤ a → B) (hx : x = nI a := by rfl) (hy : y = nI b := by rfl) (ha : a < 2 ^ 31 := by omega) (hb : b < 2 ^ 31 := by omega) : (x < y → A) ∧ (¬ x < y → B) := by
  subst hx hy
  rw [nI_ltI ha hb]
  exact ⟨f, fun z => g (by omega)⟩
theorem pk_eq {x y : Int32} {A B : Prop} (a b : Nat) (f : a = b → A) (g : a ≠ b → B) (hx : x = nI a := by rfl) (hy : y = nI b := by rfl) (ha : a < 2 ^ 31 := by omega) (hb : b < 2 ^ 31 := by omega) : (x = y → A) ∧ (¬ x = y → B) := by
  subst hx hy
  rw [nI_eq ha hb]
  exact ⟨f, g⟩
theorem pk_in {x : Int32} (n N : Nat) (h : n < N) (hx : x = nI n := by rfl) (hN : N < 2 ^ 31 := by omega) : vp_in x N := by
  subst hx
  exact vp_in_nI h hN
theorem pk_cl {x : Int32} (n : Nat) (hx : x = nI n := by rfl) (h : n < 2 ^ 31 := by omega) : x.toNatClampNeg = n := by
  subst hx
  exact nI_clamp h
def qa_rs (z : Int) : Nat := (z % 2147483647).toNat
def qa_fe (z : Int) : Int32 := nI (qa_rs z)
theorem qa_rs_lt (z : Int) : qa_rs z < 2147483647 := by unfold qa_rs; omega
theorem qa_rs_int (z : Int) : (qa_rs z : Int) = z % 2147483647 := by unfold qa_rs; omega
theorem qa_fe_int (z : Int) : (qa_fe z).toInt = z % 2147483647 := by
  have h := qa_rs_lt z
  unfold qa_fe
  rw [nI_toInt (by omega), qa_rs_int]
theorem qa_of {x : Int32} {z : Int} (h : x.toInt = z % 2147483647) : x = qa_fe z := Int32.toInt_inj.mp (by rw [h, qa_fe_int])
theorem qa_feq {a b : Int} : qa_fe a = qa_fe b ↔ a % 2147483647 = b % 2147483647 := by
  rw [← Int32.toInt_inj, qa_fe_int, qa_fe_int]
theorem qa_cong {a b : Int} (h : a % 2147483647 = b % 2147483647) : qa_fe a = qa_fe b := qa_feq.mpr h
theorem qa_nI {n : Nat} (h : n < 2147483647) : nI n = qa_fe (n : Int) := by
  apply qa_of
  rw [nI_toInt (by omega)]
  omega
theorem qa_0 : (0 : Int32) = qa_fe 0 := qa_of (by decide)
theorem qa_1 : (1 : Int32) = qa_fe 1 := qa_of (by decide)
theorem qa_p32 : (2147483647 : Int32).toInt = 2147483647 := by decide
theorem qa_p64 : (2147483647 : Int64).toInt = 2147483647 := by decide
theorem qa_ge0 (a : Int) : ¬ qa_fe a < 0 := nI_pos (by have := qa_rs_lt a; omega)
theorem qa_tm (a : Int) : (a.tmod 2147483647 < 0 → a.tmod 2147483647 + 2147483647 = a % 2147483647) ∧ (¬ a.tmod 2147483647 < 0 → a.tmod 2147483647 = a % 2147483647) := by
  have h1 := Int.lt_tmod_of_pos a (b := 2147483647) (by decide)
  have h2 := Int.tmod_lt_of_pos a (b := 2147483647) (by decide)
  have h3 := Int.tmod_add_mul_tdiv a 2147483647
  generalize a.tmod 2147483647 = t at *
  generalize a.tdiv 2147483647 = q at *
  omega
theorem qa_mb {x y : Int} (h1 : 0 ≤ x) (h2 : x < 2147483647) (h3 : 0 ≤ y) (h4 : y < 2147483647) : 0 ≤ x * y ∧ x * y ≤ 4611686009837453316 := by
  refine ⟨Int.mul_nonneg h1 h3, ?_⟩
  have := Int.mul_le_mul (a := x) (b := y) (c := 2147483646) (d := 2147483646) (by omega) (by omega) h3 (by decide)
  omega
theorem qa_mb' (a b : Int) : 0 ≤ (a % 2147483647) * (b % 2147483647) ∧ (a % 2147483647) * (b % 2147483647) ≤ 4611686009837453316 := qa_mb (by omega) (by omega) (by omega) (by omega)
theorem qa_mm (a b : Int) : (a % 2147483647) * (b % 2147483647) % 2147483647 = a * b % 2147483647 := (Int.mul_emod a b _).symm
theorem qa_l (a : Int) : (qa_fe a).toInt64.toInt = a % 2147483647 := by rw [Jvm.Kit.i64_of_i32, qa_fe_int]
theorem qa_lmul (a b : Int) : ((qa_fe a).toInt64 * (qa_fe b).toInt64).toInt = (a % 2147483647) * (b % 2147483647) := by
  have h := qa_mb' a b
  have e : (qa_fe a).toInt64.toInt * (qa_fe b).toInt64.toInt = (a % 2147483647) * (b % 2147483647) := by rw [qa_l, qa_l]
  rw [Jvm.Kit.i64_mul (by rw [e]; omega) (by rw [e]; omega), e]
theorem qa_ladd (a b : Int) : ((qa_fe a).toInt64 + (qa_fe b).toInt64).toInt = a % 2147483647 + b % 2147483647 := by
  rw [Jvm.Kit.i64_add (by rw [qa_l, qa_l]; omega) (by rw [qa_l, qa_l]; omega), qa_l, qa_l]
theorem qa_lsub (a b : Int) : ((qa_fe a).toInt64 - (qa_fe b).toInt64).toInt = a % 2147483647 - b % 2147483647 := by
  rw [Jvm.Kit.i64_sub (by rw [qa_l, qa_l]; omega) (by rw [qa_l, qa_l]; omega), qa_l, qa_l]
theorem qa_lac (s a b : Int) : ((qa_fe s).toInt64 + (qa_fe a).toInt64 * (qa_fe b).toInt64).toInt = s % 2147483647 + (a % 2147483647) * (b % 2147483647) := by
  have h := qa_mb' a b
  rw [Jvm.Kit.i64_add (by rw [qa_l, qa_lmul]; omega) (by rw [qa_l, qa_lmul]; omega), qa_l, qa_lmul]
theorem qa_lac' (s a b : Int) : ((qa_fe a).toInt64 * (qa_fe b).toInt64 + (qa_fe s).toInt64).toInt = (a % 2147483647) * (b % 2147483647) + s % 2147483647 := by
  have h := qa_mb' a b
  rw [Jvm.Kit.i64_add (by rw [qa_l, qa_lmul]; omega) (by rw [qa_l, qa_lmul]; omega), qa_l, qa_lmul]
theorem qa_lsc (s a b : Int) : ((qa_fe s).toInt64 - (qa_fe a).toInt64 * (qa_fe b).toInt64).toInt = s % 2147483647 - (a % 2147483647) * (b % 2147483647) := by
  have h := qa_mb' a b
  rw [Jvm.Kit.i64_sub (by rw [qa_l, qa_lmul]; omega) (by rw [qa_l, qa_lmul]; omega), qa_l, qa_lmul]
theorem qa_add_mod (a b : Int) : (a % 2147483647 + b % 2147483647) % 2147483647 = (a + b) % 2147483647 := by omega
theorem qa_sub_mod (a b : Int) : (a % 2147483647 - b % 2147483647) % 2147483647 = (a - b) % 2147483647 := by omega
theorem qa_ac_mod (s a b : Int) : (s % 2147483647 + (a % 2147483647) * (b % 2147483647)) % 2147483647 = (s + a * b) % 2147483647 := by
  have h := qa_mm a b
  generalize (a % 2147483647) * (b % 2147483647) = t at *
  generalize a * b = y at *
  omega
theorem qa_sc_mod (s a b : Int) : (s % 2147483647 - (a % 2147483647) * (b % 2147483647)) % 2147483647 = (s - a * b) % 2147483647 := by
  have h := qa_mm a b
  generalize (a % 2147483647) * (b % 2147483647) = t at *
  generalize a * b = y at *
  omega
theorem qa_rem0 {y : Int64} (h : 0 ≤ y.toInt) : (y - y / 2147483647 * 2147483647).toInt32 = qa_fe y.toInt := by
  apply qa_of
  have e := Jvm.Kit.i64_rem_nonneg (y := 2147483647) h
  rw [qa_p64] at e
  rw [Jvm.Kit.i32_of_i64 (by rw [e]; omega) (by rw [e]; omega), e]
theorem qa_redL {y r : Int64} (hr : r = y - y / 2147483647 * 2147483647) : (r < 0 → (r + 2147483647).toInt32 = qa_fe y.toInt) ∧ (¬ r < 0 → r.toInt32 = qa_fe y.toInt) := by
  have e : r.toInt = y.toInt.tmod 2147483647 := by rw [hr, Jvm.Kit.i64_rem, qa_p64]
  have t := qa_tm y.toInt
  have h1 := Int.lt_tmod_of_pos y.toInt (b := 2147483647) (by decide)
  have h2 := Int.tmod_lt_of_pos y.toInt (b := 2147483647) (by decide)
  rw [Int64.lt_iff_toInt_lt, Int64.toInt_zero, e]
  constructor
  · intro h
    have e2 : (r + 2147483647).toInt = y.toInt % 2147483647 := by
      rw [Jvm.Kit.i64_add (by rw [e, qa_p64]; omega) (by rw [e, qa_p64]; omega), e, qa_p64, t.1 h]
    apply qa_of
    rw [Jvm.Kit.i32_of_i64 (by rw [e2]; omega) (by rw [e2]; omega), e2]
  · intro h
    apply qa_of
    rw [Jvm.Kit.i32_of_i64 (by rw [e]; omega) (by rw [e]; omega), e, t.2 h]
theorem qa_redI {y r : Int32} (hr : r = y - y / 2147483647 * 2147483647) : (r < 0 → r + 2147483647 = qa_fe y.toInt) ∧ (¬ r < 0 → r = qa_fe y.toInt) := by
  have e : r.toInt = y.toInt.tmod 2147483647 := by rw [hr, rem_toInt, qa_p32]
  have t := qa_tm y.toInt
  have h1 := Int.lt_tmod_of_pos y.toInt (b := 2147483647) (by decide)
  have h2 := Int.tmod_lt_of_pos y.toInt (b := 2147483647) (by decide)
  rw [Int32.lt_iff_toInt_lt, Int32.toInt_zero, e]
  constructor
  · intro h
    apply qa_of
    rw [Jvm.Kit.i32_add (by rw [e, qa_p32]; omega) (by rw [e, qa_p32]; omega), e, qa_p32, t.1 h]
  · intro h
    apply qa_of
    rw [e, t.2 h]
theorem qa_sub1 {a b : Int} (h : qa_fe b ≤ qa_fe a) : qa_fe a - qa_fe b = qa_fe (a - b) := by
  rw [Int32.le_iff_toInt_le, qa_fe_int, qa_fe_int] at h
  apply qa_of
  rw [Jvm.Kit.i32_sub (by rw [qa_fe_int, qa_fe_int]; omega) (by rw [qa_fe_int, qa_fe_int]; omega), qa_fe_int, qa_fe_int]
  omega
theorem qa_subI (a b : Int) : (qa_fe a - qa_fe b).toInt = a % 2147483647 - b % 2147483647 := by
  rw [Jvm.Kit.i32_sub (by rw [qa_fe_int, qa_fe_int]; omega) (by rw [qa_fe_int, qa_fe_int]; omega), qa_fe_int, qa_fe_int]
theorem qa_sub2 {a b : Int} (h : ¬ qa_fe b ≤ qa_fe a) : qa_fe a - qa_fe b + 2147483647 = qa_fe (a - b) := by
  rw [Int32.le_iff_toInt_le, qa_fe_int, qa_fe_int] at h
  apply qa_of
  rw [Jvm.Kit.i32_add (by rw [qa_subI, qa_p32]; omega) (by rw [qa_subI, qa_p32]; omega), qa_subI, qa_p32]
  omega
def qa_uz (f : Nat → Int) (k : Nat) (x : Int) : Nat → Int := fun j => if j = k then x else f j
theorem qa_uzs {f : Nat → Int} {k : Nat} {x : Int} : qa_uz f k x k = x := if_pos rfl
theorem qa_uzn {f : Nat → Int} {k j : Nat} {x : Int} (h : j ≠ k) : qa_uz f k x j = f j := if_neg h
theorem qa_upd (f : Nat → Int) (k : Nat) (x : Int) : upd (fun i => qa_fe (f i)) k (qa_fe x) = fun i => qa_fe (qa_uz f k x i) := by
  funext i
  unfold upd qa_uz
  by_cases h : i = k
  · rw [if_pos h, if_pos h]
  · rw [if_neg h, if_neg h]
def qa_un (f : Nat → Nat) (k : Nat) (x : Nat) : Nat → Nat := fun j => if j = k then x else f j
theorem qa_uns {f : Nat → Nat} {k : Nat} {x : Nat} : qa_un f k x k = x := if_pos rfl
theorem qa_unn {f : Nat → Nat} {k j : Nat} {x : Nat} (h : j ≠ k) : qa_un f k x j = f j := if_neg h
theorem qa_updN (f : Nat → Nat) (k : Nat) (x : Nat) : upd (fun i => nI (f i)) k (nI x) = fun i => nI (qa_un f k x i) := by
  funext i
  unfold upd qa_un
  by_cases h : i = k
  · rw [if_pos h, if_pos h]
  · rw [if_neg h, if_neg h]
end
section
def qa_sm (f : Nat → Int) : Nat → Int
  | 0 => 0
  | n + 1 => qa_sm f n + f n
theorem qa_sm_c {f g : Nat → Int} {n : Nat} (h : ∀ i, i < n → f i = g i) : qa_sm f n = qa_sm g n := by
  induction n with
  | zero => rfl
  | succ n ih => rw [qa_sm, qa_sm, ih (fun i hi => h i (by omega)), h n (by omega)]
theorem qa_sm_0 {f : Nat → Int} {n : Nat} (h : ∀ i, i < n → f i = 0) : qa_sm f n = 0 := by
  induction n with
  | zero => rfl
  | succ n ih => rw [qa_sm, ih (fun i hi => h i (by omega)), h n (by omega)]; rfl
def qa_lin (a : Int) (f : Nat → Int) : Nat → Int := fun k => (if k = 0 then 0 else f (k - 1)) - a * f k
theorem qa_lin0 (a : Int) (f : Nat → Int) : qa_lin a f 0 = 0 - a * f 0 := rfl
theorem qa_linS (a : Int) (f : Nat → Int) (k : Nat) : qa_lin a f (k + 1) = f k - a * f (k + 1) := rfl
theorem qa_lin_comm (a b : Int) (f : Nat → Int) : qa_lin a (qa_lin b f) = qa_lin b (qa_lin a f) := by
  funext k
  match k with
  | 0 => simp only [qa_lin0]; grind
  | 1 => simp only [qa_linS, qa_lin0, Nat.zero_add]; grind
  | k + 2 => simp only [qa_linS]; grind
def qa_one : Nat → Int := fun k => if k = 0 then 1 else 0
def qa_zp (pt : Nat → Int) : Nat → Nat → Int
  | 0 => qa_one
  | n + 1 => qa_lin (pt n) (qa_zp pt n)
def qa_np (pt : Nat → Int) (j : Nat) : Nat → Nat → Int
  | 0 => qa_one
  | n + 1 => if n = j then qa_np pt j n else qa_lin (pt n) (qa_np pt j n)
def qa_dn (pt : Nat → Int) (j : Nat) : Nat → Int
  | 0 => 1
  | n + 1 => if n = j then qa_dn pt j n else qa_dn pt j n * (pt j - pt n)
theorem qa_np_e (pt : Nat → Int) (n : Nat) : qa_np pt n (n + 1) = qa_np pt n n := by rw [qa_np, if_pos rfl]
theorem qa_np_s {j n : Nat} (pt : Nat → Int) (h : n ≠ j) : qa_np pt j (n + 1) = qa_lin (pt n) (qa_np pt j n) := by rw [qa_np, if_neg h]
theorem qa_dn_e (pt : Nat → Int) (n : Nat) : qa_dn pt n (n + 1) = qa_dn pt n n := by rw [qa_dn, if_pos rfl]
theorem qa_dn_s {j n : Nat} (pt : Nat → Int) (h : n ≠ j) : qa_dn pt j (n + 1) = qa_dn pt j n * (pt j - pt n) := by rw [qa_dn, if_neg h]
theorem qa_np_lo (pt : Nat → Int) {j n : Nat} (h : n ≤ j) : qa_np pt j n = qa_zp pt n := by
  induction n with
  | zero => rfl
  | succ n ih => rw [qa_np_s pt (by omega), ih (by omega), qa_zp]
theorem qa_np_hi (pt : Nat → Int) {j n : Nat} (h : j < n) : qa_zp pt n = qa_lin (pt j) (qa_np pt j n) := by
  induction n with
  | zero => omega
  | succ n ih =>
    by_cases e : n = j
    · subst e
      rw [qa_np_e, qa_np_lo pt (Nat.le_refl n), qa_zp]
    · rw [qa_np_s pt e, qa_zp, ih (by omega), qa_lin_comm]
theorem qa_lin_deg {a : Int} {f : Nat → Int} {d : Nat} (h : ∀ k, d ≤ k → f k = 0) : ∀ k, d + 1 ≤ k → qa_lin a f k = 0 := by
  intro k hk
  obtain ⟨t, rfl⟩ : ∃ t, k = t + 1 := ⟨k - 1, by omega⟩
  rw [qa_linS, h t (by omega), h (t + 1) (by omega)]
  simp
theorem qa_one_deg : ∀ k, 1 ≤ k → qa_one k = 0 := by
  intro k hk
  exact if_neg (by omega)
theorem qa_zp_deg (pt : Nat → Int) (n : Nat) : ∀ k, n + 1 ≤ k → qa_zp pt n k = 0 := by
  induction n with
  | zero => exact qa_one_deg
  | succ n ih => exact qa_lin_deg ih
theorem qa_np_deg (pt : Nat → Int) {j n : Nat} (h : j < n) : ∀ k, n ≤ k → qa_np pt j n k = 0 := by
  induction n with
  | zero => omega
  | succ n ih =>
    by_cases e : n = j
    · subst e
      rw [qa_np_e, qa_np_lo pt (Nat.le_refl n)]
      exact qa_zp_deg pt n
    · rw [qa_np_s pt e]
      exact qa_lin_deg (ih (by omega))
def qa_ho (f : Nat → Int) (x : Int) : Nat → Nat → Int
  | 0 => fun _ => 0
  | d + 1 => fun k => qa_ho f x d (k + 1) * x + f k
theorem qa_ho_s (f : Nat → Int) (x : Int) (d k : Nat) : qa_ho f x (d + 1) k = qa_ho f x d (k + 1) * x + f k := rfl
theorem qa_ho_c {f g : Nat → Int} (x : Int) : ∀ d k, (∀ i, k ≤ i → i < k + d → f i = g i) → qa_ho f x d k = qa_ho g x d k := by
  intro d
  induction d with
  | zero => intro k _; rfl
  | succ d ih =>
    intro k h
    rw [qa_ho_s, qa_ho_s, ih (k + 1) (fun i h1 h2 => h i (by omega) (by omega)), h k (by omega) (by omega)]
theorem qa_ho_l {f : Nat → Int} (a x : Int) : ∀ d k, (∀ i, k + d ≤ i → f i = 0) → qa_ho (qa_lin a f) x d (k + 1) = f k + (x - a) * qa_ho f x d (k + 1) := by
  intro d
  induction d with
  | zero =>
    intro k h
    rw [h k (by omega)]
    simp only [qa_ho]
    omega
  | succ d ih =>
    intro k h
    rw [qa_ho_s, qa_ho_s, ih (k + 1) (fun i hi => h i (by omega)), qa_linS]
    grind
theorem qa_ho_up {f : Nat → Int} (x : Int) : ∀ d k, (∀ i, k + d ≤ i → f i = 0) → qa_ho f x (d + 1) k = qa_ho f x d k := by
  intro d
  induction d with
  | zero => intro k h; rw [qa_ho_s]; simp only [qa_ho]; rw [h k (by omega)]; simp
  | succ d ih =>
    intro k h
    rw [qa_ho_s, ih (k + 1) (fun i hi => h i (by omega)), ← qa_ho_s]
theorem qa_ho_lin {f : Nat → Int} (a x : Int) (d : Nat) (h : ∀ i, d + 1 ≤ i → f i = 0) : qa_ho (qa_lin a f) x (d + 2) 0 = (x - a) * qa_ho f x (d + 1) 0 := by
  have e : qa_ho f x (d + 1) 1 = qa_ho f x d 1 := qa_ho_up x d 1 (fun i hi => h i (by omega))
  rw [qa_ho_s, qa_ho_l a x (d + 1) 0 (fun i hi => h i (by omega)), qa_ho_s f x d 0, Nat.zero_add, e, qa_lin0]
  grind
theorem qa_zp_val (pt : Nat → Int) (j n : Nat) (h : n ≤ j) : qa_ho (qa_zp pt n) (pt j) (n + 1) 0 = qa_dn pt j n := by
  induction n with
  | zero => simp only [qa_ho, qa_zp, qa_one, qa_dn]; simp
  | succ n ih =>
    rw [qa_zp, qa_ho_lin _ _ n (qa_zp_deg pt n), ih (by omega), qa_dn_s pt (by omega), Int.mul_comm]
theorem qa_np_val (pt : Nat → Int) {j n : Nat} (h : j < n) : qa_ho (qa_np pt j n) (pt j) n 0 = qa_dn pt j n := by
  induction n with
  | zero => omega
  | succ n ih =>
    by_cases e : n = j
    · subst e
      rw [qa_np_e, qa_dn_e, qa_np_lo pt (Nat.le_refl n), qa_zp_val pt n n (Nat.le_refl n)]
    · obtain ⟨t, rfl⟩ : ∃ t, n = t + 1 := ⟨n - 1, by omega⟩
      rw [qa_np_s pt e, qa_ho_lin _ _ t (qa_np_deg pt (by omega)), ih (by omega), qa_dn_s pt e, Int.mul_comm]
def qa_pw (a : Int) : Nat → Int × Int
  | 0 => (1, a)
  | n + 1 => (if (((2147483645 : Int32) >>> (nI n &&& 31)) &&& 1) = 1 then (qa_pw a n).1 * (qa_pw a n).2 else (qa_pw a n).1, (qa_pw a n).2 * (qa_pw a n).2)
def qa_iv (a : Int) : Int := (qa_pw a 31).1
def qa_bs (pt : Nat → Int) (m j k : Nat) : Int := qa_np pt j m k * qa_iv (qa_dn pt j m)
def qa_mi (t j v : Nat) : Nat := (t * 16 + j) * 32 + v
def qa_rv (M x : Nat → Int) (w t j : Nat) : Int := qa_sm (fun v => M (qa_mi t j v) * x v) w
def qa_wv (F x : Nat → Int) (w i : Nat) : Int := qa_sm (fun v => F (i * 32 + v) * x v) w
def qa_pz (M x pt : Nat → Int) (w m t k : Nat) : Int := qa_sm (fun j => qa_rv M x w t j * qa_bs pt m j k) m
def qa_c2 (A B : Nat → Int) (i : Nat) (l t : Nat) : Int := qa_sm (fun b => if i + b = t then A i * B b else 0) l
def qa_c1 (A B : Nat → Int) (m : Nat) (i t : Nat) : Int := qa_sm (fun a => qa_c2 A B a m t) i
def qa_pp (M x pt : Nat → Int) (w m k : Nat) : Int := qa_c1 (qa_pz M x pt w m 0) (qa_pz M x pt w m 1) m m k - (if k < m then qa_pz M x pt w m 2 k else 0)
theorem qa_c2_s (A B : Nat → Int) (i l t : Nat) : qa_c2 A B i (l + 1) t = qa_c2 A B i l t + (if i + l = t then A i * B l else 0) := rfl
theorem qa_c1_s (A B : Nat → Int) (m i t : Nat) : qa_c1 A B m (i + 1) t = qa_c1 A B m i t + qa_c2 A B i m t := rfl
theorem qa_c2_c {A B A' B' : Nat → Int} {m : Nat} (hA : ∀ k, k < m → A k = A' k) (hB : ∀ k, k < m → B k = B' k) {i : Nat} (hi : i < m) : ∀ {l : Nat} (_ : l ≤ m) (t : Nat), qa_c2 A B i l t = qa_c2 A' B' i l t := by
  intro l hl t
  refine qa_sm_c fun b hb => ?_
  rw [hA i hi, hB b (by omega)]
theorem qa_c1_c {A B A' B' : Nat → Int} {m : Nat} (hA : ∀ k, k < m → A k = A' k) (hB : ∀ k, k < m → B k = B' k) {i : Nat} (hi : i ≤ m) (t : Nat) : qa_c1 A B m i t = qa_c1 A' B' m i t :=
  qa_sm_c fun a ha => qa_c2_c hA hB (by omega) (Nat.le_refl m) t
theorem qa_c2_0 {A B : Nat → Int} {i l t : Nat} (h : t < i ∨ i + l ≤ t) : qa_c2 A B i l t = 0 :=
  qa_sm_0 fun b hb => if_neg (by omega)
theorem qa_c1_0 {A B : Nat → Int} {m i t : Nat} (h : i + m ≤ t + 1) : qa_c1 A B m i t = 0 :=
  qa_sm_0 fun a ha => qa_c2_0 (Or.inr (by omega))
def qa_dst (Z g : Nat → Int) (i : Nat) (q : Int) (k : Nat) : Nat → Int := fun t => if i ≤ t ∧ t < i + k then g t - q * Z (t - i) else g t
theorem qa_dst_0 (Z g : Nat → Int) (i : Nat) (q : Int) : qa_dst Z g i q 0 = g := by
  funext t
  exact if_neg (by omega)
theorem qa_dst_s (Z g : Nat → Int) (i : Nat) (q : Int) (k : Nat) : qa_dst Z g i q (k + 1) = qa_uz (qa_dst Z g i q k) (i + k) (g (i + k) - q * Z k) := by
  funext t
  unfold qa_uz qa_dst
  by_cases h : t = i + k
  · subst h
    rw [if_pos (by omega), if_pos rfl, show i + k - i = k by omega]
  · rw [if_neg h]
    by_cases h2 : i ≤ t ∧ t < i + k
    · rw [if_pos (by omega), if_pos h2]
    · rw [if_neg (by omega), if_neg h2]
theorem qa_dst_at (Z g : Nat → Int) (i : Nat) (q : Int) (k : Nat) : qa_dst Z g i q k (i + k) = g (i + k) := if_neg (by omega)
def qa_rm (Z g : Nat → Int) (m : Nat) : Nat → Nat → Int
  | 0 => g
  | s + 1 => qa_dst Z (qa_rm Z g m s) (m - 2 - s) (qa_rm Z g m s (m - 2 - s + m)) (m + 1)
def qa_hh (Z g : Nat → Int) (m i : Nat) : Int := if i + 1 < m then qa_rm Z g m (m - 2 - i) (i + m) else 0
def qa_rr (Z g : Nat → Int) (m k : Nat) : Int := qa_rm Z g m (m - 1) k
theorem qa_pp_0 (M x pt : Nat → Int) (w m k : Nat) (h : 2 * m ≤ k + 1) (hm : 0 < m) : qa_pp M x pt w m k = 0 := by
  unfold qa_pp
  rw [qa_c1_0 (by omega), if_neg (by omega)]
  rfl
def qa_row (P : Nat → Int) (b m : Nat) (g : Nat → Int) : Nat → Int := fun i => if b ≤ i ∧ i < b + m then g (i - b) else P i
def qa_mix (k : Nat) (f g : Nat → Int) : Nat → Int := fun i => if i < k then f i else g i
theorem qa_row_in {P g : Nat → Int} {b m i : Nat} (h : i < m) : qa_row P b m g (b + i) = g i := by
  unfold qa_row
  rw [if_pos (by omega), Nat.add_sub_cancel_left]
theorem qa_row_out {P g : Nat → Int} {b m i : Nat} (h : i < b ∨ b + m ≤ i) : qa_row P b m g i = P i := if_neg (by omega)
theorem qa_row_0 (P g : Nat → Int) (b : Nat) : qa_row P b 0 g = P := by
  funext i
  exact if_neg (by omega)
theorem qa_row_s (P g : Nat → Int) (b v : Nat) : qa_uz (qa_row P b v g) (b + v) (g v) = qa_row P b (v + 1) g := by
  funext i
  unfold qa_uz qa_row
  by_cases h : i = b + v
  · subst h
    rw [if_pos rfl, if_pos (by omega), Nat.add_sub_cancel_left]
  · rw [if_neg h]
    by_cases h2 : b ≤ i ∧ i < b + v
    · rw [if_pos h2, if_pos (by omega)]
    · rw [if_neg h2, if_neg (by omega)]
theorem qa_row_u {P g : Nat → Int} {b m k : Nat} (h : k < m) (z : Int) : qa_uz (qa_row P b m g) (b + k) z = qa_row P b m (qa_uz g k z) := by
  funext i
  unfold qa_uz qa_row
  by_cases h1 : i = b + k
  · subst h1
    rw [if_pos rfl, if_pos (by omega)]
    exact (if_pos (by omega)).symm
  · rw [if_neg h1]
    by_cases h2 : b ≤ i ∧ i < b + m
    · rw [if_pos h2, if_pos h2]
      exact (if_neg (by omega)).symm
    · rw [if_neg h2, if_neg h2]
theorem qa_row_c {P g g' : Nat → Int} {b m : Nat} (h : ∀ i, i < m → g i = g' i) : qa_row P b m g = qa_row P b m g' := by
  funext i
  unfold qa_row
  by_cases h2 : b ≤ i ∧ i < b + m
  · rw [if_pos h2, if_pos h2, h _ (by omega)]
  · rw [if_neg h2, if_neg h2]
theorem qa_row_id {P g : Nat → Int} {b m : Nat} (h : ∀ i, i < m → g i = P (b + i)) : qa_row P b m g = P := by
  funext i
  unfold qa_row
  by_cases h2 : b ≤ i ∧ i < b + m
  · rw [if_pos h2, h _ (by omega), show b + (i - b) = i by omega]
  · rw [if_neg h2]
theorem qa_mix_0 (f g : Nat → Int) : qa_mix 0 f g = g := by
  funext i
  exact if_neg (by omega)
theorem qa_mix_s (f g : Nat → Int) (k : Nat) : qa_uz (qa_mix k f g) k (f k) = qa_mix (k + 1) f g := by
  funext i
  unfold qa_uz qa_mix
  by_cases h : i = k
  · subst h
    rw [if_pos rfl, if_pos (by omega)]
  · rw [if_neg h]
    by_cases h2 : i < k
    · rw [if_pos h2, if_pos (by omega)]
    · rw [if_neg h2, if_neg (by omega)]
theorem qa_mix_d (f g : Nat → Int) (k : Nat) : qa_uz (qa_mix (k + 1) f g) k (g k) = qa_mix k f g := by
  funext i
  unfold qa_uz qa_mix
  by_cases h : i = k
  · subst h
    rw [if_pos rfl, if_neg (by omega)]
  · rw [if_neg h]
    by_cases h2 : i < k
    · rw [if_pos h2, if_pos (by omega)]
    · rw [if_neg h2, if_neg (by omega)]
theorem qa_mix_lt {f g : Nat → Int} {k i : Nat} (h : i < k) : qa_mix k f g i = f i := if_pos h
theorem qa_mix_ge {f g : Nat → Int} {k i : Nat} (h : k ≤ i) : qa_mix k f g i = g i := if_neg (by omega)
end
section
def qi_wire (K : Nat → Nat) (L R oa ob : Nat → Int32) (F : Nat → Int) (i : Nat) : Prop :=
  (K i = 2 ∧ ∃ a b, a < i ∧ b < i ∧ oa i = nI a ∧ ob i = nI b ∧ ∀ v, v < 32 → F (i * 32 + v) = F (a * 32 + v) + F (b * 32 + v)) ∨
  (K i = 4 ∧ ∃ a c, a < i ∧ oa i = nI a ∧ ob i = qa_fe c ∧ ∀ v, v < 32 → F (i * 32 + v) = c * F (a * 32 + v)) ∨
  (((K i = 3 ∧ ∃ a b, a < i ∧ b < i ∧ oa i = nI a ∧ ob i = nI b ∧ L i = nI a ∧ R i = nI b) ∨ K i = 1 ∨ K i = 0) ∧ ∀ v, v < 32 → F (i * 32 + v) = if i = v then 1 else 0)
def qi_w (w : Nat) (K : Nat → Nat) (L R oa ob : Nat → Int32) (F : Nat → Int) : Prop :=
  (∀ i, i < w → qi_wire K L R oa ob F i) ∧ (∀ i v, i < 32 → v < 32 → (w ≤ i ∨ i < v) → F (i * 32 + v) = 0) ∧ K 0 = 0
def qi_x (w : Nat) (K : Nat → Nat) (x : Nat → Int) (st : Nat → Int32) : Prop :=
  x 0 = 1 ∧ (∀ v, 0 < v → v < 32 → st v = qa_fe (x v)) ∧ (∀ v, v < 32 → (w ≤ v ∨ K v = 2 ∨ K v = 4) → x v = 0)
def qi_row (w : Nat) (F M : Nat → Int) (ca cb cw : Nat → Int32) (j : Nat) : Prop :=
  ∃ a b, a < w ∧ b < w ∧ ca j = nI a ∧ cb j = nI b ∧
    ((∃ c, c < 32 ∧ cw j = nI c ∧ ∀ v, v < 32 → M (qa_mi 0 j v) = F (a * 32 + v) ∧ M (qa_mi 1 j v) = F (b * 32 + v) ∧ M (qa_mi 2 j v) = if v = c then 1 else 0) ∨
     (cw j = -1 ∧ ∀ v, v < 32 → M (qa_mi 0 j v) = F (a * 32 + v) - F (b * 32 + v) ∧ M (qa_mi 1 j v) = (if v = 0 then 1 else 0) ∧ M (qa_mi 2 j v) = 0))
def qi_c (w m : Nat) (F M : Nat → Int) (ca cb cw : Nat → Int32) : Prop :=
  (∀ j, j < m → qi_row w F M ca cb cw j) ∧ (∀ t j v, t < 3 → m ≤ j → j < 16 → v < 32 → M (qa_mi t j v) = 0)
def qi_q (cp : Int32) (w m : Nat) (M x pt B P : Nat → Int) : Prop :=
  (cp = 0 ∧ ∀ i, i < 224 → P i = 0) ∨
  (cp = 1 ∧ 0 < m ∧ (∀ j k, j < m → k < m → B (j * 16 + k) = qa_bs pt m j k) ∧ (∀ k, k < 32 → P (96 + k) = qa_zp pt m k) ∧
    (∀ t k, t < 3 → k < 32 → P (t * 32 + k) = if k < m then qa_pz M x pt w m t k else 0) ∧ (∀ k, k < 32 → P (128 + k) = qa_pp M x pt w m k) ∧ (∀ k, m ≤ k + 1 → k < 32 → P (160 + k) = 0))
def qi_h (cp hq : Int32) (m : Nat) (P : Nat → Int) (h r : Nat → Int32) : Prop :=
  hq = 0 ∨ (hq = 1 ∧ cp = 1 ∧ ∀ k, k < m → h k = qa_fe (P (160 + k)) ∧ r k = qa_fe (P (192 + k)))
def qi_n (W C w m : Nat) : Prop := 8 ≤ W ∧ W ≤ 32 ∧ 4 ≤ C ∧ C ≤ 16 ∧ 1 ≤ w ∧ w ≤ W ∧ m ≤ C
theorem qi_wire_c {K K' : Nat → Nat} {L R oa ob L' R' oa' ob' : Nat → Int32} {F F' : Nat → Int} {i : Nat} (hi : i < 32) (hK : K' i = K i) (h1 : L' i = L i) (h2 : R' i = R i) (h3 : oa' i = oa i) (h4 : ob' i = ob i) (hF : ∀ a v, a ≤ i → v < 32 → F' (a * 32 + v) = F (a * 32 + v)) (h : qi_wire K L R oa ob F i) : qi_wire K' L' R' oa' ob' F' i := by
  unfold qi_wire at *
  rw [hK, h1, h2, h3, h4]
  rcases h with ⟨k, a, b, ha, hb, e1, e2, e3⟩ | ⟨k, a, c, ha, e1, e2, e3⟩ | ⟨k, e3⟩
  · exact Or.inl ⟨k, a, b, ha, hb, e1, e2, fun v hv => by rw [hF i v (by omega) hv, hF a v (by omega) hv, hF b v (by omega) hv, e3 v hv]⟩
  · exact Or.inr (Or.inl ⟨k, a, c, ha, e1, e2, fun v hv => by rw [hF i v (by omega) hv, hF a v (by omega) hv, e3 v hv]⟩)
  · exact Or.inr (Or.inr ⟨k, fun v hv => by rw [hF i v (by omega) hv, e3 v hv]⟩)
theorem qi_w_ext {w : Nat} {K K' : Nat → Nat} {L R oa ob L' R' oa' ob' : Nat → Int32} {F F' : Nat → Int} (hw : w < 32) (h0 : 0 < w) (hK : ∀ i, i < w → K' i = K i) (h1 : ∀ i, i < w → L' i = L i) (h2 : ∀ i, i < w → R' i = R i) (h3 : ∀ i, i < w → oa' i = oa i) (h4 : ∀ i, i < w → ob' i = ob i) (hF : ∀ a v, a ≠ w → a < 32 → v < 32 → F' (a * 32 + v) = F (a * 32 + v)) (hF2 : ∀ v, w < v → v < 32 → F' (w * 32 + v) = 0) (hn : qi_wire K' L' R' oa' ob' F' w) (h : qi_w w K L R oa ob F) : qi_w (w + 1) K' L' R' oa' ob' F' := by
  obtain ⟨a, b, c⟩ := h
  refine ⟨fun i hi => ?_, fun i v hi hv ho => ?_, by rw [hK 0 h0, c]⟩
  · by_cases e : i = w
    · rw [e]; exact hn
    · exact qi_wire_c (by omega) (hK i (by omega)) (h1 i (by omega)) (h2 i (by omega)) (h3 i (by omega)) (h4 i (by omega)) (fun a v ha hv => hF a v (by omega) (by omega) hv) (a i (by omega))
  · by_cases e : i = w
    · subst e; exact hF2 v (by omega) hv
    · rw [hF i v e hi hv]; exact b i v hi hv (by omega)
theorem qi_row_w {w w' : Nat} {F F' M : Nat → Int} {ca cb cw : Nat → Int32} {j : Nat} (hw : w ≤ w') (hw2 : w' ≤ 32) (hF : ∀ a v, a < w → v < 32 → F' (a * 32 + v) = F (a * 32 + v)) (h : qi_row w F M ca cb cw j) : qi_row w' F' M ca cb cw j := by
  obtain ⟨a, b, ha, hb, e1, e2, h⟩ := h
  refine ⟨a, b, by omega, by omega, e1, e2, ?_⟩
  rcases h with ⟨c, hc, e3, h⟩ | ⟨e3, h⟩
  · exact Or.inl ⟨c, hc, e3, fun v hv => by rw [hF a v ha hv, hF b v hb hv]; exact h v hv⟩
  · exact Or.inr ⟨e3, fun v hv => by rw [hF a v ha hv, hF b v hb hv]; exact h v hv⟩
theorem qi_c_w {w w' m : Nat} {F F' M : Nat → Int} {ca cb cw : Nat → Int32} (hw : w ≤ w') (hw2 : w' ≤ 32) (hF : ∀ a v, a < w → v < 32 → F' (a * 32 + v) = F (a * 32 + v)) (h : qi_c w m F M ca cb cw) : qi_c w' m F' M ca cb cw :=
  ⟨fun j hj => qi_row_w hw hw2 hF (h.1 j hj), h.2⟩
theorem qi_row_m {w : Nat} {F M M' : Nat → Int} {ca cb cw ca' cb' cw' : Nat → Int32} {j : Nat} (h1 : ca' j = ca j) (h2 : cb' j = cb j) (h3 : cw' j = cw j) (hM : ∀ t v, t < 3 → v < 32 → M' (qa_mi t j v) = M (qa_mi t j v)) (h : qi_row w F M ca cb cw j) : qi_row w F M' ca' cb' cw' j := by
  obtain ⟨a, b, ha, hb, e1, e2, h⟩ := h
  refine ⟨a, b, ha, hb, by rw [h1, e1], by rw [h2, e2], ?_⟩
  rw [h3]
  rcases h with ⟨c, hc, e3, h⟩ | ⟨e3, h⟩
  · exact Or.inl ⟨c, hc, e3, fun v hv => by rw [hM 0 v (by omega) hv, hM 1 v (by omega) hv, hM 2 v (by omega) hv]; exact h v hv⟩
  · exact Or.inr ⟨e3, fun v hv => by rw [hM 0 v (by omega) hv, hM 1 v (by omega) hv, hM 2 v (by omega) hv]; exact h v hv⟩
theorem qi_c_m {w m : Nat} {F M M' : Nat → Int} {ca cb cw ca' cb' cw' : Nat → Int32} (hm : m < 16) (h1 : ∀ j, j < m → ca' j = ca j) (h2 : ∀ j, j < m → cb' j = cb j) (h3 : ∀ j, j < m → cw' j = cw j) (hM : ∀ t j v, t < 3 → j ≠ m → j < 16 → v < 32 → M' (qa_mi t j v) = M (qa_mi t j v)) (hn : qi_row w F M' ca' cb' cw' m) (h : qi_c w m F M ca cb cw) : qi_c w (m + 1) F M' ca' cb' cw' := by
  refine ⟨fun j hj => ?_, fun t j v ht hj h16 hv => ?_⟩
  · by_cases e : j = m
    · rw [e]; exact hn
    · exact qi_row_m (h1 j (by omega)) (h2 j (by omega)) (h3 j (by omega)) (fun t v ht hv => hM t j v ht e (by omega) hv) (h.1 j (by omega))
  · rw [hM t j v ht (by omega) h16 hv]
    exact h.2 t j v ht (by omega) h16 hv
theorem qi_var {w : Nat} {K : Nat → Nat} {L R oa ob : Nat → Int32} {F : Nat → Int} {i : Nat} (h : qi_w w K L R oa ob F) (hi : i < w) : K i = 0 ∨ K i = 1 ∨ K i = 2 ∨ K i = 3 ∨ K i = 4 := by
  rcases h.1 i hi with z | z | z
  · exact Or.inr (Or.inr (Or.inl z.1))
  · exact Or.inr (Or.inr (Or.inr (Or.inr z.1)))
  · rcases z.1 with y | y | y
    · exact Or.inr (Or.inr (Or.inr (Or.inl y.1)))
    · exact Or.inr (Or.inl y)
    · exact Or.inl y
end
section
theorem qn_m32 (a : Nat) : nI a * 32 = nI (a * 32) := pk_mul a 32
theorem qn_m16 (a : Nat) : nI a * 16 = nI (a * 16) := pk_mul a 16
theorem qv_in {k N : Nat} (h : k < N) (hN : N < 2 ^ 31) : vp_in (nI k) N = True := eq_true (vp_in_nI h hN)
theorem qx_add {post : Int32 → Prop} (a b : Int) : wpX_add post (qa_fe a) (qa_fe b) = post (qa_fe (a + b)) := by
  unfold wpX_add
  have h := qa_ladd a b
  rw [qa_rem0 (by rw [h]; omega), h, qa_cong (qa_add_mod a b)]
  exact propext ⟨fun z => z.2, fun z => ⟨by decide, z⟩⟩
theorem qx_mul {post : Int32 → Prop} (a b : Int) : wpX_multiply post (qa_fe a) (qa_fe b) = post (qa_fe (a * b)) := by
  unfold wpX_multiply
  have h := qa_lmul a b
  rw [qa_rem0 (by rw [h]; exact (qa_mb' a b).1), h, qa_cong (qa_mm a b)]
  exact propext ⟨fun z => z.2, fun z => ⟨by decide, z⟩⟩
theorem qx_sub {post : Int32 → Prop} (a b : Int) : wpX_subtract post (qa_fe a) (qa_fe b) = post (qa_fe (a - b)) := by
  unfold wpX_subtract
  by_cases h : qa_fe a < qa_fe b
  · rw [qa_sub2 (Int32.not_le.mpr h)]
    exact propext ⟨fun z => z.1 h, fun z => br_t h z⟩
  · rw [qa_sub1 (Int32.not_lt.mp h)]
    exact propext ⟨fun z => z.2 h, fun z => br_f h z⟩
theorem qx_sub0 {post : Int32 → Prop} (b : Int) : wpX_subtract post 0 (qa_fe b) = post (qa_fe (0 - b)) := by
  rw [qa_0, qx_sub]
theorem qx_red {post : Int32 → Prop} (y : Int32) : wpX_reduce post y = post (qa_fe y.toInt) := by
  unfold wpX_reduce
  have t := qa_redI (y := y) rfl
  apply propext
  constructor
  · intro z
    have z := z.2 _ rfl
    by_cases h : 0 ≤ y - y / 2147483647 * 2147483647
    · have := z.1 h
      rwa [t.2 (Int32.not_lt.mpr h)] at this
    · have := z.2 h
      rwa [t.1 (Int32.not_le.mp h)] at this
  · intro z
    refine ⟨by decide, fun r er => ?_⟩
    by_cases h : 0 ≤ r
    · exact br_t h (by rw [er, t.2 (by rw [← er]; exact Int32.not_lt.mpr h)]; exact z)
    · exact br_f h (by rw [er, t.1 (by rw [← er]; exact Int32.not_le.mp h)]; exact z)
theorem qy_red {post : Int32 → Prop} (u : SY) (y : Int64) : wpY_red post u y = post (qa_fe y.toInt) := by
  obtain ⟨a1, a2, a3, a4, a5, a6, a7, a8, a9, a10, a11, a12, a13, a14, a15, a16, a17, a18, a19, a20, a21, a22⟩ := u
  unfold wpY_red
  have t := qa_redL (y := y) rfl
  apply propext
  constructor
  · intro z
    have z := z.2 _ rfl
    by_cases h : 0 ≤ y - y / 2147483647 * 2147483647
    · have := z.1 h
      rwa [t.2 (Int64.not_lt.mpr h)] at this
    · have := z.2 h _ rfl
      rwa [t.1 (Int64.not_le.mp h)] at this
  · intro z
    refine ⟨by decide, fun r er => ?_⟩
    by_cases h : 0 ≤ r
    · exact br_t h (by rw [er, t.2 (by rw [← er]; exact Int64.not_lt.mpr h)]; exact z)
    · exact br_f h (fun q eq => by rw [eq, er, t.1 (by rw [← er]; exact Int64.not_le.mp h)]; exact z)
theorem qy_ac {post : Int32 → Prop} (u : SY) (s a b : Int) : wpY_red post u ((qa_fe s).toInt64 + (qa_fe a).toInt64 * (qa_fe b).toInt64) = post (qa_fe (s + a * b)) := by
  rw [qy_red, qa_lac, qa_cong (qa_ac_mod s a b)]
theorem qy_ac' {post : Int32 → Prop} (u : SY) (s a b : Int) : wpY_red post u ((qa_fe a).toInt64 * (qa_fe b).toInt64 + (qa_fe s).toInt64) = post (qa_fe (a * b + s)) := by
  rw [qy_red, qa_lac', Int.add_comm, qa_cong (qa_ac_mod s a b), Int.add_comm]
theorem qy_sc {post : Int32 → Prop} (u : SY) (s a b : Int) : wpY_red post u ((qa_fe s).toInt64 - (qa_fe a).toInt64 * (qa_fe b).toInt64) = post (qa_fe (s - a * b)) := by
  rw [qy_red, qa_lsc, qa_cong (qa_sc_mod s a b)]
theorem qy_mul {post : Int32 → Prop} (u : SY) (a b : Int) : wpY_red post u ((qa_fe a).toInt64 * (qa_fe b).toInt64) = post (qa_fe (a * b)) := by
  rw [qy_red, qa_lmul, qa_cong (qa_mm a b)]
theorem qy_add {post : Int32 → Prop} (u : SY) (a b : Int) : wpY_red post u ((qa_fe a).toInt64 + (qa_fe b).toInt64) = post (qa_fe (a + b)) := by
  rw [qy_red, qa_ladd, qa_cong (qa_add_mod a b)]
theorem qy_sub {post : Int32 → Prop} (u : SY) (a b : Int) : wpY_red post u ((qa_fe a).toInt64 - (qa_fe b).toInt64) = post (qa_fe (a - b)) := by
  rw [qy_red, qa_lsub, qa_cong (qa_sub_mod a b)]
theorem qy_den {post : Int32 → Prop} (u : SY) (s a b : Int) : wpY_red post u ((qa_fe s).toInt64 * (qa_fe a - qa_fe b).toInt64) = post (qa_fe (s * (a - b))) := by
  have h1 : (qa_fe a - qa_fe b).toInt64.toInt = a % 2147483647 - b % 2147483647 := by rw [Jvm.Kit.i64_of_i32, qa_subI]
  have h2 : ∀ x y : Int, 0 ≤ x → x < 2147483647 → -2147483647 < y → y < 2147483647 → -4611686014132420609 ≤ x * y ∧ x * y ≤ 4611686014132420609 := by
    intro x y a1 a2 a3 a4
    have u1 := Int.mul_le_mul_of_nonneg_left (show y ≤ 2147483647 by omega) a1
    have u2 := Int.mul_le_mul_of_nonneg_left (show -2147483647 ≤ y by omega) a1
    omega
  have h3 := h2 (s % 2147483647) (a % 2147483647 - b % 2147483647) (by omega) (by omega) (by omega) (by omega)
  have e : ((qa_fe s).toInt64 * (qa_fe a - qa_fe b).toInt64).toInt = (s % 2147483647) * (a % 2147483647 - b % 2147483647) := by
    rw [Jvm.Kit.i64_mul (by rw [qa_l, h1]; omega) (by rw [qa_l, h1]; omega), qa_l, h1]
  rw [qy_red, e]
  congr 1
  apply qa_cong
  rw [Int.mul_emod, qa_sub_mod, Int.emod_emod, ← Int.mul_emod]
theorem qy_i {post : Int32 → Prop} (u : SY) (y : Int32) : wpY_red post u y.toInt64 = post (qa_fe y.toInt) := by
  rw [qy_red, Jvm.Kit.i64_of_i32]
end
section
section QX
variable {W C w m : Nat} {cp hq : Int32} {K : Nat → Nat} {L R : Nat → Int32} {x F M pt B P : Nat → Int}
theorem qn_0a (i : Nat) : (0 : Int32) + nI i = nI i := Int32.zero_add _
theorem qn_32a (i : Nat) : (32 : Int32) + nI i = nI (32 + i) := nI_add 32 i
theorem qn_64a (i : Nat) : (64 : Int32) + nI i = nI (64 + i) := nI_add 64 i
theorem qn_96a (i : Nat) : (96 : Int32) + nI i = nI (96 + i) := nI_add 96 i
theorem qn_128a (i : Nat) : (128 : Int32) + nI i = nI (128 + i) := nI_add 128 i
theorem qn_160a (i : Nat) : (160 : Int32) + nI i = nI (160 + i) := nI_add 160 i
theorem qn_192a (i : Nat) : (192 : Int32) + nI i = nI (192 + i) := nI_add 192 i
theorem qn_32 : (32 : Int32) = nI 32 := by decide
theorem qn_16 : (16 : Int32) = nI 16 := by decide
theorem qx_rv_l {post : Int32 → Prop} (hw : w ≤ 32) {t j : Nat} (ht : t < 3) (hj : j < 16) (h : post (qa_fe (qa_rv M x w t j))) : ∀ n v, v ≤ w → w - v < n → wX_rowValue_12 post (nI ((t * 16 + j) * 32)) (nI W) (nI C) (nI w) (nI m) cp hq (fun zi => nI (K zi)) L R (fun zi => qa_fe (x zi)) (fun zi => qa_fe (F zi)) (fun zi => qa_fe (M zi)) (fun zi => qa_fe (pt zi)) (fun zi => qa_fe (B zi)) (fun zi => qa_fe (P zi)) n (qa_fe (qa_sm (fun v => M (qa_mi t j v) * x v) v)) (nI v) := by
  intro n
  induction n with
  | zero => intros; omega
  | succ n ih =>
    intro v hv hn
    by_cases h1 : v < w
    · have h2 : ¬ w ≤ v := by omega
      simp (disch := omega) only [wX_rowValue_12, h2, not_true, not_false_iff, true_implies, false_implies, true_and, and_true, forall_eq, nI_add, nI_1, nI_clamp, nI_leI, nI_ltI, nI_eq, qn_m32, qn_m16, qv_in, qx_mul, qx_add, qx_sub, qa_upd]
      exact ih (v + 1) (by omega) (by omega)
    · obtain rfl : v = w := by omega
      simp (disch := omega) only [wX_rowValue_12, Nat.le_refl, not_true, not_false_iff, true_implies, false_implies, true_and, and_true, forall_eq, nI_add, nI_1, nI_clamp, nI_leI, nI_ltI, nI_eq, qn_m32, qn_m16, qv_in, qx_mul, qx_add, qx_sub, qa_upd]
      exact h
theorem qx_rv {post : Int32 → Prop} (hw : w ≤ 32) {t j : Nat} (ht : t < 3) (hj : j < 16) (h : post (qa_fe (qa_rv M x w t j))) : wpX_rowValue post ((nI W), (nI C), (nI w), (nI m), cp, hq, (fun zi => nI (K zi)), L, R, (fun zi => qa_fe (x zi)), (fun zi => qa_fe (F zi)), (fun zi => qa_fe (M zi)), (fun zi => qa_fe (pt zi)), (fun zi => qa_fe (B zi)), (fun zi => qa_fe (P zi))) (nI t) (nI j) := by
  have := qx_rv_l (W := W) (C := C) (m := m) (cp := cp) (hq := hq) (K := K) (L := L) (R := R) (F := F) (pt := pt) (B := B) (P := P) hw ht hj h (w + 1) 0 (by omega) (by omega)
  rw [nI_0] at this
  simp only [wpX_rowValue, wpX_matrixRow, qn_m16, nI_add, qn_m32]
  exact ⟨w + 1, this⟩
theorem qx_wv_l {post : Int32 → Prop} (hw : w ≤ 32) {a : Nat} (ha : a < 32) (h : post (qa_fe (qa_wv F x w a))) : ∀ n v, v ≤ w → w - v < n → wX_wireValue_4 post (nI a) (nI W) (nI C) (nI w) (nI m) cp hq (fun zi => nI (K zi)) L R (fun zi => qa_fe (x zi)) (fun zi => qa_fe (F zi)) (fun zi => qa_fe (M zi)) (fun zi => qa_fe (pt zi)) (fun zi => qa_fe (B zi)) (fun zi => qa_fe (P zi)) n (qa_fe (qa_sm (fun v => F (a * 32 + v) * x v) v)) (nI v) := by
  intro n
  induction n with
  | zero => intros; omega
  | succ n ih =>
    intro v hv hn
    by_cases h1 : v < w
    · have h2 : ¬ w ≤ v := by omega
      simp (disch := omega) only [wX_wireValue_4, h2, not_true, not_false_iff, true_implies, false_implies, true_and, and_true, forall_eq, nI_add, nI_1, nI_clamp, nI_leI, nI_ltI, nI_eq, qn_m32, qn_m16, qv_in, qx_mul, qx_add, qx_sub, qa_upd]
      exact ih (v + 1) (by omega) (by omega)
    · obtain rfl : v = w := by omega
      simp (disch := omega) only [wX_wireValue_4, Nat.le_refl, not_true, not_false_iff, true_implies, false_implies, true_and, and_true, forall_eq, nI_add, nI_1, nI_clamp, nI_leI, nI_ltI, nI_eq, qn_m32, qn_m16, qv_in, qx_mul, qx_add, qx_sub, qa_upd]
      exact h
theorem qx_wv {post : Int32 → Prop} (hw : w ≤ 32) {a : Nat} (ha : a < 32) (h : post (qa_fe (qa_wv F x w a))) : wpX_wireValue post ((nI W), (nI C), (nI w), (nI m), cp, hq, (fun zi => nI (K zi)), L, R, (fun zi => qa_fe (x zi)), (fun zi => qa_fe (F zi)), (fun zi => qa_fe (M zi)), (fun zi => qa_fe (pt zi)), (fun zi => qa_fe (B zi)), (fun zi => qa_fe (P zi))) (nI a) := by
  have := qx_wv_l (W := W) (C := C) (m := m) (cp := cp) (hq := hq) (K := K) (L := L) (R := R) (M := M) (pt := pt) (B := B) (P := P) hw ha h (w + 1) 0 (by omega) (by omega)
  rw [nI_0] at this
  exact ⟨w + 1, this⟩
theorem qx_inv_l {post : Int32 → Prop} (a : Int) (h : post (qa_fe (qa_iv a))) : ∀ n i, i ≤ 31 → 31 - i < n → wX_invert_6 post n (qa_fe (qa_pw a i).1) (qa_fe (qa_pw a i).2) (nI i) := by
  have l : (31 : Int32) = nI 31 := by decide
  intro n
  induction n with
  | zero => intros; omega
  | succ n ih =>
    intro i hi hn
    by_cases h1 : i < 31
    · have h2 : ¬ (31 : Int32) ≤ nI i := by rw [l]; exact nI_ge h1 (by omega)
      have i2 := ih (i + 1) (by omega) (by omega)
      by_cases hb : (((2147483645 : Int32) >>> (nI i &&& 31)) &&& 1) = 1
      · refine br_f h2 (br_t hb ?_)
        rw [qx_mul]
        unfold wX_invert_28
        rw [qx_mul]
        rw [qa_pw, if_pos hb] at i2
        exact nm_r (nI_1 i) i2
      · refine br_f h2 (br_f hb ?_)
        unfold wX_invert_28
        rw [qx_mul]
        rw [qa_pw, if_neg hb] at i2
        exact nm_r (nI_1 i) i2
    · obtain rfl : i = 31 := by omega
      exact br_t (by decide) h
theorem qx_inv {post : Int32 → Prop} (a : Int) (h : post (qa_fe (qa_iv a))) : wpX_invert post (qa_fe a) := by
  have := qx_inv_l a h 32 0 (by omega) (by omega)
  rw [qa_pw, ← qa_1, nI_0] at this
  exact ⟨32, this⟩
def qx_d (c : Nat) : Int32 := nI c - 1
theorem qx_ds (c : Nat) : qx_d (c + 1) = nI c := nI_pred c
theorem qx_dm (c : Nat) : nI c + (-1) = qx_d c := (Int32.sub_eq_add_neg _ _).symm
theorem qx_d0 : qx_d 0 < 0 := by decide
theorem qx_pv_l {post : Int32 → Prop} {t l : Nat} (ht : t < 7) (hl : l ≤ 32) (r : Int) (h : post (qa_fe (qa_ho (fun k => P (t * 32 + k)) r l 0))) : ∀ c n, c ≤ l → c < n → wX_polyValue_11 post (nI t) (qa_fe r) (nI W) (nI C) (nI w) (nI m) cp hq (fun zi => nI (K zi)) L R (fun zi => qa_fe (x zi)) (fun zi => qa_fe (F zi)) (fun zi => qa_fe (M zi)) (fun zi => qa_fe (pt zi)) (fun zi => qa_fe (B zi)) (fun zi => qa_fe (P zi)) n (qa_fe (qa_ho (fun k => P (t * 32 + k)) r (l - c) c)) (qx_d c) := by
  intro c
  induction c with
  | zero =>
    intro n _ hn
    obtain ⟨n, rfl⟩ : ∃ k, n = k + 1 := ⟨n - 1, by omega⟩
    exact br_t qx_d0 h
  | succ c ih =>
    intro n hc hn
    obtain ⟨n, rfl⟩ : ∃ k, n = k + 1 := ⟨n - 1, by omega⟩
    rw [qx_ds]
    have h1 : ¬ nI c < 0 := nI_pos (by omega)
    have i2 := ih n (by omega) (by omega)
    rw [show l - c = (l - (c + 1)) + 1 by omega, qa_ho_s] at i2
    simp (disch := omega) only [wX_polyValue_11, h1, qx_dm, not_true, not_false_iff, true_implies, false_implies, true_and, and_true, forall_eq, nI_add, nI_1, nI_clamp, nI_leI, nI_ltI, nI_eq, qn_m32, qn_m16, qv_in, qx_mul, qx_add, qx_sub, qa_upd]
    exact i2
theorem qx_pv_g {post : Int32 → Prop} {t l : Nat} (ht : t < 7) (hl : l ≤ 32) (r : Int) (h : post (qa_fe (qa_ho (fun k => P (t * 32 + k)) r l 0))) : ∃ n, wX_polyValue_11 post (nI t) (qa_fe r) (nI W) (nI C) (nI w) (nI m) cp hq (fun zi => nI (K zi)) L R (fun zi => qa_fe (x zi)) (fun zi => qa_fe (F zi)) (fun zi => qa_fe (M zi)) (fun zi => qa_fe (pt zi)) (fun zi => qa_fe (B zi)) (fun zi => qa_fe (P zi)) n 0 (qx_d l) := by
  have := qx_pv_l (W := W) (C := C) (w := w) (m := m) (cp := cp) (hq := hq) (K := K) (L := L) (R := R) (x := x) (F := F) (M := M) (pt := pt) (B := B) ht hl r h l (l + 1) (by omega) (by omega)
  rw [Nat.sub_self] at this
  exact ⟨l + 1, this⟩
def qa_len (t m : Nat) : Nat := if t = 3 then m + 1 else if t = 4 then 2 * m - 1 else m
theorem qx_len {post : Int32 → Prop} {t : Nat} (ht : t < 7) (hm : 0 < m) (hm2 : m ≤ 16) (h : post (nI (qa_len t m))) : wpX_polyLength post ((nI W), (nI C), (nI w), (nI m), cp, hq, (fun zi => nI (K zi)), L, R, (fun zi => qa_fe (x zi)), (fun zi => qa_fe (F zi)), (fun zi => qa_fe (M zi)), (fun zi => qa_fe (pt zi)), (fun zi => qa_fe (B zi)), (fun zi => qa_fe (P zi))) (nI t) := by
  have e3 : (3 : Int32) = nI 3 := by decide
  have e4 : (4 : Int32) = nI 4 := by decide
  unfold wpX_polyLength qa_len at *
  by_cases h3 : t = 3
  · subst h3
    rw [if_pos rfl] at h
    exact br_t rfl (by rw [nI_1]; exact h)
  · rw [if_neg h3] at h
    refine br_f (by rw [e3, nI_eq (by omega) (by omega)]; exact h3) ?_
    by_cases h4 : t = 4
    · subst h4
      rw [if_pos rfl] at h
      refine br_t rfl ?_
      have : (2 : Int32) * nI m - 1 = nI (2 * m - 1) := by
        rw [show (2 : Int32) = nI 2 by decide, pk_mul, show (1 : Int32) = nI 1 by decide, pk_sub (by omega)]
      rw [this]
      exact h
    · rw [if_neg h4] at h
      exact br_f (by rw [e4, nI_eq (by omega) (by omega)]; exact h4) h
theorem qx_pv {post : Int32 → Prop} {t : Nat} (ht : t < 7) (hm : 0 < m) (hm2 : m ≤ 16) (r : Int) (h : post (qa_fe (qa_ho (fun k => P (t * 32 + k)) r (qa_len t m) 0))) : wpX_polyValue post ((nI W), (nI C), (nI w), (nI m), cp, hq, (fun zi => nI (K zi)), L, R, (fun zi => qa_fe (x zi)), (fun zi => qa_fe (F zi)), (fun zi => qa_fe (M zi)), (fun zi => qa_fe (pt zi)), (fun zi => qa_fe (B zi)), (fun zi => qa_fe (P zi))) (nI t) (qa_fe r) := by
  unfold wpX_polyValue
  refine qx_len ht hm hm2 ?_
  refine nm_r (e' := qx_d (qa_len t m)) rfl ?_
  exact qx_pv_g ht (by unfold qa_len; split <;> (try split) <;> omega) r h
def qa_sat (M x : Nat → Int) (w m : Nat) : Prop := ∀ j, j < m → qa_fe (qa_rv M x w 0 j * qa_rv M x w 1 j) = qa_fe (qa_rv M x w 2 j)
theorem qx_sat_l {post : Int32 → Prop} (hw : w ≤ 32) (hm : m ≤ 16) (h1 : qa_sat M x w m → post 1) (h0 : ¬ qa_sat M x w m → post 0) : ∀ n j, j ≤ m → m - j < n → (∀ i, i < j → qa_fe (qa_rv M x w 0 i * qa_rv M x w 1 i) = qa_fe (qa_rv M x w 2 i)) → wX_isSatisfied_2 post (nI W) (nI C) (nI w) (nI m) cp hq (fun zi => nI (K zi)) L R (fun zi => qa_fe (x zi)) (fun zi => qa_fe (F zi)) (fun zi => qa_fe (M zi)) (fun zi => qa_fe (pt zi)) (fun zi => qa_fe (B zi)) (fun zi => qa_fe (P zi)) n (nI j) := by
  intro n
  induction n with
  | zero => intros; omega
  | succ n ih =>
    intro j hj hn hI
    by_cases z : j < m
    · have z2 : ¬ nI m ≤ nI j := nI_ge z (by omega)
      refine br_f z2 ?_
      refine qx_rv (t := 0) hw (by omega) (by omega) ?_
      refine qx_rv (t := 1) hw (by omega) (by omega) ?_
      rw [qx_mul]
      refine qx_rv (t := 2) hw (by omega) (by omega) ?_
      by_cases e : qa_fe (qa_rv M x w 0 j * qa_rv M x w 1 j) = qa_fe (qa_rv M x w 2 j)
      · refine br_t e (nm_r (nI_1 j) ?_)
        refine ih (j + 1) (by omega) (by omega) fun i hi => ?_
        by_cases q : i = j
        · rw [q]; exact e
        · exact hI i (by omega)
      · exact br_f e (h0 fun q => e (q j z))
    · obtain rfl : j = m := by omega
      exact br_t (nI_le (Nat.le_refl _) (by omega)) (h1 hI)
theorem qx_sat {post : Int32 → Prop} (hw : w ≤ 32) (hm : m ≤ 16) (h1 : qa_sat M x w m → post 1) (h0 : ¬ qa_sat M x w m → post 0) : wpX_isSatisfied post ((nI W), (nI C), (nI w), (nI m), cp, hq, (fun zi => nI (K zi)), L, R, (fun zi => qa_fe (x zi)), (fun zi => qa_fe (F zi)), (fun zi => qa_fe (M zi)), (fun zi => qa_fe (pt zi)), (fun zi => qa_fe (B zi)), (fun zi => qa_fe (P zi))) := by
  have := qx_sat_l (W := W) (C := C) (cp := cp) (hq := hq) (K := K) (L := L) (R := R) (F := F) (pt := pt) (B := B) (P := P) hw hm h1 h0 (m + 1) 0 (by omega) (by omega) (fun i hi => by omega)
  rw [nI_0] at this
  exact ⟨m + 1, this⟩
def qa_cc (M pt : Nat → Int) (m t v k n : Nat) : Int := qa_sm (fun j => M (qa_mi t j v) * qa_bs pt m j k) n
theorem qx_cc_l {post : Int32 → Prop} (hm : m ≤ 16) {t v k : Nat} (ht : t < 3) (hv : v < 32) (hk : k < m) (hB : ∀ j k, j < m → k < m → B (j * 16 + k) = qa_bs pt m j k) (h : post (qa_fe (qa_cc M pt m t v k m))) : ∀ n j, j ≤ m → m - j < n → wX_columnCoeff_42 post (nI t) (nI v) (nI k) (nI W) (nI C) (nI w) (nI m) cp hq (fun zi => nI (K zi)) L R (fun zi => qa_fe (x zi)) (fun zi => qa_fe (F zi)) (fun zi => qa_fe (M zi)) (fun zi => qa_fe (pt zi)) (fun zi => qa_fe (B zi)) (fun zi => qa_fe (P zi)) n (qa_fe (qa_cc M pt m t v k j)) (nI j) := by
  intro n
  induction n with
  | zero => intros; omega
  | succ n ih =>
    intro j hj hn
    by_cases h1 : j < m
    · have h2 : ¬ m ≤ j := by omega
      simp (disch := omega) only [wX_columnCoeff_42, wpX_matrixRow, h2, not_true, not_false_iff, true_implies, false_implies, true_and, and_true, forall_eq, nI_add, nI_1, nI_clamp, nI_leI, nI_ltI, nI_eq, qn_m32, qn_m16, qv_in, qx_mul, qx_add, qx_sub, qa_upd]
      rw [hB j k h1 hk]
      exact ih (j + 1) (by omega) (by omega)
    · obtain rfl : j = m := by omega
      simp (disch := omega) only [wX_columnCoeff_42, Nat.le_refl, not_true, not_false_iff, true_implies, false_implies, true_and, and_true, forall_eq, nI_add, nI_1, nI_clamp, nI_leI, nI_ltI, nI_eq, qn_m32, qn_m16, qv_in, qx_mul, qx_add, qx_sub, qa_upd]
      exact h
theorem qx_cc {post : Int32 → Prop} (hm : m ≤ 16) {t v k : Nat} (ht : t < 3) (hv : v < 32) (hk : k < m) (hB : ∀ j k, j < m → k < m → B (j * 16 + k) = qa_bs pt m j k) (h : post (qa_fe (qa_cc M pt m t v k m))) : ∃ n, wX_columnCoeff_42 post (nI t) (nI v) (nI k) (nI W) (nI C) (nI w) (nI m) cp hq (fun zi => nI (K zi)) L R (fun zi => qa_fe (x zi)) (fun zi => qa_fe (F zi)) (fun zi => qa_fe (M zi)) (fun zi => qa_fe (pt zi)) (fun zi => qa_fe (B zi)) (fun zi => qa_fe (P zi)) n 0 0 := by
  have := qx_cc_l (W := W) (C := C) (w := w) (cp := cp) (hq := hq) (K := K) (L := L) (R := R) (x := x) (F := F) (P := P) hm ht hv hk hB h (m + 1) 0 (by omega) (by omega)
  exact ⟨m + 1, this⟩
def qa_rz (P : Nat → Int) (m : Nat) : Prop := ∀ k, k < m → qa_fe (P (192 + k)) = 0
theorem qx_rz_l {post : Int32 → Prop} (hm : m ≤ 16) (h1 : qa_rz P m → post 1) (h0 : ¬ qa_rz P m → post 0) : ∀ n k, k ≤ m → m - k < n → (∀ i, i < k → qa_fe (P (192 + i)) = 0) → wX_remainderIsZero_2 post (nI W) (nI C) (nI w) (nI m) cp hq (fun zi => nI (K zi)) L R (fun zi => qa_fe (x zi)) (fun zi => qa_fe (F zi)) (fun zi => qa_fe (M zi)) (fun zi => qa_fe (pt zi)) (fun zi => qa_fe (B zi)) (fun zi => qa_fe (P zi)) n (nI k) := by
  intro n
  induction n with
  | zero => intros; omega
  | succ n ih =>
    intro k hk hn hI
    by_cases z : k < m
    · have z2 : ¬ nI m ≤ nI k := nI_ge z (by omega)
      have ci : ((192 : Int32) + nI k).toNatClampNeg = 192 + k := by rw [qn_192a, nI_clamp (by omega)]
      refine br_f z2 ⟨by rw [qn_192a]; exact vp_in_nI (by omega) (by omega), ?_⟩
      by_cases e : qa_fe (P (192 + k)) = 0
      · refine br_t (by rw [ci]; exact e) (nm_r (nI_1 k) ?_)
        refine ih (k + 1) (by omega) (by omega) fun i hi => ?_
        by_cases q : i = k
        · rw [q]; exact e
        · exact hI i (by omega)
      · exact br_f (by rw [ci]; exact e) (h0 fun q => e (q k z))
    · obtain rfl : k = m := by omega
      exact br_t (nI_le (Nat.le_refl _) (by omega)) (h1 hI)
theorem qx_rz {post : Int32 → Prop} (hm : m ≤ 16) (h1 : qa_rz P m → post 1) (h0 : ¬ qa_rz P m → post 0) : wpX_remainderIsZero post ((nI W), (nI C), (nI w), (nI m), cp, hq, (fun zi => nI (K zi)), L, R, (fun zi => qa_fe (x zi)), (fun zi => qa_fe (F zi)), (fun zi => qa_fe (M zi)), (fun zi => qa_fe (pt zi)), (fun zi => qa_fe (B zi)), (fun zi => qa_fe (P zi))) := by
  have := qx_rz_l (W := W) (C := C) (w := w) (cp := cp) (hq := hq) (K := K) (L := L) (R := R) (x := x) (F := F) (M := M) (pt := pt) (B := B) hm h1 h0 (m + 1) 0 (by omega) (by omega) (fun i hi => by omega)
  rw [nI_0] at this
  exact ⟨m + 1, this⟩
end QX
end
section
section QX
variable {W C w m : Nat} {cp hq : Int32} {K : Nat → Nat} {L R : Nat → Int32} {x F M pt B P : Nat → Int}
theorem qx_ip57 {post : SX → Prop} {J : Int32 → (Nat → Int32) → (Nat → Int32) → (Nat → Int32) → (Nat → Int32) → (Nat → Int32) → (Nat → Int32) → (Nat → Int32) → (Nat → Int32) → (Nat → Int32) → Prop} (hm : m ≤ 16) {t j : Nat} (ht : t < 3) (hj : j < m) (x1 : Int32) (v : Int) (f b : Nat → Int) (hB : ∀ k, k < m → B (j * 16 + k) = b k) (h : J (nI (j + 1)) (fun zi => nI (K zi)) L R (fun zi => qa_fe (x zi)) (fun zi => qa_fe (F zi)) (fun zi => qa_fe (M zi)) (fun zi => qa_fe (pt zi)) (fun zi => qa_fe (B zi)) (fun zi => qa_fe ((qa_row P (t * 32) m (fun k => f k + v * b k)) zi))) : ∀ n k, k ≤ m → m - k < n → wX_interpolate_57 post J x1 (nI (t * 32)) (nI j) (qa_fe v) (nI W) (nI C) (nI w) (nI m) cp hq n (nI k) (fun zi => nI (K zi)) L R (fun zi => qa_fe (x zi)) (fun zi => qa_fe (F zi)) (fun zi => qa_fe (M zi)) (fun zi => qa_fe (pt zi)) (fun zi => qa_fe (B zi)) (fun zi => qa_fe ((qa_row P (t * 32) m (qa_mix k (fun k => f k + v * b k) f)) zi)) := by
  intro n
  induction n with
  | zero => intros; omega
  | succ n ih =>
    intro k hk hn
    by_cases h1 : k < m
    · have h2 : ¬ m ≤ k := by omega
      simp (disch := omega) only [wX_interpolate_57, h2, not_true, not_false_iff, true_implies, false_implies, true_and, and_true, forall_eq, nI_add, nI_1, nI_clamp, nI_leI, nI_ltI, nI_eq, qn_m32, qn_m16, qv_in, qx_mul, qx_add, qx_sub, qa_upd]
      rw [hB k h1, qa_row_in h1, qa_mix_ge (Nat.le_refl k), qa_row_u h1, qa_mix_s (fun k => f k + v * b k) f k]
      exact ih (k + 1) (by omega) (by omega)
    · obtain rfl : k = m := by omega
      simp (disch := omega) only [wX_interpolate_57, Nat.le_refl, not_true, not_false_iff, true_implies, false_implies, true_and, and_true, forall_eq, nI_add, nI_1, nI_clamp, nI_leI, nI_ltI, nI_eq, qn_m32, qn_m16, qv_in, qx_mul, qx_add, qx_sub, qa_upd]
      rw [qa_row_c (g' := fun k => f k + v * b k) (fun i hi => qa_mix_lt hi)]
      exact h
def qa_ps (M x pt : Nat → Int) (w m t j k : Nat) : Int := qa_sm (fun j => qa_rv M x w t j * qa_bs pt m j k) j
theorem qx_ip36 {post : SX → Prop} (hw : w ≤ 32) (hm : m ≤ 16) {t : Nat} (ht : t < 3) (hB : ∀ j k, j < m → k < m → B (j * 16 + k) = qa_bs pt m j k) (h : post ((nI W), (nI C), (nI w), (nI m), cp, hq, (fun zi => nI (K zi)), L, R, (fun zi => qa_fe (x zi)), (fun zi => qa_fe (F zi)), (fun zi => qa_fe (M zi)), (fun zi => qa_fe (pt zi)), (fun zi => qa_fe (B zi)), (fun zi => qa_fe ((qa_row P (t * 32) m (qa_pz M x pt w m t)) zi)))) : ∀ n j, j ≤ m → m - j < n → wX_interpolate_36 post (nI t) (nI (t * 32)) (nI W) (nI C) (nI w) (nI m) cp hq n (nI j) (fun zi => nI (K zi)) L R (fun zi => qa_fe (x zi)) (fun zi => qa_fe (F zi)) (fun zi => qa_fe (M zi)) (fun zi => qa_fe (pt zi)) (fun zi => qa_fe (B zi)) (fun zi => qa_fe ((qa_row P (t * 32) m (qa_ps M x pt w m t j)) zi)) := by
  intro n
  induction n with
  | zero => intros; omega
  | succ n ih =>
    intro j hj hn
    by_cases h1 : j < m
    · have h2 : ¬ nI m ≤ nI j := nI_ge h1 (by omega)
      refine br_f h2 (qx_rv hw ht (by omega) ⟨m + 1, ?_⟩)
      have := qx_ip57 (post := post) (J := wX_interpolate_36 post (nI t) (nI (t * 32)) (nI W) (nI C) (nI w) (nI m) cp hq n) (K := K) (L := L) (R := R) (W := W) (C := C) (w := w) (cp := cp) (hq := hq) (x := x) (F := F) (M := M) (pt := pt) (P := P) hm ht h1 (nI t) (qa_rv M x w t j) (qa_ps M x pt w m t j) (qa_bs pt m j) (fun k hk => hB j k h1 hk) (ih (j + 1) (by omega) (by omega)) (m + 1) 0 (by omega) (by omega)
      rw [qa_mix_0] at this
      exact this
    · obtain rfl : j = m := by omega
      exact br_t (nI_le (Nat.le_refl _) (by omega)) h
theorem qx_ip8 {post : SX → Prop} (hm : m ≤ 16) {t : Nat} (ht : t < 3) (h : ∃ n, wX_interpolate_36 post (nI t) (nI (t * 32)) (nI W) (nI C) (nI w) (nI m) cp hq n 0 (fun zi => nI (K zi)) L R (fun zi => qa_fe (x zi)) (fun zi => qa_fe (F zi)) (fun zi => qa_fe (M zi)) (fun zi => qa_fe (pt zi)) (fun zi => qa_fe (B zi)) (fun zi => qa_fe ((qa_row P (t * 32) m (fun _ => 0)) zi))) : ∀ n k, k ≤ m → m - k < n → wX_interpolate_8 post (nI t) (nI (t * 32)) (nI W) (nI C) (nI w) (nI m) cp hq n (nI k) (fun zi => nI (K zi)) L R (fun zi => qa_fe (x zi)) (fun zi => qa_fe (F zi)) (fun zi => qa_fe (M zi)) (fun zi => qa_fe (pt zi)) (fun zi => qa_fe (B zi)) (fun zi => qa_fe ((qa_row P (t * 32) k (fun _ => 0)) zi)) := by
  intro n
  induction n with
  | zero => intros; omega
  | succ n ih =>
    intro k hk hn
    by_cases h1 : k < m
    · have h2 : ¬ m ≤ k := by omega
      simp (disch := omega) only [wX_interpolate_8, h2, qa_0, not_true, not_false_iff, true_implies, false_implies, true_and, and_true, forall_eq, nI_add, nI_1, nI_clamp, nI_leI, nI_ltI, nI_eq, qn_m32, qn_m16, qv_in, qx_mul, qx_add, qx_sub, qa_upd]
      rw [qa_row_s P (fun _ => 0) (t * 32) k]
      exact ih (k + 1) (by omega) (by omega)
    · obtain rfl : k = m := by omega
      exact br_t (nI_le (Nat.le_refl _) (by omega)) h
theorem qx_ip {post : SX → Prop} (hw : w ≤ 32) (hm : m ≤ 16) {t : Nat} (ht : t < 3) (hB : ∀ j k, j < m → k < m → B (j * 16 + k) = qa_bs pt m j k) (h : post ((nI W), (nI C), (nI w), (nI m), cp, hq, (fun zi => nI (K zi)), L, R, (fun zi => qa_fe (x zi)), (fun zi => qa_fe (F zi)), (fun zi => qa_fe (M zi)), (fun zi => qa_fe (pt zi)), (fun zi => qa_fe (B zi)), (fun zi => qa_fe ((qa_row P (t * 32) m (qa_pz M x pt w m t)) zi)))) : wpX_interpolate post ((nI W), (nI C), (nI w), (nI m), cp, hq, (fun zi => nI (K zi)), L, R, (fun zi => qa_fe (x zi)), (fun zi => qa_fe (F zi)), (fun zi => qa_fe (M zi)), (fun zi => qa_fe (pt zi)), (fun zi => qa_fe (B zi)), (fun zi => qa_fe (P zi))) (nI t) (nI t) := by
  unfold wpX_interpolate
  refine nm_r (qn_m32 t) ⟨m + 1, ?_⟩
  have h36 := qx_ip36 (K := K) (L := L) (R := R) (W := W) (C := C) (cp := cp) (hq := hq) (F := F) (P := P) hw hm ht hB h (m + 1) 0 (by omega) (by omega)
  have := qx_ip8 (post := post) (K := K) (L := L) (R := R) (W := W) (C := C) (w := w) (cp := cp) (hq := hq) (x := x) (F := F) (M := M) (pt := pt) (B := B) (P := P) hm ht ⟨m + 1, h36⟩ (m + 1) 0 (by omega) (by omega)
  rw [qa_row_0] at this
  exact this
theorem qx_pm67 {post : SX → Prop} {J : Int32 → (Nat → Int32) → (Nat → Int32) → (Nat → Int32) → (Nat → Int32) → (Nat → Int32) → (Nat → Int32) → (Nat → Int32) → (Nat → Int32) → (Nat → Int32) → Prop} (hm : m ≤ 16) {i : Nat} (hi : i < m) (f : Nat → Int) (h : J (nI (i + 1)) (fun zi => nI (K zi)) L R (fun zi => qa_fe (x zi)) (fun zi => qa_fe (F zi)) (fun zi => qa_fe (M zi)) (fun zi => qa_fe (pt zi)) (fun zi => qa_fe (B zi)) (fun zi => qa_fe ((qa_row P 128 32 (fun t => f t + qa_c2 P (fun k => P (32 + k)) i m t)) zi))) : ∀ n k, k ≤ m → m - k < n → wX_buildProductMinusC_67 post J 0 32 128 (nI i) (nI W) (nI C) (nI w) (nI m) cp hq n (nI k) (fun zi => nI (K zi)) L R (fun zi => qa_fe (x zi)) (fun zi => qa_fe (F zi)) (fun zi => qa_fe (M zi)) (fun zi => qa_fe (pt zi)) (fun zi => qa_fe (B zi)) (fun zi => qa_fe ((qa_row P 128 32 (fun t => f t + qa_c2 P (fun k => P (32 + k)) i k t)) zi)) := by
  intro n
  induction n with
  | zero => intros; omega
  | succ n ih =>
    intro k hk hn
    by_cases h1 : k < m
    · have h2 : ¬ m ≤ k := by omega
      simp (disch := omega) only [wX_buildProductMinusC_67, h2, qn_0a, qn_32a, qn_128a, not_true, not_false_iff, true_implies, false_implies, true_and, and_true, forall_eq, nI_add, nI_1, nI_clamp, nI_leI, nI_ltI, nI_eq, qn_m32, qn_m16, qv_in, qx_mul, qx_add, qx_sub, qa_upd]
      rw [Nat.add_assoc 128 i k, qa_row_in (show i + k < 32 by omega), qa_row_out (show i < 128 ∨ 128 + 32 ≤ i by omega), qa_row_out (show 32 + k < 128 ∨ 128 + 32 ≤ 32 + k by omega), qa_row_u (show i + k < 32 by omega)]
      have e : qa_uz (fun t => f t + qa_c2 P (fun k => P (32 + k)) i k t) (i + k) (f (i + k) + qa_c2 P (fun k => P (32 + k)) i k (i + k) + P i * P (32 + k)) = (fun t => f t + qa_c2 P (fun k => P (32 + k)) i (k + 1) t) := by
        funext t
        unfold qa_uz
        dsimp only
        rw [qa_c2_s]
        by_cases ht : t = i + k
        · rw [if_pos ht, if_pos ht.symm, ht, Int.add_assoc]
        · rw [if_neg ht, if_neg (fun q => ht q.symm), Int.add_zero]
      rw [e]
      exact ih (k + 1) (by omega) (by omega)
    · obtain rfl : k = m := by omega
      exact br_t (nI_le (Nat.le_refl _) (by omega)) (nm_r (nI_1 i) h)
theorem qx_pm55 {post : SX → Prop} (hm : m ≤ 16) (f : Nat → Int) (h : post ((nI W), (nI C), (nI w), (nI m), cp, hq, (fun zi => nI (K zi)), L, R, (fun zi => qa_fe (x zi)), (fun zi => qa_fe (F zi)), (fun zi => qa_fe (M zi)), (fun zi => qa_fe (pt zi)), (fun zi => qa_fe (B zi)), (fun zi => qa_fe ((qa_row P 128 32 (fun t => f t + qa_c1 P (fun k => P (32 + k)) m m t)) zi)))) : ∀ n i, i ≤ m → m - i < n → wX_buildProductMinusC_55 post 0 32 128 (nI W) (nI C) (nI w) (nI m) cp hq n (nI i) (fun zi => nI (K zi)) L R (fun zi => qa_fe (x zi)) (fun zi => qa_fe (F zi)) (fun zi => qa_fe (M zi)) (fun zi => qa_fe (pt zi)) (fun zi => qa_fe (B zi)) (fun zi => qa_fe ((qa_row P 128 32 (fun t => f t + qa_c1 P (fun k => P (32 + k)) m i t)) zi)) := by
  intro n
  induction n with
  | zero => intros; omega
  | succ n ih =>
    intro i hi hn
    by_cases h1 : i < m
    · refine br_f (nI_ge h1 (by omega)) ⟨m + 1, ?_⟩
      have i2 := ih (i + 1) (by omega) (by omega)
      simp only [qa_c1_s, ← Int.add_assoc] at i2
      have := qx_pm67 (post := post) (J := wX_buildProductMinusC_55 post 0 32 128 (nI W) (nI C) (nI w) (nI m) cp hq n) (K := K) (L := L) (R := R) (W := W) (C := C) (w := w) (cp := cp) (hq := hq) (x := x) (F := F) (M := M) (pt := pt) (B := B) (P := P) hm h1 (fun t => f t + qa_c1 P (fun k => P (32 + k)) m i t) i2 (m + 1) 0 (by omega) (by omega)
      have e : (fun t => f t + qa_c1 P (fun k => P (32 + k)) m i t + qa_c2 P (fun k => P (32 + k)) i 0 t) = (fun t => f t + qa_c1 P (fun k => P (32 + k)) m i t) := by
        funext t
        exact Int.add_zero _
      rw [e] at this
      exact this
    · obtain rfl : i = m := by omega
      exact br_t (nI_le (Nat.le_refl _) (by omega)) h
theorem qx_pm16 {post : SX → Prop} (h : ∃ n, wX_buildProductMinusC_55 post 0 32 128 (nI W) (nI C) (nI w) (nI m) cp hq n 0 (fun zi => nI (K zi)) L R (fun zi => qa_fe (x zi)) (fun zi => qa_fe (F zi)) (fun zi => qa_fe (M zi)) (fun zi => qa_fe (pt zi)) (fun zi => qa_fe (B zi)) (fun zi => qa_fe ((qa_row P 128 32 (fun t => 0 - P (64 + t))) zi))) : ∀ n k, k ≤ 32 → 32 - k < n → wX_buildProductMinusC_16 post 0 32 64 128 (nI W) (nI C) (nI w) (nI m) cp hq n (nI k) (fun zi => nI (K zi)) L R (fun zi => qa_fe (x zi)) (fun zi => qa_fe (F zi)) (fun zi => qa_fe (M zi)) (fun zi => qa_fe (pt zi)) (fun zi => qa_fe (B zi)) (fun zi => qa_fe ((qa_row P 128 k (fun t => 0 - P (64 + t))) zi)) := by
  intro n
  induction n with
  | zero => intros; omega
  | succ n ih =>
    intro k hk hn
    by_cases h1 : k < 32
    · have h2 : ¬ (32 : Int32) ≤ nI k := by rw [qn_32]; exact nI_ge h1 (by omega)
      simp (disch := omega) only [wX_buildProductMinusC_16, h2, qn_64a, qn_128a, qx_sub0, not_true, not_false_iff, true_implies, false_implies, true_and, and_true, forall_eq, nI_add, nI_1, nI_clamp, nI_leI, nI_ltI, nI_eq, qn_m32, qn_m16, qv_in, qx_mul, qx_add, qx_sub, qa_upd]
      rw [qa_row_out (show 64 + k < 128 ∨ 128 + k ≤ 64 + k by omega), qa_row_s P (fun t => 0 - P (64 + t)) 128 k]
      exact ih (k + 1) (by omega) (by omega)
    · obtain rfl : k = 32 := by omega
      exact br_t (by decide) h
theorem qx_pm {post : SX → Prop} (hm : m ≤ 16) (h : post ((nI W), (nI C), (nI w), (nI m), cp, hq, (fun zi => nI (K zi)), L, R, (fun zi => qa_fe (x zi)), (fun zi => qa_fe (F zi)), (fun zi => qa_fe (M zi)), (fun zi => qa_fe (pt zi)), (fun zi => qa_fe (B zi)), (fun zi => qa_fe ((qa_row P 128 32 (fun t => 0 - P (64 + t) + qa_c1 P (fun k => P (32 + k)) m m t)) zi)))) : wpX_buildProductMinusC post ((nI W), (nI C), (nI w), (nI m), cp, hq, (fun zi => nI (K zi)), L, R, (fun zi => qa_fe (x zi)), (fun zi => qa_fe (F zi)), (fun zi => qa_fe (M zi)), (fun zi => qa_fe (pt zi)), (fun zi => qa_fe (B zi)), (fun zi => qa_fe (P zi))) := by
  have h55 := qx_pm55 (K := K) (L := L) (R := R) (W := W) (C := C) (w := w) (cp := cp) (hq := hq) (x := x) (F := F) (M := M) (pt := pt) (B := B) hm (fun t => 0 - P (64 + t)) h (m + 1) 0 (by omega) (by omega)
  have e : (fun t => 0 - P (64 + t) + qa_c1 P (fun k => P (32 + k)) m 0 t) = (fun t => 0 - P (64 + t)) := by
    funext t
    exact Int.add_zero _
  rw [e] at h55
  have := qx_pm16 (post := post) (K := K) (L := L) (R := R) (W := W) (C := C) (w := w) (m := m) (cp := cp) (hq := hq) (x := x) (F := F) (M := M) (pt := pt) (B := B) (P := P) ⟨m + 1, h55⟩ 33 0 (by omega) (by omega)
  rw [qa_row_0] at this
  exact ⟨33, this⟩
theorem qx_rf {post : SX → Prop} (hw : w ≤ 32) (hm : m ≤ 16) (hB : ∀ j k, j < m → k < m → B (j * 16 + k) = qa_bs pt m j k) (hP : ∀ t k, t < 3 → m ≤ k → k < 32 → P (t * 32 + k) = 0)
    (h : ∀ P' : Nat → Int, (∀ i, 96 ≤ i → i < 128 → P' i = P i) → (∀ i, 160 ≤ i → P' i = P i) → (∀ t k, t < 3 → k < 32 → P' (t * 32 + k) = if k < m then qa_pz M x pt w m t k else 0) → (∀ k, k < 32 → P' (128 + k) = qa_pp M x pt w m k) → post ((nI W), (nI C), (nI w), (nI m), cp, hq, (fun zi => nI (K zi)), L, R, (fun zi => qa_fe (x zi)), (fun zi => qa_fe (F zi)), (fun zi => qa_fe (M zi)), (fun zi => qa_fe (pt zi)), (fun zi => qa_fe (B zi)), (fun zi => qa_fe (P' zi)))) : wpX_refreshPolys post ((nI W), (nI C), (nI w), (nI m), cp, hq, (fun zi => nI (K zi)), L, R, (fun zi => qa_fe (x zi)), (fun zi => qa_fe (F zi)), (fun zi => qa_fe (M zi)), (fun zi => qa_fe (pt zi)), (fun zi => qa_fe (B zi)), (fun zi => qa_fe (P zi))) := by
  unfold wpX_refreshPolys
  refine qx_ip (t := 0) hw hm (by omega) hB ?_
  refine qx_ip (t := 1) hw hm (by omega) hB ?_
  refine qx_ip (t := 2) hw hm (by omega) hB ?_
  refine qx_pm hm ?_
  generalize hQ : qa_row (qa_row (qa_row P (0 * 32) m (qa_pz M x pt w m 0)) (1 * 32) m (qa_pz M x pt w m 1)) (2 * 32) m (qa_pz M x pt w m 2) = Q
  have q1 : ∀ t k, t < 3 → k < 32 → Q (t * 32 + k) = if k < m then qa_pz M x pt w m t k else 0 := by
    intro t k ht hk
    rw [← hQ]
    have ht : t = 0 ∨ t = 1 ∨ t = 2 := by omega
    by_cases hkm : k < m
    · rw [if_pos hkm]
      rcases ht with rfl | rfl | rfl
      · rw [qa_row_out (by omega), qa_row_out (by omega), qa_row_in hkm]
      · rw [qa_row_out (by omega), qa_row_in hkm]
      · rw [qa_row_in hkm]
    · rw [if_neg hkm]
      rcases ht with rfl | rfl | rfl
      · rw [qa_row_out (by omega), qa_row_out (by omega), qa_row_out (by omega)]; exact hP 0 k (by omega) (by omega) hk
      · rw [qa_row_out (by omega), qa_row_out (by omega), qa_row_out (by omega)]; exact hP 1 k (by omega) (by omega) hk
      · rw [qa_row_out (by omega), qa_row_out (by omega), qa_row_out (by omega)]; exact hP 2 k (by omega) (by omega) hk
  have q2 : ∀ i, 96 ≤ i → Q i = P i := by
    intro i hi
    rw [← hQ, qa_row_out (by omega), qa_row_out (by omega), qa_row_out (by omega)]
  refine h _ (fun i h1 h2 => ?_) (fun i h1 => ?_) (fun t k ht hk => ?_) (fun k hk => ?_)
  · rw [qa_row_out (by omega), q2 i h1]
  · rw [qa_row_out (by omega), q2 i (by omega)]
  · rw [qa_row_out (by omega), q1 t k ht hk]
  · rw [qa_row_in hk]
    unfold qa_pp
    have e2 := q1 2 k (by omega) hk
    rw [show 2 * 32 + k = 64 + k by omega] at e2
    rw [e2, qa_c1_c (A' := qa_pz M x pt w m 0) (B' := qa_pz M x pt w m 1) (m := m) (fun k hk => ?_) (fun k hk => ?_) (Nat.le_refl m)]
    · omega
    · have := q1 0 k (by omega) (by omega)
      rw [if_pos hk, show 0 * 32 + k = k by omega] at this
      exact this
    · have := q1 1 k (by omega) (by omega)
      rw [if_pos hk, show 1 * 32 + k = 32 + k by omega] at this
      exact this
end QX
end
section
section QX
variable {W C w m : Nat} {cp hq : Int32} {K : Nat → Nat} {L R : Nat → Int32} {x F M pt B P : Nat → Int}
theorem qx_bv24 {post : SX → Prop} {J : Int32 → (Nat → Int32) → (Nat → Int32) → (Nat → Int32) → (Nat → Int32) → (Nat → Int32) → (Nat → Int32) → (Nat → Int32) → (Nat → Int32) → (Nat → Int32) → Prop} {j : Nat} (hj : j < 16) (z : Nat → Int) (h : J (nI (j + 1)) (fun zi => nI (K zi)) L R (fun zi => qa_fe (x zi)) (fun zi => qa_fe (F zi)) (fun zi => qa_fe (M zi)) (fun zi => qa_fe (pt zi)) (fun zi => qa_fe (B zi)) (fun zi => qa_fe ((qa_row P 96 32 (qa_lin (pt j) z)) zi))) : ∀ k n, k ≤ 16 → k < n → wX_buildVanishing_24 post J 96 (nI j) (nI W) (nI C) (nI w) (nI m) cp hq n (nI k) (fun zi => nI (K zi)) L R (fun zi => qa_fe (x zi)) (fun zi => qa_fe (F zi)) (fun zi => qa_fe (M zi)) (fun zi => qa_fe (pt zi)) (fun zi => qa_fe (B zi)) (fun zi => qa_fe ((qa_row P 96 32 (qa_mix (k + 1) z (qa_lin (pt j) z))) zi)) := by
  intro k
  induction k with
  | zero =>
    intro n _ hn
    obtain ⟨n, rfl⟩ : ∃ k, n = k + 1 := ⟨n - 1, by omega⟩
    have h1 : (nI 0) ≤ 0 := by decide
    have c96 : (96 : Int32).toNatClampNeg = 96 := by decide
    have v96 : vp_in (96 : Int32) 224 = True := eq_true (vp_in_nI (n := 96) (by omega) (by omega))
    simp (disch := omega) only [wX_buildVanishing_24, h1, c96, v96, qx_sub0, not_true, not_false_iff, true_implies, false_implies, true_and, and_true, forall_eq, nI_add, nI_1, nI_clamp, nI_leI, nI_ltI, nI_eq, qn_m32, qn_m16, qv_in, qx_mul, qx_add, qx_sub, qa_upd]
    have e1 : qa_row P 96 32 (qa_mix (0 + 1) z (qa_lin (pt j) z)) 96 = z 0 := by
      rw [show 96 = 96 + 0 from rfl, qa_row_in (by omega), qa_mix_lt (by omega)]
    have e2 := qa_row_u (P := P) (g := qa_mix (0 + 1) z (qa_lin (pt j) z)) (b := 96) (m := 32) (k := 0) (by omega) (0 - pt j * z 0)
    rw [← qa_lin0, qa_mix_d, qa_mix_0] at e2
    rw [e1, ← qa_lin0, show 96 = 96 + 0 from rfl, e2]
    exact h
  | succ k ih =>
    intro n hk hn
    obtain ⟨n, rfl⟩ : ∃ k, n = k + 1 := ⟨n - 1, by omega⟩
    have h1 : ¬ (nI (k + 1)) ≤ 0 := nI_nle (by omega) (by omega)
    have e0 : nI (96 + (k + 1)) - 1 = nI (96 + k) := nI_pred (96 + k)
    have e1 : qa_row P 96 32 (qa_mix (k + 1 + 1) z (qa_lin (pt j) z)) (96 + (k + 1)) = z (k + 1) := by
      rw [qa_row_in (by omega), qa_mix_lt (by omega)]
    have e2 : qa_row P 96 32 (qa_mix (k + 1 + 1) z (qa_lin (pt j) z)) (96 + k) = z k := by
      rw [qa_row_in (by omega), qa_mix_lt (by omega)]
    have e3 := qa_row_u (P := P) (g := qa_mix (k + 1 + 1) z (qa_lin (pt j) z)) (b := 96) (m := 32) (k := k + 1) (by omega) (z k - pt j * z (k + 1))
    rw [← qa_linS, qa_mix_d] at e3
    simp (disch := omega) only [wX_buildVanishing_24, h1, qn_96a, e0, pk_m1, e1, e2, not_true, not_false_iff, true_implies, false_implies, true_and, and_true, forall_eq, nI_add, nI_1, nI_clamp, nI_leI, nI_ltI, nI_eq, qn_m32, qn_m16, qv_in, qx_mul, qx_add, qx_sub, qa_upd]
    rw [← qa_linS, e3]
    exact ih n (by omega) (by omega)
theorem qx_bv12 {post : SX → Prop} (hm : m ≤ 16) (h : post ((nI W), (nI C), (nI w), (nI m), cp, hq, (fun zi => nI (K zi)), L, R, (fun zi => qa_fe (x zi)), (fun zi => qa_fe (F zi)), (fun zi => qa_fe (M zi)), (fun zi => qa_fe (pt zi)), (fun zi => qa_fe (B zi)), (fun zi => qa_fe ((qa_row P 96 32 (qa_zp pt m)) zi)))) : ∀ n j, j ≤ m → m - j < n → wX_buildVanishing_12 post 96 (nI W) (nI C) (nI w) (nI m) cp hq n (nI j) (fun zi => nI (K zi)) L R (fun zi => qa_fe (x zi)) (fun zi => qa_fe (F zi)) (fun zi => qa_fe (M zi)) (fun zi => qa_fe (pt zi)) (fun zi => qa_fe (B zi)) (fun zi => qa_fe ((qa_row P 96 32 (qa_zp pt j)) zi)) := by
  intro n
  induction n with
  | zero => intros; omega
  | succ n ih =>
    intro j hj hn
    by_cases h1 : j < m
    · refine br_f (nI_ge h1 (by omega)) (nm_r (nI_1 j) ⟨j + 2, ?_⟩)
      have := qx_bv24 (post := post) (J := wX_buildVanishing_12 post 96 (nI W) (nI C) (nI w) (nI m) cp hq n) (K := K) (L := L) (R := R) (W := W) (C := C) (w := w) (m := m) (cp := cp) (hq := hq) (x := x) (F := F) (M := M) (pt := pt) (B := B) (P := P) (show j < 16 by omega) (qa_zp pt j) (ih (j + 1) (by omega) (by omega)) (j + 1) (j + 2) (by omega) (by omega)
      rw [qa_row_c (g' := qa_zp pt j) (fun i hi => ?_)] at this
      · exact this
      · by_cases q : i < j + 1 + 1
        · rw [qa_mix_lt q]
        · rw [qa_mix_ge (by omega), qa_zp_deg pt j i (by omega), qa_lin_deg (qa_zp_deg pt j) i (by omega)]
    · obtain rfl : j = m := by omega
      exact br_t (nI_le (Nat.le_refl _) (by omega)) h
theorem qx_bv {post : SX → Prop} (hm : m ≤ 16) (hP : ∀ i, i < 224 → P i = 0) (h : post ((nI W), (nI C), (nI w), (nI m), cp, hq, (fun zi => nI (K zi)), L, R, (fun zi => qa_fe (x zi)), (fun zi => qa_fe (F zi)), (fun zi => qa_fe (M zi)), (fun zi => qa_fe (pt zi)), (fun zi => qa_fe (B zi)), (fun zi => qa_fe ((qa_row P 96 32 (qa_zp pt m)) zi)))) : wpX_buildVanishing post ((nI W), (nI C), (nI w), (nI m), cp, hq, (fun zi => nI (K zi)), L, R, (fun zi => qa_fe (x zi)), (fun zi => qa_fe (F zi)), (fun zi => qa_fe (M zi)), (fun zi => qa_fe (pt zi)), (fun zi => qa_fe (B zi)), (fun zi => qa_fe (P zi))) := by
  unfold wpX_buildVanishing
  have e : upd (fun i => qa_fe (P i)) 96 1 = (fun i => qa_fe ((qa_row P 96 32 (qa_zp pt 0)) i)) := by
    rw [qa_1, qa_upd]
    congr 1
    funext i
    congr 1
    unfold qa_uz qa_row
    by_cases h1 : i = 96
    · subst h1
      rw [if_pos rfl, if_pos (by omega)]
      rfl
    · rw [if_neg h1]
      by_cases h2 : 96 ≤ i ∧ i < 96 + 32
      · rw [if_pos h2, hP i (by omega)]
        exact (qa_one_deg (i - 96) (by omega)).symm
      · rw [if_neg h2]
  refine nm_r e ⟨m + 1, ?_⟩
  exact qx_bv12 (K := K) (L := L) (R := R) (W := W) (C := C) (w := w) (cp := cp) (hq := hq) (x := x) (F := F) (M := M) (B := B) hm h (m + 1) 0 (by omega) (by omega)
theorem qx_br107 {post : SX → Prop} (hm : m ≤ 16) {j : Nat} (hj : j < m) (s : Int) (f : Nat → Int) (h : post ((nI W), (nI C), (nI w), (nI m), cp, hq, (fun zi => nI (K zi)), L, R, (fun zi => qa_fe (x zi)), (fun zi => qa_fe (F zi)), (fun zi => qa_fe (M zi)), (fun zi => qa_fe (pt zi)), (fun zi => qa_fe ((qa_row B (j * 16) m (fun k => f k * s)) zi)), (fun zi => qa_fe (P zi)))) : ∀ n k, k ≤ m → m - k < n → wX_buildBasisRow_107 post (nI (j * 16)) (qa_fe s) (nI W) (nI C) (nI w) (nI m) cp hq n (nI k) (fun zi => nI (K zi)) L R (fun zi => qa_fe (x zi)) (fun zi => qa_fe (F zi)) (fun zi => qa_fe (M zi)) (fun zi => qa_fe (pt zi)) (fun zi => qa_fe ((qa_row B (j * 16) m (qa_mix k (fun k => f k * s) f)) zi)) (fun zi => qa_fe (P zi)) := by
  intro n
  induction n with
  | zero => intros; omega
  | succ n ih =>
    intro k hk hn
    by_cases h1 : k < m
    · have h2 : ¬ m ≤ k := by omega
      simp (disch := omega) only [wX_buildBasisRow_107, h2, not_true, not_false_iff, true_implies, false_implies, true_and, and_true, forall_eq, nI_add, nI_1, nI_clamp, nI_leI, nI_ltI, nI_eq, qn_m32, qn_m16, qv_in, qx_mul, qx_add, qx_sub, qa_upd]
      rw [qa_row_in h1, qa_mix_ge (Nat.le_refl k), qa_row_u h1, qa_mix_s (fun k => f k * s) f k]
      exact ih (k + 1) (by omega) (by omega)
    · obtain rfl : k = m := by omega
      simp (disch := omega) only [wX_buildBasisRow_107, Nat.le_refl, not_true, not_false_iff, true_implies, false_implies, true_and, and_true, forall_eq, nI_add, nI_1, nI_clamp, nI_leI, nI_ltI, nI_eq, qn_m32, qn_m16, qv_in, qx_mul, qx_add, qx_sub, qa_upd]
      rw [qa_row_c (g' := fun k => f k * s) (fun i hi => qa_mix_lt hi)]
      exact h
theorem qx_br22 {post : SX → Prop} (hm : m ≤ 16) {j : Nat} (hj : j < m) (hZ : ∀ k, k < 32 → P (96 + k) = qa_zp pt m k) (h : post ((nI W), (nI C), (nI w), (nI m), cp, hq, (fun zi => nI (K zi)), L, R, (fun zi => qa_fe (x zi)), (fun zi => qa_fe (F zi)), (fun zi => qa_fe (M zi)), (fun zi => qa_fe (pt zi)), (fun zi => qa_fe ((qa_row B (j * 16) m (qa_bs pt m j)) zi)), (fun zi => qa_fe (P zi)))) : ∀ c n, c ≤ m → c < n → wX_buildBasisRow_22 post (nI j) (nI (j * 16)) 96 (nI W) (nI C) (nI w) (nI m) cp hq n (qa_fe (qa_np pt j m c)) (qa_fe (qa_ho (qa_np pt j m) (pt j) (m - c) c)) (qx_d c) (fun zi => nI (K zi)) L R (fun zi => qa_fe (x zi)) (fun zi => qa_fe (F zi)) (fun zi => qa_fe (M zi)) (fun zi => qa_fe (pt zi)) (fun zi => qa_fe ((qa_row B (j * 16) m (qa_mix c (fun i => B (j * 16 + i)) (qa_np pt j m))) zi)) (fun zi => qa_fe (P zi)) := by
  intro c
  induction c with
  | zero =>
    intro n _ hn
    obtain ⟨n, rfl⟩ : ∃ k, n = k + 1 := ⟨n - 1, by omega⟩
    refine br_t qx_d0 ?_
    rw [Nat.sub_zero, qa_np_val pt hj]
    refine qx_inv _ ⟨m + 1, ?_⟩
    have := qx_br107 (post := post) (K := K) (L := L) (R := R) (W := W) (C := C) (w := w) (m := m) (cp := cp) (hq := hq) (x := x) (F := F) (M := M) (pt := pt) (B := B) (P := P) hm hj (qa_iv (qa_dn pt j m)) (qa_np pt j m) h (m + 1) 0 (by omega) (by omega)
    rw [qa_mix_0] at this ⊢
    exact this
  | succ c ih =>
    intro n hc hn
    obtain ⟨n, rfl⟩ : ∃ k, n = k + 1 := ⟨n - 1, by omega⟩
    rw [qx_ds]
    have h1 : ¬ nI c < 0 := nI_pos (by omega)
    have i2 := ih n (by omega) (by omega)
    rw [show m - c = (m - (c + 1)) + 1 by omega, qa_ho_s] at i2
    have ez : P (96 + c + 1) = qa_zp pt m (c + 1) := by rw [Nat.add_assoc]; exact hZ (c + 1) (by omega)
    have en : qa_zp pt m (c + 1) + pt j * qa_np pt j m (c + 1) = qa_np pt j m c := by
      rw [qa_np_hi pt hj, qa_linS]
      omega
    have eu := qa_row_u (P := B) (g := qa_mix (c + 1) (fun i => B (j * 16 + i)) (qa_np pt j m)) (b := j * 16) (m := m) (k := c) (by omega) (qa_np pt j m c)
    rw [qa_mix_d] at eu
    simp (disch := omega) only [wX_buildBasisRow_22, h1, qn_96a, qx_dm, ez, en, eu, not_true, not_false_iff, true_implies, false_implies, true_and, and_true, forall_eq, nI_add, nI_1, nI_clamp, nI_leI, nI_ltI, nI_eq, qn_m32, qn_m16, qv_in, qx_mul, qx_add, qx_sub, qa_upd]
    rw [Int.mul_comm (pt j)]
    exact i2
theorem qx_br {post : SX → Prop} (hm : m ≤ 16) {j : Nat} (hj : j < m) (hZ : ∀ k, k < 32 → P (96 + k) = qa_zp pt m k) (h : post ((nI W), (nI C), (nI w), (nI m), cp, hq, (fun zi => nI (K zi)), L, R, (fun zi => qa_fe (x zi)), (fun zi => qa_fe (F zi)), (fun zi => qa_fe (M zi)), (fun zi => qa_fe (pt zi)), (fun zi => qa_fe ((qa_row B (j * 16) m (qa_bs pt m j)) zi)), (fun zi => qa_fe (P zi)))) : wpX_buildBasisRow post ((nI W), (nI C), (nI w), (nI m), cp, hq, (fun zi => nI (K zi)), L, R, (fun zi => qa_fe (x zi)), (fun zi => qa_fe (F zi)), (fun zi => qa_fe (M zi)), (fun zi => qa_fe (pt zi)), (fun zi => qa_fe (B zi)), (fun zi => qa_fe (P zi))) (nI j) := by
  unfold wpX_buildBasisRow
  refine nm_r (qn_m16 j) (nm_r (e' := qx_d m) rfl ⟨m + 1, ?_⟩)
  have := qx_br22 (K := K) (L := L) (R := R) (W := W) (C := C) (w := w) (cp := cp) (hq := hq) (x := x) (F := F) (M := M) hm hj hZ h m (m + 1) (by omega) (by omega)
  rw [Nat.sub_self, qa_np_deg pt hj m (Nat.le_refl m), qa_row_id (P := B) (b := j * 16) (m := m) (g := qa_mix m (fun i => B (j * 16 + i)) (qa_np pt j m)) (fun i hi => qa_mix_lt hi)] at this
  exact this
theorem qx_cp22 {post : Int32 → SX → Prop} (hw : w ≤ 32) (hm : m ≤ 16) (hZ : ∀ k, k < 32 → P (96 + k) = qa_zp pt m k) (hP : ∀ t k, t < 3 → k < 32 → P (t * 32 + k) = 0)
    (h : ∀ B' P' : Nat → Int, (∀ j k, j < m → k < m → B' (j * 16 + k) = qa_bs pt m j k) → (∀ i, 96 ≤ i → i < 128 → P' i = P i) → (∀ i, 160 ≤ i → P' i = P i) → (∀ t k, t < 3 → k < 32 → P' (t * 32 + k) = if k < m then qa_pz M x pt w m t k else 0) → (∀ k, k < 32 → P' (128 + k) = qa_pp M x pt w m k) → post (nI m) ((nI W), (nI C), (nI w), (nI m), 1, hq, (fun zi => nI (K zi)), L, R, (fun zi => qa_fe (x zi)), (fun zi => qa_fe (F zi)), (fun zi => qa_fe (M zi)), (fun zi => qa_fe (pt zi)), (fun zi => qa_fe (B' zi)), (fun zi => qa_fe (P' zi)))) : ∀ n j (B' : Nat → Int), j ≤ m → m - j < n → (∀ i k, i < j → k < m → B' (i * 16 + k) = qa_bs pt m i k) → wX_compile_22 post n (nI j) (nI W) (nI C) (nI w) (nI m) cp hq (fun zi => nI (K zi)) L R (fun zi => qa_fe (x zi)) (fun zi => qa_fe (F zi)) (fun zi => qa_fe (M zi)) (fun zi => qa_fe (pt zi)) (fun zi => qa_fe (B' zi)) (fun zi => qa_fe (P zi)) := by
  intro n
  induction n with
  | zero => intros; omega
  | succ n ih =>
    intro j B' hj hn hI
    by_cases h1 : j < m
    · refine br_f (nI_ge h1 (by omega)) ?_
      refine qx_br hm h1 hZ (nm_r (nI_1 j) ?_)
      refine ih (j + 1) _ (by omega) (by omega) fun i k hi hk => ?_
      by_cases q : i = j
      · rw [q, qa_row_in hk]
      · rw [qa_row_out (by omega)]
        exact hI i k (by omega) hk
    · obtain rfl : j = m := by omega
      refine br_t (nI_le (Nat.le_refl _) (by omega)) ?_
      exact qx_rf hw hm hI (fun t k ht _ hk => hP t k ht hk) fun P' p1 p2 p3 p4 => h B' P' hI p1 p2 p3 p4
theorem qx_cp {post : Int32 → SX → Prop} (hw : w ≤ 32) (hm0 : 0 < m) (hm : m ≤ 16) (hP : ∀ i, i < 224 → P i = 0) (h : ∀ B' P' : Nat → Int, qi_q 1 w m M x pt B' P' → post (nI m) ((nI W), (nI C), (nI w), (nI m), 1, hq, (fun zi => nI (K zi)), L, R, (fun zi => qa_fe (x zi)), (fun zi => qa_fe (F zi)), (fun zi => qa_fe (M zi)), (fun zi => qa_fe (pt zi)), (fun zi => qa_fe (B' zi)), (fun zi => qa_fe (P' zi)))) : wpX_compile post ((nI W), (nI C), (nI w), (nI m), 0, hq, (fun zi => nI (K zi)), L, R, (fun zi => qa_fe (x zi)), (fun zi => qa_fe (F zi)), (fun zi => qa_fe (M zi)), (fun zi => qa_fe (pt zi)), (fun zi => qa_fe (B zi)), (fun zi => qa_fe (P zi))) := by
  unfold wpX_compile
  refine br_t rfl (br_f (nI_ne0 hm0 (by omega)) ?_)
  refine qx_bv hm hP ⟨m + 1, ?_⟩
  refine qx_cp22 (P := qa_row P 96 32 (qa_zp pt m)) hw hm (fun k hk => qa_row_in hk) (fun t k ht hk => by rw [qa_row_out (by omega)]; exact hP _ (by omega)) (fun B' P' b p1 p2 p3 p4 => ?_) (m + 1) 0 B (by omega) (by omega) (fun i k hi _ => by omega)
  refine h B' P' (Or.inr ⟨rfl, hm0, b, fun k hk => ?_, p3, p4, fun k h1 h2 => ?_⟩)
  · rw [p1 (96 + k) (by omega) (by omega), qa_row_in hk]
  · rw [p2 (160 + k) (by omega), qa_row_out (by omega)]
    exact hP _ (by omega)
theorem qx_bq95 {post : SX → Prop} {J : Int32 → (Nat → Int32) → (Nat → Int32) → (Nat → Int32) → (Nat → Int32) → (Nat → Int32) → (Nat → Int32) → (Nat → Int32) → (Nat → Int32) → (Nat → Int32) → Prop} (hm : m ≤ 16) {i : Nat} (hi : i + 1 < m) (Z g : Nat → Int) (q : Int) (hZ : ∀ k, k < 32 → P (96 + k) = Z k) (h : J (qx_d i) (fun zi => nI (K zi)) L R (fun zi => qa_fe (x zi)) (fun zi => qa_fe (F zi)) (fun zi => qa_fe (M zi)) (fun zi => qa_fe (pt zi)) (fun zi => qa_fe (B zi)) (fun zi => qa_fe ((qa_row P 192 32 (qa_dst Z g i q (m + 1))) zi))) : ∀ n k, k ≤ m + 1 → m + 1 - k < n → wX_buildQuotient_95 post J 96 160 192 (nI i) (qa_fe q) (nI W) (nI C) (nI w) (nI m) cp hq n (nI k) (fun zi => nI (K zi)) L R (fun zi => qa_fe (x zi)) (fun zi => qa_fe (F zi)) (fun zi => qa_fe (M zi)) (fun zi => qa_fe (pt zi)) (fun zi => qa_fe (B zi)) (fun zi => qa_fe ((qa_row P 192 32 (qa_dst Z g i q k)) zi)) := by
  intro n
  induction n with
  | zero => intros; omega
  | succ n ih =>
    intro k hk hn
    by_cases h1 : k ≤ m
    · have h2 : ¬ m < k := by omega
      have e1 : qa_row P 192 32 (qa_dst Z g i q k) (192 + (i + k)) = g (i + k) := by rw [qa_row_in (by omega), qa_dst_at]
      have e2 : qa_row P 192 32 (qa_dst Z g i q k) (96 + k) = Z k := by rw [qa_row_out (by omega), hZ k (by omega)]
      have e3 := qa_row_u (P := P) (g := qa_dst Z g i q k) (b := 192) (m := 32) (k := i + k) (by omega) (g (i + k) - q * Z k)
      rw [← qa_dst_s] at e3
      simp (disch := omega) only [wX_buildQuotient_95, h2, qn_96a, qn_192a, Nat.add_assoc 192 i k, e1, e2, e3, not_true, not_false_iff, true_implies, false_implies, true_and, and_true, forall_eq, nI_add, nI_1, nI_clamp, nI_leI, nI_ltI, nI_eq, qn_m32, qn_m16, qv_in, qx_mul, qx_add, qx_sub, qa_upd]
      exact ih (k + 1) (by omega) (by omega)
    · obtain rfl : k = m + 1 := by omega
      exact br_t (nI_lt (by omega) (by omega)) (nm_r (qx_dm i) h)
theorem qx_row_uo {P g : Nat → Int} {b n k : Nat} (z : Int) (h : k < b ∨ b + n ≤ k) : qa_uz (qa_row P b n g) k z = qa_row (qa_uz P k z) b n g := by
  funext i
  unfold qa_uz qa_row
  by_cases h1 : i = k
  · subst h1
    rw [if_pos rfl, if_neg (by omega)]
    exact (if_pos rfl).symm
  · rw [if_neg h1]
    by_cases h2 : b ≤ i ∧ i < b + n
    · rw [if_pos h2, if_pos h2]
    · rw [if_neg h2, if_neg h2]
      exact (if_neg h1).symm
theorem qx_bq59 {post : SX → Prop} (hm0 : 0 < m) (hm : m ≤ 16) (Z g : Nat → Int) (h : ∀ Q : Nat → Int, (∀ i, i < 160 → Q i = P i) → (∀ k, k < 32 → Q (160 + k) = if k + 1 < m then qa_hh Z g m k else P (160 + k)) → post ((nI W), (nI C), (nI w), (nI m), cp, hq, (fun zi => nI (K zi)), L, R, (fun zi => qa_fe (x zi)), (fun zi => qa_fe (F zi)), (fun zi => qa_fe (M zi)), (fun zi => qa_fe (pt zi)), (fun zi => qa_fe (B zi)), (fun zi => qa_fe ((qa_row Q 192 32 (qa_rm Z g m (m - 1))) zi)))) (hZ : ∀ k, k < 32 → P (96 + k) = Z k) : ∀ c n Q, c + 1 ≤ m → c < n → (∀ i, i < 160 → Q i = P i) → (∀ k, k < 32 → Q (160 + k) = if c ≤ k ∧ k + 1 < m then qa_hh Z g m k else P (160 + k)) → wX_buildQuotient_59 post 96 160 192 (nI W) (nI C) (nI w) (nI m) cp hq n (qx_d c) (fun zi => nI (K zi)) L R (fun zi => qa_fe (x zi)) (fun zi => qa_fe (F zi)) (fun zi => qa_fe (M zi)) (fun zi => qa_fe (pt zi)) (fun zi => qa_fe (B zi)) (fun zi => qa_fe ((qa_row Q 192 32 (qa_rm Z g m (m - 1 - c))) zi)) := by
  intro c
  induction c with
  | zero =>
    intro n Q _ hn q1 q2
    obtain ⟨n, rfl⟩ : ∃ k, n = k + 1 := ⟨n - 1, by omega⟩
    refine br_t qx_d0 ?_
    rw [Nat.sub_zero]
    refine h Q q1 fun k hk => ?_
    rw [q2 k hk]
    by_cases z : k + 1 < m
    · rw [if_pos ⟨by omega, z⟩, if_pos z]
    · rw [if_neg (by omega), if_neg z]
  | succ c ih =>
    intro n Q hc hn q1 q2
    obtain ⟨n, rfl⟩ : ∃ k, n = k + 1 := ⟨n - 1, by omega⟩
    rw [qx_ds]
    have h1 : ¬ nI c < 0 := nI_pos (by omega)
    generalize hs : m - 1 - (c + 1) = s
    have hs2 : m - 2 - s = c := by omega
    have hs3 : m - 1 - c = s + 1 := by omega
    have e1 : qa_row Q 192 32 (qa_rm Z g m s) (192 + (c + m)) = qa_hh Z g m c := by
      rw [qa_row_in (by omega)]
      unfold qa_hh
      rw [if_pos (by omega), show m - 2 - c = s by omega]
    have e3 := qx_row_uo (P := Q) (g := qa_rm Z g m s) (b := 192) (n := 32) (k := 160 + c) (qa_hh Z g m c) (by omega)
    have i2 := ih n (qa_uz Q (160 + c) (qa_hh Z g m c)) (by omega) (by omega) (fun i hi => by rw [qa_uzn (by omega)]; exact q1 i hi) (fun k hk => by
      by_cases z : k = c
      · rw [z, qa_uzs, if_pos ⟨by omega, by omega⟩]
      · rw [qa_uzn (by omega), q2 k hk]
        by_cases y : c + 1 ≤ k ∧ k + 1 < m
        · rw [if_pos y, if_pos ⟨by omega, y.2⟩]
        · rw [if_neg y, if_neg (by omega)])
    rw [hs3, qa_rm, hs2] at i2
    have e4 : qa_rm Z g m s (c + m) = qa_hh Z g m c := by
      unfold qa_hh
      rw [if_pos (by omega), show m - 2 - c = s by omega]
    rw [e4] at i2
    simp (disch := omega) only [wX_buildQuotient_59, h1, qn_160a, qn_192a, Nat.add_assoc 192 c m, e1, e3, not_true, not_false_iff, true_implies, false_implies, true_and, and_true, forall_eq, nI_add, nI_1, nI_clamp, nI_leI, nI_ltI, nI_eq, qn_m32, qn_m16, qv_in, qx_mul, qx_add, qx_sub, qa_upd]
    refine ⟨m + 2, ?_⟩
    have := qx_bq95 (post := post) (J := wX_buildQuotient_59 post 96 160 192 (nI W) (nI C) (nI w) (nI m) cp hq n) (K := K) (L := L) (R := R) (W := W) (C := C) (w := w) (m := m) (cp := cp) (hq := hq) (x := x) (F := F) (M := M) (pt := pt) (B := B) (P := qa_uz Q (160 + c) (qa_hh Z g m c)) hm (i := c) (by omega) Z (qa_rm Z g m s) (qa_hh Z g m c) (fun k hk => by rw [qa_uzn (by omega), q1 _ (by omega), hZ k hk]) i2 (m + 2) 0 (by omega) (by omega)
    rw [qa_dst_0] at this
    exact this
theorem qx_bq19 {post : SX → Prop} (h : ∃ n, wX_buildQuotient_59 post 96 160 192 (nI W) (nI C) (nI w) (nI m) cp hq n (nI m - 2) (fun zi => nI (K zi)) L R (fun zi => qa_fe (x zi)) (fun zi => qa_fe (F zi)) (fun zi => qa_fe (M zi)) (fun zi => qa_fe (pt zi)) (fun zi => qa_fe (B zi)) (fun zi => qa_fe ((qa_row P 192 32 (fun k => P (128 + k))) zi))) : ∀ n k, k ≤ 32 → 32 - k < n → wX_buildQuotient_19 post 96 128 160 192 (nI W) (nI C) (nI w) (nI m) cp hq n (nI k) (fun zi => nI (K zi)) L R (fun zi => qa_fe (x zi)) (fun zi => qa_fe (F zi)) (fun zi => qa_fe (M zi)) (fun zi => qa_fe (pt zi)) (fun zi => qa_fe (B zi)) (fun zi => qa_fe ((qa_row P 192 k (fun k => P (128 + k))) zi)) := by
  intro n
  induction n with
  | zero => intros; omega
  | succ n ih =>
    intro k hk hn
    by_cases h1 : k < 32
    · have h2 : ¬ (32 : Int32) ≤ nI k := by rw [qn_32]; exact nI_ge h1 (by omega)
      simp (disch := omega) only [wX_buildQuotient_19, h2, qn_128a, qn_192a, not_true, not_false_iff, true_implies, false_implies, true_and, and_true, forall_eq, nI_add, nI_1, nI_clamp, nI_leI, nI_ltI, nI_eq, qn_m32, qn_m16, qv_in, qx_mul, qx_add, qx_sub, qa_upd]
      rw [qa_row_out (show 128 + k < 192 ∨ 192 + k ≤ 128 + k by omega), qa_row_s P (fun k => P (128 + k)) 192 k]
      exact ih (k + 1) (by omega) (by omega)
    · obtain rfl : k = 32 := by omega
      exact br_t (by decide) (nm_e h)
theorem qx_bq {post : SX → Prop} (hm0 : 0 < m) (hm : m ≤ 16) (Z : Nat → Int) (hZ : ∀ k, k < 32 → P (96 + k) = Z k) (h : ∀ P' : Nat → Int, (∀ i, i < 160 → P' i = P i) → (∀ k, k < 32 → P' (160 + k) = if k + 1 < m then qa_hh Z (fun k => P (128 + k)) m k else P (160 + k)) → (∀ k, k < 32 → P' (192 + k) = qa_rr Z (fun k => P (128 + k)) m k) → post ((nI W), (nI C), (nI w), (nI m), cp, hq, (fun zi => nI (K zi)), L, R, (fun zi => qa_fe (x zi)), (fun zi => qa_fe (F zi)), (fun zi => qa_fe (M zi)), (fun zi => qa_fe (pt zi)), (fun zi => qa_fe (B zi)), (fun zi => qa_fe (P' zi)))) : wpX_buildQuotient post ((nI W), (nI C), (nI w), (nI m), cp, hq, (fun zi => nI (K zi)), L, R, (fun zi => qa_fe (x zi)), (fun zi => qa_fe (F zi)), (fun zi => qa_fe (M zi)), (fun zi => qa_fe (pt zi)), (fun zi => qa_fe (B zi)), (fun zi => qa_fe (P zi))) := by
  have e : nI m - 2 = qx_d (m - 1) := by
    unfold qx_d
    rw [show (2 : Int32) = 1 + 1 by decide, ← Int32.sub_sub]
    congr 1
    obtain ⟨q, rfl⟩ : ∃ q, m = q + 1 := ⟨m - 1, by omega⟩
    exact nI_pred q
  have h59 := qx_bq59 (post := post) (K := K) (L := L) (R := R) (W := W) (C := C) (w := w) (m := m) (cp := cp) (hq := hq) (x := x) (F := F) (M := M) (pt := pt) (B := B) (P := P) hm0 hm Z (fun k => P (128 + k)) (fun Q q1 q2 => h _ (fun i hi => by rw [qa_row_out (by omega)]; exact q1 i hi) (fun k hk => by rw [qa_row_out (by omega)]; exact q2 k hk) (fun k hk => by rw [qa_row_in hk]; rfl)) hZ (m - 1) m P (by omega) (by omega) (fun i _ => rfl) (fun k hk => by rw [if_neg (by omega)])
  rw [Nat.sub_self, ← e] at h59
  have := qx_bq19 (post := post) (K := K) (L := L) (R := R) (W := W) (C := C) (w := w) (m := m) (cp := cp) (hq := hq) (x := x) (F := F) (M := M) (pt := pt) (B := B) (P := P) ⟨m, h59⟩ 33 0 (by omega) (by omega)
  rw [qa_row_0] at this
  exact ⟨33, this⟩
end QX
end
section
section QY
variable {W C w m : Nat} {cp hq : Int32} {K : Nat → Nat} {L R oa ob st ca cb cw hh rr col bas pm pp zz rm : Nat → Int32} {x F M pt : Nat → Int}
theorem qy_form_l {post : Int32 → SY → Prop} (hW : qi_w w K L R oa ob F) (hw : w ≤ 32) {a v : Nat} (ha : a < w) (hv : v < 32) (h : ∀ c : Nat → Int32, post (qa_fe (F (a * 32 + v))) ((nI W), (nI C), (nI w), (nI m), cp, hq, (fun zi => nI (K zi)), oa, ob, st, ca, cb, cw, (fun zi => qa_fe (pt zi)), hh, rr, c, bas, pm, pp, zz, rm)) : ∀ n i (c : Nat → Int32), i ≤ a + 1 → a + 1 - i < n → (∀ b, b < i → c b = qa_fe (F (b * 32 + v))) → wY_form_2 post (nI a) (nI v) (nI W) (nI C) (nI w) (nI m) cp hq n (nI i) (fun zi => nI (K zi)) oa ob st ca cb cw (fun zi => qa_fe (pt zi)) hh rr c bas pm pp zz rm := by
  have l2 : (2 : Int32) = nI 2 := by decide
  have l4 : (4 : Int32) = nI 4 := by decide
  intro n
  induction n with
  | zero => intros; omega
  | succ n ih =>
    intro i c hi hn hI
    by_cases h1 : i ≤ a
    · have h2 : ¬ a < i := by omega
      have h3 : ¬ (32 : Int32) ≤ nI i := by rw [qn_32]; exact nI_ge (by omega) (by omega)
      have step : ∀ z : Int, z = F (i * 32 + v) → wY_form_2 post (nI a) (nI v) (nI W) (nI C) (nI w) (nI m) cp hq n (nI (i + 1)) (fun zi => nI (K zi)) oa ob st ca cb cw (fun zi => qa_fe (pt zi)) hh rr (upd c i (qa_fe z)) bas pm pp zz rm := by
        intro z ez
        refine ih (i + 1) _ (by omega) (by omega) fun b hb => ?_
        by_cases e : b = i
        · rw [e, pk_us, ez]
        · rw [pk_un e]
          exact hI b (by omega)
      rcases hW.1 i (by omega) with ⟨k, a', b', h4, h5, e1, e2, e3⟩ | ⟨k, a', d, h4, e1, e2, e3⟩ | ⟨k, e3⟩
      · have k2 : (nI (K i) = 2) = True := eq_true (by rw [k]; decide)
        simp (disch := omega) only [wY_form_2, h2, h3, k2, e1, e2, hI a' h4, hI b' h5, qy_add, not_true, not_false_iff, true_implies, false_implies, true_and, and_true, forall_eq, nI_add, nI_1, nI_clamp, nI_leI, nI_ltI, nI_eq, qn_m32, qn_m16, qv_in, qx_mul, qx_add, qx_sub, qa_upd]
        exact step _ (e3 v hv).symm
      · have k2 : (nI (K i) = 2) = False := eq_false (by rw [k]; decide)
        have k4 : (nI (K i) = 4) = True := eq_true (by rw [k]; decide)
        simp (disch := omega) only [wY_form_2, h2, h3, k2, k4, e1, e2, hI a' h4, qy_mul, not_true, not_false_iff, true_implies, false_implies, true_and, and_true, forall_eq, nI_add, nI_1, nI_clamp, nI_leI, nI_ltI, nI_eq, qn_m32, qn_m16, qv_in, qx_mul, qx_add, qx_sub, qa_upd]
        exact step _ (e3 v hv).symm
      · have kk : K i ≠ 2 ∧ K i ≠ 4 ∧ K i < 5 := by
          rcases k with k | k | k
          · rw [k.1]; decide
          · rw [k]; decide
          · rw [k]; decide
        have k2 : (nI (K i) = 2) = False := eq_false (by rw [l2, nI_eq (by omega) (by omega)]; exact kk.1)
        have k4 : (nI (K i) = 4) = False := eq_false (by rw [l4, nI_eq (by omega) (by omega)]; exact kk.2.1)
        by_cases e : i = v
        · have e4 : (i = v) = True := eq_true e
          simp (disch := omega) only [wY_form_2, h2, h3, k2, k4, e4, not_true, not_false_iff, true_implies, false_implies, true_and, and_true, forall_eq, nI_add, nI_1, nI_clamp, nI_leI, nI_ltI, nI_eq, qn_m32, qn_m16, qv_in, qx_mul, qx_add, qx_sub, qa_upd]
          rw [qa_1]
          exact step 1 (by rw [e3 v hv, if_pos e])
        · have e4 : (i = v) = False := eq_false e
          simp (disch := omega) only [wY_form_2, h2, h3, k2, k4, e4, not_true, not_false_iff, true_implies, false_implies, true_and, and_true, forall_eq, nI_add, nI_1, nI_clamp, nI_leI, nI_ltI, nI_eq, qn_m32, qn_m16, qv_in, qx_mul, qx_add, qx_sub, qa_upd]
          rw [qa_0]
          exact step 0 (by rw [e3 v hv, if_neg e])
    · obtain rfl : i = a + 1 := by omega
      refine br_t (nI_lt (by omega) (by omega)) ⟨vp_in_nI (by omega) (by omega), ?_⟩
      rw [nI_clamp (by omega), hI a (by omega)]
      exact h c
theorem qy_form {post : Int32 → SY → Prop} (hW : qi_w w K L R oa ob F) (hw : w ≤ 32) {a v : Nat} (ha : a < w) (hv : v < 32) (h : ∀ c : Nat → Int32, post (qa_fe (F (a * 32 + v))) ((nI W), (nI C), (nI w), (nI m), cp, hq, (fun zi => nI (K zi)), oa, ob, st, ca, cb, cw, (fun zi => qa_fe (pt zi)), hh, rr, c, bas, pm, pp, zz, rm)) : wpY_form post ((nI W), (nI C), (nI w), (nI m), cp, hq, (fun zi => nI (K zi)), oa, ob, st, ca, cb, cw, (fun zi => qa_fe (pt zi)), hh, rr, col, bas, pm, pp, zz, rm) (nI a) (nI v) :=
  ⟨a + 2, qy_form_l hW hw ha hv h (a + 2) 0 col (by omega) (by omega) (fun b hb => by omega)⟩
theorem qy_var {post : Int32 → Prop} (hW : qi_w w K L R oa ob F) (hw : w ≤ 32) {v : Nat} (hv : v < w) (h1 : K v ≠ 2 → K v ≠ 4 → post 1) (h0 : K v = 2 ∨ K v = 4 → post 0) : wpY_isVar post ((nI W), (nI C), (nI w), (nI m), cp, hq, (fun zi => nI (K zi)), oa, ob, st, ca, cb, cw, (fun zi => qa_fe (pt zi)), hh, rr, col, bas, pm, pp, zz, rm) (nI v) := by
  have vi : vp_in (nI v) 32 := vp_in_nI (by omega) (by omega)
  have cl : (nI v).toNatClampNeg = v := nI_clamp (by omega)
  unfold wpY_isVar
  dsimp only
  rw [cl]
  rcases qi_var hW hv with k | k | k | k | k
  · exact ⟨vi, br_t (by rw [k]; decide) (h1 (by omega) (by omega))⟩
  · exact ⟨vi, br_f (by rw [k]; decide) ⟨vi, br_t (by rw [k]; decide) (h1 (by omega) (by omega))⟩⟩
  · exact ⟨vi, br_f (by rw [k]; decide) ⟨vi, br_f (by rw [k]; decide) ⟨vi, br_f (by rw [k]; decide) (h0 (Or.inl k))⟩⟩⟩
  · exact ⟨vi, br_f (by rw [k]; decide) ⟨vi, br_f (by rw [k]; decide) ⟨vi, br_t (by rw [k]; decide) (h1 (by omega) (by omega))⟩⟩⟩
  · exact ⟨vi, br_f (by rw [k]; decide) ⟨vi, br_f (by rw [k]; decide) ⟨vi, br_f (by rw [k]; decide) (h0 (Or.inr k))⟩⟩⟩
theorem qy_val_l {post : Int32 → SY → Prop} (hW : qi_w w K L R oa ob F) (hX : qi_x w K x st) (hw : w ≤ 32) {a : Nat} (ha : a < w) (h : ∀ c : Nat → Int32, post (qa_fe (qa_wv F x w a)) ((nI W), (nI C), (nI w), (nI m), cp, hq, (fun zi => nI (K zi)), oa, ob, st, ca, cb, cw, (fun zi => qa_fe (pt zi)), hh, rr, c, bas, pm, pp, zz, rm)) : ∀ n v (c : Nat → Int32), v ≤ w → w - v < n → wY_value_4 post (nI a) n (qa_fe (qa_sm (fun v => F (a * 32 + v) * x v) v)) (nI v) (nI W) (nI C) (nI w) (nI m) cp hq (fun zi => nI (K zi)) oa ob st ca cb cw (fun zi => qa_fe (pt zi)) hh rr c bas pm pp zz rm := by
  intro n
  induction n with
  | zero => intros; omega
  | succ n ih =>
    intro v c hv hn
    by_cases z : v < w
    · refine br_f (nI_ge z (by omega)) ?_
      refine qy_var hW hw z (fun n2 n4 => ?_) (fun k => ?_)
      · refine br_f (by decide) ?_
        refine qy_form hW hw ha (by omega) fun c' => ?_
        by_cases e : v = 0
        · refine br_t (by rw [e]; rfl) ?_
          unfold wY_value_42
          rw [qa_1, qy_ac]
          refine nm_r (nI_1 v) ?_
          have := ih (v + 1) c' (by omega) (by omega)
          rw [qa_sm] at this
          rw [show x v = 1 by rw [e]; exact hX.1] at this
          exact this
        · refine br_f (nI_ne0 (by omega) (by omega)) ⟨vp_in_nI (by omega) (by omega), ?_⟩
          rw [nI_clamp (by omega), hX.2.1 v (by omega) (by omega)]
          unfold wY_value_42
          rw [qy_ac]
          exact nm_r (nI_1 v) (ih (v + 1) c' (by omega) (by omega))
      · refine br_t rfl (nm_r (nI_1 v) ?_)
        have := ih (v + 1) c (by omega) (by omega)
        rw [qa_sm] at this
        rw [hX.2.2 v (by omega) (Or.inr k), Int.mul_zero, Int.add_zero] at this
        exact this
    · obtain rfl : v = w := by omega
      exact br_t (nI_le (Nat.le_refl _) (by omega)) (h c)
theorem qy_val {post : Int32 → SY → Prop} (hW : qi_w w K L R oa ob F) (hX : qi_x w K x st) (hw : w ≤ 32) {a : Nat} (ha : a < w) (h : ∀ c : Nat → Int32, post (qa_fe (qa_wv F x w a)) ((nI W), (nI C), (nI w), (nI m), cp, hq, (fun zi => nI (K zi)), oa, ob, st, ca, cb, cw, (fun zi => qa_fe (pt zi)), hh, rr, c, bas, pm, pp, zz, rm)) : wpY_value post ((nI W), (nI C), (nI w), (nI m), cp, hq, (fun zi => nI (K zi)), oa, ob, st, ca, cb, cw, (fun zi => qa_fe (pt zi)), hh, rr, col, bas, pm, pp, zz, rm) (nI a) :=
  ⟨w + 1, qy_val_l hW hX hw ha h (w + 1) 0 col (by omega) (by omega)⟩
theorem qy_ent {post : Int32 → SY → Prop} (hW : qi_w w K L R oa ob F) (hC : qi_c w m F M ca cb cw) (hw : w ≤ 32) (hm : m ≤ 16) {t j v : Nat} (ht : t < 3) (hj : j < m) (hv : v < 32) (h : ∀ c : Nat → Int32, post (qa_fe (M (qa_mi t j v))) ((nI W), (nI C), (nI w), (nI m), cp, hq, (fun zi => nI (K zi)), oa, ob, st, ca, cb, cw, (fun zi => qa_fe (pt zi)), hh, rr, c, bas, pm, pp, zz, rm)) : wpY_entry post ((nI W), (nI C), (nI w), (nI m), cp, hq, (fun zi => nI (K zi)), oa, ob, st, ca, cb, cw, (fun zi => qa_fe (pt zi)), hh, rr, col, bas, pm, pp, zz, rm) (nI t) (nI j) (nI v) := by
  have vi : vp_in (nI j) 16 := vp_in_nI (by omega) (by omega)
  have cl : (nI j).toNatClampNeg = j := nI_clamp (by omega)
  obtain ⟨a, b, ha, hb, e1, e2, hR⟩ := hC.1 j hj
  have ht' : t = 0 ∨ t = 1 ∨ t = 2 := by omega
  unfold wpY_entry
  dsimp only
  rw [cl, e1, e2]
  rcases hR with ⟨c, hc, e3, hM⟩ | ⟨e3, hM⟩
  · obtain ⟨m0, m1, m2⟩ := hM v hv
    rw [e3]
    refine ⟨vi, br_f (nI_pos (by omega)) ?_⟩
    rcases ht' with rfl | rfl | rfl
    · rw [m0] at h
      exact br_t (by decide) ⟨vi, qy_form hW hw ha hv h⟩
    · rw [m1] at h
      exact br_f (by decide) (br_t (by decide) ⟨vi, qy_form hW hw hb hv h⟩)
    · rw [m2] at h
      refine br_f (by decide) (br_f (by decide) ⟨vi, ?_⟩)
      by_cases e : v = c
      · rw [if_pos e, ← qa_1] at h
        exact br_t (by rw [e]) (h col)
      · rw [if_neg e, ← qa_0] at h
        exact br_f (by rw [nI_eq (by omega) (by omega)]; exact e) (h col)
  · obtain ⟨m0, m1, m2⟩ := hM v hv
    rw [e3]
    refine ⟨vi, br_t (by decide) ?_⟩
    rcases ht' with rfl | rfl | rfl
    · rw [m0] at h
      refine br_t (by decide) ⟨vi, qy_form hW hw ha hv fun c => ⟨vi, ?_⟩⟩
      dsimp only
      rw [e2]
      refine qy_form hW hw hb hv fun c' => ?_
      dsimp only
      rw [qy_sub]
      exact h c'
    · rw [m1] at h
      refine br_f (by decide) (br_t (by decide) ?_)
      by_cases e : v = 0
      · rw [if_pos e, ← qa_1] at h
        exact br_t (by rw [e]; rfl) (h col)
      · rw [if_neg e, ← qa_0] at h
        exact br_f (nI_ne0 (by omega) (by omega)) (h col)
    · rw [m2, ← qa_0] at h
      exact br_f (by decide) (br_f (by decide) (h col))
theorem qy_dot_l {post : Int32 → SY → Prop} (hW : qi_w w K L R oa ob F) (hX : qi_x w K x st) (hC : qi_c w m F M ca cb cw) (hw : w ≤ 32) (hm : m ≤ 16) {t j : Nat} (ht : t < 3) (hj : j < m) (h : ∀ c : Nat → Int32, post (qa_fe (qa_rv M x w t j)) ((nI W), (nI C), (nI w), (nI m), cp, hq, (fun zi => nI (K zi)), oa, ob, st, ca, cb, cw, (fun zi => qa_fe (pt zi)), hh, rr, c, bas, pm, pp, zz, rm)) : ∀ n v (c : Nat → Int32), v ≤ w → w - v < n → wY_dot_5 post (nI t) (nI j) n (qa_fe (qa_sm (fun v => M (qa_mi t j v) * x v) v)) (nI v) (nI W) (nI C) (nI w) (nI m) cp hq (fun zi => nI (K zi)) oa ob st ca cb cw (fun zi => qa_fe (pt zi)) hh rr c bas pm pp zz rm := by
  intro n
  induction n with
  | zero => intros; omega
  | succ n ih =>
    intro v c hv hn
    by_cases z : v < w
    · refine br_f (nI_ge z (by omega)) ?_
      refine qy_var hW hw z (fun n2 n4 => ?_) (fun k => ?_)
      · refine br_f (by decide) ?_
        refine qy_ent hW hC hw hm ht hj (by omega) fun c' => ?_
        by_cases e : v = 0
        · refine br_t (by rw [e]; rfl) ?_
          unfold wY_dot_49
          rw [qa_1, qy_ac]
          refine nm_r (nI_1 v) ?_
          have := ih (v + 1) c' (by omega) (by omega)
          rw [qa_sm] at this
          rw [show x v = 1 by rw [e]; exact hX.1] at this
          exact this
        · refine br_f (nI_ne0 (by omega) (by omega)) ⟨vp_in_nI (by omega) (by omega), ?_⟩
          rw [nI_clamp (by omega), hX.2.1 v (by omega) (by omega)]
          unfold wY_dot_49
          rw [qy_ac]
          exact nm_r (nI_1 v) (ih (v + 1) c' (by omega) (by omega))
      · refine br_t rfl (nm_r (nI_1 v) ?_)
        have := ih (v + 1) c (by omega) (by omega)
        rw [qa_sm] at this
        rw [hX.2.2 v (by omega) (Or.inr k), Int.mul_zero, Int.add_zero] at this
        exact this
    · obtain rfl : v = w := by omega
      exact br_t (nI_le (Nat.le_refl _) (by omega)) (h c)
theorem qy_dot {post : Int32 → SY → Prop} (hW : qi_w w K L R oa ob F) (hX : qi_x w K x st) (hC : qi_c w m F M ca cb cw) (hw : w ≤ 32) (hm : m ≤ 16) {t j : Nat} (ht : t < 3) (hj : j < m) (h : ∀ c : Nat → Int32, post (qa_fe (qa_rv M x w t j)) ((nI W), (nI C), (nI w), (nI m), cp, hq, (fun zi => nI (K zi)), oa, ob, st, ca, cb, cw, (fun zi => qa_fe (pt zi)), hh, rr, c, bas, pm, pp, zz, rm)) : wpY_dot post ((nI W), (nI C), (nI w), (nI m), cp, hq, (fun zi => nI (K zi)), oa, ob, st, ca, cb, cw, (fun zi => qa_fe (pt zi)), hh, rr, col, bas, pm, pp, zz, rm) (nI t) (nI j) :=
  ⟨w + 1, qy_dot_l hW hX hC hw hm ht hj h (w + 1) 0 col (by omega) (by omega)⟩
theorem qy_sat_l {post : Int32 → SY → Prop} (hW : qi_w w K L R oa ob F) (hX : qi_x w K x st) (hC : qi_c w m F M ca cb cw) (hw : w ≤ 32) (hm : m ≤ 16) (h1 : qa_sat M x w m → ∀ c : Nat → Int32, post 1 ((nI W), (nI C), (nI w), (nI m), cp, hq, (fun zi => nI (K zi)), oa, ob, st, ca, cb, cw, (fun zi => qa_fe (pt zi)), hh, rr, c, bas, pm, pp, zz, rm)) (h0 : ¬ qa_sat M x w m → ∀ c : Nat → Int32, post 0 ((nI W), (nI C), (nI w), (nI m), cp, hq, (fun zi => nI (K zi)), oa, ob, st, ca, cb, cw, (fun zi => qa_fe (pt zi)), hh, rr, c, bas, pm, pp, zz, rm)) : ∀ n j (c : Nat → Int32), j ≤ m → m - j < n → (∀ i, i < j → qa_fe (qa_rv M x w 0 i * qa_rv M x w 1 i) = qa_fe (qa_rv M x w 2 i)) → wY_satisfied_2 post n (nI j) (nI W) (nI C) (nI w) (nI m) cp hq (fun zi => nI (K zi)) oa ob st ca cb cw (fun zi => qa_fe (pt zi)) hh rr c bas pm pp zz rm := by
  intro n
  induction n with
  | zero => intros; omega
  | succ n ih =>
    intro j c hj hn hI
    by_cases z : j < m
    · refine br_f (nI_ge z (by omega)) ?_
      refine qy_dot (t := 0) hW hX hC hw hm (by omega) z fun c1 => ?_
      refine qy_dot (t := 1) hW hX hC hw hm (by omega) z fun c2 => ?_
      refine qy_dot (t := 2) hW hX hC hw hm (by omega) z fun c3 => ?_
      dsimp only
      rw [qy_mul]
      by_cases e : qa_fe (qa_rv M x w 0 j * qa_rv M x w 1 j) = qa_fe (qa_rv M x w 2 j)
      · refine br_t e (nm_r (nI_1 j) ?_)
        refine ih (j + 1) c3 (by omega) (by omega) fun i hi => ?_
        by_cases q : i = j
        · rw [q]; exact e
        · exact hI i (by omega)
      · exact br_f e (h0 (fun q => e (q j z)) c3)
    · obtain rfl : j = m := by omega
      exact br_t (nI_le (Nat.le_refl _) (by omega)) (h1 hI c)
theorem qy_sat {post : Int32 → SY → Prop} (hW : qi_w w K L R oa ob F) (hX : qi_x w K x st) (hC : qi_c w m F M ca cb cw) (hw : w ≤ 32) (hm : m ≤ 16) (h1 : qa_sat M x w m → ∀ c : Nat → Int32, post 1 ((nI W), (nI C), (nI w), (nI m), cp, hq, (fun zi => nI (K zi)), oa, ob, st, ca, cb, cw, (fun zi => qa_fe (pt zi)), hh, rr, c, bas, pm, pp, zz, rm)) (h0 : ¬ qa_sat M x w m → ∀ c : Nat → Int32, post 0 ((nI W), (nI C), (nI w), (nI m), cp, hq, (fun zi => nI (K zi)), oa, ob, st, ca, cb, cw, (fun zi => qa_fe (pt zi)), hh, rr, c, bas, pm, pp, zz, rm)) : wpY_satisfied post ((nI W), (nI C), (nI w), (nI m), cp, hq, (fun zi => nI (K zi)), oa, ob, st, ca, cb, cw, (fun zi => qa_fe (pt zi)), hh, rr, col, bas, pm, pp, zz, rm) :=
  ⟨m + 1, qy_sat_l hW hX hC hw hm h1 h0 (m + 1) 0 col (by omega) (by omega) (fun i hi => by omega)⟩
theorem qy_inv_l {post : Int32 → Prop} (a : Int) (h : post (qa_fe (qa_iv a))) : ∀ n i, i ≤ 31 → 31 - i < n → wY_inv_11 post 2147483645 (nI W) (nI C) (nI w) (nI m) cp hq (fun zi => nI (K zi)) oa ob st ca cb cw (fun zi => qa_fe (pt zi)) hh rr col bas pm pp zz rm n (qa_fe (qa_pw a i).1) (qa_fe (qa_pw a i).2) (nI i) := by
  have l : (31 : Int32) = nI 31 := by decide
  intro n
  induction n with
  | zero => intros; omega
  | succ n ih =>
    intro i hi hn
    by_cases h1 : i < 31
    · have h2 : ¬ (31 : Int32) ≤ nI i := by rw [l]; exact nI_ge h1 (by omega)
      have i2 := ih (i + 1) (by omega) (by omega)
      by_cases hb : (((2147483645 : Int32) >>> (nI i &&& 31)) &&& 1) = 1
      · refine br_f h2 (br_t hb ?_)
        rw [qy_mul]
        unfold wY_inv_39
        rw [qy_mul]
        rw [qa_pw, if_pos hb] at i2
        exact nm_r (nI_1 i) i2
      · refine br_f h2 (br_f hb ?_)
        unfold wY_inv_39
        rw [qy_mul]
        rw [qa_pw, if_neg hb] at i2
        exact nm_r (nI_1 i) i2
    · obtain rfl : i = 31 := by omega
      exact br_t (by decide) h
theorem qy_inv {post : Int32 → Prop} (a : Int) (h : post (qa_fe (qa_iv a))) : wpY_inv post ((nI W), (nI C), (nI w), (nI m), cp, hq, (fun zi => nI (K zi)), oa, ob, st, ca, cb, cw, (fun zi => qa_fe (pt zi)), hh, rr, col, bas, pm, pp, zz, rm) (qa_fe a) := by
  have := qy_inv_l (W := W) (C := C) (w := w) (m := m) (cp := cp) (hq := hq) (K := K) (oa := oa) (ob := ob) (st := st) (ca := ca) (cb := cb) (cw := cw) (hh := hh) (rr := rr) (col := col) (bas := bas) (pm := pm) (pp := pp) (zz := zz) (rm := rm) (pt := pt) a h 32 0 (by omega) (by omega)
  rw [qa_pw, ← qa_1, nI_0] at this
  exact ⟨32, this⟩
end QY
end
section
def qb_r (a : Nat → Int32) (b m : Nat) (g : Nat → Int) : Nat → Int32 := fun i => if b ≤ i ∧ i < b + m then qa_fe (g (i - b)) else a i
theorem qb_in {a : Nat → Int32} {g : Nat → Int} {b m i : Nat} (h : i < m) : qb_r a b m g (b + i) = qa_fe (g i) := by
  unfold qb_r
  rw [if_pos (by omega), Nat.add_sub_cancel_left]
theorem qb_in0 {a : Nat → Int32} {g : Nat → Int} {m i : Nat} (h : i < m) : qb_r a 0 m g i = qa_fe (g i) := by
  have := qb_in (a := a) (g := g) (b := 0) h
  rwa [Nat.zero_add] at this
theorem qb_out {a : Nat → Int32} {g : Nat → Int} {b m i : Nat} (h : i < b ∨ b + m ≤ i) : qb_r a b m g i = a i := if_neg (by omega)
theorem qb_0 (a : Nat → Int32) (g : Nat → Int) (b : Nat) : qb_r a b 0 g = a := by
  funext i
  exact if_neg (by omega)
theorem qb_s (a : Nat → Int32) (g : Nat → Int) (b v : Nat) : upd (qb_r a b v g) (b + v) (qa_fe (g v)) = qb_r a b (v + 1) g := by
  funext i
  unfold upd qb_r
  by_cases h : i = b + v
  · subst h
    rw [if_pos rfl, if_pos (by omega), Nat.add_sub_cancel_left]
  · rw [if_neg h]
    by_cases h2 : b ≤ i ∧ i < b + v
    · rw [if_pos h2, if_pos (by omega)]
    · rw [if_neg h2, if_neg (by omega)]
theorem qb_s0 (a : Nat → Int32) (g : Nat → Int) (v : Nat) : upd (qb_r a 0 v g) v (qa_fe (g v)) = qb_r a 0 (v + 1) g := by
  have := qb_s a g 0 v
  rwa [Nat.zero_add] at this
theorem qb_u {a : Nat → Int32} {g : Nat → Int} {b m k : Nat} (h : k < m) (z : Int) : upd (qb_r a b m g) (b + k) (qa_fe z) = qb_r a b m (qa_uz g k z) := by
  funext i
  unfold upd qb_r
  by_cases h1 : i = b + k
  · subst h1
    rw [if_pos rfl, if_pos (by omega), Nat.add_sub_cancel_left, qa_uzs]
  · rw [if_neg h1]
    by_cases h2 : b ≤ i ∧ i < b + m
    · rw [if_pos h2, if_pos h2, qa_uzn (by omega)]
    · rw [if_neg h2, if_neg h2]
theorem qb_u0 {a : Nat → Int32} {g : Nat → Int} {m k : Nat} (h : k < m) (z : Int) : upd (qb_r a 0 m g) k (qa_fe z) = qb_r a 0 m (qa_uz g k z) := by
  have := qb_u (a := a) (g := g) (b := 0) h z
  rwa [Nat.zero_add] at this
theorem qb_c {a : Nat → Int32} {g g' : Nat → Int} {b m : Nat} (h : ∀ i, i < m → g i = g' i) : qb_r a b m g = qb_r a b m g' := by
  funext i
  unfold qb_r
  by_cases h2 : b ≤ i ∧ i < b + m
  · rw [if_pos h2, if_pos h2, h _ (by omega)]
  · rw [if_neg h2, if_neg h2]
section QY
variable {W C w m : Nat} {cp hq : Int32} {K : Nat → Nat} {L R oa ob st ca cb cw hh rr col bas pm pp zz rm : Nat → Int32} {x F M pt : Nat → Int}
theorem qy_fb160 {post : SY → Prop} (hm : m ≤ 16) (s : Int) (f : Nat → Int) (h : post ((nI W), (nI C), (nI w), (nI m), cp, hq, (fun zi => nI (K zi)), oa, ob, st, ca, cb, cw, (fun zi => qa_fe (pt zi)), hh, rr, col, (qb_r bas 0 17 (qa_mix m (fun k => f k * s) f)), pm, pp, zz, rm)) : ∀ n k, k ≤ m → m - k < n → wY_fillBasis_160 post (qa_fe s) (nI W) (nI C) (nI w) (nI m) cp hq n (nI k) (fun zi => nI (K zi)) oa ob st ca cb cw (fun zi => qa_fe (pt zi)) hh rr col (qb_r bas 0 17 (qa_mix k (fun k => f k * s) f)) pm pp zz rm := by
  intro n
  induction n with
  | zero => intros; omega
  | succ n ih =>
    intro k hk hn
    by_cases h1 : k < m
    · have h2 : ¬ m ≤ k := by omega
      have e1 : qb_r bas 0 17 (qa_mix k (fun k => f k * s) f) k = qa_fe (f k) := by rw [qb_in0 (by omega), qa_mix_ge (Nat.le_refl k)]
      have e2 := qb_u0 (a := bas) (g := qa_mix k (fun k => f k * s) f) (m := 17) (k := k) (by omega) (f k * s)
      rw [qa_mix_s (fun k => f k * s) f k] at e2
      simp (disch := omega) only [wY_fillBasis_160, h2, e1, e2, qy_mul, not_true, not_false_iff, true_implies, false_implies, true_and, and_true, forall_eq, nI_add, nI_1, nI_clamp, nI_leI, nI_ltI, nI_eq, qn_m32, qn_m16, qv_in, qx_mul, qx_add, qx_sub, qa_upd]
      exact ih (k + 1) (by omega) (by omega)
    · obtain rfl : k = m := by omega
      exact br_t (nI_le (Nat.le_refl _) (by omega)) h
theorem qy_fb55 {post : SY → Prop} {J : Int32 → Int32 → Int32 → (Nat → Int32) → (Nat → Int32) → (Nat → Int32) → (Nat → Int32) → (Nat → Int32) → (Nat → Int32) → (Nat → Int32) → (Nat → Int32) → (Nat → Int32) → (Nat → Int32) → (Nat → Int32) → (Nat → Int32) → (Nat → Int32) → (Nat → Int32) → (Nat → Int32) → (Nat → Int32) → Prop} {j i d : Nat} (hj : j < 16) (hi : i < 16) (e : Int) (z : Nat → Int) (h : J (nI (d + 1)) (qa_fe (e * (pt j - pt i))) (nI (i + 1)) (fun zi => nI (K zi)) oa ob st ca cb cw (fun zi => qa_fe (pt zi)) hh rr col (qb_r bas 0 17 (qa_lin (pt i) z)) pm pp zz rm) : ∀ c n, c ≤ 17 → c < n → wY_fillBasis_55 post J (nI j) (nI d) (qa_fe e) (nI i) (nI W) (nI C) (nI w) (nI m) cp hq n (qx_d c) (fun zi => nI (K zi)) oa ob st ca cb cw (fun zi => qa_fe (pt zi)) hh rr col (qb_r bas 0 17 (qa_mix c z (qa_lin (pt i) z))) pm pp zz rm := by
  intro c
  induction c with
  | zero =>
    intro n _ hn
    obtain ⟨n, rfl⟩ : ∃ k, n = k + 1 := ⟨n - 1, by omega⟩
    refine br_t qx_d0 (nm_r (nI_1 d) ⟨vp_in_nI (by omega) (by omega), vp_in_nI (by omega) (by omega), ?_⟩)
    rw [nI_clamp (by omega), nI_clamp (by omega), qy_den, qa_mix_0]
    exact nm_r (nI_1 i) h
  | succ c ih =>
    intro n hc hn
    obtain ⟨n, rfl⟩ : ∃ k, n = k + 1 := ⟨n - 1, by omega⟩
    rw [qx_ds]
    refine br_f (nI_pos (by omega)) ?_
    have e1 : qb_r bas 0 17 (qa_mix (c + 1) z (qa_lin (pt i) z)) c = qa_fe (z c) := by rw [qb_in0 (by omega), qa_mix_lt (by omega)]
    have e3 := qb_u0 (a := bas) (g := qa_mix (c + 1) z (qa_lin (pt i) z)) (m := 17) (k := c) (by omega) (qa_lin (pt i) z c)
    rw [qa_mix_d] at e3
    have i2 := ih n (by omega) (by omega)
    by_cases h0 : c = 0
    · subst h0
      refine br_t (by decide) ?_
      unfold wY_fillBasis_78
      refine ⟨vp_in_nI (by omega) (by omega), vp_in_nI (by omega) (by omega), ?_⟩
      rw [nI_clamp (by omega), nI_clamp (by omega), e1, qa_0, qy_sc, ← qa_lin0]
      exact ⟨vp_in_nI (by omega) (by omega), nm_r e3 (nm_r (qx_dm 0) i2)⟩
    · obtain ⟨c, rfl⟩ : ∃ q, c = q + 1 := ⟨c - 1, by omega⟩
      have e0 : nI (c + 1) - 1 = nI c := nI_pred c
      have e2 : qb_r bas 0 17 (qa_mix (c + 1 + 1) z (qa_lin (pt i) z)) c = qa_fe (z c) := by rw [qb_in0 (by omega), qa_mix_lt (by omega)]
      refine br_f (nI_nle (by omega) (by omega)) ?_
      rw [e0, nI_clamp (by omega), e2]
      unfold wY_fillBasis_78
      refine ⟨vp_in_nI (by omega) (by omega), vp_in_nI (by omega) (by omega), vp_in_nI (by omega) (by omega), ?_⟩
      rw [nI_clamp (by omega), nI_clamp (by omega), e1, qy_sc, ← qa_linS]
      exact ⟨vp_in_nI (by omega) (by omega), nm_r e3 (nm_r (qx_dm (c + 1)) i2)⟩
def qy_dg (j i : Nat) : Nat := if i ≤ j then i else i - 1
theorem qy_np_dg (pt : Nat → Int) (j i : Nat) : ∀ k, qy_dg j i + 1 ≤ k → qa_np pt j i k = 0 := by
  unfold qy_dg
  by_cases h : i ≤ j
  · rw [if_pos h, qa_np_lo pt h]
    exact qa_zp_deg pt i
  · rw [if_neg h, show i - 1 + 1 = i by omega]
    exact qa_np_deg pt (by omega)
theorem qy_fb35 {post : SY → Prop} (hm : m ≤ 16) {j : Nat} (hj : j < m) (h : post ((nI W), (nI C), (nI w), (nI m), cp, hq, (fun zi => nI (K zi)), oa, ob, st, ca, cb, cw, (fun zi => qa_fe (pt zi)), hh, rr, col, (qb_r bas 0 17 (qa_mix m (qa_bs pt m j) (qa_np pt j m))), pm, pp, zz, rm)) : ∀ n i, i ≤ m → m - i < n → wY_fillBasis_35 post (nI j) (nI W) (nI C) (nI w) (nI m) cp hq n (nI (qy_dg j i)) (qa_fe (qa_dn pt j i)) (nI i) (fun zi => nI (K zi)) oa ob st ca cb cw (fun zi => qa_fe (pt zi)) hh rr col (qb_r bas 0 17 (qa_np pt j i)) pm pp zz rm := by
  intro n
  induction n with
  | zero => intros; omega
  | succ n ih =>
    intro i hi hn
    by_cases h1 : i < m
    · refine br_f (nI_ge h1 (by omega)) ?_
      have i2 := ih (i + 1) (by omega) (by omega)
      by_cases e : i = j
      · refine br_t (by rw [e]) (nm_r (nI_1 i) ?_)
        subst e
        rw [qa_np_e, qa_dn_e, show qy_dg i (i + 1) = qy_dg i i by unfold qy_dg; rw [if_neg (by omega), if_pos (by omega)]; omega] at i2
        exact i2
      · refine br_f (by rw [nI_eq (by omega) (by omega)]; exact e) (nm_r (nI_1 _) ⟨19, ?_⟩)
        have hd : qy_dg j i ≤ i := by unfold qy_dg; split <;> omega
        rw [qa_np_s pt e, qa_dn_s pt e, show qy_dg j (i + 1) = qy_dg j i + 1 by unfold qy_dg; split <;> split <;> omega] at i2
        have := qy_fb55 (post := post) (J := wY_fillBasis_35 post (nI j) (nI W) (nI C) (nI w) (nI m) cp hq n) (W := W) (C := C) (w := w) (m := m) (cp := cp) (hq := hq) (K := K) (oa := oa) (ob := ob) (st := st) (ca := ca) (cb := cb) (cw := cw) (hh := hh) (rr := rr) (col := col) (bas := bas) (pm := pm) (pp := pp) (zz := zz) (rm := rm) (pt := pt) (j := j) (i := i) (d := qy_dg j i) (by omega) (by omega) (qa_dn pt j i) (qa_np pt j i) i2 (qy_dg j i + 2) 19 (by omega) (by omega)
        rw [qx_ds, qb_c (g' := qa_np pt j i) (fun k hk => ?_)] at this
        · exact this
        · by_cases q : k < qy_dg j i + 2
          · rw [qa_mix_lt q]
          · rw [qa_mix_ge (by omega), qy_np_dg pt j i k (by omega), qa_lin_deg (qy_np_dg pt j i) k (by omega)]
    · obtain rfl : i = m := by omega
      refine br_t (nI_le (Nat.le_refl _) (by omega)) (qy_inv _ ⟨i + 1, ?_⟩)
      have := qy_fb160 (post := post) (W := W) (C := C) (w := w) (m := i) (cp := cp) (hq := hq) (K := K) (oa := oa) (ob := ob) (st := st) (ca := ca) (cb := cb) (cw := cw) (hh := hh) (rr := rr) (col := col) (bas := bas) (pm := pm) (pp := pp) (zz := zz) (rm := rm) (pt := pt) hm (qa_iv (qa_dn pt j i)) (qa_np pt j i) h (i + 1) 0 (by omega) (by omega)
      rw [qa_mix_0] at this
      exact this
theorem qy_fb2 {post : SY → Prop} {j : Nat} (h : ∃ n, wY_fillBasis_35 post (nI j) (nI W) (nI C) (nI w) (nI m) cp hq n 0 1 0 (fun zi => nI (K zi)) oa ob st ca cb cw (fun zi => qa_fe (pt zi)) hh rr col (qb_r bas 0 17 qa_one) pm pp zz rm) : ∀ n k, k ≤ 17 → 17 - k < n → wY_fillBasis_2 post (nI j) (nI W) (nI C) (nI w) (nI m) cp hq n (nI k) (fun zi => nI (K zi)) oa ob st ca cb cw (fun zi => qa_fe (pt zi)) hh rr col (qb_r bas 0 k (fun _ => 0)) pm pp zz rm := by
  have l : (17 : Int32) = nI 17 := by decide
  intro n
  induction n with
  | zero => intros; omega
  | succ n ih =>
    intro k hk hn
    by_cases h1 : k < 17
    · refine br_f (by rw [l]; exact nI_ge h1 (by omega)) ⟨vp_in_nI h1 (by omega), ?_⟩
      rw [nI_clamp (by omega), qa_0]
      exact nm_r (qb_s0 bas (fun _ => 0) k) (nm_r (nI_1 k) (ih (k + 1) (by omega) (by omega)))
    · obtain rfl : k = 17 := by omega
      refine br_t (by decide) (nm_r ?_ h)
      have := qb_u0 (a := bas) (g := fun _ => 0) (m := 17) (k := 0) (by omega) 1
      rw [← qa_1] at this
      rw [this]
      refine qb_c fun i hi => ?_
      unfold qa_uz qa_one
      rfl
theorem qy_fb {post : SY → Prop} (hm : m ≤ 16) {j : Nat} (hj : j < m) (h : ∀ b : Nat → Int32, (∀ k, k < m → b k = qa_fe (qa_bs pt m j k)) → post ((nI W), (nI C), (nI w), (nI m), cp, hq, (fun zi => nI (K zi)), oa, ob, st, ca, cb, cw, (fun zi => qa_fe (pt zi)), hh, rr, col, b, pm, pp, zz, rm)) : wpY_fillBasis post ((nI W), (nI C), (nI w), (nI m), cp, hq, (fun zi => nI (K zi)), oa, ob, st, ca, cb, cw, (fun zi => qa_fe (pt zi)), hh, rr, col, bas, pm, pp, zz, rm) (nI j) := by
  have h35 := qy_fb35 (W := W) (C := C) (w := w) (cp := cp) (hq := hq) (K := K) (oa := oa) (ob := ob) (st := st) (ca := ca) (cb := cb) (cw := cw) (hh := hh) (rr := rr) (col := col) (pm := pm) (pp := pp) (zz := zz) (rm := rm) hm hj (h (qb_r bas 0 17 (qa_mix m (qa_bs pt m j) (qa_np pt j m))) (fun k hk => by rw [qb_in0 (by omega), qa_mix_lt hk])) (m + 1) 0 (by omega) (by omega)
  have e : nI (qy_dg j 0) = 0 := by unfold qy_dg; rw [if_pos (by omega)]; exact nI_0
  rw [e, nI_0, show qa_fe (qa_dn pt j 0) = 1 from qa_1.symm] at h35
  have := qy_fb2 (post := post) (W := W) (C := C) (w := w) (m := m) (cp := cp) (hq := hq) (K := K) (oa := oa) (ob := ob) (st := st) (ca := ca) (cb := cb) (cw := cw) (hh := hh) (rr := rr) (col := col) (bas := bas) (pm := pm) (pp := pp) (zz := zz) (rm := rm) (pt := pt) (j := j) ⟨m + 1, h35⟩ 18 0 (by omega) (by omega)
  rw [qb_0] at this
  exact ⟨18, this⟩
end QY
end
section
section QY
variable {W C w m : Nat} {cp hq : Int32} {K : Nat → Nat} {L R oa ob st ca cb cw hh rr col bas pm pp zz rm : Nat → Int32} {x F M pt : Nat → Int}
theorem qy_fp51 {post : SY → Prop} {J : Int32 → Int32 → Int32 → Int32 → Int32 → Int32 → Int32 → (Nat → Int32) → (Nat → Int32) → (Nat → Int32) → (Nat → Int32) → (Nat → Int32) → (Nat → Int32) → (Nat → Int32) → (Nat → Int32) → (Nat → Int32) → (Nat → Int32) → (Nat → Int32) → (Nat → Int32) → (Nat → Int32) → (Nat → Int32) → (Nat → Int32) → (Nat → Int32) → Prop} (hm : m ≤ 16) {t j : Nat} (ht : t < 3) (v : Int) (f b : Nat → Int) (hb : ∀ k, k < m → bas k = qa_fe (b k)) (h : J (nI (j + 1)) (nI W) (nI C) (nI w) (nI m) cp hq (fun zi => nI (K zi)) oa ob st ca cb cw (fun zi => qa_fe (pt zi)) hh rr col bas (qb_r pm (t * 16) 16 (qa_mix m (fun k => f k + v * b k) f)) pp zz rm) : ∀ n k, k ≤ m → m - k < n → wY_fillPoly_51 post J (nI t) (nI j) (qa_fe v) (nI W) (nI C) (nI w) (nI m) cp hq n (nI k) (fun zi => nI (K zi)) oa ob st ca cb cw (fun zi => qa_fe (pt zi)) hh rr col bas (qb_r pm (t * 16) 16 (qa_mix k (fun k => f k + v * b k) f)) pp zz rm := by
  intro n
  induction n with
  | zero => intros; omega
  | succ n ih =>
    intro k hk hn
    by_cases h1 : k < m
    · have h2 : ¬ m ≤ k := by omega
      have e1 : qb_r pm (t * 16) 16 (qa_mix k (fun k => f k + v * b k) f) (t * 16 + k) = qa_fe (f k) := by rw [qb_in (by omega), qa_mix_ge (Nat.le_refl k)]
      have e2 := qb_u (a := pm) (g := qa_mix k (fun k => f k + v * b k) f) (b := t * 16) (m := 16) (k := k) (by omega) (f k + v * b k)
      rw [qa_mix_s (fun k => f k + v * b k) f k] at e2
      simp (disch := omega) only [wY_fillPoly_51, h2, e1, e2, hb k h1, qy_ac, not_true, not_false_iff, true_implies, false_implies, true_and, and_true, forall_eq, nI_add, nI_1, nI_clamp, nI_leI, nI_ltI, nI_eq, qn_m32, qn_m16, qv_in, qx_mul, qx_add, qx_sub, qa_upd]
      exact ih (k + 1) (by omega) (by omega)
    · obtain rfl : k = m := by omega
      exact br_t (nI_le (Nat.le_refl _) (by omega)) (nm_r (nI_1 j) h)
theorem qy_fp28 {post : SY → Prop} (hW : qi_w w K L R oa ob F) (hX : qi_x w K x st) (hC : qi_c w m F M ca cb cw) (hw : w ≤ 32) (hm : m ≤ 16) {t : Nat} (ht : t < 3) (h : ∀ c b : Nat → Int32, post ((nI W), (nI C), (nI w), (nI m), cp, hq, (fun zi => nI (K zi)), oa, ob, st, ca, cb, cw, (fun zi => qa_fe (pt zi)), hh, rr, c, b, (qb_r pm (t * 16) 16 (qa_mix m (qa_pz M x pt w m t) (fun _ => 0))), pp, zz, rm)) : ∀ n j (c b : Nat → Int32), j ≤ m → m - j < n → wY_fillPoly_28 post (nI t) n (nI j) (nI W) (nI C) (nI w) (nI m) cp hq (fun zi => nI (K zi)) oa ob st ca cb cw (fun zi => qa_fe (pt zi)) hh rr c b (qb_r pm (t * 16) 16 (qa_mix m (qa_ps M x pt w m t j) (fun _ => 0))) pp zz rm := by
  intro n
  induction n with
  | zero => intros; omega
  | succ n ih =>
    intro j c b hj hn
    by_cases h1 : j < m
    · refine br_f (nI_ge h1 (by omega)) ?_
      refine qy_dot hW hX hC hw hm ht h1 fun c1 => ?_
      refine qy_fb hm h1 fun b1 hb1 => ⟨m + 1, ?_⟩
      have i2 := ih (j + 1) c1 b1 (by omega) (by omega)
      have e : qb_r pm (t * 16) 16 (qa_mix m (qa_ps M x pt w m t (j + 1)) (fun _ => 0)) = qb_r pm (t * 16) 16 (qa_mix m (fun k => qa_mix m (qa_ps M x pt w m t j) (fun _ => 0) k + qa_rv M x w t j * qa_bs pt m j k) (qa_mix m (qa_ps M x pt w m t j) (fun _ => 0))) := by
        refine qb_c fun k _ => ?_
        by_cases q : k < m
        · rw [qa_mix_lt q, qa_mix_lt q, qa_mix_lt q]
          rfl
        · rw [qa_mix_ge (by omega), qa_mix_ge (by omega), qa_mix_ge (by omega)]
      rw [e] at i2
      have := qy_fp51 (post := post) (J := wY_fillPoly_28 post (nI t) n) (W := W) (C := C) (w := w) (m := m) (cp := cp) (hq := hq) (K := K) (oa := oa) (ob := ob) (st := st) (ca := ca) (cb := cb) (cw := cw) (hh := hh) (rr := rr) (col := c1) (bas := b1) (pm := pm) (pp := pp) (zz := zz) (rm := rm) (pt := pt) hm ht (qa_rv M x w t j) (qa_mix m (qa_ps M x pt w m t j) (fun _ => 0)) (qa_bs pt m j) hb1 i2 (m + 1) 0 (by omega) (by omega)
      rw [qa_mix_0] at this
      exact this
    · obtain rfl : j = m := by omega
      exact br_t (nI_le (Nat.le_refl _) (by omega)) (h c b)
theorem qy_fp2 {post : SY → Prop} {t : Nat} (ht : t < 3) (h : ∃ n, wY_fillPoly_28 post (nI t) n 0 (nI W) (nI C) (nI w) (nI m) cp hq (fun zi => nI (K zi)) oa ob st ca cb cw (fun zi => qa_fe (pt zi)) hh rr col bas (qb_r pm (t * 16) 16 (fun _ => 0)) pp zz rm) : ∀ n k, k ≤ 16 → 16 - k < n → wY_fillPoly_2 post (nI t) (nI W) (nI C) (nI w) (nI m) cp hq n (nI k) (fun zi => nI (K zi)) oa ob st ca cb cw (fun zi => qa_fe (pt zi)) hh rr col bas (qb_r pm (t * 16) k (fun _ => 0)) pp zz rm := by
  intro n
  induction n with
  | zero => intros; omega
  | succ n ih =>
    intro k hk hn
    by_cases h1 : k < 16
    · refine br_f (by rw [qn_16]; exact nI_ge h1 (by omega)) ?_
      rw [qn_m16, nI_add, nI_clamp (by omega), qa_0]
      exact ⟨vp_in_nI (by omega) (by omega), nm_r (qb_s pm (fun _ => 0) (t * 16) k) (nm_r (nI_1 k) (ih (k + 1) (by omega) (by omega)))⟩
    · obtain rfl : k = 16 := by omega
      exact br_t (by decide) h
theorem qy_fp {post : SY → Prop} (hW : qi_w w K L R oa ob F) (hX : qi_x w K x st) (hC : qi_c w m F M ca cb cw) (hw : w ≤ 32) (hm : m ≤ 16) {t : Nat} (ht : t < 3) (h : ∀ c b p : Nat → Int32, (∀ k, k < m → p (t * 16 + k) = qa_fe (qa_pz M x pt w m t k)) → (∀ i, i < t * 16 ∨ t * 16 + 16 ≤ i → p i = pm i) → post ((nI W), (nI C), (nI w), (nI m), cp, hq, (fun zi => nI (K zi)), oa, ob, st, ca, cb, cw, (fun zi => qa_fe (pt zi)), hh, rr, c, b, p, pp, zz, rm)) : wpY_fillPoly post ((nI W), (nI C), (nI w), (nI m), cp, hq, (fun zi => nI (K zi)), oa, ob, st, ca, cb, cw, (fun zi => qa_fe (pt zi)), hh, rr, col, bas, pm, pp, zz, rm) (nI t) := by
  have h28 := qy_fp28 (W := W) (C := C) (w := w) (m := m) (cp := cp) (hq := hq) (K := K) (oa := oa) (ob := ob) (st := st) (ca := ca) (cb := cb) (cw := cw) (hh := hh) (rr := rr) (pm := pm) (pp := pp) (zz := zz) (rm := rm) (pt := pt) hW hX hC hw hm ht (fun c b => h c b _ (fun k hk => by rw [qb_in (by omega), qa_mix_lt hk]) (fun i hi => qb_out hi)) (m + 1) 0 col bas (by omega) (by omega)
  have e : qb_r pm (t * 16) 16 (qa_mix m (qa_ps M x pt w m t 0) (fun _ => 0)) = qb_r pm (t * 16) 16 (fun _ => 0) := by
    refine qb_c fun k _ => ?_
    by_cases q : k < m
    · rw [qa_mix_lt q]
      rfl
    · rw [qa_mix_ge (by omega)]
  rw [e, nI_0] at h28
  have := qy_fp2 (post := post) (W := W) (C := C) (w := w) (m := m) (cp := cp) (hq := hq) (K := K) (oa := oa) (ob := ob) (st := st) (ca := ca) (cb := cb) (cw := cw) (hh := hh) (rr := rr) (col := col) (bas := bas) (pm := pm) (pp := pp) (zz := zz) (rm := rm) (pt := pt) ht ⟨m + 1, h28⟩ 17 0 (by omega) (by omega)
  rw [qb_0] at this
  exact ⟨17, this⟩
theorem qy_P95 {post : SY → Prop} (hm : m ≤ 16) (f z : Nat → Int) (hz : ∀ k, k < m → pm (32 + k) = qa_fe (z k)) (h : post ((nI W), (nI C), (nI w), (nI m), cp, hq, (fun zi => nI (K zi)), oa, ob, st, ca, cb, cw, (fun zi => qa_fe (pt zi)), hh, rr, col, bas, pm, (qb_r pp 0 32 (qa_mix m (fun k => f k - z k) f)), zz, rm)) : ∀ n k, k ≤ m → m - k < n → wY_fillP_95 post (nI W) (nI C) (nI w) (nI m) cp hq n (nI k) (fun zi => nI (K zi)) oa ob st ca cb cw (fun zi => qa_fe (pt zi)) hh rr col bas pm (qb_r pp 0 32 (qa_mix k (fun k => f k - z k) f)) zz rm := by
  intro n
  induction n with
  | zero => intros; omega
  | succ n ih =>
    intro k hk hn
    by_cases h1 : k < m
    · have h2 : ¬ m ≤ k := by omega
      have e1 : qb_r pp 0 32 (qa_mix k (fun k => f k - z k) f) k = qa_fe (f k) := by rw [qb_in0 (by omega), qa_mix_ge (Nat.le_refl k)]
      have e2 := qb_u0 (a := pp) (g := qa_mix k (fun k => f k - z k) f) (m := 32) (k := k) (by omega) (f k - z k)
      rw [qa_mix_s (fun k => f k - z k) f k] at e2
      simp (disch := omega) only [wY_fillP_95, h2, e1, e2, qn_32a, hz k h1, qy_sub, not_true, not_false_iff, true_implies, false_implies, true_and, and_true, forall_eq, nI_add, nI_1, nI_clamp, nI_leI, nI_ltI, nI_eq, qn_m32, qn_m16, qv_in, qx_mul, qx_add, qx_sub, qa_upd]
      exact ih (k + 1) (by omega) (by omega)
    · obtain rfl : k = m := by omega
      exact br_t (nI_le (Nat.le_refl _) (by omega)) h
theorem qy_P33 {post : SY → Prop} {J : Int32 → (Nat → Int32) → (Nat → Int32) → (Nat → Int32) → (Nat → Int32) → (Nat → Int32) → (Nat → Int32) → (Nat → Int32) → (Nat → Int32) → (Nat → Int32) → (Nat → Int32) → (Nat → Int32) → (Nat → Int32) → (Nat → Int32) → (Nat → Int32) → (Nat → Int32) → (Nat → Int32) → Prop} (hm : m ≤ 16) {i : Nat} (hi : i < m) (f A B : Nat → Int) (hA : pm i = qa_fe (A i)) (hB : ∀ k, k < m → pm (16 + k) = qa_fe (B k)) (h : J (nI (i + 1)) (fun zi => nI (K zi)) oa ob st ca cb cw (fun zi => qa_fe (pt zi)) hh rr col bas pm (qb_r pp 0 32 (fun t => f t + qa_c2 A B i m t)) zz rm) : ∀ n k, k ≤ m → m - k < n → wY_fillP_33 post J (nI i) (nI W) (nI C) (nI w) (nI m) cp hq n (nI k) (fun zi => nI (K zi)) oa ob st ca cb cw (fun zi => qa_fe (pt zi)) hh rr col bas pm (qb_r pp 0 32 (fun t => f t + qa_c2 A B i k t)) zz rm := by
  have l16 : ∀ k, (16 : Int32) + nI k = nI (16 + k) := fun k => nI_add 16 k
  intro n
  induction n with
  | zero => intros; omega
  | succ n ih =>
    intro k hk hn
    by_cases h1 : k < m
    · have h2 : ¬ m ≤ k := by omega
      have e1 : qb_r pp 0 32 (fun t => f t + qa_c2 A B i k t) (i + k) = qa_fe (f (i + k) + qa_c2 A B i k (i + k)) := qb_in0 (by omega)
      have e2 := qb_u0 (a := pp) (g := fun t => f t + qa_c2 A B i k t) (m := 32) (k := i + k) (by omega) (f (i + k) + qa_c2 A B i k (i + k) + A i * B k)
      have e : qa_uz (fun t => f t + qa_c2 A B i k t) (i + k) (f (i + k) + qa_c2 A B i k (i + k) + A i * B k) = (fun t => f t + qa_c2 A B i (k + 1) t) := by
        funext t
        unfold qa_uz
        dsimp only
        rw [qa_c2_s]
        by_cases ht : t = i + k
        · rw [if_pos ht, if_pos ht.symm, ht, Int.add_assoc]
        · rw [if_neg ht, if_neg (fun q => ht q.symm), Int.add_zero]
      rw [e] at e2
      simp (disch := omega) only [wY_fillP_33, h2, e1, e2, l16, hA, hB k h1, qy_ac, not_true, not_false_iff, true_implies, false_implies, true_and, and_true, forall_eq, nI_add, nI_1, nI_clamp, nI_leI, nI_ltI, nI_eq, qn_m32, qn_m16, qv_in, qx_mul, qx_add, qx_sub, qa_upd]
      exact ih (k + 1) (by omega) (by omega)
    · obtain rfl : k = m := by omega
      exact br_t (nI_le (Nat.le_refl _) (by omega)) (nm_r (nI_1 i) h)
theorem qy_P23 {post : SY → Prop} (hm : m ≤ 16) (A B : Nat → Int) (hA : ∀ k, k < m → pm k = qa_fe (A k)) (hB : ∀ k, k < m → pm (16 + k) = qa_fe (B k)) (h : ∃ n, wY_fillP_95 post (nI W) (nI C) (nI w) (nI m) cp hq n 0 (fun zi => nI (K zi)) oa ob st ca cb cw (fun zi => qa_fe (pt zi)) hh rr col bas pm (qb_r pp 0 32 (qa_c1 A B m m)) zz rm) : ∀ n i, i ≤ m → m - i < n → wY_fillP_23 post (nI W) (nI C) (nI w) (nI m) cp hq n (nI i) (fun zi => nI (K zi)) oa ob st ca cb cw (fun zi => qa_fe (pt zi)) hh rr col bas pm (qb_r pp 0 32 (qa_c1 A B m i)) zz rm := by
  intro n
  induction n with
  | zero => intros; omega
  | succ n ih =>
    intro i hi hn
    by_cases h1 : i < m
    · refine br_f (nI_ge h1 (by omega)) ⟨m + 1, ?_⟩
      have := qy_P33 (post := post) (J := wY_fillP_23 post (nI W) (nI C) (nI w) (nI m) cp hq n) (W := W) (C := C) (w := w) (m := m) (cp := cp) (hq := hq) (K := K) (oa := oa) (ob := ob) (st := st) (ca := ca) (cb := cb) (cw := cw) (hh := hh) (rr := rr) (col := col) (bas := bas) (pm := pm) (pp := pp) (zz := zz) (rm := rm) (pt := pt) hm h1 (qa_c1 A B m i) A B (hA i h1) hB (ih (i + 1) (by omega) (by omega)) (m + 1) 0 (by omega) (by omega)
      rw [show (fun t => qa_c1 A B m i t + qa_c2 A B i 0 t) = qa_c1 A B m i from funext fun t => Int.add_zero _] at this
      exact this
    · obtain rfl : i = m := by omega
      exact br_t (nI_le (Nat.le_refl _) (by omega)) h
theorem qy_P2 {post : SY → Prop} (h : ∃ n, wY_fillP_23 post (nI W) (nI C) (nI w) (nI m) cp hq n 0 (fun zi => nI (K zi)) oa ob st ca cb cw (fun zi => qa_fe (pt zi)) hh rr col bas pm (qb_r pp 0 32 (fun _ => 0)) zz rm) : ∀ n k, k ≤ 32 → 32 - k < n → wY_fillP_2 post (nI W) (nI C) (nI w) (nI m) cp hq n (nI k) (fun zi => nI (K zi)) oa ob st ca cb cw (fun zi => qa_fe (pt zi)) hh rr col bas pm (qb_r pp 0 k (fun _ => 0)) zz rm := by
  intro n
  induction n with
  | zero => intros; omega
  | succ n ih =>
    intro k hk hn
    by_cases h1 : k < 32
    · refine br_f (by rw [qn_32]; exact nI_ge h1 (by omega)) ⟨vp_in_nI h1 (by omega), ?_⟩
      rw [nI_clamp (by omega), qa_0]
      exact nm_r (qb_s0 pp (fun _ => 0) k) (nm_r (nI_1 k) (ih (k + 1) (by omega) (by omega)))
    · obtain rfl : k = 32 := by omega
      exact br_t (by decide) h
theorem qy_P {post : SY → Prop} (hm : m ≤ 16) (hA : ∀ k, k < m → pm k = qa_fe (qa_pz M x pt w m 0 k)) (hB : ∀ k, k < m → pm (16 + k) = qa_fe (qa_pz M x pt w m 1 k)) (hC : ∀ k, k < m → pm (32 + k) = qa_fe (qa_pz M x pt w m 2 k)) (h : ∀ p : Nat → Int32, (∀ k, k < 32 → p k = qa_fe (qa_pp M x pt w m k)) → post ((nI W), (nI C), (nI w), (nI m), cp, hq, (fun zi => nI (K zi)), oa, ob, st, ca, cb, cw, (fun zi => qa_fe (pt zi)), hh, rr, col, bas, pm, p, zz, rm)) : wpY_fillP post ((nI W), (nI C), (nI w), (nI m), cp, hq, (fun zi => nI (K zi)), oa, ob, st, ca, cb, cw, (fun zi => qa_fe (pt zi)), hh, rr, col, bas, pm, pp, zz, rm) := by
  have h95 := qy_P95 (post := post) (W := W) (C := C) (w := w) (m := m) (cp := cp) (hq := hq) (K := K) (oa := oa) (ob := ob) (st := st) (ca := ca) (cb := cb) (cw := cw) (hh := hh) (rr := rr) (col := col) (bas := bas) (pm := pm) (pp := pp) (zz := zz) (rm := rm) (pt := pt) hm (qa_c1 (qa_pz M x pt w m 0) (qa_pz M x pt w m 1) m m) (qa_pz M x pt w m 2) hC (h _ (fun k hk => by
    rw [qb_in0 hk]
    unfold qa_pp
    by_cases q : k < m
    · rw [qa_mix_lt q, if_pos q]
    · rw [qa_mix_ge (by omega), if_neg q, Int.sub_zero])) (m + 1) 0 (by omega) (by omega)
  rw [qa_mix_0, nI_0] at h95
  have h23 := qy_P23 (post := post) (W := W) (C := C) (w := w) (m := m) (cp := cp) (hq := hq) (K := K) (oa := oa) (ob := ob) (st := st) (ca := ca) (cb := cb) (cw := cw) (hh := hh) (rr := rr) (col := col) (bas := bas) (pm := pm) (pp := pp) (zz := zz) (rm := rm) (pt := pt) hm _ _ hA hB ⟨m + 1, h95⟩ (m + 1) 0 (by omega) (by omega)
  rw [nI_0] at h23
  have := qy_P2 (post := post) (W := W) (C := C) (w := w) (m := m) (cp := cp) (hq := hq) (K := K) (oa := oa) (ob := ob) (st := st) (ca := ca) (cb := cb) (cw := cw) (hh := hh) (rr := rr) (col := col) (bas := bas) (pm := pm) (pp := pp) (zz := zz) (rm := rm) (pt := pt) ⟨m + 1, h23⟩ 33 0 (by omega) (by omega)
  rw [qb_0] at this
  exact ⟨33, this⟩
theorem qy_Z42 {post : SY → Prop} {J : Int32 → (Nat → Int32) → (Nat → Int32) → (Nat → Int32) → (Nat → Int32) → (Nat → Int32) → (Nat → Int32) → (Nat → Int32) → (Nat → Int32) → (Nat → Int32) → (Nat → Int32) → (Nat → Int32) → (Nat → Int32) → (Nat → Int32) → (Nat → Int32) → (Nat → Int32) → (Nat → Int32) → Prop} {i : Nat} (hi : i < 16) (z : Nat → Int) (h : J (nI (i + 1)) (fun zi => nI (K zi)) oa ob st ca cb cw (fun zi => qa_fe (pt zi)) hh rr col bas pm pp (qb_r zz 0 17 (qa_lin (pt i) z)) rm) : ∀ c n, c ≤ 17 → c < n → wY_fillZ_42 post J (nI i) (nI W) (nI C) (nI w) (nI m) cp hq n (qx_d c) (fun zi => nI (K zi)) oa ob st ca cb cw (fun zi => qa_fe (pt zi)) hh rr col bas pm pp (qb_r zz 0 17 (qa_mix c z (qa_lin (pt i) z))) rm := by
  intro c
  induction c with
  | zero =>
    intro n _ hn
    obtain ⟨n, rfl⟩ : ∃ k, n = k + 1 := ⟨n - 1, by omega⟩
    refine br_t qx_d0 (nm_r (nI_1 i) ?_)
    rw [qa_mix_0]
    exact h
  | succ c ih =>
    intro n hc hn
    obtain ⟨n, rfl⟩ : ∃ k, n = k + 1 := ⟨n - 1, by omega⟩
    rw [qx_ds]
    refine br_f (nI_pos (by omega)) ?_
    have e1 : qb_r zz 0 17 (qa_mix (c + 1) z (qa_lin (pt i) z)) c = qa_fe (z c) := by rw [qb_in0 (by omega), qa_mix_lt (by omega)]
    have e3 := qb_u0 (a := zz) (g := qa_mix (c + 1) z (qa_lin (pt i) z)) (m := 17) (k := c) (by omega) (qa_lin (pt i) z c)
    rw [qa_mix_d] at e3
    have i2 := ih n (by omega) (by omega)
    by_cases h0 : c = 0
    · subst h0
      refine br_t (by decide) ?_
      unfold wY_fillZ_62
      refine ⟨vp_in_nI (by omega) (by omega), vp_in_nI (by omega) (by omega), ?_⟩
      rw [nI_clamp (by omega), nI_clamp (by omega), e1, qa_0, qy_sc, ← qa_lin0]
      exact ⟨vp_in_nI (by omega) (by omega), nm_r e3 (nm_r (qx_dm 0) i2)⟩
    · obtain ⟨c, rfl⟩ : ∃ q, c = q + 1 := ⟨c - 1, by omega⟩
      have e0 : nI (c + 1) - 1 = nI c := nI_pred c
      have e2 : qb_r zz 0 17 (qa_mix (c + 1 + 1) z (qa_lin (pt i) z)) c = qa_fe (z c) := by rw [qb_in0 (by omega), qa_mix_lt (by omega)]
      refine br_f (nI_nle (by omega) (by omega)) ?_
      rw [e0, nI_clamp (by omega), e2]
      unfold wY_fillZ_62
      refine ⟨vp_in_nI (by omega) (by omega), vp_in_nI (by omega) (by omega), vp_in_nI (by omega) (by omega), ?_⟩
      rw [nI_clamp (by omega), nI_clamp (by omega), e1, qy_sc, ← qa_linS]
      exact ⟨vp_in_nI (by omega) (by omega), nm_r e3 (nm_r (qx_dm (c + 1)) i2)⟩
theorem qy_Z30 {post : SY → Prop} (hm : m ≤ 16) (h : post ((nI W), (nI C), (nI w), (nI m), cp, hq, (fun zi => nI (K zi)), oa, ob, st, ca, cb, cw, (fun zi => qa_fe (pt zi)), hh, rr, col, bas, pm, pp, (qb_r zz 0 17 (qa_zp pt m)), rm)) : ∀ n i, i ≤ m → m - i < n → wY_fillZ_30 post (nI W) (nI C) (nI w) (nI m) cp hq n (nI i) (fun zi => nI (K zi)) oa ob st ca cb cw (fun zi => qa_fe (pt zi)) hh rr col bas pm pp (qb_r zz 0 17 (qa_zp pt i)) rm := by
  intro n
  induction n with
  | zero => intros; omega
  | succ n ih =>
    intro i hi hn
    by_cases h1 : i < m
    · refine br_f (nI_ge h1 (by omega)) (nm_r (nI_1 i) ⟨19, ?_⟩)
      have := qy_Z42 (post := post) (J := wY_fillZ_30 post (nI W) (nI C) (nI w) (nI m) cp hq n) (W := W) (C := C) (w := w) (m := m) (cp := cp) (hq := hq) (K := K) (oa := oa) (ob := ob) (st := st) (ca := ca) (cb := cb) (cw := cw) (hh := hh) (rr := rr) (col := col) (bas := bas) (pm := pm) (pp := pp) (zz := zz) (rm := rm) (pt := pt) (show i < 16 by omega) (qa_zp pt i) (ih (i + 1) (by omega) (by omega)) (i + 2) 19 (by omega) (by omega)
      rw [qx_ds, qb_c (g' := qa_zp pt i) (fun k hk => ?_)] at this
      · exact this
      · by_cases q : k < i + 2
        · rw [qa_mix_lt q]
        · rw [qa_mix_ge (by omega), qa_zp_deg pt i k (by omega), qa_lin_deg (qa_zp_deg pt i) k (by omega)]
    · obtain rfl : i = m := by omega
      exact br_t (nI_le (Nat.le_refl _) (by omega)) h
theorem qy_Z2 {post : SY → Prop} (h : ∃ n, wY_fillZ_30 post (nI W) (nI C) (nI w) (nI m) cp hq n 0 (fun zi => nI (K zi)) oa ob st ca cb cw (fun zi => qa_fe (pt zi)) hh rr col bas pm pp (qb_r zz 0 17 qa_one) rm) : ∀ n k, k ≤ 17 → 17 - k < n → wY_fillZ_2 post (nI W) (nI C) (nI w) (nI m) cp hq n (nI k) (fun zi => nI (K zi)) oa ob st ca cb cw (fun zi => qa_fe (pt zi)) hh rr col bas pm pp (qb_r zz 0 k (fun _ => 0)) rm := by
  have l : (17 : Int32) = nI 17 := by decide
  intro n
  induction n with
  | zero => intros; omega
  | succ n ih =>
    intro k hk hn
    by_cases h1 : k < 17
    · refine br_f (by rw [l]; exact nI_ge h1 (by omega)) ⟨vp_in_nI h1 (by omega), ?_⟩
      rw [nI_clamp (by omega), qa_0]
      exact nm_r (qb_s0 zz (fun _ => 0) k) (nm_r (nI_1 k) (ih (k + 1) (by omega) (by omega)))
    · obtain rfl : k = 17 := by omega
      refine br_t (by decide) (nm_r ?_ h)
      have := qb_u0 (a := zz) (g := fun _ => 0) (m := 17) (k := 0) (by omega) 1
      rw [← qa_1] at this
      rw [this]
      refine qb_c fun i hi => ?_
      unfold qa_uz qa_one
      rfl
theorem qy_Z {post : SY → Prop} (hm : m ≤ 16) (h : ∀ z : Nat → Int32, (∀ k, k < 17 → z k = qa_fe (qa_zp pt m k)) → post ((nI W), (nI C), (nI w), (nI m), cp, hq, (fun zi => nI (K zi)), oa, ob, st, ca, cb, cw, (fun zi => qa_fe (pt zi)), hh, rr, col, bas, pm, pp, z, rm)) : wpY_fillZ post ((nI W), (nI C), (nI w), (nI m), cp, hq, (fun zi => nI (K zi)), oa, ob, st, ca, cb, cw, (fun zi => qa_fe (pt zi)), hh, rr, col, bas, pm, pp, zz, rm) := by
  have h30 := qy_Z30 (W := W) (C := C) (w := w) (m := m) (cp := cp) (hq := hq) (K := K) (oa := oa) (ob := ob) (st := st) (ca := ca) (cb := cb) (cw := cw) (hh := hh) (rr := rr) (col := col) (bas := bas) (pm := pm) (pp := pp) (zz := zz) (rm := rm) (pt := pt) hm (h _ (fun k hk => qb_in0 hk)) (m + 1) 0 (by omega) (by omega)
  rw [nI_0] at h30
  have := qy_Z2 (post := post) (W := W) (C := C) (w := w) (m := m) (cp := cp) (hq := hq) (K := K) (oa := oa) (ob := ob) (st := st) (ca := ca) (cb := cb) (cw := cw) (hh := hh) (rr := rr) (col := col) (bas := bas) (pm := pm) (pp := pp) (zz := zz) (rm := rm) (pt := pt) ⟨m + 1, h30⟩ 18 0 (by omega) (by omega)
  rw [qb_0] at this
  exact ⟨18, this⟩
end QY
end
section
section QY
variable {W C w m : Nat} {cp hq : Int32} {K : Nat → Nat} {L R oa ob st ca cb cw hh rr col bas pm pp zz rm : Nat → Int32} {x F M pt P : Nat → Int}
theorem qa_seven {t : Nat} (h : t < 7) : t = 0 ∨ t = 1 ∨ t = 2 ∨ t = 3 ∨ t = 4 ∨ t = 5 ∨ t = 6 := by omega
theorem qy_ff {post : SY → Prop} (hW : qi_w w K L R oa ob F) (hX : qi_x w K x st) (hC : qi_c w m F M ca cb cw) (hw : w ≤ 32) (hm : m ≤ 16) {t : Nat} (ht : t < 7) (h : ∀ c b p q z : Nat → Int32, (t < 3 → ∀ k, k < m → p (t * 16 + k) = qa_fe (qa_pz M x pt w m t k)) → (t = 3 → ∀ k, k < 17 → z k = qa_fe (qa_zp pt m k)) → (t = 4 → ∀ k, k < 32 → q k = qa_fe (qa_pp M x pt w m k)) → post ((nI W), (nI C), (nI w), (nI m), cp, hq, (fun zi => nI (K zi)), oa, ob, st, ca, cb, cw, (fun zi => qa_fe (pt zi)), hh, rr, c, b, p, q, z, rm)) : wpY_fillFor post ((nI W), (nI C), (nI w), (nI m), cp, hq, (fun zi => nI (K zi)), oa, ob, st, ca, cb, cw, (fun zi => qa_fe (pt zi)), hh, rr, col, bas, pm, pp, zz, rm) (nI t) := by
  unfold wpY_fillFor
  rcases qa_seven ht with rfl | rfl | rfl | rfl | rfl | rfl | rfl
  · exact br_f (by decide) (qy_fp (t := 0) hW hX hC hw hm (by omega) fun c b p h1 _ => h c b p pp zz (fun _ => h1) (fun e => absurd e (by omega)) (fun e => absurd e (by omega)))
  · exact br_f (by decide) (qy_fp (t := 1) hW hX hC hw hm (by omega) fun c b p h1 _ => h c b p pp zz (fun _ => h1) (fun e => absurd e (by omega)) (fun e => absurd e (by omega)))
  · exact br_f (by decide) (qy_fp (t := 2) hW hX hC hw hm (by omega) fun c b p h1 _ => h c b p pp zz (fun _ => h1) (fun e => absurd e (by omega)) (fun e => absurd e (by omega)))
  · exact br_t (by decide) (br_t (by decide) (qy_Z hm fun z hz => h col bas pm pp z (fun e => absurd e (by omega)) (fun _ => hz) (fun e => absurd e (by omega))))
  · refine br_t (by decide) (br_f (by decide) (br_t (by decide) ?_))
    refine qy_fp (t := 0) hW hX hC hw hm (by omega) fun c1 b1 p1 h1 _ => ?_
    refine qy_fp (t := 1) hW hX hC hw hm (by omega) fun c2 b2 p2 h2 o2 => ?_
    refine qy_fp (t := 2) hW hX hC hw hm (by omega) fun c3 b3 p3 h3 o3 => ?_
    refine qy_P (M := M) (x := x) hm (fun k hk => ?_) (fun k hk => ?_) (fun k hk => ?_) fun q hq => h c3 b3 p3 q zz (fun e => absurd e (by omega)) (fun e => absurd e (by omega)) (fun _ => hq)
    · have := h1 k hk
      rw [show 0 * 16 + k = k by omega] at this
      rw [o3 k (by omega), o2 k (by omega), this]
    · have := h2 k hk
      rw [show 1 * 16 + k = 16 + k by omega] at this
      rw [o3 (16 + k) (by omega), this]
    · have := h3 k hk
      rw [show 2 * 16 + k = 32 + k by omega] at this
      exact this
  · exact br_t (by decide) (br_f (by decide) (br_f (by decide) (h col bas pm pp zz (fun e => absurd e (by omega)) (fun e => absurd e (by omega)) (fun e => absurd e (by omega)))))
  · exact br_t (by decide) (br_f (by decide) (br_f (by decide) (h col bas pm pp zz (fun e => absurd e (by omega)) (fun e => absurd e (by omega)) (fun e => absurd e (by omega)))))
def qy_rd (P : Nat → Int) (t m : Nat) (p q z hh rr : Nat → Int32) : Prop := ∀ k, k < qa_len t m → (t < 3 → p (t * 16 + k) = qa_fe (P (t * 32 + k))) ∧ (t = 3 → z k = qa_fe (P (t * 32 + k))) ∧ (t = 4 → q k = qa_fe (P (t * 32 + k))) ∧ (t = 5 → hh k = qa_fe (P (t * 32 + k))) ∧ (t = 6 → rr k = qa_fe (P (t * 32 + k)))
theorem qa_len_le {t m : Nat} (ht : t < 7) (hm : m ≤ 16) : qa_len t m ≤ 32 ∧ (t = 3 → qa_len t m ≤ 17) ∧ (t ≠ 3 → t ≠ 4 → qa_len t m = m) := by
  unfold qa_len
  split
  · omega
  · split <;> omega
theorem qy_rc {post : Int32 → Prop} {t : Nat} (ht : t < 7) (hm : m ≤ 16) (hr : qy_rd P t m pm pp zz hh rr) {k : Nat} (hk : k < qa_len t m) (h : post (qa_fe (P (t * 32 + k)))) : wpY_readCoef post ((nI W), (nI C), (nI w), (nI m), cp, hq, (fun zi => nI (K zi)), oa, ob, st, ca, cb, cw, (fun zi => qa_fe (pt zi)), hh, rr, col, bas, pm, pp, zz, rm) (nI t) (nI k) := by
  have hl := qa_len_le ht hm
  obtain ⟨r1, r2, r3, r4, r5⟩ := hr k hk
  have cl : (nI k).toNatClampNeg = k := nI_clamp (by omega)
  have c2 : (nI t * 16 + nI k).toNatClampNeg = t * 16 + k := by rw [qn_m16, nI_add, nI_clamp (by omega)]
  unfold wpY_readCoef
  dsimp only
  rw [cl, c2]
  rcases qa_seven ht with rfl | rfl | rfl | rfl | rfl | rfl | rfl
  · rw [← r1 (by omega)] at h
    exact br_f (by decide) ⟨by rw [qn_m16, nI_add]; exact vp_in_nI (by omega) (by omega), h⟩
  · rw [← r1 (by omega)] at h
    exact br_f (by decide) ⟨by rw [qn_m16, nI_add]; exact vp_in_nI (by omega) (by omega), h⟩
  · rw [← r1 (by omega)] at h
    exact br_f (by decide) ⟨by rw [qn_m16, nI_add]; exact vp_in_nI (by omega) (by omega), h⟩
  · rw [← r2 rfl] at h
    exact br_t (by decide) (br_t (by decide) ⟨vp_in_nI (by omega) (by omega), h⟩)
  · rw [← r3 rfl] at h
    exact br_t (by decide) (br_f (by decide) (br_t (by decide) ⟨vp_in_nI (by omega) (by omega), h⟩))
  · rw [← r4 rfl] at h
    exact br_t (by decide) (br_f (by decide) (br_f (by decide) (br_t (by decide) ⟨vp_in_nI (by omega) (by omega), h⟩)))
  · rw [← r5 rfl] at h
    exact br_t (by decide) (br_f (by decide) (br_f (by decide) (br_f (by decide) ⟨vp_in_nI (by omega) (by omega), h⟩)))
theorem qy_len {post : Int32 → Prop} {t : Nat} (ht : t < 7) (hm : 0 < m) (hm2 : m ≤ 16) (h : post (nI (qa_len t m))) : wpY_range post ((nI W), (nI C), (nI w), (nI m), cp, hq, (fun zi => nI (K zi)), oa, ob, st, ca, cb, cw, (fun zi => qa_fe (pt zi)), hh, rr, col, bas, pm, pp, zz, rm) (nI t) := by
  have e3 : (3 : Int32) = nI 3 := by decide
  have e4 : (4 : Int32) = nI 4 := by decide
  unfold wpY_range qa_len at *
  by_cases h3 : t = 3
  · subst h3
    rw [if_pos rfl] at h
    exact br_t rfl (by rw [nI_1]; exact h)
  · rw [if_neg h3] at h
    refine br_f (by rw [e3, nI_eq (by omega) (by omega)]; exact h3) ?_
    by_cases h4 : t = 4
    · subst h4
      rw [if_pos rfl] at h
      refine br_t rfl ?_
      have : (2 : Int32) * nI m - 1 = nI (2 * m - 1) := by
        rw [show (2 : Int32) = nI 2 by decide, pk_mul, show (1 : Int32) = nI 1 by decide, pk_sub (by omega)]
      rw [this]
      exact h
    · rw [if_neg h4] at h
      exact br_f (by rw [e4, nI_eq (by omega) (by omega)]; exact h4) h
theorem qy_ho_l {post : Int32 → Prop} {t : Nat} (ht : t < 7) (hm : m ≤ 16) (hr : qy_rd P t m pm pp zz hh rr) (r : Int) (h : post (qa_fe (qa_ho (fun k => P (t * 32 + k)) r (qa_len t m) 0))) : ∀ c n, c ≤ qa_len t m → c < n → wY_horner_14 post (nI t) (qa_fe r) (nI W) (nI C) (nI w) (nI m) cp hq (fun zi => nI (K zi)) oa ob st ca cb cw (fun zi => qa_fe (pt zi)) hh rr col bas pm pp zz rm n (qa_fe (qa_ho (fun k => P (t * 32 + k)) r (qa_len t m - c) c)) (qx_d c) := by
  have hl := qa_len_le ht hm
  intro c
  induction c with
  | zero =>
    intro n _ hn
    obtain ⟨n, rfl⟩ : ∃ k, n = k + 1 := ⟨n - 1, by omega⟩
    exact br_t qx_d0 h
  | succ c ih =>
    intro n hc hn
    obtain ⟨n, rfl⟩ : ∃ k, n = k + 1 := ⟨n - 1, by omega⟩
    rw [qx_ds]
    have i2 := ih n (by omega) (by omega)
    rw [show qa_len t m - c = (qa_len t m - (c + 1)) + 1 by omega, qa_ho_s] at i2
    refine br_f (nI_pos (by omega)) ?_
    refine qy_rc ht hm hr (by omega) ?_
    rw [qy_ac']
    exact nm_r (qx_dm c) i2
theorem qy_ho {post : Int32 → Prop} {t : Nat} (ht : t < 7) (hm0 : 0 < m) (hm : m ≤ 16) (hr : qy_rd P t m pm pp zz hh rr) (r : Int) (h : post (qa_fe (qa_ho (fun k => P (t * 32 + k)) r (qa_len t m) 0))) : wpY_horner post ((nI W), (nI C), (nI w), (nI m), cp, hq, (fun zi => nI (K zi)), oa, ob, st, ca, cb, cw, (fun zi => qa_fe (pt zi)), hh, rr, col, bas, pm, pp, zz, rm) (nI t) (qa_fe r) := by
  unfold wpY_horner
  refine qy_len ht hm0 hm ?_
  refine nm_r (e' := qx_d (qa_len t m)) rfl ⟨qa_len t m + 1, ?_⟩
  have := qy_ho_l (W := W) (C := C) (w := w) (m := m) (cp := cp) (hq := hq) (K := K) (oa := oa) (ob := ob) (st := st) (ca := ca) (cb := cb) (cw := cw) (hh := hh) (rr := rr) (col := col) (bas := bas) (pm := pm) (pp := pp) (zz := zz) (rm := rm) (pt := pt) ht hm hr r h (qa_len t m) (qa_len t m + 1) (by omega) (by omega)
  rw [Nat.sub_self] at this
  exact this
theorem qa_rm_c {Z g g' : Nat → Int} {m : Nat} (hm : m ≤ 16) (hm0 : 0 < m) (h : ∀ t, t < 32 → g t = g' t) : ∀ s t, t < 32 → qa_rm Z g m s t = qa_rm Z g' m s t := by
  intro s
  induction s with
  | zero => exact h
  | succ s ih =>
    intro t ht
    rw [qa_rm, qa_rm]
    unfold qa_dst
    rw [ih t ht, ih (m - 2 - s + m) (by omega)]
theorem qy_203 {post : Int32 → SY → Prop} (hm : m ≤ 16) (f : Nat → Int) (hf : ∀ k, k < m → rm k = qa_fe (f k)) (h1 : (∀ k, k < m → qa_fe (f k) = 0) → post 1 ((nI W), (nI C), (nI w), (nI m), cp, 1, (fun zi => nI (K zi)), oa, ob, st, ca, cb, cw, (fun zi => qa_fe (pt zi)), hh, (qb_r rr 0 16 (qa_mix m f (fun _ => 0))), col, bas, pm, pp, zz, rm)) (h0 : ¬ (∀ k, k < m → qa_fe (f k) = 0) → post 0 ((nI W), (nI C), (nI w), (nI m), cp, 1, (fun zi => nI (K zi)), oa, ob, st, ca, cb, cw, (fun zi => qa_fe (pt zi)), hh, (qb_r rr 0 16 (qa_mix m f (fun _ => 0))), col, bas, pm, pp, zz, rm)) : ∀ n k (r : Int32), k ≤ m → m - k < n → ((r = 1 ∧ ∀ i, i < k → qa_fe (f i) = 0) ∨ (r = 0 ∧ ¬ (∀ i, i < m → qa_fe (f i) = 0))) → wY_divide_203 post (nI W) (nI C) (nI w) (nI m) cp hq n r (nI k) (fun zi => nI (K zi)) oa ob st ca cb cw (fun zi => qa_fe (pt zi)) hh (qb_r rr 0 16 (qa_mix k f (fun _ => 0))) col bas pm pp zz rm := by
  intro n
  induction n with
  | zero => intros; omega
  | succ n ih =>
    intro k r hk hn hr
    by_cases z : k < m
    · have e2 := qb_u0 (a := rr) (g := qa_mix k f (fun _ => 0)) (m := 16) (k := k) (by omega) (f k)
      rw [qa_mix_s f (fun _ => 0) k] at e2
      refine br_f (nI_ge z (by omega)) ⟨vp_in_nI (by omega) (by omega), vp_in_nI (by omega) (by omega), ?_⟩
      rw [nI_clamp (by omega), hf k z]
      refine nm_r e2 ⟨vp_in_nI (by omega) (by omega), ?_⟩
      by_cases q : qa_fe (f k) = 0
      · refine br_t q (nm_r (nI_1 k) (ih (k + 1) r (by omega) (by omega) ?_))
        rcases hr with ⟨e, hr⟩ | hr
        · refine Or.inl ⟨e, fun i hi => ?_⟩
          by_cases y : i = k
          · rw [y]; exact q
          · exact hr i (by omega)
        · exact Or.inr hr
      · exact br_f q (nm_r (nI_1 k) (ih (k + 1) 0 (by omega) (by omega) (Or.inr ⟨rfl, fun y => q (y k z)⟩)))
    · obtain rfl : k = m := by omega
      refine br_t (nI_le (Nat.le_refl _) (by omega)) ?_
      rcases hr with ⟨rfl, hr⟩ | ⟨rfl, hr⟩
      · exact h1 hr
      · exact h0 hr
theorem qy_137 {post : Int32 → SY → Prop} {J : Int32 → (Nat → Int32) → (Nat → Int32) → (Nat → Int32) → (Nat → Int32) → (Nat → Int32) → (Nat → Int32) → (Nat → Int32) → (Nat → Int32) → (Nat → Int32) → (Nat → Int32) → (Nat → Int32) → (Nat → Int32) → (Nat → Int32) → (Nat → Int32) → (Nat → Int32) → (Nat → Int32) → Prop} (hm : m ≤ 16) {i : Nat} (hi : i + 1 < m) (Z g : Nat → Int) (q : Int) (hZ : ∀ k, k < 17 → zz k = qa_fe (Z k)) (h : J (qx_d (i + m)) (fun zi => nI (K zi)) oa ob st ca cb cw (fun zi => qa_fe (pt zi)) hh rr col bas pm pp zz (qb_r rm 0 32 (qa_dst Z g i q (m + 1)))) : ∀ n k, k ≤ m + 1 → m + 1 - k < n → wY_divide_137 post J (nI (i + m)) (qa_fe q) (nI W) (nI C) (nI w) (nI m) cp hq n (nI k) (fun zi => nI (K zi)) oa ob st ca cb cw (fun zi => qa_fe (pt zi)) hh rr col bas pm pp zz (qb_r rm 0 32 (qa_dst Z g i q k)) := by
  intro n
  induction n with
  | zero => intros; omega
  | succ n ih =>
    intro k hk hn
    by_cases h1 : k ≤ m
    · have h2 : ¬ m < k := by omega
      have e0 : nI (i + m) - nI m = nI i := by rw [pk_sub (by omega), Nat.add_sub_cancel]
      have e1 : qb_r rm 0 32 (qa_dst Z g i q k) (i + k) = qa_fe (g (i + k)) := by rw [qb_in0 (by omega), qa_dst_at]
      have e3 := qb_u0 (a := rm) (g := qa_dst Z g i q k) (m := 32) (k := i + k) (by omega) (g (i + k) - q * Z k)
      rw [← qa_dst_s] at e3
      simp (disch := omega) only [wY_divide_137, h2, e0, e1, e3, hZ k (show k < 17 by omega), qy_sc, not_true, not_false_iff, true_implies, false_implies, true_and, and_true, forall_eq, nI_add, nI_1, nI_clamp, nI_leI, nI_ltI, nI_eq, qn_m32, qn_m16, qv_in, qx_mul, qx_add, qx_sub, qa_upd]
      exact ih (k + 1) (by omega) (by omega)
    · obtain rfl : k = m + 1 := by omega
      exact br_t (nI_lt (by omega) (by omega)) (nm_r (qx_dm (i + m)) h)
theorem qy_108 {post : Int32 → SY → Prop} (hm0 : 0 < m) (hm : m ≤ 16) (Z g : Nat → Int) (hZ : ∀ k, k < 17 → zz k = qa_fe (Z k)) (h : ∃ n, wY_divide_203 post (nI W) (nI C) (nI w) (nI m) cp hq n 1 0 (fun zi => nI (K zi)) oa ob st ca cb cw (fun zi => qa_fe (pt zi)) (qb_r hh 0 16 (qa_hh Z g m)) rr col bas pm pp zz (qb_r rm 0 32 (qa_rm Z g m (m - 1)))) : ∀ c n, c + 1 ≤ m → c < n → wY_divide_108 post (nI W) (nI C) (nI w) (nI m) cp hq n (qx_d (c + m)) (fun zi => nI (K zi)) oa ob st ca cb cw (fun zi => qa_fe (pt zi)) (qb_r hh 0 16 (qa_mix c (fun _ => 0) (qa_hh Z g m))) rr col bas pm pp zz (qb_r rm 0 32 (qa_rm Z g m (m - 1 - c))) := by
  intro c
  induction c with
  | zero =>
    intro n _ hn
    obtain ⟨n, rfl⟩ : ∃ k, n = k + 1 := ⟨n - 1, by omega⟩
    obtain ⟨m, rfl⟩ : ∃ k, m = k + 1 := ⟨m - 1, by omega⟩
    rw [Nat.zero_add, qx_ds]
    refine br_t (nI_lt (by omega) (by omega)) ?_
    rw [qa_mix_0]
    exact h
  | succ c ih =>
    intro n hc hn
    obtain ⟨n, rfl⟩ : ∃ k, n = k + 1 := ⟨n - 1, by omega⟩
    rw [show c + 1 + m = (c + m) + 1 by omega, qx_ds]
    generalize hs : m - 1 - (c + 1) = s
    have hs2 : m - 2 - s = c := by omega
    have hs3 : m - 1 - c = s + 1 := by omega
    have e4 : qa_rm Z g m s (c + m) = qa_hh Z g m c := by
      unfold qa_hh
      rw [if_pos (by omega), show m - 2 - c = s by omega]
    have e1 : qb_r rm 0 32 (qa_rm Z g m s) (c + m) = qa_fe (qa_hh Z g m c) := by rw [qb_in0 (by omega), e4]
    have e0 : nI (c + m) - nI m = nI c := by rw [pk_sub (by omega), Nat.add_sub_cancel]
    have e3 := qb_u0 (a := hh) (g := qa_mix (c + 1) (fun _ => 0) (qa_hh Z g m)) (m := 16) (k := c) (by omega) (qa_hh Z g m c)
    rw [qa_mix_d] at e3
    have i2 := ih n (by omega) (by omega)
    rw [hs3, qa_rm, hs2, e4] at i2
    refine br_f (nI_nlt (by omega) (by omega)) ⟨vp_in_nI (by omega) (by omega), ?_⟩
    rw [nI_clamp (by omega), e1, e0, nI_clamp (by omega)]
    refine nm_e ⟨vp_in_nI (by omega) (by omega), nm_r e3 ⟨m + 2, ?_⟩⟩
    have := qy_137 (post := post) (J := wY_divide_108 post (nI W) (nI C) (nI w) (nI m) cp hq n) (W := W) (C := C) (w := w) (m := m) (cp := cp) (hq := hq) (K := K) (oa := oa) (ob := ob) (st := st) (ca := ca) (cb := cb) (cw := cw) (hh := qb_r hh 0 16 (qa_mix c (fun _ => 0) (qa_hh Z g m))) (rr := rr) (col := col) (bas := bas) (pm := pm) (pp := pp) (zz := zz) (rm := rm) (pt := pt) hm (i := c) (by omega) Z (qa_rm Z g m s) (qa_hh Z g m c) hZ i2 (m + 2) 0 (by omega) (by omega)
    rw [qa_dst_0] at this
    exact this
theorem qy_73 {post : Int32 → SY → Prop} (h : ∃ n, wY_divide_108 post (nI W) (nI C) (nI w) (nI m) cp hq n (2 * nI m - 2) (fun zi => nI (K zi)) oa ob st ca cb cw (fun zi => qa_fe (pt zi)) (qb_r hh 0 16 (fun _ => 0)) (qb_r rr 0 16 (fun _ => 0)) col bas pm pp zz rm) : ∀ n k, k ≤ 16 → 16 - k < n → wY_divide_73 post (nI W) (nI C) (nI w) (nI m) cp hq n (nI k) (fun zi => nI (K zi)) oa ob st ca cb cw (fun zi => qa_fe (pt zi)) (qb_r hh 0 k (fun _ => 0)) (qb_r rr 0 k (fun _ => 0)) col bas pm pp zz rm := by
  intro n
  induction n with
  | zero => intros; omega
  | succ n ih =>
    intro k hk hn
    by_cases h1 : k < 16
    · refine br_f (by rw [qn_16]; exact nI_ge h1 (by omega)) ⟨vp_in_nI h1 (by omega), ?_⟩
      rw [nI_clamp (by omega), qa_0]
      exact nm_r (qb_s0 hh (fun _ => 0) k) ⟨vp_in_nI h1 (by omega), nm_r (qb_s0 rr (fun _ => 0) k) (nm_r (nI_1 k) (ih (k + 1) (by omega) (by omega)))⟩
    · obtain rfl : k = 16 := by omega
      exact br_t (by decide) (nm_e h)
theorem qy_41 {post : Int32 → SY → Prop} (hm0 : 0 < m) (hm : m ≤ 16) (f : Nat → Int) (hf : ∀ k, k < 32 → pp k = qa_fe (f k)) (h : ∃ n, wY_divide_73 post (nI W) (nI C) (nI w) (nI m) cp hq n 0 (fun zi => nI (K zi)) oa ob st ca cb cw (fun zi => qa_fe (pt zi)) hh rr col bas pm pp zz (qb_r rm 0 32 (qa_mix (2 * m - 1) f (fun _ => 0)))) : ∀ n k, k ≤ 2 * m - 1 → 2 * m - 1 - k < n → wY_divide_41 post (nI W) (nI C) (nI w) (nI m) cp hq n (nI k) (fun zi => nI (K zi)) oa ob st ca cb cw (fun zi => qa_fe (pt zi)) hh rr col bas pm pp zz (qb_r rm 0 32 (qa_mix k f (fun _ => 0))) := by
  have l : (2 : Int32) * nI m - 1 = nI (2 * m - 1) := by
    rw [show (2 : Int32) = nI 2 by decide, pk_mul, show (1 : Int32) = nI 1 by decide, pk_sub (by omega)]
  intro n
  induction n with
  | zero => intros; omega
  | succ n ih =>
    intro k hk hn
    by_cases h1 : k < 2 * m - 1
    · have e2 := qb_u0 (a := rm) (g := qa_mix k f (fun _ => 0)) (m := 32) (k := k) (by omega) (f k)
      rw [qa_mix_s f (fun _ => 0) k] at e2
      refine br_f (by rw [l]; exact nI_ge h1 (by omega)) ⟨vp_in_nI (by omega) (by omega), vp_in_nI (by omega) (by omega), ?_⟩
      rw [nI_clamp (by omega), hf k (by omega)]
      exact nm_r e2 (nm_r (nI_1 k) (ih (k + 1) (by omega) (by omega)))
    · obtain rfl : k = 2 * m - 1 := by omega
      exact br_t (by rw [l]; exact nI_le (Nat.le_refl _) (by omega)) h
theorem qy_20 {post : Int32 → SY → Prop} (h : ∃ n, wY_divide_41 post (nI W) (nI C) (nI w) (nI m) cp hq n 0 (fun zi => nI (K zi)) oa ob st ca cb cw (fun zi => qa_fe (pt zi)) hh rr col bas pm pp zz (qb_r rm 0 32 (fun _ => 0))) : ∀ n k, k ≤ 32 → 32 - k < n → wY_divide_20 post (nI W) (nI C) (nI w) (nI m) cp hq n (nI k) (fun zi => nI (K zi)) oa ob st ca cb cw (fun zi => qa_fe (pt zi)) hh rr col bas pm pp zz (qb_r rm 0 k (fun _ => 0)) := by
  intro n
  induction n with
  | zero => intros; omega
  | succ n ih =>
    intro k hk hn
    by_cases h1 : k < 32
    · refine br_f (by rw [qn_32]; exact nI_ge h1 (by omega)) ⟨vp_in_nI h1 (by omega), ?_⟩
      rw [nI_clamp (by omega), qa_0]
      exact nm_r (qb_s0 rm (fun _ => 0) k) (nm_r (nI_1 k) (ih (k + 1) (by omega) (by omega)))
    · obtain rfl : k = 32 := by omega
      exact br_t (by decide) h
theorem qy_dv0 {post : Int32 → SY → Prop} (hm0 : 0 < m) (hm : m ≤ 16) (Z f : Nat → Int) (hZ : ∀ k, k < 17 → zz k = qa_fe (Z k)) (hf : ∀ k, k < 32 → pp k = qa_fe (f k)) (hf0 : ∀ k, 2 * m ≤ k + 1 → f k = 0)
    (h1 : (∀ k, k < m → qa_fe (qa_rr Z f m k) = 0) → ∀ a b c : Nat → Int32, (∀ k, k < m → a k = qa_fe (qa_hh Z f m k) ∧ b k = qa_fe (qa_rr Z f m k)) → post 1 ((nI W), (nI C), (nI w), (nI m), cp, 1, (fun zi => nI (K zi)), oa, ob, st, ca, cb, cw, (fun zi => qa_fe (pt zi)), a, b, col, bas, pm, pp, zz, c))
    (h0 : ¬ (∀ k, k < m → qa_fe (qa_rr Z f m k) = 0) → ∀ a b c : Nat → Int32, (∀ k, k < m → a k = qa_fe (qa_hh Z f m k) ∧ b k = qa_fe (qa_rr Z f m k)) → post 0 ((nI W), (nI C), (nI w), (nI m), cp, 1, (fun zi => nI (K zi)), oa, ob, st, ca, cb, cw, (fun zi => qa_fe (pt zi)), a, b, col, bas, pm, pp, zz, c)) : ∃ n, wY_divide_20 post (nI W) (nI C) (nI w) (nI m) cp hq n 0 (fun zi => nI (K zi)) oa ob st ca cb cw (fun zi => qa_fe (pt zi)) hh rr col bas pm pp zz rm := by
  have ok : ∀ k, k < m → qb_r hh 0 16 (qa_hh Z f m) k = qa_fe (qa_hh Z f m k) ∧ qb_r (qb_r rr 0 16 (fun _ => 0)) 0 16 (qa_mix m (qa_rr Z f m) (fun _ => 0)) k = qa_fe (qa_rr Z f m k) := fun k hk => ⟨qb_in0 (by omega), by rw [qb_in0 (by omega), qa_mix_lt hk]⟩
  have h203 := qy_203 (post := post) (W := W) (C := C) (w := w) (m := m) (cp := cp) (hq := hq) (K := K) (oa := oa) (ob := ob) (st := st) (ca := ca) (cb := cb) (cw := cw) (hh := qb_r hh 0 16 (qa_hh Z f m)) (rr := qb_r rr 0 16 (fun _ => 0)) (col := col) (bas := bas) (pm := pm) (pp := pp) (zz := zz) (rm := qb_r (qb_r rm 0 32 (qa_mix (2 * m - 1) f (fun _ => 0))) 0 32 (qa_rm Z f m (m - 1))) (pt := pt) hm (qa_rr Z f m) (fun k hk => qb_in0 (by omega)) (fun z => h1 z _ _ _ ok) (fun z => h0 z _ _ _ ok) (m + 1) 0 1 (by omega) (by omega) (Or.inl ⟨rfl, fun i hi => by omega⟩)
  rw [qa_mix_0, qb_c (g' := fun _ => 0) (fun _ _ => rfl), nI_0] at h203
  have er : qb_r (qb_r rr 0 16 (fun _ => 0)) 0 16 (fun _ => 0) = qb_r rr 0 16 (fun _ => 0) := by
    funext i
    by_cases q : i < 16
    · rw [qb_in0 q, qb_in0 q]
    · rw [qb_out (by omega)]
  rw [er] at h203
  have h108 := qy_108 (post := post) (W := W) (C := C) (w := w) (m := m) (cp := cp) (hq := hq) (K := K) (oa := oa) (ob := ob) (st := st) (ca := ca) (cb := cb) (cw := cw) (hh := hh) (rr := qb_r rr 0 16 (fun _ => 0)) (col := col) (bas := bas) (pm := pm) (pp := pp) (zz := zz) (rm := qb_r rm 0 32 (qa_mix (2 * m - 1) f (fun _ => 0))) (pt := pt) hm0 hm Z f hZ ⟨m + 1, h203⟩ (m - 1) m (by omega) (by omega)
  have e1 : qb_r hh 0 16 (qa_mix (m - 1) (fun _ => 0) (qa_hh Z f m)) = qb_r hh 0 16 (fun _ => 0) := by
    refine qb_c fun k _ => ?_
    by_cases q : k < m - 1
    · rw [qa_mix_lt q]
    · rw [qa_mix_ge (by omega)]
      unfold qa_hh
      rw [if_neg (by omega)]
  have e2 : qb_r (qb_r rm 0 32 (qa_mix (2 * m - 1) f (fun _ => 0))) 0 32 (qa_rm Z f m (m - 1 - (m - 1))) = qb_r rm 0 32 (qa_mix (2 * m - 1) f (fun _ => 0)) := by
    rw [Nat.sub_self]
    funext i
    by_cases q : i < 32
    · rw [qb_in0 q, qb_in0 q]
      by_cases y : i < 2 * m - 1
      · rw [qa_mix_lt y]
        rfl
      · rw [qa_mix_ge (by omega)]
        exact congrArg qa_fe (hf0 i (by omega))
    · rw [qb_out (by omega)]
  have e3 : qx_d (m - 1 + m) = 2 * nI m - 2 := by
    unfold qx_d
    rw [show (2 : Int32) = nI 2 by decide, pk_mul, pk_sub (by omega), show (1 : Int32) = nI 1 by decide, pk_sub (by omega)]
    congr 1
    omega
  rw [e1, e2, e3] at h108
  have h73 := qy_73 (post := post) (W := W) (C := C) (w := w) (m := m) (cp := cp) (hq := hq) (K := K) (oa := oa) (ob := ob) (st := st) (ca := ca) (cb := cb) (cw := cw) (hh := hh) (rr := rr) (col := col) (bas := bas) (pm := pm) (pp := pp) (zz := zz) (rm := qb_r rm 0 32 (qa_mix (2 * m - 1) f (fun _ => 0))) (pt := pt) ⟨m, h108⟩ 17 0 (by omega) (by omega)
  rw [qb_0, qb_0, nI_0] at h73
  have h41 := qy_41 (post := post) (W := W) (C := C) (w := w) (m := m) (cp := cp) (hq := hq) (K := K) (oa := oa) (ob := ob) (st := st) (ca := ca) (cb := cb) (cw := cw) (hh := hh) (rr := rr) (col := col) (bas := bas) (pm := pm) (pp := pp) (zz := zz) (rm := rm) (pt := pt) hm0 hm f hf ⟨17, h73⟩ (2 * m) 0 (by omega) (by omega)
  rw [qa_mix_0, nI_0] at h41
  have := qy_20 (post := post) (W := W) (C := C) (w := w) (m := m) (cp := cp) (hq := hq) (K := K) (oa := oa) (ob := ob) (st := st) (ca := ca) (cb := cb) (cw := cw) (hh := hh) (rr := rr) (col := col) (bas := bas) (pm := pm) (pp := pp) (zz := zz) (rm := rm) (pt := pt) ⟨2 * m, h41⟩ 33 0 (by omega) (by omega)
  rw [qb_0, nI_0] at this
  exact ⟨33, this⟩
theorem qy_dv {post : Int32 → SY → Prop} (hW : qi_w w K L R oa ob F) (hX : qi_x w K x st) (hC : qi_c w m F M ca cb cw) (hw : w ≤ 32) (hm0 : 0 < m) (hm : m ≤ 16)
    (h1 : (∀ k, k < m → qa_fe (qa_rr (qa_zp pt m) (qa_pp M x pt w m) m k) = 0) → ∀ c b p q z a b' r : Nat → Int32, (∀ k, k < m → a k = qa_fe (qa_hh (qa_zp pt m) (qa_pp M x pt w m) m k) ∧ b' k = qa_fe (qa_rr (qa_zp pt m) (qa_pp M x pt w m) m k)) → post 1 ((nI W), (nI C), (nI w), (nI m), 1, 1, (fun zi => nI (K zi)), oa, ob, st, ca, cb, cw, (fun zi => qa_fe (pt zi)), a, b', c, b, p, q, z, r))
    (h0 : ¬ (∀ k, k < m → qa_fe (qa_rr (qa_zp pt m) (qa_pp M x pt w m) m k) = 0) → ∀ c b p q z a b' r : Nat → Int32, (∀ k, k < m → a k = qa_fe (qa_hh (qa_zp pt m) (qa_pp M x pt w m) m k) ∧ b' k = qa_fe (qa_rr (qa_zp pt m) (qa_pp M x pt w m) m k)) → post 0 ((nI W), (nI C), (nI w), (nI m), 1, 1, (fun zi => nI (K zi)), oa, ob, st, ca, cb, cw, (fun zi => qa_fe (pt zi)), a, b', c, b, p, q, z, r)) : wpY_divide post ((nI W), (nI C), (nI w), (nI m), 1, hq, (fun zi => nI (K zi)), oa, ob, st, ca, cb, cw, (fun zi => qa_fe (pt zi)), hh, rr, col, bas, pm, pp, zz, rm) := by
  unfold wpY_divide
  refine br_f (by decide) ?_
  refine qy_ff (t := 4) hW hX hC hw hm (by omega) fun c b p q z _ _ hq4 => ?_
  refine qy_Z hm fun z' hz => ?_
  exact qy_dv0 hm0 hm _ _ hz (hq4 rfl) (fun k hk => qa_pp_0 M x pt w m k hk hm0) (fun e a b' r hab => h1 e c b p q z' a b' r hab) (fun e a b' r hab => h0 e c b p q z' a b' r hab)
end QY
end
section
section QX
variable {W C w m : Nat} {cp hq : Int32} {K : Nat → Nat} {L R : Nat → Int32} {x F M pt B P : Nat → Int}
theorem qx_mw {post : Int32 → SX → Prop} (hw : w < 32) (kd : Nat) (h : post (nI w) ((nI W), (nI C), (nI (w + 1)), (nI m), cp, hq, (fun zi => nI (qa_un K w kd zi)), L, R, (fun zi => qa_fe (x zi)), (fun zi => qa_fe (F zi)), (fun zi => qa_fe (M zi)), (fun zi => qa_fe (pt zi)), (fun zi => qa_fe (B zi)), (fun zi => qa_fe (P zi)))) : wpX_makeWire post ((nI W), (nI C), (nI w), (nI m), cp, hq, (fun zi => nI (K zi)), L, R, (fun zi => qa_fe (x zi)), (fun zi => qa_fe (F zi)), (fun zi => qa_fe (M zi)), (fun zi => qa_fe (pt zi)), (fun zi => qa_fe (B zi)), (fun zi => qa_fe (P zi))) (nI kd) := by
  unfold wpX_makeWire
  refine ⟨vp_in_nI hw (by omega), nm_r ?_ (nm_r (nI_1 w) h)⟩
  rw [nI_clamp (by omega), qa_updN]
theorem qx_mv {post : Int32 → SX → Prop} (hw : w < 32) (kd : Nat) (h : post (nI w) ((nI W), (nI C), (nI (w + 1)), (nI m), cp, hq, (fun zi => nI (qa_un K w kd zi)), L, R, (fun zi => qa_fe (x zi)), (fun zi => qa_fe ((qa_uz F (w * 32 + w) 1) zi)), (fun zi => qa_fe (M zi)), (fun zi => qa_fe (pt zi)), (fun zi => qa_fe (B zi)), (fun zi => qa_fe (P zi)))) : wpX_makeVariable post ((nI W), (nI C), (nI w), (nI m), cp, hq, (fun zi => nI (K zi)), L, R, (fun zi => qa_fe (x zi)), (fun zi => qa_fe (F zi)), (fun zi => qa_fe (M zi)), (fun zi => qa_fe (pt zi)), (fun zi => qa_fe (B zi)), (fun zi => qa_fe (P zi))) (nI kd) := by
  unfold wpX_makeVariable
  refine qx_mw hw kd ?_
  dsimp only
  rw [qn_m32, nI_add, nI_clamp (by omega), qa_1, qa_upd]
  exact ⟨vp_in_nI (by omega) (by omega), nm_e h⟩
theorem qx_ms9 {post : Int32 → SX → Prop} {a b u : Nat} (ha : a < u) (hb : b < u) (hu : u < 32) (h : post (nI u) ((nI W), (nI C), (nI w), (nI m), cp, hq, (fun zi => nI (K zi)), L, R, (fun zi => qa_fe (x zi)), (fun zi => qa_fe ((qa_row F (u * 32) u (fun v => F (a * 32 + v) + F (b * 32 + v))) zi)), (fun zi => qa_fe (M zi)), (fun zi => qa_fe (pt zi)), (fun zi => qa_fe (B zi)), (fun zi => qa_fe (P zi)))) : ∀ n v, v ≤ u → u - v < n → wX_makeSum_9 post (nI a) (nI b) (nI u) (nI W) (nI C) (nI w) (nI m) cp hq n (nI v) (fun zi => nI (K zi)) L R (fun zi => qa_fe (x zi)) (fun zi => qa_fe ((qa_row F (u * 32) v (fun v => F (a * 32 + v) + F (b * 32 + v))) zi)) (fun zi => qa_fe (M zi)) (fun zi => qa_fe (pt zi)) (fun zi => qa_fe (B zi)) (fun zi => qa_fe (P zi)) := by
  intro n
  induction n with
  | zero => intros; omega
  | succ n ih =>
    intro v hv hn
    by_cases h1 : v < u
    · have h2 : ¬ u ≤ v := by omega
      have e1 : qa_row F (u * 32) v (fun v => F (a * 32 + v) + F (b * 32 + v)) (a * 32 + v) = F (a * 32 + v) := qa_row_out (by omega)
      have e2 : qa_row F (u * 32) v (fun v => F (a * 32 + v) + F (b * 32 + v)) (b * 32 + v) = F (b * 32 + v) := qa_row_out (by omega)
      have e3 := qa_row_s F (fun v => F (a * 32 + v) + F (b * 32 + v)) (u * 32) v
      simp (disch := omega) only [wX_makeSum_9, h2, e1, e2, e3, not_true, not_false_iff, true_implies, false_implies, true_and, and_true, forall_eq, nI_add, nI_1, nI_clamp, nI_leI, nI_ltI, nI_eq, qn_m32, qn_m16, qv_in, qx_mul, qx_add, qx_sub, qa_upd]
      exact ih (v + 1) (by omega) (by omega)
    · obtain rfl : v = u := by omega
      exact br_t (nI_le (Nat.le_refl _) (by omega)) h
theorem qx_ms {post : Int32 → SX → Prop} {a b : Nat} (ha : a < w) (hb : b < w) (hw : w < 32) (h : post (nI w) ((nI W), (nI C), (nI (w + 1)), (nI m), cp, hq, (fun zi => nI (qa_un K w 2 zi)), L, R, (fun zi => qa_fe (x zi)), (fun zi => qa_fe ((qa_row F (w * 32) w (fun v => F (a * 32 + v) + F (b * 32 + v))) zi)), (fun zi => qa_fe (M zi)), (fun zi => qa_fe (pt zi)), (fun zi => qa_fe (B zi)), (fun zi => qa_fe (P zi)))) : wpX_makeSum post ((nI W), (nI C), (nI w), (nI m), cp, hq, (fun zi => nI (K zi)), L, R, (fun zi => qa_fe (x zi)), (fun zi => qa_fe (F zi)), (fun zi => qa_fe (M zi)), (fun zi => qa_fe (pt zi)), (fun zi => qa_fe (B zi)), (fun zi => qa_fe (P zi))) (nI a) (nI b) := by
  unfold wpX_makeSum
  refine qx_mw hw 2 ⟨w + 1, ?_⟩
  have := qx_ms9 (post := post) (W := W) (C := C) (w := w + 1) (m := m) (cp := cp) (hq := hq) (K := qa_un K w 2) (L := L) (R := R) (x := x) (F := F) (M := M) (pt := pt) (B := B) (P := P) ha hb hw h (w + 1) 0 (by omega) (by omega)
  rw [qa_row_0, nI_0] at this
  exact this
theorem qx_mm9 {post : Int32 → SX → Prop} {a u : Nat} (c : Int) (ha : a < u) (hu : u < 32) (h : post (nI u) ((nI W), (nI C), (nI w), (nI m), cp, hq, (fun zi => nI (K zi)), L, R, (fun zi => qa_fe (x zi)), (fun zi => qa_fe ((qa_row F (u * 32) u (fun v => c * F (a * 32 + v))) zi)), (fun zi => qa_fe (M zi)), (fun zi => qa_fe (pt zi)), (fun zi => qa_fe (B zi)), (fun zi => qa_fe (P zi)))) : ∀ n v, v ≤ u → u - v < n → wX_makeMultiple_9 post (nI a) (qa_fe c) (nI u) (nI W) (nI C) (nI w) (nI m) cp hq n (nI v) (fun zi => nI (K zi)) L R (fun zi => qa_fe (x zi)) (fun zi => qa_fe ((qa_row F (u * 32) v (fun v => c * F (a * 32 + v))) zi)) (fun zi => qa_fe (M zi)) (fun zi => qa_fe (pt zi)) (fun zi => qa_fe (B zi)) (fun zi => qa_fe (P zi)) := by
  intro n
  induction n with
  | zero => intros; omega
  | succ n ih =>
    intro v hv hn
    by_cases h1 : v < u
    · have h2 : ¬ u ≤ v := by omega
      have e1 : qa_row F (u * 32) v (fun v => c * F (a * 32 + v)) (a * 32 + v) = F (a * 32 + v) := qa_row_out (by omega)
      have e3 := qa_row_s F (fun v => c * F (a * 32 + v)) (u * 32) v
      simp (disch := omega) only [wX_makeMultiple_9, h2, e1, e3, not_true, not_false_iff, true_implies, false_implies, true_and, and_true, forall_eq, nI_add, nI_1, nI_clamp, nI_leI, nI_ltI, nI_eq, qn_m32, qn_m16, qv_in, qx_mul, qx_add, qx_sub, qa_upd]
      exact ih (v + 1) (by omega) (by omega)
    · obtain rfl : v = u := by omega
      exact br_t (nI_le (Nat.le_refl _) (by omega)) h
theorem qx_mm {post : Int32 → SX → Prop} {a : Nat} (c : Int) (ha : a < w) (hw : w < 32) (h : post (nI w) ((nI W), (nI C), (nI (w + 1)), (nI m), cp, hq, (fun zi => nI (qa_un K w 4 zi)), L, R, (fun zi => qa_fe (x zi)), (fun zi => qa_fe ((qa_row F (w * 32) w (fun v => c * F (a * 32 + v))) zi)), (fun zi => qa_fe (M zi)), (fun zi => qa_fe (pt zi)), (fun zi => qa_fe (B zi)), (fun zi => qa_fe (P zi)))) : wpX_makeMultiple post ((nI W), (nI C), (nI w), (nI m), cp, hq, (fun zi => nI (K zi)), L, R, (fun zi => qa_fe (x zi)), (fun zi => qa_fe (F zi)), (fun zi => qa_fe (M zi)), (fun zi => qa_fe (pt zi)), (fun zi => qa_fe (B zi)), (fun zi => qa_fe (P zi))) (nI a) (qa_fe c) := by
  unfold wpX_makeMultiple
  refine qx_mw hw 4 ⟨w + 1, ?_⟩
  have := qx_mm9 (post := post) (W := W) (C := C) (w := w + 1) (m := m) (cp := cp) (hq := hq) (K := qa_un K w 4) (L := L) (R := R) (x := x) (F := F) (M := M) (pt := pt) (B := B) (P := P) c ha hw h (w + 1) 0 (by omega) (by omega)
  rw [qa_row_0, nI_0] at this
  exact this
def qx_pM (M F : Nat → Int) (m u a b v : Nat) : Nat → Int := qa_row (qa_row M (qa_mi 0 m 0) v (fun v => F (a * 32 + v))) (qa_mi 1 m 0) v (fun v => F (b * 32 + v))
theorem qx_mp53 {post : Int32 → SX → Prop} {a b u : Nat} (ha : a < u) (hb : b < u) (hu : u < 32) (hm : m < 16) (h : post (nI u) ((nI W), (nI C), (nI w), (nI (m + 1)), cp, hq, (fun zi => nI (K zi)), L, R, (fun zi => qa_fe (x zi)), (fun zi => qa_fe (F zi)), (fun zi => qa_fe ((qa_uz (qx_pM M F m u a b u) (qa_mi 2 m u) 1) zi)), (fun zi => qa_fe (pt zi)), (fun zi => qa_fe (B zi)), (fun zi => qa_fe (P zi)))) : ∀ n v, v ≤ u → u - v < n → wX_makeProduct_53 post (nI a) (nI b) (nI u) (nI (qa_mi 0 m 0)) (nI (qa_mi 1 m 0)) (nI (qa_mi 2 m 0)) (nI W) (nI C) (nI w) (nI m) cp hq n (nI v) (fun zi => nI (K zi)) L R (fun zi => qa_fe (x zi)) (fun zi => qa_fe (F zi)) (fun zi => qa_fe ((qx_pM M F m u a b v) zi)) (fun zi => qa_fe (pt zi)) (fun zi => qa_fe (B zi)) (fun zi => qa_fe (P zi)) := by
  have m0 : ∀ i, nI (qa_mi 0 m 0) + nI i = nI ((0 * 16 + m) * 32 + i) := fun i => nI_add _ _
  have m1 : ∀ i, nI (qa_mi 1 m 0) + nI i = nI ((1 * 16 + m) * 32 + i) := fun i => nI_add _ _
  have m2 : ∀ i, nI (qa_mi 2 m 0) + nI i = nI ((2 * 16 + m) * 32 + i) := fun i => nI_add _ _
  intro n
  induction n with
  | zero => intros; omega
  | succ n ih =>
    intro v hv hn
    by_cases h1 : v < u
    · refine br_f (nI_ge h1 (by omega)) ?_
      rw [m0, m1, qn_m32, qn_m32, nI_add, nI_add, nI_clamp (by omega), nI_clamp (by omega), nI_clamp (by omega), nI_clamp (by omega)]
      refine ⟨vp_in_nI (by omega) (by omega), vp_in_nI (by omega) (by omega), nm_r (qa_upd _ _ _) ⟨vp_in_nI (by omega) (by omega), vp_in_nI (by omega) (by omega), nm_r ((qa_upd _ _ _).trans ?_) (nm_r (nI_1 v) (ih (v + 1) (by omega) (by omega)))⟩⟩
      congr 1
      funext zi
      congr 1
      have e := qx_row_uo (P := qa_row M (qa_mi 0 m 0) v (fun v => F (a * 32 + v))) (g := fun v => F (b * 32 + v)) (b := qa_mi 1 m 0) (n := v) (k := (0 * 16 + m) * 32 + v) (F (a * 32 + v)) (by unfold qa_mi; omega)
      have e2 := qa_row_s M (fun v => F (a * 32 + v)) (qa_mi 0 m 0) v
      have e3 := qa_row_s (qa_row M (qa_mi 0 m 0) (v + 1) (fun v => F (a * 32 + v))) (fun v => F (b * 32 + v)) (qa_mi 1 m 0) v
      unfold qx_pM
      rw [e]
      rw [show (0 * 16 + m) * 32 + v = qa_mi 0 m 0 + v from rfl, show (1 * 16 + m) * 32 + v = qa_mi 1 m 0 + v from rfl, e2, e3]
    · obtain rfl : v = u := by omega
      refine br_t (nI_le (Nat.le_refl _) (by omega)) ?_
      rw [m2, nI_clamp (by omega), qa_1]
      exact ⟨vp_in_nI (by omega) (by omega), nm_r (qa_upd _ _ _) (nm_r (nI_1 m) h)⟩
theorem qx_mp {post : Int32 → SX → Prop} {a b : Nat} (ha : a < w) (hb : b < w) (hw : w < 32) (hm : m < 16) (h : post (nI w) ((nI W), (nI C), (nI (w + 1)), (nI (m + 1)), cp, hq, (fun zi => nI (qa_un K w 3 zi)), (upd L w (nI a)), (upd R w (nI b)), (fun zi => qa_fe (x zi)), (fun zi => qa_fe ((qa_uz F (w * 32 + w) 1) zi)), (fun zi => qa_fe ((qa_uz (qx_pM M (qa_uz F (w * 32 + w) 1) m w a b w) (qa_mi 2 m w) 1) zi)), (fun zi => qa_fe (pt zi)), (fun zi => qa_fe (B zi)), (fun zi => qa_fe (P zi)))) : wpX_makeProduct post ((nI W), (nI C), (nI w), (nI m), cp, hq, (fun zi => nI (K zi)), L, R, (fun zi => qa_fe (x zi)), (fun zi => qa_fe (F zi)), (fun zi => qa_fe (M zi)), (fun zi => qa_fe (pt zi)), (fun zi => qa_fe (B zi)), (fun zi => qa_fe (P zi))) (nI a) (nI b) := by
  unfold wpX_makeProduct
  refine qx_mv hw 3 ⟨vp_in_nI hw (by omega), ?_⟩
  rw [nI_clamp (by omega)]
  refine nm_e ⟨vp_in_nI hw (by omega), nm_e ?_⟩
  have r0 : ((0 : Int32) * 16 + nI m) * 32 = nI (qa_mi 0 m 0) := by
    rw [show (0 : Int32) = nI 0 by decide, qn_m16, nI_add, qn_m32]; rfl
  have r1 : ((1 : Int32) * 16 + nI m) * 32 = nI (qa_mi 1 m 0) := by
    rw [show (1 : Int32) = nI 1 by decide, qn_m16, nI_add, qn_m32]; rfl
  have r2 : ((2 : Int32) * 16 + nI m) * 32 = nI (qa_mi 2 m 0) := by
    rw [show (2 : Int32) = nI 2 by decide, qn_m16, nI_add, qn_m32]; rfl
  unfold wpX_matrixRow
  rw [r0, r1, r2]
  refine ⟨w + 1, ?_⟩
  have := qx_mp53 (post := post) (W := W) (C := C) (w := w + 1) (m := m) (cp := cp) (hq := hq) (K := qa_un K w 3) (L := upd L w (nI a)) (R := upd R w (nI b)) (x := x) (F := qa_uz F (w * 32 + w) 1) (M := M) (pt := pt) (B := B) (P := P) ha hb hw hm h (w + 1) 0 (by omega) (by omega)
  unfold qx_pM at this
  rw [qa_row_0, qa_row_0, nI_0] at this
  exact this
theorem qx_ae58 {post : Int32 → SX → Prop} {a b : Nat} (ha : a < w) (hb : b < w) (hw : w ≤ 32) (hm : m < 16) (h : post (nI m) ((nI W), (nI C), (nI w), (nI (m + 1)), cp, hq, (fun zi => nI (K zi)), L, R, (fun zi => qa_fe (x zi)), (fun zi => qa_fe (F zi)), (fun zi => qa_fe ((qa_uz (qa_row M (qa_mi 0 m 0) w (fun v => F (a * 32 + v) - F (b * 32 + v))) (qa_mi 1 m 0) 1) zi)), (fun zi => qa_fe (pt zi)), (fun zi => qa_fe (B zi)), (fun zi => qa_fe (P zi)))) : ∀ n v, v ≤ w → w - v < n → wX_assertEqual_58 post (nI a) (nI b) (nI m) (nI (qa_mi 0 m 0)) (nI (qa_mi 1 m 0)) (nI W) (nI C) (nI w) (nI m) cp hq n (nI v) (fun zi => nI (K zi)) L R (fun zi => qa_fe (x zi)) (fun zi => qa_fe (F zi)) (fun zi => qa_fe ((qa_row M (qa_mi 0 m 0) v (fun v => F (a * 32 + v) - F (b * 32 + v))) zi)) (fun zi => qa_fe (pt zi)) (fun zi => qa_fe (B zi)) (fun zi => qa_fe (P zi)) := by
  have m0 : ∀ i, nI (qa_mi 0 m 0) + nI i = nI ((0 * 16 + m) * 32 + i) := fun i => nI_add _ _
  intro n
  induction n with
  | zero => intros; omega
  | succ n ih =>
    intro v hv hn
    by_cases h1 : v < w
    · refine br_f (nI_ge h1 (by omega)) ?_
      rw [m0, qn_m32, qn_m32, nI_add, nI_add, nI_clamp (by omega), nI_clamp (by omega), nI_clamp (by omega)]
      refine ⟨vp_in_nI (by omega) (by omega), vp_in_nI (by omega) (by omega), ?_⟩
      rw [qx_sub]
      refine ⟨vp_in_nI (by omega) (by omega), nm_r ((qa_upd _ _ _).trans ?_) (nm_r (nI_1 v) (ih (v + 1) (by omega) (by omega)))⟩
      rw [← qa_row_s M (fun v => F (a * 32 + v) - F (b * 32 + v)) (qa_mi 0 m 0) v]
      rfl
    · obtain rfl : v = w := by omega
      have hr : qa_mi 1 m 0 < 1536 := by unfold qa_mi; omega
      refine br_t (nI_le (Nat.le_refl _) (by omega)) ⟨vp_in_nI hr (by omega), ?_⟩
      rw [nI_clamp (by omega), qa_1]
      exact nm_r (qa_upd _ _ _) (nm_r (nI_1 m) h)
theorem qx_ae {post : Int32 → SX → Prop} {a b : Nat} (ha : a < w) (hb : b < w) (hw : w ≤ 32) (hm : m < 16) (h : post (nI m) ((nI W), (nI C), (nI w), (nI (m + 1)), cp, hq, (fun zi => nI (K zi)), L, R, (fun zi => qa_fe (x zi)), (fun zi => qa_fe (F zi)), (fun zi => qa_fe ((qa_uz (qa_row M (qa_mi 0 m 0) w (fun v => F (a * 32 + v) - F (b * 32 + v))) (qa_mi 1 m 0) 1) zi)), (fun zi => qa_fe (pt zi)), (fun zi => qa_fe (B zi)), (fun zi => qa_fe (P zi)))) : wpX_matrixRow (fun r_37 => (wpX_matrixRow (fun r_38 => (∃ n58 : Nat, wX_assertEqual_58 post (nI a) (nI b) (nI m) r_37 r_38 (nI W) (nI C) (nI w) (nI m) cp hq n58 0 (fun zi => nI (K zi)) L R (fun zi => qa_fe (x zi)) (fun zi => qa_fe (F zi)) (fun zi => qa_fe (M zi)) (fun zi => qa_fe (pt zi)) (fun zi => qa_fe (B zi)) (fun zi => qa_fe (P zi)))) 1 (nI m))) 0 (nI m) := by
  have r0 : ((0 : Int32) * 16 + nI m) * 32 = nI (qa_mi 0 m 0) := by
    rw [show (0 : Int32) = nI 0 by decide, qn_m16, nI_add, qn_m32]; rfl
  have r1 : ((1 : Int32) * 16 + nI m) * 32 = nI (qa_mi 1 m 0) := by
    rw [show (1 : Int32) = nI 1 by decide, qn_m16, nI_add, qn_m32]; rfl
  unfold wpX_matrixRow
  rw [r0, r1]
  refine ⟨w + 1, ?_⟩
  have := qx_ae58 (post := post) (W := W) (C := C) (w := w) (m := m) (cp := cp) (hq := hq) (K := K) (L := L) (R := R) (x := x) (F := F) (M := M) (pt := pt) (B := B) (P := P) ha hb hw hm h (w + 1) 0 (by omega) (by omega)
  rw [qa_row_0, nI_0] at this
  exact this
def qa_ds (pt : Nat → Int) (C j : Nat) (z : Int) : Prop := ∀ k, k < C → k ≠ j → qa_fe (pt k) ≠ qa_fe z
theorem qx_sp29 {post : Int32 → SX → Prop} (hC : C ≤ 16) {j : Nat} (hj : j < C) (z : Int) (h1 : qa_ds pt C j z → post 1 ((nI W), (nI C), (nI w), (nI m), cp, hq, (fun zi => nI (K zi)), L, R, (fun zi => qa_fe (x zi)), (fun zi => qa_fe (F zi)), (fun zi => qa_fe (M zi)), (fun zi => qa_fe ((qa_uz pt j z) zi)), (fun zi => qa_fe (B zi)), (fun zi => qa_fe (P zi)))) (h0 : ¬ qa_ds pt C j z → post 0 ((nI W), (nI C), (nI w), (nI m), cp, hq, (fun zi => nI (K zi)), L, R, (fun zi => qa_fe (x zi)), (fun zi => qa_fe (F zi)), (fun zi => qa_fe (M zi)), (fun zi => qa_fe (pt zi)), (fun zi => qa_fe (B zi)), (fun zi => qa_fe (P zi)))) : ∀ n k, k ≤ C → C - k < n → (∀ i, i < k → i ≠ j → qa_fe (pt i) ≠ qa_fe z) → wX_setPoint_29 post (nI j) (qa_fe z) (nI W) (nI C) (nI w) (nI m) cp hq (fun zi => nI (K zi)) L R (fun zi => qa_fe (x zi)) (fun zi => qa_fe (F zi)) (fun zi => qa_fe (M zi)) (fun zi => qa_fe (pt zi)) (fun zi => qa_fe (B zi)) (fun zi => qa_fe (P zi)) n (nI k) := by
  intro n
  induction n with
  | zero => intros; omega
  | succ n ih =>
    intro k hk hn hI
    by_cases h2 : k < C
    · refine br_f (nI_ge h2 (by omega)) ?_
      by_cases e : k = j
      · exact br_t (by rw [e]) (nm_r (nI_1 k) (ih (k + 1) (by omega) (by omega) fun i hi hn => hI i (by omega) hn))
      · refine br_f (by rw [nI_eq (by omega) (by omega)]; exact e) ⟨vp_in_nI (by omega) (by omega), ?_⟩
        rw [nI_clamp (by omega)]
        by_cases q : qa_fe (pt k) = qa_fe z
        · exact br_t q (h0 fun y => y k h2 e q)
        · refine br_f q (nm_r (nI_1 k) (ih (k + 1) (by omega) (by omega) fun i hi hn => ?_))
          by_cases y : i = k
          · rw [y]; exact q
          · exact hI i (by omega) hn
    · obtain rfl : k = C := by omega
      refine br_t (nI_le (Nat.le_refl _) (by omega)) ⟨vp_in_nI (by omega) (by omega), ?_⟩
      rw [nI_clamp (by omega)]
      exact nm_r (qa_upd _ _ _) (h1 hI)
theorem qx_wc {post : SX → Prop} {x0 : Nat → Int} (hw : w ≤ 32) (hm : m ≤ 16) (hQ : qi_q cp w m M x0 pt B P) (h : ∀ P' : Nat → Int, qi_q cp w m M x pt B P' → post ((nI W), (nI C), (nI w), (nI m), cp, 0, (fun zi => nI (K zi)), L, R, (fun zi => qa_fe (x zi)), (fun zi => qa_fe (F zi)), (fun zi => qa_fe (M zi)), (fun zi => qa_fe (pt zi)), (fun zi => qa_fe (B zi)), (fun zi => qa_fe (P' zi)))) : wpX_witnessChanged post ((nI W), (nI C), (nI w), (nI m), cp, hq, (fun zi => nI (K zi)), L, R, (fun zi => qa_fe (x zi)), (fun zi => qa_fe (F zi)), (fun zi => qa_fe (M zi)), (fun zi => qa_fe (pt zi)), (fun zi => qa_fe (B zi)), (fun zi => qa_fe (P zi))) := by
  unfold wpX_witnessChanged
  rcases hQ with ⟨rfl, z⟩ | ⟨rfl, m0, q1, q2, q3, q4, q5⟩
  · exact br_t rfl (h P (Or.inl ⟨rfl, z⟩))
  · refine br_f (by decide) ?_
    refine qx_rf hw hm q1 (fun t k ht h1 h2 => by rw [q3 t k ht h2, if_neg (by omega)]) fun P' p1 p2 p3 p4 => ?_
    exact h P' (Or.inr ⟨rfl, m0, q1, fun k hk => by rw [p1 _ (by omega) (by omega), q2 k hk], p3, p4, fun k h1 h2 => by rw [p2 _ (by omega), q5 k h1 h2]⟩)
theorem qx_iw {post : Int32 → Prop} {j : Nat} (hw : w ≤ 32) (hj : j < w) (h : post 1) : wpX_isWire post ((nI W), (nI C), (nI w), (nI m), cp, hq, (fun zi => nI (K zi)), L, R, (fun zi => qa_fe (x zi)), (fun zi => qa_fe (F zi)), (fun zi => qa_fe (M zi)), (fun zi => qa_fe (pt zi)), (fun zi => qa_fe (B zi)), (fun zi => qa_fe (P zi))) (nI j) := by
  unfold wpX_isWire
  exact br_f (nI_pos (by omega)) (br_f (nI_ge hj (by omega)) h)
theorem qx_nw1 {post : Int32 → Prop} {p : Int32} (hp : p < 0) (h : post 0) : wpX_isWire post ((nI W), (nI C), (nI w), (nI m), cp, hq, (fun zi => nI (K zi)), L, R, (fun zi => qa_fe (x zi)), (fun zi => qa_fe (F zi)), (fun zi => qa_fe (M zi)), (fun zi => qa_fe (pt zi)), (fun zi => qa_fe (B zi)), (fun zi => qa_fe (P zi))) p := by
  unfold wpX_isWire
  exact br_t hp h
theorem qm_ge {p : Int32} {n : Nat} (hn : n < 2 ^ 31) (h : nI n ≤ p) : ¬ p < 0 ∧ ¬ p < nI n :=
  ⟨Int32.not_lt.mpr (Int32.le_trans (nI_pos' hn) h), Int32.not_lt.mpr h⟩
theorem qx_nw2 {post : Int32 → Prop} {p : Int32} (hw : w ≤ 32) (hp : nI w ≤ p) (h : post 0) : wpX_isWire post ((nI W), (nI C), (nI w), (nI m), cp, hq, (fun zi => nI (K zi)), L, R, (fun zi => qa_fe (x zi)), (fun zi => qa_fe (F zi)), (fun zi => qa_fe (M zi)), (fun zi => qa_fe (pt zi)), (fun zi => qa_fe (B zi)), (fun zi => qa_fe (P zi))) p := by
  unfold wpX_isWire
  exact br_f (qm_ge (by omega) hp).1 (br_t hp h)
theorem qx_nw {post : Int32 → Prop} {p : Int32} (hw : w ≤ 32) (hp : p < 0 ∨ nI w ≤ p) (h : post 0) : wpX_isWire post ((nI W), (nI C), (nI w), (nI m), cp, hq, (fun zi => nI (K zi)), L, R, (fun zi => qa_fe (x zi)), (fun zi => qa_fe (F zi)), (fun zi => qa_fe (M zi)), (fun zi => qa_fe (pt zi)), (fun zi => qa_fe (B zi)), (fun zi => qa_fe (P zi))) p :=
  hp.elim (fun z => qx_nw1 z h) (fun z => qx_nw2 hw z h)
theorem qx_iv {post : Int32 → Prop} {j : Nat} (hw : w ≤ 32) (hj : j < w) (h5 : K j < 5) (h1 : K j ≠ 2 → K j ≠ 4 → post 1) (h0 : K j = 2 ∨ K j = 4 → post 0) : wpX_isVariable post ((nI W), (nI C), (nI w), (nI m), cp, hq, (fun zi => nI (K zi)), L, R, (fun zi => qa_fe (x zi)), (fun zi => qa_fe (F zi)), (fun zi => qa_fe (M zi)), (fun zi => qa_fe (pt zi)), (fun zi => qa_fe (B zi)), (fun zi => qa_fe (P zi))) (nI j) := by
  have l2 : (2 : Int32) = nI 2 := by decide
  have l4 : (4 : Int32) = nI 4 := by decide
  unfold wpX_isVariable
  refine qx_iw hw hj (br_f (by decide) ⟨vp_in_nI (by omega) (by omega), ?_⟩)
  rw [nI_clamp (by omega)]
  by_cases k2 : K j = 2
  · exact br_t (congrArg nI k2) (h0 (Or.inl k2))
  · refine br_f (by rw [l2, nI_eq (by omega) (by omega)]; exact k2) ⟨vp_in_nI (by omega) (by omega), ?_⟩
    by_cases k4 : K j = 4
    · exact br_t (congrArg nI k4) (h0 (Or.inr k4))
    · exact br_f (by rw [l4, nI_eq (by omega) (by omega)]; exact k4) (h1 k2 k4)
theorem qx_niv {post : Int32 → Prop} {p : Int32} (hw : w ≤ 32) (hp : p < 0 ∨ nI w ≤ p) (h : post 0) : wpX_isVariable post ((nI W), (nI C), (nI w), (nI m), cp, hq, (fun zi => nI (K zi)), L, R, (fun zi => qa_fe (x zi)), (fun zi => qa_fe (F zi)), (fun zi => qa_fe (M zi)), (fun zi => qa_fe (pt zi)), (fun zi => qa_fe (B zi)), (fun zi => qa_fe (P zi))) p := by
  unfold wpX_isVariable
  exact qx_nw hw hp (br_t rfl h)
end QX
end
section
def i_Rel (k : Nat) (u : SX) (v : SY) : Prop := ∃ (W C w m : Nat) (cp hq : Int32) (K : Nat → Nat) (L R : Nat → Int32) (x F M pt B P : Nat → Int) (oa ob st ca cb cw hh rr col bas pm pp zz rm : Nat → Int32), u = ((nI W), (nI C), (nI w), (nI m), cp, hq, (fun zi => nI (K zi)), L, R, (fun zi => qa_fe (x zi)), (fun zi => qa_fe (F zi)), (fun zi => qa_fe (M zi)), (fun zi => qa_fe (pt zi)), (fun zi => qa_fe (B zi)), (fun zi => qa_fe (P zi))) ∧ v = ((nI W), (nI C), (nI w), (nI m), cp, hq, (fun zi => nI (K zi)), oa, ob, st, ca, cb, cw, (fun zi => qa_fe (pt zi)), hh, rr, col, bas, pm, pp, zz, rm) ∧ qi_n W C w m ∧ qi_w w K L R oa ob F ∧ qi_x w K x st ∧ qi_c w m F M ca cb cw ∧ qi_q cp w m M x pt B P ∧ qi_h cp hq m P hh rr
theorem i_up {k : Nat} {u : SX} {v : SY} (h : i_Rel k u v) : i_Rel (k + 4) u v := h
section QM
variable {k W C w m : Nat} {cp hq : Int32} {K : Nat → Nat} {L R : Nat → Int32} {x F M pt B P : Nat → Int} {oa ob st ca cb cw hh rr col bas pm pp zz rm : Nat → Int32}
theorem qi_mk (hN : qi_n W C w m) (hW : qi_w w K L R oa ob F) (hX : qi_x w K x st) (hC : qi_c w m F M ca cb cw) (hQ : qi_q cp w m M x pt B P) (hH : qi_h cp hq m P hh rr) : i_Rel k ((nI W), (nI C), (nI w), (nI m), cp, hq, (fun zi => nI (K zi)), L, R, (fun zi => qa_fe (x zi)), (fun zi => qa_fe (F zi)), (fun zi => qa_fe (M zi)), (fun zi => qa_fe (pt zi)), (fun zi => qa_fe (B zi)), (fun zi => qa_fe (P zi))) ((nI W), (nI C), (nI w), (nI m), cp, hq, (fun zi => nI (K zi)), oa, ob, st, ca, cb, cw, (fun zi => qa_fe (pt zi)), hh, rr, col, bas, pm, pp, zz, rm) :=
  ⟨W, C, w, m, cp, hq, K, L, R, x, F, M, pt, B, P, oa, ob, st, ca, cb, cw, hh, rr, col, bas, pm, pp, zz, rm, rfl, rfl, hN, hW, hX, hC, hQ, hH⟩
theorem qi_cp (hQ : qi_q cp w m M x pt B P) : cp = 0 ∨ cp = 1 := hQ.elim (fun z => Or.inl z.1) (fun z => Or.inr z.1)
theorem qi_q0 {w' m' : Nat} {M' x' pt' B' : Nat → Int} (hQ : qi_q 0 w m M x pt B P) : qi_q 0 w' m' M' x' pt' B' P := hQ.elim (fun z => Or.inl z) (fun z => absurd z.1 (by decide))
theorem qi_h0 {m' : Nat} {P' : Nat → Int} {h' r' : Nat → Int32} (hH : qi_h 0 hq m P hh rr) : qi_h 0 hq m' P' h' r' := hH.elim (fun z => Or.inl z) (fun z => absurd z.2.1 (by decide))
theorem qe_x (hX : qi_x w K x st) (hw : w < 32) (h0 : 0 < w) (kd : Nat) : qi_x (w + 1) (qa_un K w kd) x (upd st w 0) := by
  obtain ⟨a, b, c⟩ := hX
  refine ⟨a, fun v h1 h2 => ?_, fun v h1 h2 => ?_⟩
  · by_cases e : v = w
    · rw [e, pk_us, c w hw (Or.inl (Nat.le_refl w)), ← qa_0]
    · rw [pk_un e]
      exact b v h1 h2
  · by_cases e : v = w
    · exact c v h1 (by omega)
    · rw [qa_unn e] at h2
      exact c v h1 (by omega)
theorem qe_var {L' R' oa' ob' : Nat → Int32} (hW : qi_w w K L R oa ob F) (hw : w < 32) (h0 : 0 < w) (kd : Nat) (h1 : ∀ i, i < w → L' i = L i) (h2 : ∀ i, i < w → R' i = R i) (h3 : ∀ i, i < w → oa' i = oa i) (h4 : ∀ i, i < w → ob' i = ob i) (hk : (kd = 3 ∧ ∃ a b, a < w ∧ b < w ∧ oa' w = nI a ∧ ob' w = nI b ∧ L' w = nI a ∧ R' w = nI b) ∨ kd = 1) : qi_w (w + 1) (qa_un K w kd) L' R' oa' ob' (qa_uz F (w * 32 + w) 1) := by
  refine qi_w_ext hw h0 (fun i hi => qa_unn (by omega)) h1 h2 h3 h4 (fun a v ha h32 hv => qa_uzn (by omega)) (fun v h1 h2 => ?_) ?_ hW
  · rw [qa_uzn (by omega)]
    exact hW.2.1 w v hw h2 (Or.inl (Nat.le_refl w))
  · refine Or.inr (Or.inr ⟨?_, fun v hv => ?_⟩)
    · rw [qa_uns]
      rcases hk with ⟨e, hk⟩ | hk
      · exact Or.inl ⟨e, hk⟩
      · exact Or.inr (Or.inl hk)
    · by_cases e : w = v
      · subst e
        rw [qa_uzs, if_pos rfl]
      · rw [qa_uzn (by omega), if_neg e]
        exact hW.2.1 w v hw hv (Or.inl (Nat.le_refl w))
theorem qe_sum (hW : qi_w w K L R oa ob F) (hw : w < 32) (h0 : 0 < w) {a b : Nat} (ha : a < w) (hb : b < w) : qi_w (w + 1) (qa_un K w 2) L R (upd oa w (nI a)) (upd ob w (nI b)) (qa_row F (w * 32) w (fun v => F (a * 32 + v) + F (b * 32 + v))) := by
  refine qi_w_ext hw h0 (fun i hi => qa_unn (by omega)) (fun _ _ => rfl) (fun _ _ => rfl) (fun i hi => pk_un (by omega)) (fun i hi => pk_un (by omega)) (fun a v ha h32 hv => qa_row_out (by omega)) (fun v h1 h2 => ?_) ?_ hW
  · rw [qa_row_out (by omega)]
    exact hW.2.1 w v hw h2 (Or.inl (Nat.le_refl w))
  · refine Or.inl ⟨qa_uns, a, b, ha, hb, pk_us, pk_us, fun v hv => ?_⟩
    rw [qa_row_out (show a * 32 + v < w * 32 ∨ w * 32 + w ≤ a * 32 + v by omega), qa_row_out (show b * 32 + v < w * 32 ∨ w * 32 + w ≤ b * 32 + v by omega)]
    by_cases e : v < w
    · rw [qa_row_in e]
    · rw [qa_row_out (by omega), hW.2.1 w v hw hv (by omega), hW.2.1 a v (by omega) hv (by omega), hW.2.1 b v (by omega) hv (by omega)]
      rfl
theorem qe_mul (hW : qi_w w K L R oa ob F) (hw : w < 32) (h0 : 0 < w) {a : Nat} (c : Int) (ha : a < w) : qi_w (w + 1) (qa_un K w 4) L R (upd oa w (nI a)) (upd ob w (qa_fe c)) (qa_row F (w * 32) w (fun v => c * F (a * 32 + v))) := by
  refine qi_w_ext hw h0 (fun i hi => qa_unn (by omega)) (fun _ _ => rfl) (fun _ _ => rfl) (fun i hi => pk_un (by omega)) (fun i hi => pk_un (by omega)) (fun a v ha h32 hv => qa_row_out (by omega)) (fun v h1 h2 => ?_) ?_ hW
  · rw [qa_row_out (by omega)]
    exact hW.2.1 w v hw h2 (Or.inl (Nat.le_refl w))
  · refine Or.inr (Or.inl ⟨qa_uns, a, c, ha, pk_us, pk_us, fun v hv => ?_⟩)
    rw [qa_row_out (show a * 32 + v < w * 32 ∨ w * 32 + w ≤ a * 32 + v by omega)]
    by_cases e : v < w
    · rw [qa_row_in e]
    · rw [qa_row_out (by omega), hW.2.1 w v hw hv (by omega), hW.2.1 a v (by omega) hv (by omega)]
      rw [Int.mul_zero]
theorem qe_con (hW : qi_w w K L R oa ob F) (hC : qi_c w m F M ca cb cw) (hw : w < 32) (hm : m < 16) {a b : Nat} (ha : a < w) (hb : b < w) : qi_c (w + 1) (m + 1) (qa_uz F (w * 32 + w) 1) (qa_uz (qx_pM M (qa_uz F (w * 32 + w) 1) m w a b w) (qa_mi 2 m w) 1) (upd ca m (nI a)) (upd cb m (nI b)) (upd cw m (nI w)) := by
  have hF : ∀ a v, a < w → v < 32 → qa_uz F (w * 32 + w) 1 (a * 32 + v) = F (a * 32 + v) := fun a v h1 h2 => qa_uzn (by omega)
  have hz : ∀ a v, a < w → w ≤ v → v < 32 → qa_uz F (w * 32 + w) 1 (a * 32 + v) = 0 := fun a v h1 h2 h3 => by
    rw [hF a v h1 h3]
    exact hW.2.1 a v (by omega) h3 (by omega)
  refine qi_c_m hm (fun j hj => pk_un (by omega)) (fun j hj => pk_un (by omega)) (fun j hj => pk_un (by omega)) (fun t j v ht hj h16 hv => ?_) ?_ (qi_c_w (w' := w + 1) (by omega) (by omega) hF hC)
  · rw [qa_uzn (by unfold qa_mi; omega)]
    unfold qx_pM
    rw [qa_row_out (by unfold qa_mi; omega), qa_row_out (by unfold qa_mi; omega)]
  · refine ⟨a, b, by omega, by omega, pk_us, pk_us, Or.inl ⟨w, hw, pk_us, fun v hv => ⟨?_, ?_, ?_⟩⟩⟩
    · rw [qa_uzn (by unfold qa_mi; omega)]
      unfold qx_pM
      rw [qa_row_out (by unfold qa_mi; omega)]
      by_cases e : v < w
      · rw [show qa_mi 0 m v = qa_mi 0 m 0 + v from rfl, qa_row_in e]
      · rw [qa_row_out (by unfold qa_mi; omega), hz a v ha (by omega) hv]
        exact hC.2 0 m v (by omega) (Nat.le_refl m) hm hv
    · rw [qa_uzn (by unfold qa_mi; omega)]
      unfold qx_pM
      by_cases e : v < w
      · rw [show qa_mi 1 m v = qa_mi 1 m 0 + v from rfl, qa_row_in e]
      · rw [qa_row_out (by unfold qa_mi; omega), qa_row_out (by unfold qa_mi; omega), hz b v hb (by omega) hv]
        exact hC.2 1 m v (by omega) (Nat.le_refl m) hm hv
    · by_cases e : v = w
      · subst e
        rw [qa_uzs, if_pos rfl]
      · rw [if_neg e, qa_uzn (by unfold qa_mi; omega)]
        unfold qx_pM
        rw [qa_row_out (by unfold qa_mi; omega), qa_row_out (by unfold qa_mi; omega)]
        exact hC.2 2 m v (by omega) (Nat.le_refl m) hm hv
theorem qe_eq (hW : qi_w w K L R oa ob F) (hC : qi_c w m F M ca cb cw) (h0 : 0 < w) (hw : w ≤ 32) (hm : m < 16) {a b : Nat} (ha : a < w) (hb : b < w) : qi_c w (m + 1) F (qa_uz (qa_row M (qa_mi 0 m 0) w (fun v => F (a * 32 + v) - F (b * 32 + v))) (qa_mi 1 m 0) 1) (upd ca m (nI a)) (upd cb m (nI b)) (upd cw m (-1)) := by
  refine qi_c_m hm (fun j hj => pk_un (by omega)) (fun j hj => pk_un (by omega)) (fun j hj => pk_un (by omega)) (fun t j v ht hj h16 hv => ?_) ?_ hC
  · rw [qa_uzn (by unfold qa_mi; omega), qa_row_out (by unfold qa_mi; omega)]
  · refine ⟨a, b, ha, hb, pk_us, pk_us, Or.inr ⟨pk_us, fun v hv => ⟨?_, ?_, ?_⟩⟩⟩
    · rw [qa_uzn (by unfold qa_mi; omega)]
      by_cases e : v < w
      · rw [show qa_mi 0 m v = qa_mi 0 m 0 + v from rfl, qa_row_in e]
      · rw [qa_row_out (by unfold qa_mi; omega), hW.2.1 a v (by omega) hv (by omega), hW.2.1 b v (by omega) hv (by omega)]
        exact hC.2 0 m v (by omega) (Nat.le_refl m) hm hv
    · by_cases e : v = 0
      · subst e
        rw [qa_uzs, if_pos rfl]
      · rw [if_neg e, qa_uzn (by unfold qa_mi; omega), qa_row_out (by unfold qa_mi; omega)]
        exact hC.2 1 m v (by omega) (Nat.le_refl m) hm hv
    · rw [qa_uzn (by unfold qa_mi; omega), qa_row_out (by unfold qa_mi; omega)]
      exact hC.2 2 m v (by omega) (Nat.le_refl m) hm hv
end QM
theorem i_vc_addInput {k : Nat} {u : SX} {v : SY} (I : i_Rel k u v) (hk : k + 4 ≤ 2050) : wpX_addInput (fun r u' => wpY_addInput (fun r' v' => r' = r ∧ i_Rel (k + 4) u' v') v) u := by
  obtain ⟨W, C, w, m, cp, hq, K, L, R, x, F, M, pt, B, P, oa, ob, st, ca, cb, cw, hh, rr, col, bas, pm, pp, zz, rm, rfl, rfl, hN, hW, hX, hC, hQ, hH⟩ := I
  have same : i_Rel (k + 4) ((nI W), (nI C), (nI w), (nI m), cp, hq, (fun zi => nI (K zi)), L, R, (fun zi => qa_fe (x zi)), (fun zi => qa_fe (F zi)), (fun zi => qa_fe (M zi)), (fun zi => qa_fe (pt zi)), (fun zi => qa_fe (B zi)), (fun zi => qa_fe (P zi))) ((nI W), (nI C), (nI w), (nI m), cp, hq, (fun zi => nI (K zi)), oa, ob, st, ca, cb, cw, (fun zi => qa_fe (pt zi)), hh, rr, col, bas, pm, pp, zz, rm) := qi_mk hN hW hX hC hQ hH
  obtain ⟨n1, n2, n3, n4, n5, n6, n7⟩ := hN
  rcases qi_cp hQ with rfl | rfl
  · by_cases e : w = W
    · subst e
      exact br_t rfl (br_t rfl (br_t rfl (br_t rfl ⟨rfl, same⟩)))
    · have ne : ¬ nI w = nI W := by rw [nI_eq (by omega) (by omega)]; exact e
      refine br_t rfl (br_f ne (qx_mv (by omega) 1 ?_))
      refine br_t rfl (br_f ne ⟨vp_in_nI (by omega) (by omega), ?_⟩)
      rw [nI_clamp (by omega)]
      refine nm_r (qa_updN K w 1) ⟨vp_in_nI (by omega) (by omega), nm_e (nm_r (nI_1 w) ⟨nI_pred w, ?_⟩)⟩
      exact qi_mk ⟨n1, n2, n3, n4, by omega, by omega, n7⟩ (qe_var hW (by omega) (by omega) 1 (fun _ _ => rfl) (fun _ _ => rfl) (fun _ _ => rfl) (fun _ _ => rfl) (Or.inr rfl)) (qe_x hX (by omega) (by omega) 1) (qi_c_w (by omega) (by omega) (fun a v h1 h2 => qa_uzn (by omega)) hC) (qi_q0 hQ) hH
  · exact br_f (by decide) (br_f (by decide) ⟨rfl, same⟩)
end
section
section QM
variable {k W C w m : Nat} {cp hq : Int32} {K : Nat → Nat} {L R : Nat → Int32} {x F M pt B P : Nat → Int} {oa ob st ca cb cw hh rr col bas pm pp zz rm : Nat → Int32}
theorem qg_sum (hN : qi_n W C w m) (hW : qi_w w K L R oa ob F) (hX : qi_x w K x st) (hC : qi_c w m F M ca cb cw) (hQ : qi_q 0 w m M x pt B P) (hH : qi_h 0 hq m P hh rr) (hw : w < W) {a b : Nat} (ha : a < w) (hb : b < w) {PY : (Int32 → SY → Prop) → Prop} (hY : ∀ post, wY_addGate_90 post 2 (nI a) (nI b) (nI W) (nI C) (nI w) (nI m) 0 hq (fun zi => nI (K zi)) oa ob st ca cb cw (fun zi => qa_fe (pt zi)) hh rr col bas pm pp zz rm → PY post) : wX_addGate_70 (fun r u' => PY (fun r' v' => r' = r ∧ i_Rel k u' v')) 2 (nI a) (nI b) (nI W) (nI C) (nI w) (nI m) 0 hq (fun zi => nI (K zi)) L R (fun zi => qa_fe (x zi)) (fun zi => qa_fe (F zi)) (fun zi => qa_fe (M zi)) (fun zi => qa_fe (pt zi)) (fun zi => qa_fe (B zi)) (fun zi => qa_fe (P zi)) := by
  obtain ⟨n1, n2, n3, n4, n5, n6, n7⟩ := hN
  refine br_f (by decide) (br_t (by decide) (qx_ms ha hb (by omega) (hY _ ?_)))
  refine ⟨vp_in_nI (by omega) (by omega), ?_⟩
  rw [nI_clamp (by omega)]
  refine nm_r (qa_updN K w 2) ⟨vp_in_nI (by omega) (by omega), nm_e (br_f (by decide) ⟨vp_in_nI (by omega) (by omega), ?_⟩)⟩
  rw [nI_clamp (by omega)]
  refine nm_e ⟨vp_in_nI (by omega) (by omega), nm_e (br_f (by decide) (nm_r (nI_1 w) ⟨rfl, ?_⟩))⟩
  exact qi_mk ⟨n1, n2, n3, n4, by omega, by omega, n7⟩ (qe_sum hW (by omega) (by omega) ha hb) (qe_x hX (by omega) (by omega) 2) (qi_c_w (by omega) (by omega) (fun a v h1 h2 => qa_row_out (by omega)) hC) (qi_q0 hQ) hH
theorem qg_cmul (hN : qi_n W C w m) (hW : qi_w w K L R oa ob F) (hX : qi_x w K x st) (hC : qi_c w m F M ca cb cw) (hQ : qi_q 0 w m M x pt B P) (hH : qi_h 0 hq m P hh rr) (hw : w < W) {a : Nat} (b : Int32) (ha : a < w) {PY : (Int32 → SY → Prop) → Prop} (hY : ∀ post, wY_addGate_90 post 4 (nI a) b (nI W) (nI C) (nI w) (nI m) 0 hq (fun zi => nI (K zi)) oa ob st ca cb cw (fun zi => qa_fe (pt zi)) hh rr col bas pm pp zz rm → PY post) : wX_addGate_70 (fun r u' => PY (fun r' v' => r' = r ∧ i_Rel k u' v')) 4 (nI a) b (nI W) (nI C) (nI w) (nI m) 0 hq (fun zi => nI (K zi)) L R (fun zi => qa_fe (x zi)) (fun zi => qa_fe (F zi)) (fun zi => qa_fe (M zi)) (fun zi => qa_fe (pt zi)) (fun zi => qa_fe (B zi)) (fun zi => qa_fe (P zi)) := by
  obtain ⟨n1, n2, n3, n4, n5, n6, n7⟩ := hN
  refine br_f (by decide) (br_f (by decide) ?_)
  rw [qx_red]
  refine qx_mm _ ha (by omega) (hY _ ?_)
  refine ⟨vp_in_nI (by omega) (by omega), ?_⟩
  rw [nI_clamp (by omega)]
  refine nm_r (qa_updN K w 4) ⟨vp_in_nI (by omega) (by omega), nm_e (br_t (by decide) ?_)⟩
  rw [qy_i]
  refine ⟨vp_in_nI (by omega) (by omega), ?_⟩
  rw [nI_clamp (by omega)]
  refine nm_e ⟨vp_in_nI (by omega) (by omega), nm_e (br_f (by decide) (nm_r (nI_1 w) ⟨rfl, ?_⟩))⟩
  exact qi_mk ⟨n1, n2, n3, n4, by omega, by omega, n7⟩ (qe_mul hW (by omega) (by omega) b.toInt ha) (qe_x hX (by omega) (by omega) 4) (qi_c_w (by omega) (by omega) (fun a v h1 h2 => qa_row_out (by omega)) hC) (qi_q0 hQ) hH
theorem qg_mul (hN : qi_n W C w m) (hW : qi_w w K L R oa ob F) (hX : qi_x w K x st) (hC : qi_c w m F M ca cb cw) (hQ : qi_q 0 w m M x pt B P) (hH : qi_h 0 hq m P hh rr) (hw : w < W) (hm : m < C) {a b : Nat} (ha : a < w) (hb : b < w) {PY : (Int32 → SY → Prop) → Prop} (hY : ∀ post, wY_addGate_90 post 3 (nI a) (nI b) (nI W) (nI C) (nI w) (nI m) 0 hq (fun zi => nI (K zi)) oa ob st ca cb cw (fun zi => qa_fe (pt zi)) hh rr col bas pm pp zz rm → PY post) : wX_addGate_70 (fun r u' => PY (fun r' v' => r' = r ∧ i_Rel k u' v')) 3 (nI a) (nI b) (nI W) (nI C) (nI w) (nI m) 0 hq (fun zi => nI (K zi)) L R (fun zi => qa_fe (x zi)) (fun zi => qa_fe (F zi)) (fun zi => qa_fe (M zi)) (fun zi => qa_fe (pt zi)) (fun zi => qa_fe (B zi)) (fun zi => qa_fe (P zi)) := by
  obtain ⟨n1, n2, n3, n4, n5, n6, n7⟩ := hN
  refine br_t (by decide) (qx_mp ha hb (by omega) (by omega) (hY _ ?_))
  refine ⟨vp_in_nI (by omega) (by omega), ?_⟩
  rw [nI_clamp (by omega)]
  refine nm_r (qa_updN K w 3) ⟨vp_in_nI (by omega) (by omega), nm_e (br_f (by decide) ⟨vp_in_nI (by omega) (by omega), ?_⟩)⟩
  rw [nI_clamp (by omega)]
  refine nm_e ⟨vp_in_nI (by omega) (by omega), nm_e (br_t (by decide) ⟨vp_in_nI (by omega) (by omega), ?_⟩)⟩
  rw [nI_clamp (by omega)]
  refine nm_e ⟨vp_in_nI (by omega) (by omega), nm_e ⟨vp_in_nI (by omega) (by omega), nm_e (nm_r (nI_1 m) (nm_r (nI_1 w) ⟨rfl, ?_⟩))⟩⟩
  exact qi_mk ⟨n1, n2, n3, n4, by omega, by omega, by omega⟩ (qe_var hW (by omega) (by omega) 3 (fun i hi => pk_un (by omega)) (fun i hi => pk_un (by omega)) (fun i hi => pk_un (by omega)) (fun i hi => pk_un (by omega)) (Or.inl ⟨rfl, a, b, ha, hb, pk_us, pk_us, pk_us, pk_us⟩)) (qe_x hX (by omega) (by omega) 3) (qe_con hW hC (by omega) (by omega) ha hb) (qi_q0 hQ) (qi_h0 hH)
end QM
theorem i_vc_addGate {k : Nat} {u : SX} {v : SY} (I : i_Rel k u v) (hk : k + 4 ≤ 2050) (v1 : Int32) (v2 : Int32) (v3 : Int32) : wpX_addGate (fun r u' => wpY_addGate (fun r' v' => r' = r ∧ i_Rel (k + 4) u' v') v v1 v2 v3) u v1 v2 v3 := by
  obtain ⟨W, C, w, m, cp, hq, K, L, R, x, F, M, pt, B, P, oa, ob, st, ca, cb, cw, hh, rr, col, bas, pm, pp, zz, rm, rfl, rfl, hN, hW, hX, hC, hQ, hH⟩ := I
  have same : i_Rel (k + 4) ((nI W), (nI C), (nI w), (nI m), cp, hq, (fun zi => nI (K zi)), L, R, (fun zi => qa_fe (x zi)), (fun zi => qa_fe (F zi)), (fun zi => qa_fe (M zi)), (fun zi => qa_fe (pt zi)), (fun zi => qa_fe (B zi)), (fun zi => qa_fe (P zi))) ((nI W), (nI C), (nI w), (nI m), cp, hq, (fun zi => nI (K zi)), oa, ob, st, ca, cb, cw, (fun zi => qa_fe (pt zi)), hh, rr, col, bas, pm, pp, zz, rm) := qi_mk hN hW hX hC hQ hH
  obtain ⟨n1, n2, n3, n4, n5, n6, n7⟩ := id hN
  rcases qi_cp hQ with rfl | rfl
  · unfold wpX_addGate
    refine br_t rfl ?_
    have hg : v1 = 2 ∨ v1 = 3 ∨ v1 = 4 ∨ (¬ v1 = 2 ∧ ¬ v1 = 3 ∧ ¬ v1 = 4) := by
      by_cases g2 : v1 = 2
      · exact Or.inl g2
      · by_cases g3 : v1 = 3
        · exact Or.inr (Or.inl g3)
        · by_cases g4 : v1 = 4
          · exact Or.inr (Or.inr (Or.inl g4))
          · exact Or.inr (Or.inr (Or.inr ⟨g2, g3, g4⟩))
    have c1 : ∀ post : Int32 → SY → Prop, (v1 = 2 ∨ v1 = 3 ∨ v1 = 4) → wY_addGate_26 post v1 v2 v3 (nI W) (nI C) (nI w) (nI m) 0 hq (fun zi => nI (K zi)) oa ob st ca cb cw (fun zi => qa_fe (pt zi)) hh rr col bas pm pp zz rm → wpY_addGate post ((nI W), (nI C), (nI w), (nI m), 0, hq, (fun zi => nI (K zi)), oa, ob, st, ca, cb, cw, (fun zi => qa_fe (pt zi)), hh, rr, col, bas, pm, pp, zz, rm) v1 v2 v3 := by
      intro post hv h
      refine br_t rfl ?_
      rcases hv with e | e | e
      · exact br_t e h
      · exact br_f (by rw [e]; decide) (br_t e h)
      · exact br_f (by rw [e]; decide) (br_f (by rw [e]; decide) (br_t e h))
    by_cases hv : v1 = 2 ∨ v1 = 3 ∨ v1 = 4
    · have gk : ∀ post : Int32 → Prop, post 1 → wpX_isGateKind post v1 := by
        intro post h
        rcases hv with e | e | e
        · exact br_t e h
        · exact br_f (by rw [e]; decide) (br_t e h)
        · exact br_f (by rw [e]; decide) (br_f (by rw [e]; decide) (br_t e h))
      refine gk _ (br_f (by decide) ?_)
      rcases pk_ix v2 (n := w) (by omega) with z | z | ⟨a, ha, rfl⟩
      · exact qx_nw (by omega) (Or.inl z) (br_t rfl (c1 _ hv (br_t z ⟨rfl, same⟩)))
      · exact qx_nw (by omega) (Or.inr z) (br_t rfl (c1 _ hv (br_f (qm_ge (by omega) z).1 (br_f (qm_ge (by omega) z).2 ⟨rfl, same⟩))))
      · refine qx_iw (by omega) ha (br_f (by decide) ?_)
        have c2 : ∀ post : Int32 → SY → Prop, (v1 = 4 → wY_addGate_59 post v1 (nI a) v3 (nI W) (nI C) (nI w) (nI m) 0 hq (fun zi => nI (K zi)) oa ob st ca cb cw (fun zi => qa_fe (pt zi)) hh rr col bas pm pp zz rm) → (¬ v1 = 4 → ((v3 < 0 → post (-1) ((nI W), (nI C), (nI w), (nI m), 0, hq, (fun zi => nI (K zi)), oa, ob, st, ca, cb, cw, (fun zi => qa_fe (pt zi)), hh, rr, col, bas, pm, pp, zz, rm)) ∧ (¬ v3 < 0 → ((v3 < nI w → wY_addGate_59 post v1 (nI a) v3 (nI W) (nI C) (nI w) (nI m) 0 hq (fun zi => nI (K zi)) oa ob st ca cb cw (fun zi => qa_fe (pt zi)) hh rr col bas pm pp zz rm) ∧ (¬ v3 < nI w → post (-1) ((nI W), (nI C), (nI w), (nI m), 0, hq, (fun zi => nI (K zi)), oa, ob, st, ca, cb, cw, (fun zi => qa_fe (pt zi)), hh, rr, col, bas, pm, pp, zz, rm)))))) → wpY_addGate post ((nI W), (nI C), (nI w), (nI m), 0, hq, (fun zi => nI (K zi)), oa, ob, st, ca, cb, cw, (fun zi => qa_fe (pt zi)), hh, rr, col, bas, pm, pp, zz, rm) v1 (nI a) v3 :=
          fun post h4 hn => c1 _ hv (br_f (nI_pos (by omega)) (br_t (nI_lt ha (by omega)) ⟨h4, hn⟩))
        by_cases g4 : v1 = 4
        · subst g4
          refine br_t rfl ?_
          by_cases e : w = W
          · subst e
            exact br_t rfl (c2 _ (fun _ => br_t rfl ⟨rfl, same⟩) (fun z => absurd rfl z))
          · have ne : ¬ nI w = nI W := by rw [nI_eq (by omega) (by omega)]; exact e
            refine br_f ne (br_f (by decide) ?_)
            exact qg_cmul hN hW hX hC hQ hH (by omega) v3 ha (PY := fun post => wpY_addGate post ((nI W), (nI C), (nI w), (nI m), 0, hq, (fun zi => nI (K zi)), oa, ob, st, ca, cb, cw, (fun zi => qa_fe (pt zi)), hh, rr, col, bas, pm, pp, zz, rm) 4 (nI a) v3) fun post h => c2 _ (fun _ => br_f ne (br_f (by decide) h)) (fun z => absurd rfl z)
        · refine br_f g4 ?_
          rcases pk_ix v3 (n := w) (by omega) with z | z | ⟨b, hb, rfl⟩
          · exact qx_nw (by omega) (Or.inl z) (br_t rfl (c2 _ (fun y => absurd y g4) (fun _ => br_t z ⟨rfl, same⟩)))
          · exact qx_nw (by omega) (Or.inr z) (br_t rfl (c2 _ (fun y => absurd y g4) (fun _ => br_f (qm_ge (by omega) z).1 (br_f (qm_ge (by omega) z).2 ⟨rfl, same⟩))))
          · refine qx_iw (by omega) hb (br_f (by decide) ?_)
            have c3 : ∀ post : Int32 → SY → Prop, wY_addGate_59 post v1 (nI a) (nI b) (nI W) (nI C) (nI w) (nI m) 0 hq (fun zi => nI (K zi)) oa ob st ca cb cw (fun zi => qa_fe (pt zi)) hh rr col bas pm pp zz rm → wpY_addGate post ((nI W), (nI C), (nI w), (nI m), 0, hq, (fun zi => nI (K zi)), oa, ob, st, ca, cb, cw, (fun zi => qa_fe (pt zi)), hh, rr, col, bas, pm, pp, zz, rm) v1 (nI a) (nI b) :=
              fun post h => c2 _ (fun y => absurd y g4) (fun _ => br_f (nI_pos (by omega)) (br_t (nI_lt hb (by omega)) h))
            by_cases e : w = W
            · subst e
              exact br_t rfl (c3 _ (br_t rfl ⟨rfl, same⟩))
            · have ne : ¬ nI w = nI W := by rw [nI_eq (by omega) (by omega)]; exact e
              refine br_f ne ?_
              by_cases g3 : v1 = 3
              · subst g3
                refine br_t rfl ?_
                by_cases em : m = C
                · subst em
                  exact br_t rfl (c3 _ (br_f ne (br_t rfl (br_t rfl ⟨rfl, same⟩))))
                · have nm : ¬ nI m = nI C := by rw [nI_eq (by omega) (by omega)]; exact em
                  refine br_f nm ?_
                  exact qg_mul hN hW hX hC hQ hH (by omega) (by omega) ha hb (PY := fun post => wpY_addGate post ((nI W), (nI C), (nI w), (nI m), 0, hq, (fun zi => nI (K zi)), oa, ob, st, ca, cb, cw, (fun zi => qa_fe (pt zi)), hh, rr, col, bas, pm, pp, zz, rm) 3 (nI a) (nI b)) fun post h => c3 _ (br_f ne (br_t rfl (br_f nm h)))
              · have g2 : v1 = 2 := by
                  rcases hv with y | y | y
                  · exact y
                  · exact absurd y g3
                  · exact absurd y g4
                subst g2
                refine br_f (by decide) ?_
                exact qg_sum hN hW hX hC hQ hH (by omega) ha hb (PY := fun post => wpY_addGate post ((nI W), (nI C), (nI w), (nI m), 0, hq, (fun zi => nI (K zi)), oa, ob, st, ca, cb, cw, (fun zi => qa_fe (pt zi)), hh, rr, col, bas, pm, pp, zz, rm) 2 (nI a) (nI b)) fun post h => c3 _ (br_f ne (br_f (by decide) h))
    · have q2 : ¬ v1 = 2 := fun z => hv (Or.inl z)
      have q3 : ¬ v1 = 3 := fun z => hv (Or.inr (Or.inl z))
      have q4 : ¬ v1 = 4 := fun z => hv (Or.inr (Or.inr z))
      exact br_f q2 (br_f q3 (br_f q4 (br_t rfl (br_t rfl (br_f q2 (br_f q3 (br_f q4 ⟨rfl, same⟩)))))))
  · exact br_f (by decide) (br_f (by decide) ⟨rfl, same⟩)
theorem i_vc_assertEqual {k : Nat} {u : SX} {v : SY} (I : i_Rel k u v) (hk : k + 4 ≤ 2050) (v1 : Int32) (v2 : Int32) : wpX_assertEqual (fun r u' => wpY_assertEqual (fun r' v' => r' = r ∧ i_Rel (k + 4) u' v') v v1 v2) u v1 v2 := by
  obtain ⟨W, C, w, m, cp, hq, K, L, R, x, F, M, pt, B, P, oa, ob, st, ca, cb, cw, hh, rr, col, bas, pm, pp, zz, rm, rfl, rfl, hN, hW, hX, hC, hQ, hH⟩ := I
  have same : i_Rel (k + 4) ((nI W), (nI C), (nI w), (nI m), cp, hq, (fun zi => nI (K zi)), L, R, (fun zi => qa_fe (x zi)), (fun zi => qa_fe (F zi)), (fun zi => qa_fe (M zi)), (fun zi => qa_fe (pt zi)), (fun zi => qa_fe (B zi)), (fun zi => qa_fe (P zi))) ((nI W), (nI C), (nI w), (nI m), cp, hq, (fun zi => nI (K zi)), oa, ob, st, ca, cb, cw, (fun zi => qa_fe (pt zi)), hh, rr, col, bas, pm, pp, zz, rm) := qi_mk hN hW hX hC hQ hH
  obtain ⟨n1, n2, n3, n4, n5, n6, n7⟩ := id hN
  rcases qi_cp hQ with rfl | rfl
  · unfold wpX_assertEqual
    refine br_t rfl ?_
    rcases pk_ix v1 (n := w) (by omega) with z | z | ⟨a, ha, rfl⟩
    · exact qx_nw (by omega) (Or.inl z) (br_t rfl (br_t rfl (br_t z ⟨rfl, same⟩)))
    · exact qx_nw (by omega) (Or.inr z) (br_t rfl (br_t rfl (br_f (qm_ge (by omega) z).1 (br_t z ⟨rfl, same⟩))))
    · refine qx_iw (by omega) ha (br_f (by decide) ?_)
      have a1 : ¬ nI a < 0 := nI_pos (by omega)
      have a2 : ¬ nI w ≤ nI a := nI_ge ha (by omega)
      rcases pk_ix v2 (n := w) (by omega) with z | z | ⟨b, hb, rfl⟩
      · exact qx_nw (by omega) (Or.inl z) (br_t rfl (br_t rfl (br_f a1 (br_f a2 (br_t z ⟨rfl, same⟩)))))
      · exact qx_nw (by omega) (Or.inr z) (br_t rfl (br_t rfl (br_f a1 (br_f a2 (br_f (qm_ge (by omega) z).1 (br_f (qm_ge (by omega) z).2 ⟨rfl, same⟩))))))
      · refine qx_iw (by omega) hb (br_f (by decide) ?_)
        have b1 : ¬ nI b < 0 := nI_pos (by omega)
        have b2 : nI b < nI w := nI_lt hb (by omega)
        by_cases em : m = C
        · subst em
          exact br_t rfl (br_t rfl (br_f a1 (br_f a2 (br_f b1 (br_t b2 (br_t rfl ⟨rfl, same⟩))))))
        · have nm : ¬ nI m = nI C := by rw [nI_eq (by omega) (by omega)]; exact em
          refine br_f nm (qx_ae ha hb (by omega) (by omega) ?_)
          refine br_t rfl (br_f a1 (br_f a2 (br_f b1 (br_t b2 (br_f nm ⟨vp_in_nI (by omega) (by omega), ?_⟩)))))
          rw [nI_clamp (by omega)]
          refine nm_e ⟨vp_in_nI (by omega) (by omega), nm_e ⟨vp_in_nI (by omega) (by omega), nm_e (nm_r (nI_1 m) ⟨nI_pred m, ?_⟩)⟩⟩
          exact qi_mk ⟨n1, n2, n3, n4, n5, n6, by omega⟩ hW hX (qe_eq hW hC (by omega) (by omega) (by omega) ha hb) (qi_q0 hQ) (qi_h0 hH)
  · exact br_f (by decide) (br_f (by decide) ⟨rfl, same⟩)
section QM
variable {k W C w m : Nat} {cp hq : Int32} {K : Nat → Nat} {L R : Nat → Int32} {x F M pt B P : Nat → Int} {oa ob st ca cb cw hh rr col bas pm pp zz rm : Nat → Int32}
theorem qy_sp33 {post : Int32 → SY → Prop} (hC : C ≤ 16) {j : Nat} (hj : j < C) (z : Int) (h1 : qa_ds pt C j z → post 1 ((nI W), (nI C), (nI w), (nI m), cp, hq, (fun zi => nI (K zi)), oa, ob, st, ca, cb, cw, (fun zi => qa_fe ((qa_uz pt j z) zi)), hh, rr, col, bas, pm, pp, zz, rm)) (h0 : ¬ qa_ds pt C j z → post 0 ((nI W), (nI C), (nI w), (nI m), cp, hq, (fun zi => nI (K zi)), oa, ob, st, ca, cb, cw, (fun zi => qa_fe (pt zi)), hh, rr, col, bas, pm, pp, zz, rm)) : ∀ n k, k ≤ C → C - k < n → (∀ i, i < k → i ≠ j → qa_fe (pt i) ≠ qa_fe z) → wY_setPoint_33 post (nI j) (qa_fe z) (nI W) (nI C) (nI w) (nI m) cp hq (fun zi => nI (K zi)) oa ob st ca cb cw (fun zi => qa_fe (pt zi)) hh rr col bas pm pp zz rm n (nI k) := by
  intro n
  induction n with
  | zero => intros; omega
  | succ n ih =>
    intro k hk hn hI
    by_cases h2 : k < C
    · refine br_f (nI_ge h2 (by omega)) ?_
      by_cases e : k = j
      · exact br_t (by rw [e]) (nm_r (nI_1 k) (ih (k + 1) (by omega) (by omega) fun i hi hn => hI i (by omega) hn))
      · refine br_f (by rw [nI_eq (by omega) (by omega)]; exact e) ⟨vp_in_nI (by omega) (by omega), ?_⟩
        rw [nI_clamp (by omega)]
        by_cases q : qa_fe (pt k) = qa_fe z
        · exact br_t q (h0 fun y => y k h2 e q)
        · refine br_f q (nm_r (nI_1 k) (ih (k + 1) (by omega) (by omega) fun i hi hn => ?_))
          by_cases y : i = k
          · rw [y]; exact q
          · exact hI i (by omega) hn
    · obtain rfl : k = C := by omega
      refine br_t (nI_le (Nat.le_refl _) (by omega)) ⟨vp_in_nI (by omega) (by omega), ?_⟩
      rw [nI_clamp (by omega)]
      exact nm_r (qa_upd _ _ _) (h1 hI)
end QM
theorem i_vc_setPoint {k : Nat} {u : SX} {v : SY} (I : i_Rel k u v) (hk : k + 4 ≤ 2050) (v1 : Int32) (v2 : Int32) : wpX_setPoint (fun r u' => wpY_setPoint (fun r' v' => r' = r ∧ i_Rel (k + 4) u' v') v v1 v2) u v1 v2 := by
  obtain ⟨W, C, w, m, cp, hq, K, L, R, x, F, M, pt, B, P, oa, ob, st, ca, cb, cw, hh, rr, col, bas, pm, pp, zz, rm, rfl, rfl, hN, hW, hX, hC, hQ, hH⟩ := I
  have same : i_Rel (k + 4) ((nI W), (nI C), (nI w), (nI m), cp, hq, (fun zi => nI (K zi)), L, R, (fun zi => qa_fe (x zi)), (fun zi => qa_fe (F zi)), (fun zi => qa_fe (M zi)), (fun zi => qa_fe (pt zi)), (fun zi => qa_fe (B zi)), (fun zi => qa_fe (P zi))) ((nI W), (nI C), (nI w), (nI m), cp, hq, (fun zi => nI (K zi)), oa, ob, st, ca, cb, cw, (fun zi => qa_fe (pt zi)), hh, rr, col, bas, pm, pp, zz, rm) := qi_mk hN hW hX hC hQ hH
  obtain ⟨n1, n2, n3, n4, n5, n6, n7⟩ := id hN
  rcases qi_cp hQ with rfl | rfl
  · rcases pk_ix v1 (n := C) (by omega) with z | z | ⟨j, hj, rfl⟩
    · exact br_t rfl (br_t z (br_t rfl (br_t z ⟨rfl, same⟩)))
    · have q := qm_ge (by omega) z
      exact br_t rfl (br_f q.1 (br_f q.2 (br_t rfl (br_f q.1 (br_f q.2 ⟨rfl, same⟩)))))
    · have a1 : ¬ nI j < 0 := nI_pos (by omega)
      have a2 : nI j < nI C := nI_lt hj (by omega)
      refine br_t rfl (br_f a1 (br_t a2 ?_))
      rw [qx_red]
      have yy : ∀ post : Int32 → SY → Prop, (qa_ds pt C j v2.toInt → post 1 ((nI W), (nI C), (nI w), (nI m), 0, hq, (fun zi => nI (K zi)), oa, ob, st, ca, cb, cw, (fun zi => qa_fe ((qa_uz pt j v2.toInt) zi)), hh, rr, col, bas, pm, pp, zz, rm)) → (¬ qa_ds pt C j v2.toInt → post 0 ((nI W), (nI C), (nI w), (nI m), 0, hq, (fun zi => nI (K zi)), oa, ob, st, ca, cb, cw, (fun zi => qa_fe (pt zi)), hh, rr, col, bas, pm, pp, zz, rm)) → wpY_setPoint post ((nI W), (nI C), (nI w), (nI m), 0, hq, (fun zi => nI (K zi)), oa, ob, st, ca, cb, cw, (fun zi => qa_fe (pt zi)), hh, rr, col, bas, pm, pp, zz, rm) (nI j) v2 := by
        intro post h1 h0
        refine br_t rfl (br_f a1 (br_t a2 ?_))
        rw [qy_i]
        exact ⟨C + 1, qy_sp33 (by omega) hj v2.toInt h1 h0 (C + 1) 0 (by omega) (by omega) (fun i hi => by omega)⟩
      refine ⟨C + 1, qx_sp29 (by omega) hj v2.toInt (fun d => ?_) (fun d => ?_) (C + 1) 0 (by omega) (by omega) (fun i hi => by omega)⟩
      · exact yy _ (fun _ => ⟨rfl, qi_mk hN hW hX hC (qi_q0 hQ) hH⟩) (fun y => absurd d y)
      · exact yy _ (fun y => absurd y d) (fun _ => ⟨rfl, same⟩)
  · exact br_f (by decide) (br_f (by decide) ⟨rfl, same⟩)
theorem i_vc_compile {k : Nat} {u : SX} {v : SY} (I : i_Rel k u v) (hk : k + 4 ≤ 2050) : wpX_compile (fun r u' => wpY_compile (fun r' v' => r' = r ∧ i_Rel (k + 4) u' v') v) u := by
  obtain ⟨W, C, w, m, cp, hq, K, L, R, x, F, M, pt, B, P, oa, ob, st, ca, cb, cw, hh, rr, col, bas, pm, pp, zz, rm, rfl, rfl, hN, hW, hX, hC, hQ, hH⟩ := I
  have same : i_Rel (k + 4) ((nI W), (nI C), (nI w), (nI m), cp, hq, (fun zi => nI (K zi)), L, R, (fun zi => qa_fe (x zi)), (fun zi => qa_fe (F zi)), (fun zi => qa_fe (M zi)), (fun zi => qa_fe (pt zi)), (fun zi => qa_fe (B zi)), (fun zi => qa_fe (P zi))) ((nI W), (nI C), (nI w), (nI m), cp, hq, (fun zi => nI (K zi)), oa, ob, st, ca, cb, cw, (fun zi => qa_fe (pt zi)), hh, rr, col, bas, pm, pp, zz, rm) := qi_mk hN hW hX hC hQ hH
  obtain ⟨n1, n2, n3, n4, n5, n6, n7⟩ := id hN
  rcases id hQ with ⟨rfl, hP⟩ | ⟨rfl, -⟩
  · have hq0 : hq = 0 := hH.elim id (fun z => absurd z.2.1 (by decide))
    subst hq0
    by_cases e : m = 0
    · subst e
      exact br_t rfl (br_t rfl (br_t rfl (br_t rfl ⟨rfl, same⟩)))
    · refine qx_cp (by omega) (by omega) (by omega) hP fun B' P' hQ' => ?_
      exact br_t rfl (br_f (nI_ne0 (by omega) (by omega)) ⟨rfl, qi_mk hN hW hX hC hQ' (Or.inl rfl)⟩)
  · exact br_f (by decide) (br_f (by decide) ⟨rfl, same⟩)
section QM
variable {k W C w m : Nat} {cp hq : Int32} {K : Nat → Nat} {L R : Nat → Int32} {x F M pt B P : Nat → Int} {oa ob st ca cb cw hh rr col bas pm pp zz rm : Nat → Int32}
theorem qe_set (hX : qi_x w K x st) {j : Nat} (h0 : 0 < j) (hj : j < w) (z : Int) (hK : K j ≠ 2 ∧ K j ≠ 4) : qi_x w K (qa_uz x j z) (upd st j (qa_fe z)) := by
  obtain ⟨a, b, c⟩ := hX
  refine ⟨by rw [qa_uzn (by omega)]; exact a, fun v h1 h2 => ?_, fun v h1 h2 => ?_⟩
  · by_cases e : v = j
    · rw [e, pk_us, qa_uzs]
    · rw [pk_un e, qa_uzn e]
      exact b v h1 h2
  · by_cases e : v = j
    · subst e
      rcases h2 with y | y | y
      · omega
      · exact absurd y hK.1
      · exact absurd y hK.2
    · rw [qa_uzn e]
      exact c v h1 h2
theorem qg_set (hN : qi_n W C w m) (hW : qi_w w K L R oa ob F) (hX : qi_x w K x st) (hC : qi_c w m F M ca cb cw) (hQ : qi_q cp w m M x pt B P) {j : Nat} (b : Int32) (hj : j < w) (hK : K j = 1 ∨ K j = 3) {PY : (Int32 → SY → Prop) → Prop} (hY : ∀ post, wY_setWitness_36 post (nI j) b (nI W) (nI C) (nI w) (nI m) cp hq (fun zi => nI (K zi)) oa ob st ca cb cw (fun zi => qa_fe (pt zi)) hh rr col bas pm pp zz rm → PY post) : wX_setWitness_30 (fun r u' => PY (fun r' v' => r' = r ∧ i_Rel k u' v')) (nI j) b (nI W) (nI C) (nI w) (nI m) cp hq (fun zi => nI (K zi)) L R (fun zi => qa_fe (x zi)) (fun zi => qa_fe (F zi)) (fun zi => qa_fe (M zi)) (fun zi => qa_fe (pt zi)) (fun zi => qa_fe (B zi)) (fun zi => qa_fe (P zi)) := by
  obtain ⟨n1, n2, n3, n4, n5, n6, n7⟩ := id hN
  have j0 : 0 < j := by
    rcases Nat.eq_zero_or_pos j with z | z
    · subst z
      have := hW.2.2
      omega
    · exact z
  unfold wX_setWitness_30
  rw [qx_red]
  refine ⟨vp_in_nI (by omega) (by omega), ?_⟩
  rw [nI_clamp (by omega)]
  refine nm_r (qa_upd _ _ _) (qx_wc (by omega) (by omega) hQ fun P' hQ' => hY _ ?_)
  unfold wY_setWitness_36
  rw [qy_i]
  refine ⟨vp_in_nI (by omega) (by omega), ?_⟩
  rw [nI_clamp (by omega)]
  exact nm_e ⟨rfl, qi_mk hN hW (qe_set hX j0 hj b.toInt (by omega)) hC hQ' (Or.inl rfl)⟩
end QM
theorem i_vc_setWitness {k : Nat} {u : SX} {v : SY} (I : i_Rel k u v) (hk : k + 4 ≤ 2050) (v1 : Int32) (v2 : Int32) : wpX_setWitness (fun r u' => wpY_setWitness (fun r' v' => r' = r ∧ i_Rel (k + 4) u' v') v v1 v2) u v1 v2 := by
  obtain ⟨W, C, w, m, cp, hq, K, L, R, x, F, M, pt, B, P, oa, ob, st, ca, cb, cw, hh, rr, col, bas, pm, pp, zz, rm, rfl, rfl, hN, hW, hX, hC, hQ, hH⟩ := I
  have same : i_Rel (k + 4) ((nI W), (nI C), (nI w), (nI m), cp, hq, (fun zi => nI (K zi)), L, R, (fun zi => qa_fe (x zi)), (fun zi => qa_fe (F zi)), (fun zi => qa_fe (M zi)), (fun zi => qa_fe (pt zi)), (fun zi => qa_fe (B zi)), (fun zi => qa_fe (P zi))) ((nI W), (nI C), (nI w), (nI m), cp, hq, (fun zi => nI (K zi)), oa, ob, st, ca, cb, cw, (fun zi => qa_fe (pt zi)), hh, rr, col, bas, pm, pp, zz, rm) := qi_mk hN hW hX hC hQ hH
  obtain ⟨n1, n2, n3, n4, n5, n6, n7⟩ := id hN
  unfold wpX_setWitness
  rcases pk_ix v1 (n := w) (by omega) with z | z | ⟨j, hj, rfl⟩
  · exact qx_nw (by omega) (Or.inl z) (br_t rfl (br_t z ⟨rfl, same⟩))
  · exact qx_nw (by omega) (Or.inr z) (br_t rfl (br_f (qm_ge (by omega) z).1 (br_f (qm_ge (by omega) z).2 ⟨rfl, same⟩)))
  · refine qx_iw (by omega) hj (br_f (by decide) ?_)
    have a1 : ¬ nI j < 0 := nI_pos (by omega)
    have a2 : nI j < nI w := nI_lt hj (by omega)
    have vi : vp_in (nI j) 32 := vp_in_nI (by omega) (by omega)
    have cl : (nI j).toNatClampNeg = j := nI_clamp (by omega)
    have yy : ∀ post : Int32 → SY → Prop, ((nI (K j) = 1 → wY_setWitness_36 post (nI j) v2 (nI W) (nI C) (nI w) (nI m) cp hq (fun zi => nI (K zi)) oa ob st ca cb cw (fun zi => qa_fe (pt zi)) hh rr col bas pm pp zz rm) ∧ (¬ nI (K j) = 1 → (vp_in (nI j) 32 ∧ ((nI (K j) = 3 → wY_setWitness_36 post (nI j) v2 (nI W) (nI C) (nI w) (nI m) cp hq (fun zi => nI (K zi)) oa ob st ca cb cw (fun zi => qa_fe (pt zi)) hh rr col bas pm pp zz rm) ∧ (¬ nI (K j) = 3 → post 0 ((nI W), (nI C), (nI w), (nI m), cp, hq, (fun zi => nI (K zi)), oa, ob, st, ca, cb, cw, (fun zi => qa_fe (pt zi)), hh, rr, col, bas, pm, pp, zz, rm)))))) → wpY_setWitness post ((nI W), (nI C), (nI w), (nI m), cp, hq, (fun zi => nI (K zi)), oa, ob, st, ca, cb, cw, (fun zi => qa_fe (pt zi)), hh, rr, col, bas, pm, pp, zz, rm) (nI j) v2 := by
      intro post h
      refine br_f a1 (br_t a2 ⟨vi, ?_⟩)
      rw [cl]
      exact h
    rw [cl]
    have k5 := qi_var hW hj
    by_cases k1 : K j = 1
    · have e1 : nI (K j) = 1 := by rw [k1]; rfl
      refine ⟨vi, br_t e1 ?_⟩
      exact qg_set hN hW hX hC hQ v2 hj (Or.inl k1) (PY := fun post => wpY_setWitness post ((nI W), (nI C), (nI w), (nI m), cp, hq, (fun zi => nI (K zi)), oa, ob, st, ca, cb, cw, (fun zi => qa_fe (pt zi)), hh, rr, col, bas, pm, pp, zz, rm) (nI j) v2) fun post h => yy _ (br_t e1 h)
    · have e1 : ¬ nI (K j) = 1 := by rw [show (1 : Int32) = nI 1 by decide, nI_eq (by omega) (by omega)]; exact k1
      by_cases k3 : K j = 3
      · have e3 : nI (K j) = 3 := by rw [k3]; rfl
        refine ⟨vi, br_f e1 ⟨vi, br_t e3 ?_⟩⟩
        exact qg_set hN hW hX hC hQ v2 hj (Or.inr k3) (PY := fun post => wpY_setWitness post ((nI W), (nI C), (nI w), (nI m), cp, hq, (fun zi => nI (K zi)), oa, ob, st, ca, cb, cw, (fun zi => qa_fe (pt zi)), hh, rr, col, bas, pm, pp, zz, rm) (nI j) v2) fun post h => yy _ (br_f e1 ⟨vi, br_t e3 h⟩)
      · have e3 : ¬ nI (K j) = 3 := by rw [show (3 : Int32) = nI 3 by decide, nI_eq (by omega) (by omega)]; exact k3
        exact ⟨vi, br_f e1 ⟨vi, br_f e3 (yy _ (br_f e1 ⟨vi, br_f e3 ⟨rfl, same⟩⟩))⟩⟩
end
section
section QM
variable {k W C w m : Nat} {cp hq : Int32} {K : Nat → Nat} {L R : Nat → Int32} {x F M pt B P : Nat → Int} {oa ob st ca cb cw hh rr col bas pm pp zz rm : Nat → Int32}
theorem qs_x {x0 : Nat → Int} (hN : qi_n W C w m) (hW : qi_w w K L R oa ob F) (hC : qi_c w m F M ca cb cw) (hQ : qi_q cp w m M x0 pt B P) {PY : (Int32 → SY → Prop) → Prop} : ∀ n i (r : Int32) (x : Nat → Int) (st : Nat → Int32), 1 ≤ i → i ≤ w → w - i < n → qi_x w K x st → (∀ post : Int32 → SY → Prop, (∀ (c : Nat → Int32) (f : Nat), w - i < f → wY_solve_4 post f r (nI i) (nI W) (nI C) (nI w) (nI m) cp hq (fun zi => nI (K zi)) oa ob st ca cb cw (fun zi => qa_fe (pt zi)) hh rr c bas pm pp zz rm) → PY post) → wX_solve_4 (fun r u' => PY (fun r' v' => r' = r ∧ i_Rel k u' v')) (nI W) (nI C) (nI w) (nI m) cp hq n r (nI i) (fun zi => nI (K zi)) L R (fun zi => qa_fe (x zi)) (fun zi => qa_fe (F zi)) (fun zi => qa_fe (M zi)) (fun zi => qa_fe (pt zi)) (fun zi => qa_fe (B zi)) (fun zi => qa_fe (P zi)) := by
  obtain ⟨n1, n2, n3, n4, n5, n6, n7⟩ := id hN
  intro n
  induction n with
  | zero => intros; omega
  | succ n ih =>
    intro i r x st hi0 hi hn hX hY
    by_cases z : i < w
    · have lt : ¬ nI w ≤ nI i := nI_ge z (by omega)
      have vi : vp_in (nI i) 32 := vp_in_nI (by omega) (by omega)
      have cl : (nI i).toNatClampNeg = i := nI_clamp (by omega)
      have k5 := qi_var hW z
      refine br_f lt ⟨vi, ?_⟩
      rw [cl]
      by_cases k3 : K i = 3
      · have e3 : nI (K i) = 3 := by rw [k3]; rfl
        obtain ⟨a, b, ha, hb, o1, o2, o3, o4⟩ : ∃ a b, a < i ∧ b < i ∧ oa i = nI a ∧ ob i = nI b ∧ L i = nI a ∧ R i = nI b := by
          rcases hW.1 i z with y | y | ⟨y | y | y, -⟩
          · omega
          · omega
          · exact y.2
          · omega
          · omega
        refine br_t e3 ⟨vi, ?_⟩
        rw [o3, o4]
        refine qx_wv (by omega) (by omega) ⟨vi, ?_⟩
        refine qx_wv (by omega) (by omega) ?_
        rw [qx_mul]
        refine ⟨vi, ?_⟩
        generalize hp : qa_wv F x w a * qa_wv F x w b = p
        have hs := hX.2.1 i (by omega) (by omega)
        have walk : ∀ (post : Int32 → SY → Prop) (r' : Int32), ((qa_fe p = st i → r' = r) ∧ (¬ qa_fe p = st i → r' = r + 1)) → (∀ (c : Nat → Int32) (f : Nat), w - (i + 1) < f → wY_solve_4 post f r' (nI (i + 1)) (nI W) (nI C) (nI w) (nI m) cp hq (fun zi => nI (K zi)) oa ob (upd st i (qa_fe p)) ca cb cw (fun zi => qa_fe (pt zi)) hh rr c bas pm pp zz rm) → PY post := by
          intro post r' hr H
          refine hY post fun c f hf => ?_
          obtain ⟨f, rfl⟩ : ∃ q, f = q + 1 := ⟨f - 1, by omega⟩
          refine br_f lt ⟨vi, ?_⟩
          rw [cl]
          refine br_t e3 ⟨vi, ?_⟩
          rw [o1]
          refine qy_val hW hX (by omega) (by omega) fun c1 => ⟨vi, ?_⟩
          dsimp only
          rw [o2]
          refine qy_val hW hX (by omega) (by omega) fun c2 => ?_
          dsimp only
          rw [qy_mul, hp]
          refine ⟨vi, ?_⟩
          by_cases e : qa_fe p = st i
          · refine br_t e ⟨vi, nm_e (nm_r (nI_1 i) ?_)⟩
            rw [← hr.1 e]
            exact H c2 f (by omega)
          · refine br_f e ?_
            rw [← hr.2 e]
            exact nm_e ⟨vi, nm_e (nm_r (nI_1 i) (H c2 f (by omega)))⟩
        have hX' := qe_set hX (show 0 < i by omega) z p (by omega)
        by_cases e : qa_fe p = qa_fe (x i)
        · refine br_t e (nm_r (nI_1 i) ?_)
          have ex : qi_x w K x (upd st i (qa_fe p)) := by
            refine ⟨hX.1, fun v h1 h2 => ?_, hX.2.2⟩
            by_cases y : v = i
            · rw [y, pk_us, e]
            · rw [pk_un y]
              exact hX.2.1 v h1 h2
          exact ih (i + 1) r x _ (by omega) (by omega) (by omega) ex fun post H => walk post r ⟨fun _ => rfl, fun y => absurd (by rw [hs]; exact e) y⟩ H
        · refine br_f e ⟨vi, nm_r (qa_upd _ _ _) (nm_e (nm_r (nI_1 i) ?_))⟩
          exact ih (i + 1) (r + 1) _ _ (by omega) (by omega) (by omega) hX' fun post H => walk post (r + 1) ⟨fun y => absurd (by rw [hs] at y; exact y) e, fun _ => rfl⟩ H
      · have e3 : ¬ nI (K i) = 3 := by rw [show (3 : Int32) = nI 3 by decide, nI_eq (by omega) (by omega)]; exact k3
        refine br_f e3 (nm_r (nI_1 i) ?_)
        refine ih (i + 1) r x st (by omega) (by omega) (by omega) hX fun post H => hY post fun c f hf => ?_
        obtain ⟨f, rfl⟩ : ∃ q, f = q + 1 := ⟨f - 1, by omega⟩
        refine br_f lt ⟨vi, ?_⟩
        rw [cl]
        exact br_f e3 (nm_r (nI_1 i) (H c f (by omega)))
    · obtain rfl : i = w := by omega
      have le : nI i ≤ nI i := nI_le (Nat.le_refl _) (by omega)
      refine br_t le (qx_wc (by omega) (by omega) hQ fun P' hQ' => hY _ fun c f hf => ?_)
      obtain ⟨f, rfl⟩ : ∃ q, f = q + 1 := ⟨f - 1, by omega⟩
      exact br_t le ⟨rfl, qi_mk hN hW hX hC hQ' (Or.inl rfl)⟩
end QM
theorem i_vc_solve {k : Nat} {u : SX} {v : SY} (I : i_Rel k u v) (hk : k + 4 ≤ 2050) : wpX_solve (fun r u' => wpY_solve (fun r' v' => r' = r ∧ i_Rel (k + 4) u' v') v) u := by
  obtain ⟨W, C, w, m, cp, hq, K, L, R, x, F, M, pt, B, P, oa, ob, st, ca, cb, cw, hh, rr, col, bas, pm, pp, zz, rm, rfl, rfl, hN, hW, hX, hC, hQ, hH⟩ := I
  obtain ⟨n1, n2, n3, n4, n5, n6, n7⟩ := id hN
  have h := qs_x (k := k + 4) (hq := hq) (hh := hh) (rr := rr) (bas := bas) (pm := pm) (pp := pp) (zz := zz) (rm := rm) hN hW hC hQ (PY := fun post => wpY_solve post ((nI W), (nI C), (nI w), (nI m), cp, hq, (fun zi => nI (K zi)), oa, ob, st, ca, cb, cw, (fun zi => qa_fe (pt zi)), hh, rr, col, bas, pm, pp, zz, rm)) w 1 0 x st (by omega) (by omega) (by omega) hX (fun post H => ⟨w, H col w (by omega)⟩)
  refine ⟨w + 1, ?_⟩
  have k0 : ¬ nI (K 0) = 3 := by rw [hW.2.2]; decide
  exact br_f (nI_ge (a := 0) (by omega) (by omega)) ⟨vp_in_nI (n := 0) (by omega) (by omega), br_f k0 (nm_r (nI_1 0) h)⟩
theorem i_vc_linearForm {k : Nat} {u : SX} {v : SY} (I : i_Rel k u v) (hk : k + 4 ≤ 2050) (v1 : Int32) (v2 : Int32) : wpX_linearForm (fun r => wpY_linearForm (fun r' v' => r' = r ∧ i_Rel (k + 4) u v') v v1 v2) u v1 v2 := by
  obtain ⟨W, C, w, m, cp, hq, K, L, R, x, F, M, pt, B, P, oa, ob, st, ca, cb, cw, hh, rr, col, bas, pm, pp, zz, rm, rfl, rfl, hN, hW, hX, hC, hQ, hH⟩ := I
  have same : ∀ c : Nat → Int32, i_Rel (k + 4) ((nI W), (nI C), (nI w), (nI m), cp, hq, (fun zi => nI (K zi)), L, R, (fun zi => qa_fe (x zi)), (fun zi => qa_fe (F zi)), (fun zi => qa_fe (M zi)), (fun zi => qa_fe (pt zi)), (fun zi => qa_fe (B zi)), (fun zi => qa_fe (P zi))) ((nI W), (nI C), (nI w), (nI m), cp, hq, (fun zi => nI (K zi)), oa, ob, st, ca, cb, cw, (fun zi => qa_fe (pt zi)), hh, rr, c, bas, pm, pp, zz, rm) := fun c => qi_mk hN hW hX hC hQ hH
  obtain ⟨n1, n2, n3, n4, n5, n6, n7⟩ := id hN
  unfold wpX_linearForm
  rcases pk_ix v1 (n := w) (by omega) with z | z | ⟨a, ha, rfl⟩
  · exact qx_nw (by omega) (Or.inl z) (br_t rfl (br_t z ⟨rfl, same col⟩))
  · exact qx_nw (by omega) (Or.inr z) (br_t rfl (br_f (qm_ge (by omega) z).1 (br_t z ⟨rfl, same col⟩)))
  · refine qx_iw (by omega) ha (br_f (by decide) ?_)
    have a1 : ¬ nI a < 0 := nI_pos (by omega)
    have a2 : ¬ nI w ≤ nI a := nI_ge ha (by omega)
    rcases pk_ix v2 (n := w) (by omega) with z | z | ⟨b, hb, rfl⟩
    · exact qx_niv (by omega) (Or.inl z) (br_t rfl (br_f a1 (br_f a2 (br_t z ⟨rfl, same col⟩))))
    · exact qx_niv (by omega) (Or.inr z) (br_t rfl (br_f a1 (br_f a2 (br_f (qm_ge (by omega) z).1 (br_f (qm_ge (by omega) z).2 ⟨rfl, same col⟩)))))
    · have b1 : ¬ nI b < 0 := nI_pos (by omega)
      have b2 : nI b < nI w := nI_lt hb (by omega)
      have k5 := qi_var hW hb
      refine qx_iv (by omega) hb (by omega) (fun y2 y4 => br_f (by decide) ?_) (fun y => br_t rfl (br_f a1 (br_f a2 (br_f b1 (br_t b2 (qy_var hW (by omega) hb (fun q2 q4 => by omega) (fun _ => br_t rfl ⟨rfl, same col⟩)))))))
      rw [qn_m32, nI_add, nI_clamp (by omega)]
      refine ⟨vp_in_nI (by omega) (by omega), ?_⟩
      refine br_f a1 (br_f a2 (br_f b1 (br_t b2 (qy_var hW (by omega) hb (fun _ _ => br_f (by decide) ?_) (fun q => by omega)))))
      exact qy_form hW (by omega) ha (by omega) fun c => ⟨rfl, same c⟩
section QM
variable {k W C w m : Nat} {cp hq : Int32} {K : Nat → Nat} {L R : Nat → Int32} {x F M pt B P : Nat → Int} {oa ob st ca cb cw hh rr col bas pm pp zz rm : Nat → Int32}
theorem qx_im {post : Int32 → Prop} {t : Nat} (ht : t < 3) (h : post 1) : wpX_isMatrix post (nI t) := by
  have : t = 0 ∨ t = 1 ∨ t = 2 := by omega
  rcases this with rfl | rfl | rfl
  · exact br_t (by decide) h
  · exact br_f (by decide) (br_t (by decide) h)
  · exact br_f (by decide) (br_f (by decide) (br_t (by decide) h))
theorem qx_nim {post : Int32 → Prop} {p : Int32} (hp : p < 0 ∨ nI 3 ≤ p) (h : post 0) : wpX_isMatrix post p := by
  have n0 : ¬ p = 0 := by rintro rfl; revert hp; decide
  have n1 : ¬ p = 1 := by rintro rfl; revert hp; decide
  have n2 : ¬ p = 2 := by rintro rfl; revert hp; decide
  exact br_f n0 (br_f n1 (br_f n2 h))
theorem qm_3 {p : Int32} (h : nI 3 ≤ p) : ¬ p < 0 ∧ ¬ p ≤ 2 := by
  refine ⟨(qm_ge (by omega) h).1, fun z => ?_⟩
  have := Int32.le_trans h z
  exact absurd this (by decide)
theorem qm_t {t n : Nat} (ht : t ≤ n) (hn : n < 2 ^ 31) : ¬ nI t < 0 ∧ nI t ≤ nI n := ⟨nI_pos (by omega), nI_le ht hn⟩
end QM
theorem i_vc_matrixEntry {k : Nat} {u : SX} {v : SY} (I : i_Rel k u v) (hk : k + 4 ≤ 2050) (v1 : Int32) (v2 : Int32) (v3 : Int32) : wpX_matrixEntry (fun r => wpY_matrixEntry (fun r' v' => r' = r ∧ i_Rel (k + 4) u v') v v1 v2 v3) u v1 v2 v3 := by
  obtain ⟨W, C, w, m, cp, hq, K, L, R, x, F, M, pt, B, P, oa, ob, st, ca, cb, cw, hh, rr, col, bas, pm, pp, zz, rm, rfl, rfl, hN, hW, hX, hC, hQ, hH⟩ := I
  have same : ∀ c : Nat → Int32, i_Rel (k + 4) ((nI W), (nI C), (nI w), (nI m), cp, hq, (fun zi => nI (K zi)), L, R, (fun zi => qa_fe (x zi)), (fun zi => qa_fe (F zi)), (fun zi => qa_fe (M zi)), (fun zi => qa_fe (pt zi)), (fun zi => qa_fe (B zi)), (fun zi => qa_fe (P zi))) ((nI W), (nI C), (nI w), (nI m), cp, hq, (fun zi => nI (K zi)), oa, ob, st, ca, cb, cw, (fun zi => qa_fe (pt zi)), hh, rr, c, bas, pm, pp, zz, rm) := fun c => qi_mk hN hW hX hC hQ hH
  obtain ⟨n1, n2, n3, n4, n5, n6, n7⟩ := id hN
  unfold wpX_matrixEntry
  rcases pk_ix v1 (n := 3) (by omega) with z | z | ⟨t, ht, rfl⟩
  · exact qx_nim (Or.inl z) (br_t rfl (br_t z ⟨rfl, same col⟩))
  · exact qx_nim (Or.inr z) (br_t rfl (br_f (qm_3 z).1 (br_f (qm_3 z).2 ⟨rfl, same col⟩)))
  · obtain ⟨t1, t2⟩ := qm_t (show t ≤ 2 by omega) (by omega)
    refine qx_im ht (br_f (by decide) ?_)
    rcases pk_ix v2 (n := m) (by omega) with z | z | ⟨j, hj, rfl⟩
    · exact br_t z (br_f t1 (br_t t2 (br_t z ⟨rfl, same col⟩)))
    · have q := (qm_ge (by omega) z).1
      exact br_f q (br_t z (br_f t1 (br_t t2 (br_f q (br_t z ⟨rfl, same col⟩)))))
    · have j1 : ¬ nI j < 0 := nI_pos (by omega)
      have j2 : ¬ nI m ≤ nI j := nI_ge hj (by omega)
      refine br_f j1 (br_f j2 ?_)
      rcases pk_ix v3 (n := w) (by omega) with z | z | ⟨b, hb, rfl⟩
      · exact qx_niv (by omega) (Or.inl z) (br_t rfl (br_f t1 (br_t t2 (br_f j1 (br_f j2 (br_t z ⟨rfl, same col⟩))))))
      · have q := qm_ge (by omega) z
        exact qx_niv (by omega) (Or.inr z) (br_t rfl (br_f t1 (br_t t2 (br_f j1 (br_f j2 (br_f q.1 (br_f q.2 ⟨rfl, same col⟩)))))))
      · have b1 : ¬ nI b < 0 := nI_pos (by omega)
        have b2 : nI b < nI w := nI_lt hb (by omega)
        have k5 := qi_var hW hb
        refine qx_iv (by omega) hb (by omega) (fun y2 y4 => br_f (by decide) ?_) (fun y => br_t rfl (br_f t1 (br_t t2 (br_f j1 (br_f j2 (br_f b1 (br_t b2 (qy_var hW (by omega) hb (fun q2 q4 => by omega) (fun _ => br_t rfl ⟨rfl, same col⟩)))))))))
        unfold wpX_matrixRow
        rw [qn_m16, nI_add, qn_m32]
        dsimp only
        rw [nI_add, nI_clamp (by omega)]
        refine ⟨vp_in_nI (by omega) (by omega), ?_⟩
        refine br_f t1 (br_t t2 (br_f j1 (br_f j2 (br_f b1 (br_t b2 (qy_var hW (by omega) hb (fun _ _ => br_f (by decide) ?_) (fun q => by omega)))))))
        exact qy_ent hW hC (by omega) (by omega) ht hj (by omega) fun c => ⟨rfl, same c⟩
section QM
variable {k W C w m : Nat} {cp hq : Int32} {K : Nat → Nat} {L R : Nat → Int32} {x F M pt B P : Nat → Int} {oa ob st ca cb cw hh rr col bas pm pp zz rm : Nat → Int32}
theorem qy_cc {post : Int32 → SY → Prop} (hW : qi_w w K L R oa ob F) (hC : qi_c w m F M ca cb cw) (hw : w ≤ 32) (hm : m ≤ 16) {t v l : Nat} (ht : t < 3) (hv : v < 32) (hl : l < m) (h : ∀ c b : Nat → Int32, post (qa_fe (qa_cc M pt m t v l m)) ((nI W), (nI C), (nI w), (nI m), cp, hq, (fun zi => nI (K zi)), oa, ob, st, ca, cb, cw, (fun zi => qa_fe (pt zi)), hh, rr, c, b, pm, pp, zz, rm)) : ∀ n j (c b : Nat → Int32), j ≤ m → m - j < n → wY_columnCoeff_64 post (nI t) (nI v) (nI l) n (qa_fe (qa_cc M pt m t v l j)) (nI j) (nI W) (nI C) (nI w) (nI m) cp hq (fun zi => nI (K zi)) oa ob st ca cb cw (fun zi => qa_fe (pt zi)) hh rr c b pm pp zz rm := by
  intro n
  induction n with
  | zero => intros; omega
  | succ n ih =>
    intro j c b hj hn
    by_cases h1 : j < m
    · refine br_f (nI_ge h1 (by omega)) ?_
      refine qy_ent hW hC hw hm ht h1 hv fun c1 => ?_
      refine qy_fb hm h1 fun b1 hb => ⟨vp_in_nI (by omega) (by omega), ?_⟩
      rw [nI_clamp (by omega), hb l hl, qy_ac]
      exact nm_r (nI_1 j) (ih (j + 1) c1 b1 (by omega) (by omega))
    · obtain rfl : j = m := by omega
      exact br_t (nI_le (Nat.le_refl _) (by omega)) (h c b)
end QM
theorem i_vc_columnCoeff {k : Nat} {u : SX} {v : SY} (I : i_Rel k u v) (hk : k + 4 ≤ 2050) (v1 : Int32) (v2 : Int32) (v3 : Int32) : wpX_columnCoeff (fun r => wpY_columnCoeff (fun r' v' => r' = r ∧ i_Rel (k + 4) u v') v v1 v2 v3) u v1 v2 v3 := by
  obtain ⟨W, C, w, m, cp, hq, K, L, R, x, F, M, pt, B, P, oa, ob, st, ca, cb, cw, hh, rr, col, bas, pm, pp, zz, rm, rfl, rfl, hN, hW, hX, hC, hQ, hH⟩ := I
  have same : ∀ c b : Nat → Int32, i_Rel (k + 4) ((nI W), (nI C), (nI w), (nI m), cp, hq, (fun zi => nI (K zi)), L, R, (fun zi => qa_fe (x zi)), (fun zi => qa_fe (F zi)), (fun zi => qa_fe (M zi)), (fun zi => qa_fe (pt zi)), (fun zi => qa_fe (B zi)), (fun zi => qa_fe (P zi))) ((nI W), (nI C), (nI w), (nI m), cp, hq, (fun zi => nI (K zi)), oa, ob, st, ca, cb, cw, (fun zi => qa_fe (pt zi)), hh, rr, c, b, pm, pp, zz, rm) := fun c b => qi_mk hN hW hX hC hQ hH
  obtain ⟨n1, n2, n3, n4, n5, n6, n7⟩ := id hN
  unfold wpX_columnCoeff
  rcases pk_ix v1 (n := 3) (by omega) with z | z | ⟨t, ht, rfl⟩
  · exact qx_nim (Or.inl z) (br_t rfl (br_t z ⟨rfl, same col bas⟩))
  · exact qx_nim (Or.inr z) (br_t rfl (br_f (qm_3 z).1 (br_f (qm_3 z).2 ⟨rfl, same col bas⟩)))
  · obtain ⟨t1, t2⟩ := qm_t (show t ≤ 2 by omega) (by omega)
    refine qx_im ht (br_f (by decide) ?_)
    rcases id hQ with ⟨rfl, -⟩ | ⟨rfl, m0, hB, -⟩
    · exact br_t rfl (br_f t1 (br_t t2 (br_t rfl ⟨rfl, same col bas⟩)))
    · have c1 : ¬ (1 : Int32) = 0 := by decide
      refine br_f c1 ?_
      rcases pk_ix v2 (n := w) (by omega) with z | z | ⟨b, hb, rfl⟩
      · exact qx_niv (by omega) (Or.inl z) (br_t rfl (br_f t1 (br_t t2 (br_f c1 (br_t z ⟨rfl, same col bas⟩)))))
      · have q := qm_ge (by omega) z
        exact qx_niv (by omega) (Or.inr z) (br_t rfl (br_f t1 (br_t t2 (br_f c1 (br_f q.1 (br_f q.2 ⟨rfl, same col bas⟩))))))
      · have b1 : ¬ nI b < 0 := nI_pos (by omega)
        have b2 : nI b < nI w := nI_lt hb (by omega)
        have k5 := qi_var hW hb
        refine qx_iv (by omega) hb (by omega) (fun y2 y4 => br_f (by decide) ?_) (fun y => br_t rfl (br_f t1 (br_t t2 (br_f c1 (br_f b1 (br_t b2 (qy_var hW (by omega) hb (fun q2 q4 => by omega) (fun _ => br_t rfl ⟨rfl, same col bas⟩))))))))
        have yy : ∀ post : Int32 → SY → Prop, ((v3 < 0 → post (-1) ((nI W), (nI C), (nI w), (nI m), 1, hq, (fun zi => nI (K zi)), oa, ob, st, ca, cb, cw, (fun zi => qa_fe (pt zi)), hh, rr, col, bas, pm, pp, zz, rm)) ∧ (¬ v3 < 0 → ((v3 < nI m → ∃ n, wY_columnCoeff_64 post (nI t) (nI b) v3 n 0 0 (nI W) (nI C) (nI w) (nI m) 1 hq (fun zi => nI (K zi)) oa ob st ca cb cw (fun zi => qa_fe (pt zi)) hh rr col bas pm pp zz rm) ∧ (¬ v3 < nI m → post (-1) ((nI W), (nI C), (nI w), (nI m), 1, hq, (fun zi => nI (K zi)), oa, ob, st, ca, cb, cw, (fun zi => qa_fe (pt zi)), hh, rr, col, bas, pm, pp, zz, rm))))) → wpY_columnCoeff post ((nI W), (nI C), (nI w), (nI m), 1, hq, (fun zi => nI (K zi)), oa, ob, st, ca, cb, cw, (fun zi => qa_fe (pt zi)), hh, rr, col, bas, pm, pp, zz, rm) (nI t) (nI b) v3 := fun post h => br_f t1 (br_t t2 (br_f c1 (br_f b1 (br_t b2 (qy_var hW (by omega) hb (fun _ _ => br_f c1 h) (fun q => by omega))))))
        rcases pk_ix v3 (n := m) (by omega) with z | z | ⟨l, hl, rfl⟩
        · exact br_t z (yy _ (br_t z ⟨rfl, same col bas⟩))
        · have q := qm_ge (by omega) z
          exact br_f q.1 (br_f q.2 (yy _ (br_f q.1 (br_f q.2 ⟨rfl, same col bas⟩))))
        · have l1 : ¬ nI l < 0 := nI_pos (by omega)
          have l2 : nI l < nI m := nI_lt hl (by omega)
          refine br_f l1 (br_t l2 (qx_cc (by omega) ht (by omega) hl hB ?_))
          exact yy _ (br_f l1 (br_t l2 ⟨m + 1, qy_cc hW hC (by omega) (by omega) ht (by omega) hl (fun c b' => ⟨rfl, same c b'⟩) (m + 1) 0 col bas (by omega) (by omega)⟩))
end
section
section QM
variable {k W C w m : Nat} {cp hq : Int32} {K : Nat → Nat} {L R : Nat → Int32} {x F M pt B P : Nat → Int} {oa ob st ca cb cw hh rr col bas pm pp zz rm : Nat → Int32}
theorem qp_rd (hQ : qi_q 1 w m M x pt B P) (hH : qi_h 1 hq m P hh rr) (hm : m ≤ 16) {t : Nat} (ht : t < 7) (hr : hq = 1 ∨ (t ≠ 5 ∧ t ≠ 6)) {p q z : Nat → Int32} (h1 : t < 3 → ∀ k, k < m → p (t * 16 + k) = qa_fe (qa_pz M x pt w m t k)) (h2 : t = 3 → ∀ k, k < 17 → z k = qa_fe (qa_zp pt m k)) (h3 : t = 4 → ∀ k, k < 32 → q k = qa_fe (qa_pp M x pt w m k)) : qy_rd P t m p q z hh rr := by
  rcases hQ with ⟨e, -⟩ | ⟨-, m0, q1, q2, q3, q4, q5⟩
  · exact absurd e (by decide)
  · intro k hk
    have hl := qa_len_le ht hm
    refine ⟨fun h => ?_, fun h => ?_, fun h => ?_, fun h => ?_, fun h => ?_⟩
    · have : k < m := by have := hl.2.2 (by omega) (by omega); omega
      rw [h1 h k this, q3 t k h (by omega), if_pos this]
    · subst h
      rw [h2 rfl k (by omega), ← q2 k (by omega)]
    · subst h
      rw [h3 rfl k (by omega), ← q4 k (by omega)]
    · subst h
      have : k < m := by have := hl.2.2 (by omega) (by omega); omega
      rcases hH with y | y
      · subst y
        rcases hr with y | y
        · exact absurd y (by decide)
        · omega
      · exact (y.2.2 k this).1
    · subst h
      have : k < m := by have := hl.2.2 (by omega) (by omega); omega
      rcases hH with y | y
      · subst y
        rcases hr with y | y
        · exact absurd y (by decide)
        · omega
      · exact (y.2.2 k this).2
theorem qm_7 {p : Int32} (h : nI 7 ≤ p) : ¬ p < 0 ∧ ¬ p ≤ 6 ∧ 6 < p := by
  have h6 : (6 : Int32) < p := Int32.lt_of_lt_of_le (by decide) h
  exact ⟨(qm_ge (by omega) h).1, Int32.not_le.mpr h6, h6⟩
theorem qx_ir {post : Int32 → Prop} {t : Nat} (ht : t < 7) (hr : hq = 1 ∨ (hq = 0 ∧ t ≠ 5 ∧ t ≠ 6)) (h : post 1) : wpX_isReadable post ((nI W), (nI C), (nI w), (nI m), 1, hq, (fun zi => nI (K zi)), L, R, (fun zi => qa_fe (x zi)), (fun zi => qa_fe (F zi)), (fun zi => qa_fe (M zi)), (fun zi => qa_fe (pt zi)), (fun zi => qa_fe (B zi)), (fun zi => qa_fe (P zi))) (nI t) := by
  have t6 : ¬ (6 : Int32) < nI t := Int32.not_lt.mpr (nI_le (b := 6) (by omega) (by omega))
  refine br_f (nI_pos (by omega)) (br_f t6 (br_f (by decide) ?_))
  rcases hr with rfl | ⟨rfl, h5, h6⟩
  · exact br_f (by decide) h
  · refine br_t rfl (br_f ?_ (br_f ?_ h))
    · rw [show (5 : Int32) = nI 5 by decide, nI_eq (by omega) (by omega)]; exact h5
    · rw [show (6 : Int32) = nI 6 by decide, nI_eq (by omega) (by omega)]; exact h6
theorem qx_nir {post : Int32 → Prop} {t : Nat} (h56 : t = 5 ∨ t = 6) (h : post 0) : wpX_isReadable post ((nI W), (nI C), (nI w), (nI m), 1, 0, (fun zi => nI (K zi)), L, R, (fun zi => qa_fe (x zi)), (fun zi => qa_fe (F zi)), (fun zi => qa_fe (M zi)), (fun zi => qa_fe (pt zi)), (fun zi => qa_fe (B zi)), (fun zi => qa_fe (P zi))) (nI t) := by
  rcases h56 with rfl | rfl
  · exact br_f (by decide) (br_f (by decide) (br_f (by decide) (br_t rfl (br_t (by decide) h))))
  · exact br_f (by decide) (br_f (by decide) (br_f (by decide) (br_t rfl (br_f (by decide) (br_t (by decide) h)))))
theorem qx_nir0 {post : Int32 → Prop} {t : Nat} (ht : t < 7) (h : post 0) : wpX_isReadable post ((nI W), (nI C), (nI w), (nI m), 0, hq, (fun zi => nI (K zi)), L, R, (fun zi => qa_fe (x zi)), (fun zi => qa_fe (F zi)), (fun zi => qa_fe (M zi)), (fun zi => qa_fe (pt zi)), (fun zi => qa_fe (B zi)), (fun zi => qa_fe (P zi))) (nI t) := by
  have t6 : ¬ (6 : Int32) < nI t := Int32.not_lt.mpr (nI_le (b := 6) (by omega) (by omega))
  exact br_f (nI_pos (by omega)) (br_f t6 (br_t rfl h))
theorem qx_nir1 {post : Int32 → Prop} {p : Int32} (hp : p < 0 ∨ nI 7 ≤ p) (h : post 0) : wpX_isReadable post ((nI W), (nI C), (nI w), (nI m), cp, hq, (fun zi => nI (K zi)), L, R, (fun zi => qa_fe (x zi)), (fun zi => qa_fe (F zi)), (fun zi => qa_fe (M zi)), (fun zi => qa_fe (pt zi)), (fun zi => qa_fe (B zi)), (fun zi => qa_fe (P zi))) p := by
  rcases hp with z | z
  · exact br_t z h
  · exact br_f (qm_7 z).1 (br_t (qm_7 z).2.2 h)
theorem qi_hq (hH : qi_h cp hq m P hh rr) : hq = 0 ∨ hq = 1 := hH.elim Or.inl (fun z => Or.inr z.1)
theorem qi_m0 (hQ : qi_q 1 w m M x pt B P) : 0 < m := hQ.elim (fun z => absurd z.1 (by decide)) (fun z => z.2.1)
theorem qm_56 (t : Nat) : (t = 5 ∨ t = 6) ∨ (t ≠ 5 ∧ t ≠ 6) := by omega
end QM
theorem i_vc_coeff {k : Nat} {u : SX} {v : SY} (I : i_Rel k u v) (hk : k + 4 ≤ 2050) (v1 : Int32) (v2 : Int32) : wpX_coeff (fun r => wpY_coeff (fun r' v' => r' = r ∧ i_Rel (k + 4) u v') v v1 v2) u v1 v2 := by
  obtain ⟨W, C, w, m, cp, hq, K, L, R, x, F, M, pt, B, P, oa, ob, st, ca, cb, cw, hh, rr, col, bas, pm, pp, zz, rm, rfl, rfl, hN, hW, hX, hC, hQ, hH⟩ := I
  have same : ∀ c b p q z : Nat → Int32, i_Rel (k + 4) ((nI W), (nI C), (nI w), (nI m), cp, hq, (fun zi => nI (K zi)), L, R, (fun zi => qa_fe (x zi)), (fun zi => qa_fe (F zi)), (fun zi => qa_fe (M zi)), (fun zi => qa_fe (pt zi)), (fun zi => qa_fe (B zi)), (fun zi => qa_fe (P zi))) ((nI W), (nI C), (nI w), (nI m), cp, hq, (fun zi => nI (K zi)), oa, ob, st, ca, cb, cw, (fun zi => qa_fe (pt zi)), hh, rr, c, b, p, q, z, rm) := fun c b p q z => qi_mk hN hW hX hC hQ hH
  have same0 := same col bas pm pp zz
  obtain ⟨n1, n2, n3, n4, n5, n6, n7⟩ := id hN
  unfold wpX_coeff
  rcases pk_ix v1 (n := 7) (by omega) with z | z | ⟨t, ht, rfl⟩
  · exact qx_nir1 (Or.inl z) (br_t rfl (br_t z ⟨rfl, same0⟩))
  · exact qx_nir1 (Or.inr z) (br_t rfl (br_f (qm_7 z).1 (br_f (qm_7 z).2.1 ⟨rfl, same0⟩)))
  · have t1 : ¬ nI t < 0 := nI_pos (by omega)
    have t2 : nI t ≤ 6 := nI_le (b := 6) (by omega) (by omega)
    rcases qi_cp hQ with rfl | rfl
    · exact qx_nir0 ht (br_t rfl (br_f t1 (br_t t2 (br_t rfl ⟨rfl, same0⟩))))
    · have c1 : ¬ (1 : Int32) = 0 := by decide
      have m0 := qi_m0 hQ
      have hl := qa_len_le ht (show m ≤ 16 by omega)
      have go : (hq = 1 ∨ (hq = 0 ∧ t ≠ 5 ∧ t ≠ 6)) → (∀ post : Int32 → SY → Prop, wY_coeff_41 post (nI t) v2 (nI W) (nI C) (nI w) (nI m) 1 hq (fun zi => nI (K zi)) oa ob st ca cb cw (fun zi => qa_fe (pt zi)) hh rr col bas pm pp zz rm → wpY_coeff post ((nI W), (nI C), (nI w), (nI m), 1, hq, (fun zi => nI (K zi)), oa, ob, st, ca, cb, cw, (fun zi => qa_fe (pt zi)), hh, rr, col, bas, pm, pp, zz, rm) (nI t) v2) → wpX_isReadable (fun r_1 => (((r_1 = 0 → ((fun r => wpY_coeff (fun r' v' => r' = r ∧ i_Rel (k + 4) ((nI W), (nI C), (nI w), (nI m), 1, hq, (fun zi => nI (K zi)), L, R, (fun zi => qa_fe (x zi)), (fun zi => qa_fe (F zi)), (fun zi => qa_fe (M zi)), (fun zi => qa_fe (pt zi)), (fun zi => qa_fe (B zi)), (fun zi => qa_fe (P zi))) v') ((nI W), (nI C), (nI w), (nI m), 1, hq, (fun zi => nI (K zi)), oa, ob, st, ca, cb, cw, (fun zi => qa_fe (pt zi)), hh, rr, col, bas, pm, pp, zz, rm) (nI t) v2) (-1))) ∧ (¬ r_1 = 0 → (((v2 < 0 → ((fun r => wpY_coeff (fun r' v' => r' = r ∧ i_Rel (k + 4) ((nI W), (nI C), (nI w), (nI m), 1, hq, (fun zi => nI (K zi)), L, R, (fun zi => qa_fe (x zi)), (fun zi => qa_fe (F zi)), (fun zi => qa_fe (M zi)), (fun zi => qa_fe (pt zi)), (fun zi => qa_fe (B zi)), (fun zi => qa_fe (P zi))) v') ((nI W), (nI C), (nI w), (nI m), 1, hq, (fun zi => nI (K zi)), oa, ob, st, ca, cb, cw, (fun zi => qa_fe (pt zi)), hh, rr, col, bas, pm, pp, zz, rm) (nI t) v2) (-1))) ∧ (¬ v2 < 0 → (wpX_polyLength (fun r_19 => (((v2 < r_19 → (vp_in ((nI t * 32) + v2) 224 ∧ ((fun r => wpY_coeff (fun r' v' => r' = r ∧ i_Rel (k + 4) ((nI W), (nI C), (nI w), (nI m), 1, hq, (fun zi => nI (K zi)), L, R, (fun zi => qa_fe (x zi)), (fun zi => qa_fe (F zi)), (fun zi => qa_fe (M zi)), (fun zi => qa_fe (pt zi)), (fun zi => qa_fe (B zi)), (fun zi => qa_fe (P zi))) v') ((nI W), (nI C), (nI w), (nI m), 1, hq, (fun zi => nI (K zi)), oa, ob, st, ca, cb, cw, (fun zi => qa_fe (pt zi)), hh, rr, col, bas, pm, pp, zz, rm) (nI t) v2) ((fun zi => qa_fe (P zi)) ((nI t * 32) + v2).toNatClampNeg)))) ∧ (¬ v2 < r_19 → ((fun r => wpY_coeff (fun r' v' => r' = r ∧ i_Rel (k + 4) ((nI W), (nI C), (nI w), (nI m), 1, hq, (fun zi => nI (K zi)), L, R, (fun zi => qa_fe (x zi)), (fun zi => qa_fe (F zi)), (fun zi => qa_fe (M zi)), (fun zi => qa_fe (pt zi)), (fun zi => qa_fe (B zi)), (fun zi => qa_fe (P zi))) v') ((nI W), (nI C), (nI w), (nI m), 1, hq, (fun zi => nI (K zi)), oa, ob, st, ca, cb, cw, (fun zi => qa_fe (pt zi)), hh, rr, col, bas, pm, pp, zz, rm) (nI t) v2) (-1)))))) ((nI W), (nI C), (nI w), (nI m), 1, hq, (fun zi => nI (K zi)), L, R, (fun zi => qa_fe (x zi)), (fun zi => qa_fe (F zi)), (fun zi => qa_fe (M zi)), (fun zi => qa_fe (pt zi)), (fun zi => qa_fe (B zi)), (fun zi => qa_fe (P zi))) (nI t))))))))) ((nI W), (nI C), (nI w), (nI m), 1, hq, (fun zi => nI (K zi)), L, R, (fun zi => qa_fe (x zi)), (fun zi => qa_fe (F zi)), (fun zi => qa_fe (M zi)), (fun zi => qa_fe (pt zi)), (fun zi => qa_fe (B zi)), (fun zi => qa_fe (P zi))) (nI t) := by
        intro hr hY
        refine qx_ir ht hr (br_f c1 ?_)
        rcases pk_ix v2 (n := qa_len t m) (by omega) with z | z | ⟨l, hlt, rfl⟩
        · exact br_t z (hY _ (qy_len ht m0 (by omega) (br_t z ⟨rfl, same0⟩)))
        · have q := qm_ge (by omega) z
          exact br_f q.1 (qx_len ht m0 (by omega) (br_f q.2 (hY _ (qy_len ht m0 (by omega) (br_f q.1 (br_f q.2 ⟨rfl, same0⟩))))))
        · have l1 : ¬ nI l < 0 := nI_pos (by omega)
          have l2 : nI l < nI (qa_len t m) := nI_lt hlt (by omega)
          refine br_f l1 (qx_len ht m0 (by omega) (br_t l2 ?_))
          rw [qn_m32, nI_add, nI_clamp (by omega)]
          refine ⟨vp_in_nI (by omega) (by omega), hY _ (qy_len ht m0 (by omega) (br_f l1 (br_t l2 ?_)))⟩
          refine qy_ff hW hX hC (by omega) (by omega) ht fun c b p q z h1 h2 h3 => ?_
          exact qy_rc ht (by omega) (qp_rd hQ hH (by omega) ht (hr.elim Or.inl (fun y => Or.inr y.2)) h1 h2 h3) hlt ⟨rfl, same c b p q z⟩
      rcases qm_56 t with h56 | h56
      · rcases qi_hq hH with rfl | rfl
        · refine qx_nir h56 (br_t rfl (br_f t1 (br_t t2 (br_f c1 ?_))))
          rcases h56 with rfl | rfl
          · exact br_t (by decide) (br_t rfl ⟨rfl, same0⟩)
          · exact br_f (by decide) (br_t (by decide) (br_t rfl ⟨rfl, same0⟩))
        · refine go (Or.inl rfl) fun post h => br_f t1 (br_t t2 (br_f c1 ?_))
          rcases h56 with rfl | rfl
          · exact br_t (by decide) (br_f c1 h)
          · exact br_f (by decide) (br_t (by decide) (br_f c1 h))
      · refine go ((qi_hq hH).elim (fun y => Or.inr ⟨y, h56⟩) Or.inl) fun post h => br_f t1 (br_t t2 (br_f c1 (br_f ?_ (br_f ?_ h))))
        · rw [show (5 : Int32) = nI 5 by decide, nI_eq (by omega) (by omega)]; exact h56.1
        · rw [show (6 : Int32) = nI 6 by decide, nI_eq (by omega) (by omega)]; exact h56.2
theorem i_vc_evaluate {k : Nat} {u : SX} {v : SY} (I : i_Rel k u v) (hk : k + 4 ≤ 2050) (v1 : Int32) (v2 : Int32) : wpX_evaluate (fun r => wpY_evaluate (fun r' v' => r' = r ∧ i_Rel (k + 4) u v') v v1 v2) u v1 v2 := by
  obtain ⟨W, C, w, m, cp, hq, K, L, R, x, F, M, pt, B, P, oa, ob, st, ca, cb, cw, hh, rr, col, bas, pm, pp, zz, rm, rfl, rfl, hN, hW, hX, hC, hQ, hH⟩ := I
  have same : ∀ c b p q z : Nat → Int32, i_Rel (k + 4) ((nI W), (nI C), (nI w), (nI m), cp, hq, (fun zi => nI (K zi)), L, R, (fun zi => qa_fe (x zi)), (fun zi => qa_fe (F zi)), (fun zi => qa_fe (M zi)), (fun zi => qa_fe (pt zi)), (fun zi => qa_fe (B zi)), (fun zi => qa_fe (P zi))) ((nI W), (nI C), (nI w), (nI m), cp, hq, (fun zi => nI (K zi)), oa, ob, st, ca, cb, cw, (fun zi => qa_fe (pt zi)), hh, rr, c, b, p, q, z, rm) := fun c b p q z => qi_mk hN hW hX hC hQ hH
  have same0 := same col bas pm pp zz
  obtain ⟨n1, n2, n3, n4, n5, n6, n7⟩ := id hN
  unfold wpX_evaluate
  rcases pk_ix v1 (n := 7) (by omega) with z | z | ⟨t, ht, rfl⟩
  · exact qx_nir1 (Or.inl z) (br_t rfl (br_t z ⟨rfl, same0⟩))
  · exact qx_nir1 (Or.inr z) (br_t rfl (br_f (qm_7 z).1 (br_f (qm_7 z).2.1 ⟨rfl, same0⟩)))
  · have t1 : ¬ nI t < 0 := nI_pos (by omega)
    have t2 : nI t ≤ 6 := nI_le (b := 6) (by omega) (by omega)
    rcases qi_cp hQ with rfl | rfl
    · exact qx_nir0 ht (br_t rfl (br_f t1 (br_t t2 (br_t rfl ⟨rfl, same0⟩))))
    · have c1 : ¬ (1 : Int32) = 0 := by decide
      have m0 := qi_m0 hQ
      have go : (hq = 1 ∨ (hq = 0 ∧ t ≠ 5 ∧ t ≠ 6)) → (∀ post : Int32 → SY → Prop, wY_evaluate_41 post (nI t) v2 (nI W) (nI C) (nI w) (nI m) 1 hq (fun zi => nI (K zi)) oa ob st ca cb cw (fun zi => qa_fe (pt zi)) hh rr col bas pm pp zz rm → wpY_evaluate post ((nI W), (nI C), (nI w), (nI m), 1, hq, (fun zi => nI (K zi)), oa, ob, st, ca, cb, cw, (fun zi => qa_fe (pt zi)), hh, rr, col, bas, pm, pp, zz, rm) (nI t) v2) → wpX_isReadable (fun r_1 => (((r_1 = 0 → ((fun r => wpY_evaluate (fun r' v' => r' = r ∧ i_Rel (k + 4) ((nI W), (nI C), (nI w), (nI m), 1, hq, (fun zi => nI (K zi)), L, R, (fun zi => qa_fe (x zi)), (fun zi => qa_fe (F zi)), (fun zi => qa_fe (M zi)), (fun zi => qa_fe (pt zi)), (fun zi => qa_fe (B zi)), (fun zi => qa_fe (P zi))) v') ((nI W), (nI C), (nI w), (nI m), 1, hq, (fun zi => nI (K zi)), oa, ob, st, ca, cb, cw, (fun zi => qa_fe (pt zi)), hh, rr, col, bas, pm, pp, zz, rm) (nI t) v2) (-1))) ∧ (¬ r_1 = 0 → (wpX_reduce (fun r_18 => (wpX_polyValue (fun r_19 => ((fun r => wpY_evaluate (fun r' v' => r' = r ∧ i_Rel (k + 4) ((nI W), (nI C), (nI w), (nI m), 1, hq, (fun zi => nI (K zi)), L, R, (fun zi => qa_fe (x zi)), (fun zi => qa_fe (F zi)), (fun zi => qa_fe (M zi)), (fun zi => qa_fe (pt zi)), (fun zi => qa_fe (B zi)), (fun zi => qa_fe (P zi))) v') ((nI W), (nI C), (nI w), (nI m), 1, hq, (fun zi => nI (K zi)), oa, ob, st, ca, cb, cw, (fun zi => qa_fe (pt zi)), hh, rr, col, bas, pm, pp, zz, rm) (nI t) v2) r_19)) ((nI W), (nI C), (nI w), (nI m), 1, hq, (fun zi => nI (K zi)), L, R, (fun zi => qa_fe (x zi)), (fun zi => qa_fe (F zi)), (fun zi => qa_fe (M zi)), (fun zi => qa_fe (pt zi)), (fun zi => qa_fe (B zi)), (fun zi => qa_fe (P zi))) (nI t) r_18)) v2))))) ((nI W), (nI C), (nI w), (nI m), 1, hq, (fun zi => nI (K zi)), L, R, (fun zi => qa_fe (x zi)), (fun zi => qa_fe (F zi)), (fun zi => qa_fe (M zi)), (fun zi => qa_fe (pt zi)), (fun zi => qa_fe (B zi)), (fun zi => qa_fe (P zi))) (nI t) := by
        intro hr hY
        refine qx_ir ht hr (br_f c1 ?_)
        rw [qx_red]
        refine qx_pv ht m0 (by omega) _ (hY _ ?_)
        unfold wY_evaluate_41
        rw [qy_i]
        refine qy_ff hW hX hC (by omega) (by omega) ht fun c b p q z h1 h2 h3 => ?_
        exact qy_ho ht m0 (by omega) (qp_rd hQ hH (by omega) ht (hr.elim Or.inl (fun y => Or.inr y.2)) h1 h2 h3) _ ⟨rfl, same c b p q z⟩
      rcases qm_56 t with h56 | h56
      · rcases qi_hq hH with rfl | rfl
        · refine qx_nir h56 (br_t rfl (br_f t1 (br_t t2 (br_f c1 ?_))))
          rcases h56 with rfl | rfl
          · exact br_t (by decide) (br_t rfl ⟨rfl, same0⟩)
          · exact br_f (by decide) (br_t (by decide) (br_t rfl ⟨rfl, same0⟩))
        · refine go (Or.inl rfl) fun post h => br_f t1 (br_t t2 (br_f c1 ?_))
          rcases h56 with rfl | rfl
          · exact br_t (by decide) (br_f c1 h)
          · exact br_f (by decide) (br_t (by decide) (br_f c1 h))
      · refine go ((qi_hq hH).elim (fun y => Or.inr ⟨y, h56⟩) Or.inl) fun post h => br_f t1 (br_t t2 (br_f c1 (br_f ?_ (br_f ?_ h))))
        · rw [show (5 : Int32) = nI 5 by decide, nI_eq (by omega) (by omega)]; exact h56.1
        · rw [show (6 : Int32) = nI 6 by decide, nI_eq (by omega) (by omega)]; exact h56.2
theorem i_vc_checkAt {k : Nat} {u : SX} {v : SY} (I : i_Rel k u v) (hk : k + 4 ≤ 2050) (v1 : Int32) : wpX_checkAt (fun r => wpY_checkAt (fun r' v' => r' = r ∧ i_Rel (k + 4) u v') v v1) u v1 := by
  obtain ⟨W, C, w, m, cp, hq, K, L, R, x, F, M, pt, B, P, oa, ob, st, ca, cb, cw, hh, rr, col, bas, pm, pp, zz, rm, rfl, rfl, hN, hW, hX, hC, hQ, hH⟩ := I
  have same : ∀ c b p q z : Nat → Int32, i_Rel (k + 4) ((nI W), (nI C), (nI w), (nI m), cp, hq, (fun zi => nI (K zi)), L, R, (fun zi => qa_fe (x zi)), (fun zi => qa_fe (F zi)), (fun zi => qa_fe (M zi)), (fun zi => qa_fe (pt zi)), (fun zi => qa_fe (B zi)), (fun zi => qa_fe (P zi))) ((nI W), (nI C), (nI w), (nI m), cp, hq, (fun zi => nI (K zi)), oa, ob, st, ca, cb, cw, (fun zi => qa_fe (pt zi)), hh, rr, c, b, p, q, z, rm) := fun c b p q z => qi_mk hN hW hX hC hQ hH
  obtain ⟨n1, n2, n3, n4, n5, n6, n7⟩ := id hN
  rcases id hH with rfl | ⟨rfl, rfl, hHR⟩
  · exact br_t rfl (br_t rfl ⟨rfl, same col bas pm pp zz⟩)
  · have c1 : ¬ (1 : Int32) = 0 := by decide
    have m0 := qi_m0 hQ
    refine br_f c1 ?_
    rw [qx_red]
    refine qx_pv (t := 5) (by omega) m0 (by omega) _ ?_
    refine qx_pv (t := 3) (by omega) m0 (by omega) _ ?_
    refine qx_pv (t := 4) (by omega) m0 (by omega) _ ?_
    rw [qx_mul]
    have yy : ∀ post : Int32 → SY → Prop, (∀ c b p q z : Nat → Int32, (qa_fe (qa_ho (fun k => P (4 * 32 + k)) v1.toInt (qa_len 4 m) 0) = qa_fe (qa_ho (fun k => P (5 * 32 + k)) v1.toInt (qa_len 5 m) 0 * qa_ho (fun k => P (3 * 32 + k)) v1.toInt (qa_len 3 m) 0) → post 1 ((nI W), (nI C), (nI w), (nI m), 1, 1, (fun zi => nI (K zi)), oa, ob, st, ca, cb, cw, (fun zi => qa_fe (pt zi)), hh, rr, c, b, p, q, z, rm)) ∧ (¬ qa_fe (qa_ho (fun k => P (4 * 32 + k)) v1.toInt (qa_len 4 m) 0) = qa_fe (qa_ho (fun k => P (5 * 32 + k)) v1.toInt (qa_len 5 m) 0 * qa_ho (fun k => P (3 * 32 + k)) v1.toInt (qa_len 3 m) 0) → post 0 ((nI W), (nI C), (nI w), (nI m), 1, 1, (fun zi => nI (K zi)), oa, ob, st, ca, cb, cw, (fun zi => qa_fe (pt zi)), hh, rr, c, b, p, q, z, rm))) → wpY_checkAt post ((nI W), (nI C), (nI w), (nI m), 1, 1, (fun zi => nI (K zi)), oa, ob, st, ca, cb, cw, (fun zi => qa_fe (pt zi)), hh, rr, col, bas, pm, pp, zz, rm) v1 := by
      intro post h
      refine br_f c1 ?_
      rw [qy_i]
      refine qy_ff (t := 4) hW hX hC (by omega) (by omega) (by omega) fun c b p q z h1 h2 h3 => ?_
      refine qy_ho (t := 4) (by omega) m0 (by omega) (qp_rd (z := z) hQ hH (by omega) (by omega) (Or.inl rfl) h1 h2 h3) _ ?_
      refine qy_ho (t := 5) (P := P) (by omega) m0 (by omega) (qp_rd (p := p) (q := q) (z := z) hQ hH (by omega) (by omega) (Or.inl rfl) (fun e => absurd e (by omega)) (fun e => absurd e (by omega)) (fun e => absurd e (by omega))) _ ?_
      refine qy_Z (by omega) fun z' hz => ?_
      refine qy_ho (t := 3) (P := P) (by omega) m0 (by omega) (qp_rd (p := p) (q := q) (z := z') hQ hH (by omega) (by omega) (Or.inl rfl) (fun e => absurd e (by omega)) (fun _ => hz) (fun e => absurd e (by omega))) _ ?_
      rw [qy_mul]
      exact h c b p q z'
    by_cases e : qa_fe (qa_ho (fun k => P (4 * 32 + k)) v1.toInt (qa_len 4 m) 0) = qa_fe (qa_ho (fun k => P (5 * 32 + k)) v1.toInt (qa_len 5 m) 0 * qa_ho (fun k => P (3 * 32 + k)) v1.toInt (qa_len 3 m) 0)
    · exact br_t e (yy _ fun c b p q z => br_t e ⟨rfl, same c b p q z⟩)
    · exact br_f e (yy _ fun c b p q z => br_f e ⟨rfl, same c b p q z⟩)
theorem i_vc_divide {k : Nat} {u : SX} {v : SY} (I : i_Rel k u v) (hk : k + 4 ≤ 2050) : wpX_divide (fun r u' => wpY_divide (fun r' v' => r' = r ∧ i_Rel (k + 4) u' v') v) u := by
  obtain ⟨W, C, w, m, cp, hq, K, L, R, x, F, M, pt, B, P, oa, ob, st, ca, cb, cw, hh, rr, col, bas, pm, pp, zz, rm, rfl, rfl, hN, hW, hX, hC, hQ, hH⟩ := I
  have same : i_Rel (k + 4) ((nI W), (nI C), (nI w), (nI m), cp, hq, (fun zi => nI (K zi)), L, R, (fun zi => qa_fe (x zi)), (fun zi => qa_fe (F zi)), (fun zi => qa_fe (M zi)), (fun zi => qa_fe (pt zi)), (fun zi => qa_fe (B zi)), (fun zi => qa_fe (P zi))) ((nI W), (nI C), (nI w), (nI m), cp, hq, (fun zi => nI (K zi)), oa, ob, st, ca, cb, cw, (fun zi => qa_fe (pt zi)), hh, rr, col, bas, pm, pp, zz, rm) := qi_mk hN hW hX hC hQ hH
  obtain ⟨n1, n2, n3, n4, n5, n6, n7⟩ := id hN
  rcases id hQ with ⟨rfl, -⟩ | ⟨rfl, m0, q1, q2, q3, q4, q5⟩
  · exact br_t rfl (br_t rfl ⟨rfl, same⟩)
  · have c1 : ¬ (1 : Int32) = 0 := by decide
    refine br_f c1 ?_
    refine qx_bq m0 (by omega) (qa_zp pt m) q2 fun P' p1 p2 p3 => ?_
    have cg := qa_rm_c (Z := qa_zp pt m) (g := fun k => P (128 + k)) (g' := qa_pp M x pt w m) (m := m) (by omega) m0 q4
    have eH : ∀ k, k < 32 → P' (160 + k) = qa_hh (qa_zp pt m) (qa_pp M x pt w m) m k := by
      intro k hk
      rw [p2 k hk]
      unfold qa_hh
      by_cases y : k + 1 < m
      · rw [if_pos y, if_pos y, if_pos y, cg _ _ (by omega)]
      · rw [if_neg y, if_neg y, q5 k (by omega) hk]
    have eR : ∀ k, k < 32 → P' (192 + k) = qa_rr (qa_zp pt m) (qa_pp M x pt w m) m k := by
      intro k hk
      rw [p3 k hk]
      exact cg _ _ hk
    have hQ' : qi_q 1 w m M x pt B P' := Or.inr ⟨rfl, m0, q1, fun k hk => by rw [p1 _ (by omega), q2 k hk], fun t k ht hk => by rw [p1 _ (by omega), q3 t k ht hk], fun k hk => by rw [p1 _ (by omega), q4 k hk], fun k h1 h2 => by rw [eH k h2]; unfold qa_hh; rw [if_neg (by omega)]⟩
    have rel : ∀ c b p q z a b' r : Nat → Int32, (∀ k, k < m → a k = qa_fe (qa_hh (qa_zp pt m) (qa_pp M x pt w m) m k) ∧ b' k = qa_fe (qa_rr (qa_zp pt m) (qa_pp M x pt w m) m k)) → i_Rel (k + 4) ((nI W), (nI C), (nI w), (nI m), 1, 1, (fun zi => nI (K zi)), L, R, (fun zi => qa_fe (x zi)), (fun zi => qa_fe (F zi)), (fun zi => qa_fe (M zi)), (fun zi => qa_fe (pt zi)), (fun zi => qa_fe (B zi)), (fun zi => qa_fe (P' zi))) ((nI W), (nI C), (nI w), (nI m), 1, 1, (fun zi => nI (K zi)), oa, ob, st, ca, cb, cw, (fun zi => qa_fe (pt zi)), a, b', c, b, p, q, z, r) :=
      fun c b p q z a b' r hab => qi_mk hN hW hX hC hQ' (Or.inr ⟨rfl, rfl, fun k hk => ⟨by rw [(hab k hk).1, eH k (by omega)], by rw [(hab k hk).2, eR k (by omega)]⟩⟩)
    have iff : qa_rz P' m ↔ ∀ k, k < m → qa_fe (qa_rr (qa_zp pt m) (qa_pp M x pt w m) m k) = 0 :=
      ⟨fun h k hk => by rw [← eR k (by omega)]; exact h k hk, fun h k hk => by rw [eR k (by omega)]; exact h k hk⟩
    refine qx_rz (by omega) (fun d => br_f c1 ?_) (fun d => br_t rfl ?_)
    · exact qy_dv hW hX hC (by omega) m0 (by omega) (fun _ c b p q z a b' r hab => ⟨rfl, rel c b p q z a b' r hab⟩) (fun y => absurd (iff.mp d) y)
    · exact qy_dv hW hX hC (by omega) m0 (by omega) (fun y => absurd (iff.mpr y) d) (fun _ c b p q z a b' r hab => ⟨rfl, rel c b p q z a b' r hab⟩)
end
section
theorem i_vc_info {k : Nat} {u : SX} {v : SY} (I : i_Rel k u v) (hk : k + 4 ≤ 2050) (v1 : Int32) (v2 : Int32) : wpX_info (fun r => wpY_info (fun r' v' => r' = r ∧ i_Rel (k + 4) u v') v v1 v2) u v1 v2 := by
  obtain ⟨W, C, w, m, cp, hq, K, L, R, x, F, M, pt, B, P, oa, ob, st, ca, cb, cw, hh, rr, col, bas, pm, pp, zz, rm, rfl, rfl, hN, hW, hX, hC, hQ, hH⟩ := I
  have same : ∀ c : Nat → Int32, i_Rel (k + 4) ((nI W), (nI C), (nI w), (nI m), cp, hq, (fun zi => nI (K zi)), L, R, (fun zi => qa_fe (x zi)), (fun zi => qa_fe (F zi)), (fun zi => qa_fe (M zi)), (fun zi => qa_fe (pt zi)), (fun zi => qa_fe (B zi)), (fun zi => qa_fe (P zi))) ((nI W), (nI C), (nI w), (nI m), cp, hq, (fun zi => nI (K zi)), oa, ob, st, ca, cb, cw, (fun zi => qa_fe (pt zi)), hh, rr, c, bas, pm, pp, zz, rm) := fun c => qi_mk hN hW hX hC hQ hH
  have s0 := same col
  obtain ⟨n1, n2, n3, n4, n5, n6, n7⟩ := id hN
  rcases pk_ix v1 (n := 10) (by omega) with z | z | ⟨t, ht, rfl⟩
  · have ne : ∀ j : Nat, j < 10 → ¬ v1 = nI j := fun j hj e => nI_pos (n := j) (by omega) (by rw [← e]; exact z)
    exact br_t z (br_f (ne 0 (by omega)) (br_f (ne 1 (by omega)) (br_f (ne 2 (by omega)) (br_f (ne 3 (by omega)) (br_f (ne 4 (by omega)) (br_f (ne 5 (by omega)) (br_f (ne 6 (by omega)) (br_f (ne 7 (by omega)) (br_f (ne 8 (by omega)) (br_f (ne 9 (by omega)) ⟨rfl, s0⟩))))))))))
  · have ne : ∀ j : Nat, j < 10 → ¬ v1 = nI j := fun j hj e => nI_ge (a := j) (b := 10) hj (by omega) (by rw [← e]; exact z)
    have h9 : (9 : Int32) < v1 := Int32.lt_of_lt_of_le (by decide) z
    exact br_f (qm_ge (by omega) z).1 (br_t h9 (br_f (ne 0 (by omega)) (br_f (ne 1 (by omega)) (br_f (ne 2 (by omega)) (br_f (ne 3 (by omega)) (br_f (ne 4 (by omega)) (br_f (ne 5 (by omega)) (br_f (ne 6 (by omega)) (br_f (ne 7 (by omega)) (br_f (ne 8 (by omega)) (br_f (ne 9 (by omega)) ⟨rfl, s0⟩)))))))))))
  · refine br_f (nI_pos (by omega)) (br_f (Int32.not_lt.mpr (nI_le (b := 9) (by omega) (by omega))) ?_)
    have d : t = 0 ∨ t = 1 ∨ t = 2 ∨ t = 3 ∨ t = 4 ∨ t = 5 ∨ t = 6 ∨ t = 7 ∨ t = 8 ∨ t = 9 := by omega
    rcases d with rfl | rfl | rfl | rfl | rfl | rfl | rfl | rfl | rfl | rfl
    · exact br_t (by decide) (br_t (by decide) ⟨rfl, s0⟩)
    · exact br_f (by decide) (br_t (by decide) (br_f (by decide) (br_t (by decide) ⟨rfl, s0⟩)))
    · refine br_f (by decide) (br_f (by decide) (br_t (by decide) ?_))
      by_cases e : cp = 0
      · exact br_t e (br_f (by decide) (br_f (by decide) (br_t (by decide) (br_t e ⟨rfl, s0⟩))))
      · exact br_f e (br_f (by decide) (br_f (by decide) (br_t (by decide) (br_f e ⟨rfl, s0⟩))))
    · refine br_f (by decide) (br_f (by decide) (br_f (by decide) (br_t (by decide) ?_)))
      by_cases e : hq = 0
      · exact br_t e (br_f (by decide) (br_f (by decide) (br_f (by decide) (br_t (by decide) (br_t e ⟨rfl, s0⟩)))))
      · exact br_f e (br_f (by decide) (br_f (by decide) (br_f (by decide) (br_t (by decide) (br_f e ⟨rfl, s0⟩)))))
    · refine br_f (by decide) (br_f (by decide) (br_f (by decide) (br_f (by decide) (br_t (by decide) ?_))))
      have yy : ∀ post : Int32 → SY → Prop, (qa_sat M x w m → ∀ c : Nat → Int32, post 1 ((nI W), (nI C), (nI w), (nI m), cp, hq, (fun zi => nI (K zi)), oa, ob, st, ca, cb, cw, (fun zi => qa_fe (pt zi)), hh, rr, c, bas, pm, pp, zz, rm)) → (¬ qa_sat M x w m → ∀ c : Nat → Int32, post 0 ((nI W), (nI C), (nI w), (nI m), cp, hq, (fun zi => nI (K zi)), oa, ob, st, ca, cb, cw, (fun zi => qa_fe (pt zi)), hh, rr, c, bas, pm, pp, zz, rm)) → wpY_info post ((nI W), (nI C), (nI w), (nI m), cp, hq, (fun zi => nI (K zi)), oa, ob, st, ca, cb, cw, (fun zi => qa_fe (pt zi)), hh, rr, col, bas, pm, pp, zz, rm) (nI 4) v2 := by
        intro post h1 h0
        refine br_f (by decide) (br_f (by decide) (br_f (by decide) (br_f (by decide) (br_t (by decide) ?_))))
        exact qy_sat hW hX hC (by omega) (by omega) (fun s c => br_f (by decide) (h1 s c)) (fun s c => br_t rfl (h0 s c))
      refine qx_sat (by omega) (by omega) (fun s => br_f (by decide) ?_) (fun s => br_t rfl ?_)
      · exact yy _ (fun _ c => ⟨rfl, same c⟩) (fun y => absurd s y)
      · exact yy _ (fun y => absurd y s) (fun _ c => ⟨rfl, same c⟩)
    · refine br_f (by decide) (br_f (by decide) (br_f (by decide) (br_f (by decide) (br_f (by decide) (br_t (by decide) ?_)))))
      have yy : ∀ post : Int32 → SY → Prop, ((v2 < 0 → post (-1) ((nI W), (nI C), (nI w), (nI m), cp, hq, (fun zi => nI (K zi)), oa, ob, st, ca, cb, cw, (fun zi => qa_fe (pt zi)), hh, rr, col, bas, pm, pp, zz, rm)) ∧ (¬ v2 < 0 → ((v2 < nI w → (vp_in v2 32 ∧ post (nI (K v2.toNatClampNeg)) ((nI W), (nI C), (nI w), (nI m), cp, hq, (fun zi => nI (K zi)), oa, ob, st, ca, cb, cw, (fun zi => qa_fe (pt zi)), hh, rr, col, bas, pm, pp, zz, rm))) ∧ (¬ v2 < nI w → post (-1) ((nI W), (nI C), (nI w), (nI m), cp, hq, (fun zi => nI (K zi)), oa, ob, st, ca, cb, cw, (fun zi => qa_fe (pt zi)), hh, rr, col, bas, pm, pp, zz, rm))))) → wpY_info post ((nI W), (nI C), (nI w), (nI m), cp, hq, (fun zi => nI (K zi)), oa, ob, st, ca, cb, cw, (fun zi => qa_fe (pt zi)), hh, rr, col, bas, pm, pp, zz, rm) (nI 5) v2 := fun post h =>
        br_f (by decide) (br_f (by decide) (br_f (by decide) (br_f (by decide) (br_f (by decide) (br_t (by decide) h)))))
      rcases pk_ix v2 (n := w) (by omega) with z | z | ⟨a, ha, rfl⟩
      · exact qx_nw (by omega) (Or.inl z) (br_t rfl (yy _ (br_t z ⟨rfl, s0⟩)))
      · have q := qm_ge (by omega) z
        exact qx_nw (by omega) (Or.inr z) (br_t rfl (yy _ (br_f q.1 (br_f q.2 ⟨rfl, s0⟩))))
      · have vi : vp_in (nI a) 32 := vp_in_nI (by omega) (by omega)
        exact qx_iw (by omega) ha (br_f (by decide) ⟨vi, yy _ (br_f (nI_pos (by omega)) (br_t (nI_lt ha (by omega)) ⟨vi, rfl, s0⟩))⟩)
    · refine br_f (by decide) (br_f (by decide) (br_f (by decide) (br_f (by decide) (br_f (by decide) (br_f (by decide) (br_t (by decide) ?_))))))
      have yy : ∀ post : Int32 → SY → Prop, ((v2 < 0 → post (-1) ((nI W), (nI C), (nI w), (nI m), cp, hq, (fun zi => nI (K zi)), oa, ob, st, ca, cb, cw, (fun zi => qa_fe (pt zi)), hh, rr, col, bas, pm, pp, zz, rm)) ∧ (¬ v2 < 0 → ((v2 < nI w → wpY_value (fun r_16 u => match u with | (a1, a2, a3, a4, a5, a6, a7, a8, a9, a10, a11, a12, a13, a14, a15, a16, a17, a18, a19, a20, a21, a22) => post r_16 (a1, a2, a3, a4, a5, a6, a7, a8, a9, a10, a11, a12, a13, a14, a15, a16, a17, a18, a19, a20, a21, a22)) ((nI W), (nI C), (nI w), (nI m), cp, hq, (fun zi => nI (K zi)), oa, ob, st, ca, cb, cw, (fun zi => qa_fe (pt zi)), hh, rr, col, bas, pm, pp, zz, rm) v2) ∧ (¬ v2 < nI w → post (-1) ((nI W), (nI C), (nI w), (nI m), cp, hq, (fun zi => nI (K zi)), oa, ob, st, ca, cb, cw, (fun zi => qa_fe (pt zi)), hh, rr, col, bas, pm, pp, zz, rm))))) → wpY_info post ((nI W), (nI C), (nI w), (nI m), cp, hq, (fun zi => nI (K zi)), oa, ob, st, ca, cb, cw, (fun zi => qa_fe (pt zi)), hh, rr, col, bas, pm, pp, zz, rm) (nI 6) v2 := fun post h =>
        br_f (by decide) (br_f (by decide) (br_f (by decide) (br_f (by decide) (br_f (by decide) (br_f (by decide) (br_t (by decide) h))))))
      rcases pk_ix v2 (n := w) (by omega) with z | z | ⟨a, ha, rfl⟩
      · exact qx_nw (by omega) (Or.inl z) (br_t rfl (yy _ (br_t z ⟨rfl, s0⟩)))
      · have q := qm_ge (by omega) z
        exact qx_nw (by omega) (Or.inr z) (br_t rfl (yy _ (br_f q.1 (br_f q.2 ⟨rfl, s0⟩))))
      · refine qx_iw (by omega) ha (br_f (by decide) (qx_wv (by omega) (by omega) ?_))
        exact yy _ (br_f (nI_pos (by omega)) (br_t (nI_lt ha (by omega)) (qy_val hW hX (by omega) ha fun c => ⟨rfl, same c⟩)))
    · refine br_f (by decide) (br_f (by decide) (br_f (by decide) (br_f (by decide) (br_f (by decide) (br_f (by decide) (br_f (by decide) (br_t (by decide) ?_)))))))
      have yy : ∀ post : Int32 → SY → Prop, ((v2 < 0 → post (-1) ((nI W), (nI C), (nI w), (nI m), cp, hq, (fun zi => nI (K zi)), oa, ob, st, ca, cb, cw, (fun zi => qa_fe (pt zi)), hh, rr, col, bas, pm, pp, zz, rm)) ∧ (¬ v2 < 0 → ((v2 < nI C → (vp_in v2 16 ∧ post (qa_fe (pt v2.toNatClampNeg)) ((nI W), (nI C), (nI w), (nI m), cp, hq, (fun zi => nI (K zi)), oa, ob, st, ca, cb, cw, (fun zi => qa_fe (pt zi)), hh, rr, col, bas, pm, pp, zz, rm))) ∧ (¬ v2 < nI C → post (-1) ((nI W), (nI C), (nI w), (nI m), cp, hq, (fun zi => nI (K zi)), oa, ob, st, ca, cb, cw, (fun zi => qa_fe (pt zi)), hh, rr, col, bas, pm, pp, zz, rm))))) → wpY_info post ((nI W), (nI C), (nI w), (nI m), cp, hq, (fun zi => nI (K zi)), oa, ob, st, ca, cb, cw, (fun zi => qa_fe (pt zi)), hh, rr, col, bas, pm, pp, zz, rm) (nI 7) v2 := fun post h =>
        br_f (by decide) (br_f (by decide) (br_f (by decide) (br_f (by decide) (br_f (by decide) (br_f (by decide) (br_f (by decide) (br_t (by decide) h)))))))
      rcases pk_ix v2 (n := C) (by omega) with z | z | ⟨a, ha, rfl⟩
      · exact br_t z (yy _ (br_t z ⟨rfl, s0⟩))
      · have q := qm_ge (by omega) z
        exact br_f q.1 (br_t z (yy _ (br_f q.1 (br_f q.2 ⟨rfl, s0⟩))))
      · have vi : vp_in (nI a) 16 := vp_in_nI (by omega) (by omega)
        have a1 : ¬ nI a < 0 := nI_pos (by omega)
        exact br_f a1 (br_f (nI_ge ha (by omega)) ⟨vi, yy _ (br_f a1 (br_t (nI_lt ha (by omega)) ⟨vi, rfl, s0⟩))⟩)
    · exact br_f (by decide) (br_f (by decide) (br_f (by decide) (br_f (by decide) (br_f (by decide) (br_f (by decide) (br_f (by decide) (br_f (by decide) (br_t (by decide) (br_f (by decide) (br_f (by decide) (br_f (by decide) (br_f (by decide) (br_f (by decide) (br_f (by decide) (br_f (by decide) (br_f (by decide) (br_t (by decide) ⟨rfl, s0⟩)))))))))))))))))
    · exact br_f (by decide) (br_f (by decide) (br_f (by decide) (br_f (by decide) (br_f (by decide) (br_f (by decide) (br_f (by decide) (br_f (by decide) (br_f (by decide) (br_t (by decide) (br_f (by decide) (br_f (by decide) (br_f (by decide) (br_f (by decide) (br_f (by decide) (br_f (by decide) (br_f (by decide) (br_f (by decide) (br_f (by decide) (br_t (by decide) ⟨rfl, s0⟩)))))))))))))))))))
theorem qc_cl (p : Int32) {lo hi : Nat} (h : lo ≤ hi) (hi2 : hi < 2 ^ 31) : ∃ c, lo ≤ c ∧ c ≤ hi ∧ ∀ A : Int32 → Prop, A (nI c) → ((nI lo ≤ p → ((p ≤ nI hi → A p) ∧ (¬ p ≤ nI hi → A (nI hi)))) ∧ (¬ nI lo ≤ p → A (nI lo))) := by
  by_cases h1 : nI lo ≤ p
  · by_cases h2 : p ≤ nI hi
    · obtain ⟨j, hj, rfl⟩ := nI_of (x := p) (qm_ge (by omega) h1).1
      rw [nI_leI (by omega) (by omega)] at h1 h2
      exact ⟨j, h1, h2, fun A a => br_t (nI_le h1 (by omega)) (br_t (nI_le h2 (by omega)) a)⟩
    · exact ⟨hi, h, Nat.le_refl _, fun A a => br_t h1 (br_f h2 a)⟩
  · exact ⟨lo, Nat.le_refl _, h, fun A a => br_f h1 a⟩
def qc_pt (k : Nat) : Nat → Int := fun i => if i < k then (i : Int) + 1 else 0
theorem qc_pt_s (k : Nat) (hk : k < 16) : upd (fun zi => qa_fe (qc_pt k zi)) k (nI k + 1) = fun zi => qa_fe (qc_pt (k + 1) zi) := by
  rw [nI_1, qa_nI (by omega), qa_upd]
  funext zi
  congr 1
  unfold qa_uz qc_pt
  by_cases h : zi = k
  · subst h
    rw [if_pos rfl, if_pos (by omega)]
    rfl
  · rw [if_neg h]
    by_cases h2 : zi < k
    · rw [if_pos h2, if_pos (by omega)]
    · rw [if_neg h2, if_neg (by omega)]
theorem qc_x105 {post : SX → Prop} {W C : Nat} (h : post (nI W, nI C, nI 1, nI 0, 0, 0, (fun zi => nI ((fun _ => 0) zi)), (fun _ => 0), (fun _ => 0), (fun zi => qa_fe (qa_uz (fun _ => 0) 0 1 zi)), (fun zi => qa_fe (qa_uz (fun _ => 0) 0 1 zi)), (fun zi => qa_fe ((fun _ => 0) zi)), (fun zi => qa_fe (qc_pt 16 zi)), (fun zi => qa_fe ((fun _ => 0) zi)), (fun zi => qa_fe ((fun _ => 0) zi)))) : ∀ n k, k ≤ 16 → 16 - k < n → wX_init_105 post (nI W) (nI C) 0 0 0 0 n (nI k) (fun _ => 0) (fun _ => 0) (fun _ => 0) (fun _ => 0) (fun _ => 0) (fun _ => 0) (fun zi => qa_fe (qc_pt k zi)) (fun _ => 0) (fun _ => 0) := by
  intro n
  induction n with
  | zero => intros; omega
  | succ n ih =>
    intro k hk hn
    by_cases h1 : k < 16
    · refine br_f (by rw [qn_16]; exact nI_ge h1 (by omega)) ⟨vp_in_nI h1 (by omega), ?_⟩
      rw [nI_clamp (by omega)]
      exact nm_r (qc_pt_s k h1) (nm_r (nI_1 k) (ih (k + 1) (by omega) (by omega)))
    · obtain rfl : k = 16 := by omega
      refine br_t (by decide) ?_
      refine qx_mv (w := 0) (m := 0) (K := fun _ => 0) (x := fun _ => 0) (F := fun _ => 0) (M := fun _ => 0) (pt := qc_pt 16) (B := fun _ => 0) (P := fun _ => 0) (by omega) 0 ?_
      have e1 : (fun zi => nI (qa_un (fun _ => 0) 0 0 zi)) = (fun zi => nI ((fun _ => 0) zi)) := by
        funext zi
        congr 1
        unfold qa_un
        split <;> rfl
      refine nm_r (e' := fun zi => qa_fe (qa_uz (fun _ => 0) 0 1 zi)) ?_ ?_
      · rw [qa_1]
        exact qa_upd (fun _ => 0) 0 1
      · rw [e1]
        exact h
theorem qc_y198 {post : SY → Prop} {W C : Nat} (h : post (nI W, nI C, nI 1, nI 0, 0, 0, (fun zi => nI ((fun _ => 0) zi)), (fun _ => 0), (fun _ => 0), (fun _ => 0), (fun _ => 0), (fun _ => 0), (fun _ => 0), (fun zi => qa_fe (qc_pt 16 zi)), (fun _ => 0), (fun _ => 0), (fun _ => 0), (fun _ => 0), (fun _ => 0), (fun _ => 0), (fun _ => 0), (fun _ => 0))) : ∀ n k, k ≤ 16 → 16 - k < n → wY_init_198 post (nI W) (nI C) 1 0 0 0 n (nI k) (fun _ => 0) (fun _ => 0) (fun _ => 0) (fun _ => 0) (fun _ => 0) (fun _ => 0) (fun _ => 0) (fun zi => qa_fe (qc_pt k zi)) (fun _ => 0) (fun _ => 0) (fun _ => 0) (fun _ => 0) (fun _ => 0) (fun _ => 0) (fun _ => 0) (fun _ => 0) := by
  intro n
  induction n with
  | zero => intros; omega
  | succ n ih =>
    intro k hk hn
    by_cases h1 : k < 16
    · refine br_f (by rw [qn_16]; exact nI_ge h1 (by omega)) ⟨vp_in_nI h1 (by omega), ?_⟩
      rw [nI_clamp (by omega)]
      exact nm_r (qc_pt_s k h1) (nm_r (nI_1 k) (ih (k + 1) (by omega) (by omega)))
    · obtain rfl : k = 16 := by omega
      exact br_t (by decide) h
theorem qc_pt0 : (fun zi => qa_fe (qc_pt 0 zi)) = (fun _ => 0) := by
  funext zi
  unfold qc_pt
  rw [if_neg (by omega), ← qa_0]
theorem qc_rel {W C : Nat} (w1 : 8 ≤ W) (w2 : W ≤ 32) (c1 : 4 ≤ C) (c2 : C ≤ 16) : i_Rel 2 (nI W, nI C, nI 1, nI 0, 0, 0, (fun zi => nI ((fun _ => 0) zi)), (fun _ => 0), (fun _ => 0), (fun zi => qa_fe (qa_uz (fun _ => 0) 0 1 zi)), (fun zi => qa_fe (qa_uz (fun _ => 0) 0 1 zi)), (fun zi => qa_fe ((fun _ => 0) zi)), (fun zi => qa_fe (qc_pt 16 zi)), (fun zi => qa_fe ((fun _ => 0) zi)), (fun zi => qa_fe ((fun _ => 0) zi))) (nI W, nI C, nI 1, nI 0, 0, 0, (fun zi => nI ((fun _ => 0) zi)), (fun _ => 0), (fun _ => 0), (fun _ => 0), (fun _ => 0), (fun _ => 0), (fun _ => 0), (fun zi => qa_fe (qc_pt 16 zi)), (fun _ => 0), (fun _ => 0), (fun _ => 0), (fun _ => 0), (fun _ => 0), (fun _ => 0), (fun _ => 0), (fun _ => 0)) := by
  refine qi_mk (w := 1) (m := 0) (K := fun _ => 0) (x := qa_uz (fun _ => 0) 0 1) (F := qa_uz (fun _ => 0) 0 1) (M := fun _ => 0) (pt := qc_pt 16) (B := fun _ => 0) (P := fun _ => 0) ⟨w1, w2, c1, c2, by omega, by omega, by omega⟩ ⟨fun i hi => ?_, fun i v hi hv h => ?_, rfl⟩ ⟨rfl, fun v h1 h2 => ?_, fun v h1 h2 => ?_⟩ ⟨fun j hj => by omega, fun _ _ _ _ _ _ _ => rfl⟩ (Or.inl ⟨rfl, fun _ _ => rfl⟩) (Or.inl rfl)
  · obtain rfl : i = 0 := by omega
    refine Or.inr (Or.inr ⟨Or.inr (Or.inr rfl), fun v hv => ?_⟩)
    unfold qa_uz
    by_cases e : v = 0
    · rw [if_pos (by omega), if_pos (by omega)]
    · rw [if_neg (by omega), if_neg (by omega)]
  · exact qa_uzn (by omega)
  · rw [qa_uzn (by omega), ← qa_0]
  · refine qa_uzn ?_
    rcases h2 with y | y | y
    · omega
    · exact absurd (show (0 : Nat) = 2 from y) (by decide)
    · exact absurd (show (0 : Nat) = 4 from y) (by decide)
theorem i_vc0 (k0 : Int32) (k1 : Int32) : wpX_init (fun u => wpY_init (fun v => i_Rel 2 u v) k0 k1) k0 k1 := by
  obtain ⟨W, w1, w2, hA⟩ := qc_cl k0 (lo := 8) (hi := 32) (by omega) (by omega)
  obtain ⟨C, c1, c2, hB⟩ := qc_cl k1 (lo := 4) (hi := 16) (by omega) (by omega)
  have e0 : upd (fun _ => (0 : Int32)) 0 0 = (fun _ => 0) := by
    funext i
    unfold upd
    split <;> rfl
  have hy : wpY_init (fun v => i_Rel 2 (nI W, nI C, nI 1, nI 0, 0, 0, (fun zi => nI ((fun _ => 0) zi)), (fun _ => 0), (fun _ => 0), (fun zi => qa_fe (qa_uz (fun _ => 0) 0 1 zi)), (fun zi => qa_fe (qa_uz (fun _ => 0) 0 1 zi)), (fun zi => qa_fe ((fun _ => 0) zi)), (fun zi => qa_fe (qc_pt 16 zi)), (fun zi => qa_fe ((fun _ => 0) zi)), (fun zi => qa_fe ((fun _ => 0) zi))) v) k0 k1 := by
    have h198 := qc_y198 (W := W) (C := C) (post := fun v => i_Rel 2 (nI W, nI C, nI 1, nI 0, 0, 0, (fun zi => nI ((fun _ => 0) zi)), (fun _ => 0), (fun _ => 0), (fun zi => qa_fe (qa_uz (fun _ => 0) 0 1 zi)), (fun zi => qa_fe (qa_uz (fun _ => 0) 0 1 zi)), (fun zi => qa_fe ((fun _ => 0) zi)), (fun zi => qa_fe (qc_pt 16 zi)), (fun zi => qa_fe ((fun _ => 0) zi)), (fun zi => qa_fe ((fun _ => 0) zi))) v) (qc_rel w1 w2 c1 c2) 17 0 (by omega) (by omega)
    rw [qc_pt0] at h198
    have h181 : wY_init_181 (fun v => i_Rel 2 (nI W, nI C, nI 1, nI 0, 0, 0, (fun zi => nI ((fun _ => 0) zi)), (fun _ => 0), (fun _ => 0), (fun zi => qa_fe (qa_uz (fun _ => 0) 0 1 zi)), (fun zi => qa_fe (qa_uz (fun _ => 0) 0 1 zi)), (fun zi => qa_fe ((fun _ => 0) zi)), (fun zi => qa_fe (qc_pt 16 zi)), (fun zi => qa_fe ((fun _ => 0) zi)), (fun zi => qa_fe ((fun _ => 0) zi))) v) (nI C) (nI W) 0 0 0 0 0 (fun _ => 0) (fun _ => 0) (fun _ => 0) (fun _ => 0) (fun _ => 0) (fun _ => 0) (fun _ => 0) (fun _ => 0) (fun _ => 0) (fun _ => 0) (fun _ => 0) (fun _ => 0) (fun _ => 0) (fun _ => 0) (fun _ => 0) (fun _ => 0) := nm_r e0 ⟨17, h198⟩
    exact hA (fun z => wY_init_156 (fun v => i_Rel 2 (nI W, nI C, nI 1, nI 0, 0, 0, (fun zi => nI ((fun _ => 0) zi)), (fun _ => 0), (fun _ => 0), (fun zi => qa_fe (qa_uz (fun _ => 0) 0 1 zi)), (fun zi => qa_fe (qa_uz (fun _ => 0) 0 1 zi)), (fun zi => qa_fe ((fun _ => 0) zi)), (fun zi => qa_fe (qc_pt 16 zi)), (fun zi => qa_fe ((fun _ => 0) zi)), (fun zi => qa_fe ((fun _ => 0) zi))) v) k1 z 0 0 0 0 0 0 (fun _ => 0) (fun _ => 0) (fun _ => 0) (fun _ => 0) (fun _ => 0) (fun _ => 0) (fun _ => 0) (fun _ => 0) (fun _ => 0) (fun _ => 0) (fun _ => 0) (fun _ => 0) (fun _ => 0) (fun _ => 0) (fun _ => 0) (fun _ => 0)) (hB (fun z => wY_init_181 (fun v => i_Rel 2 (nI W, nI C, nI 1, nI 0, 0, 0, (fun zi => nI ((fun _ => 0) zi)), (fun _ => 0), (fun _ => 0), (fun zi => qa_fe (qa_uz (fun _ => 0) 0 1 zi)), (fun zi => qa_fe (qa_uz (fun _ => 0) 0 1 zi)), (fun zi => qa_fe ((fun _ => 0) zi)), (fun zi => qa_fe (qc_pt 16 zi)), (fun zi => qa_fe ((fun _ => 0) zi)), (fun zi => qa_fe ((fun _ => 0) zi))) v) z (nI W) 0 0 0 0 0 (fun _ => 0) (fun _ => 0) (fun _ => 0) (fun _ => 0) (fun _ => 0) (fun _ => 0) (fun _ => 0) (fun _ => 0) (fun _ => 0) (fun _ => 0) (fun _ => 0) (fun _ => 0) (fun _ => 0) (fun _ => 0) (fun _ => 0) (fun _ => 0)) h181)
  have hx := qc_x105 (W := W) (C := C) (post := fun u => wpY_init (fun v => i_Rel 2 u v) k0 k1) hy 17 0 (by omega) (by omega)
  rw [qc_pt0] at hx
  have hx2 : ∃ n, wX_init_105 (fun u => wpY_init (fun v => i_Rel 2 u v) k0 k1) (nI W) (nI C) 0 0 0 0 n 0 (fun _ => 0) (fun _ => 0) (fun _ => 0) (fun _ => 0) (fun _ => 0) (fun _ => 0) (fun _ => 0) (fun _ => 0) (fun _ => 0) := ⟨17, hx⟩
  exact hA (fun r => wpX_clamp (fun r2 => ∃ n, wX_init_105 (fun u => wpY_init (fun v => i_Rel 2 u v) k0 k1) r r2 0 0 0 0 n 0 (fun _ => 0) (fun _ => 0) (fun _ => 0) (fun _ => 0) (fun _ => 0) (fun _ => 0) (fun _ => 0) (fun _ => 0) (fun _ => 0)) k1 4 16) (hB (fun r2 => ∃ n, wX_init_105 (fun u => wpY_init (fun v => i_Rel 2 u v) k0 k1) (nI W) r2 0 0 0 0 n 0 (fun _ => 0) (fun _ => 0) (fun _ => 0) (fun _ => 0) (fun _ => 0) (fun _ => 0) (fun _ => 0) (fun _ => 0) (fun _ => 0)) hx2)
end
