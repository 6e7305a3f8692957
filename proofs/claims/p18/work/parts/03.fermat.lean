def qf_ch : Nat → Nat → Nat
  | _, 0 => 1
  | 0, _ + 1 => 0
  | n + 1, k + 1 => qf_ch n k + qf_ch n (k + 1)
theorem qf_ch0 (n : Nat) : qf_ch n 0 = 1 := by cases n <;> rfl
theorem qf_chs (n k : Nat) : qf_ch (n + 1) (k + 1) = qf_ch n k + qf_ch n (k + 1) := rfl
theorem qf_ch_big : ∀ n k, n < k → qf_ch n k = 0 := by
  intro n
  induction n with
  | zero => intro k h; cases k with
    | zero => omega
    | succ k => rfl
  | succ n ih => intro k h; cases k with
    | zero => omega
    | succ k => rw [qf_chs, ih k (by omega), ih (k + 1) (by omega)]
theorem qf_ch_self : ∀ n, qf_ch n n = 1 := by
  intro n
  induction n with
  | zero => rfl
  | succ n ih => rw [qf_chs, ih, qf_ch_big n (n + 1) (by omega)]
theorem qf_abs : ∀ n k, (k + 1) * qf_ch (n + 1) (k + 1) = (n + 1) * qf_ch n k := by
  intro n
  induction n with
  | zero => intro k; cases k with
    | zero => rfl
    | succ k => rw [qf_ch_big _ _ (by omega), qf_ch_big _ _ (by omega), Nat.mul_zero, Nat.mul_zero]
  | succ n ih =>
    intro k
    cases k with
    | zero =>
      have := ih 0
      rw [qf_ch0] at *
      rw [qf_chs, qf_ch0]
      omega
    | succ k =>
      have h1 := ih k
      have h2 := ih (k + 1)
      rw [qf_chs (n + 1) (k + 1), Nat.mul_add, h2, qf_chs n k]
      rw [qf_chs n k] at h1
      generalize qf_ch n k = a at *
      generalize qf_ch n (k + 1) = b at *
      grind
def qf_sm (f : Nat → Nat) : Nat → Nat
  | 0 => 0
  | n + 1 => qf_sm f n + f n
theorem qf_sm_add (f g : Nat → Nat) (n : Nat) : qf_sm (fun i => f i + g i) n = qf_sm f n + qf_sm g n := by
  induction n with
  | zero => rfl
  | succ n ih => rw [qf_sm, ih, qf_sm, qf_sm]; omega
theorem qf_sm_mul (c : Nat) (f : Nat → Nat) (n : Nat) : qf_sm (fun i => c * f i) n = c * qf_sm f n := by
  induction n with
  | zero => rfl
  | succ n ih => rw [qf_sm, ih, qf_sm, Nat.mul_add]
theorem qf_sm_hd (f : Nat → Nat) (n : Nat) : qf_sm f (n + 1) = f 0 + qf_sm (fun i => f (i + 1)) n := by
  induction n with
  | zero => rw [qf_sm, qf_sm, qf_sm]; omega
  | succ n ih => rw [qf_sm, ih, qf_sm]; omega
theorem qf_sm_c {f g : Nat → Nat} {n : Nat} (h : ∀ i, i < n → f i = g i) : qf_sm f n = qf_sm g n := by
  induction n with
  | zero => rfl
  | succ n ih => rw [qf_sm, qf_sm, ih (fun i hi => h i (by omega)), h n (by omega)]
theorem qf_sm_dvd {p : Nat} {f : Nat → Nat} {n : Nat} (h : ∀ i, i < n → p ∣ f i) : p ∣ qf_sm f n := by
  induction n with
  | zero => exact Nat.dvd_zero p
  | succ n ih => rw [qf_sm]; exact Nat.dvd_add (ih fun i hi => h i (by omega)) (h n (by omega))
theorem qf_bin (a : Nat) : ∀ n, (a + 1) ^ n = qf_sm (fun k => qf_ch n k * a ^ k) (n + 1) := by
  intro n
  induction n with
  | zero => rfl
  | succ n ih =>
    rw [qf_sm_hd, qf_ch0, Nat.pow_zero, Nat.one_mul]
    have e : qf_sm (fun i => qf_ch (n + 1) (i + 1) * a ^ (i + 1)) (n + 1) = a * qf_sm (fun k => qf_ch n k * a ^ k) (n + 1) + qf_sm (fun i => qf_ch n (i + 1) * a ^ (i + 1)) (n + 1) := by
      rw [← qf_sm_mul, ← qf_sm_add]
      refine qf_sm_c fun i _ => ?_
      rw [qf_chs, Nat.add_mul, Nat.pow_succ]
      congr 1
      rw [← Nat.mul_assoc, Nat.mul_comm]
    have e2 := qf_sm_hd (fun k => qf_ch n k * a ^ k) (n + 1)
    rw [qf_sm, ← ih, qf_ch_big n (n + 1) (by omega), Nat.zero_mul, Nat.add_zero, qf_ch0, Nat.pow_zero, Nat.one_mul] at e2
    rw [e, ← ih, Nat.pow_succ, Nat.mul_add, Nat.mul_one]
    have e3 : a * (a + 1) ^ n = (a + 1) ^ n * a := Nat.mul_comm _ _
    omega
def qf_pr (p : Nat) : Prop := 1 < p ∧ ∀ d, 0 < d → d < p → Nat.Coprime d p
theorem qf_pch {p : Nat} (hp : qf_pr p) {k : Nat} (h0 : 0 < k) (h1 : k < p) : p ∣ qf_ch p k := by
  obtain ⟨q, rfl⟩ : ∃ q, p = q + 1 := ⟨p - 1, by have := hp.1; omega⟩
  obtain ⟨j, rfl⟩ : ∃ j, k = j + 1 := ⟨k - 1, by omega⟩
  have h := qf_abs q j
  have d : q + 1 ∣ (j + 1) * qf_ch (q + 1) (j + 1) := by rw [h]; exact Nat.dvd_mul_right _ _
  exact Nat.Coprime.dvd_of_dvd_mul_left (hp.2 (j + 1) h0 h1).symm d
theorem qf_step {p : Nat} (hp : qf_pr p) (a : Nat) : (a + 1) ^ p % p = (a ^ p + 1) % p := by
  obtain ⟨q, rfl⟩ : ∃ q, p = q + 1 := ⟨p - 1, by have := hp.1; omega⟩
  have e := qf_bin a (q + 1)
  rw [qf_sm, qf_ch_self, Nat.one_mul, qf_sm_hd, qf_ch0, Nat.pow_zero, Nat.one_mul] at e
  have d : q + 1 ∣ qf_sm (fun i => qf_ch (q + 1) (i + 1) * a ^ (i + 1)) q := by
    refine qf_sm_dvd fun i hi => ?_
    exact Nat.dvd_mul_right_of_dvd (qf_pch hp (by omega) (by omega)) _
  obtain ⟨c, hc⟩ := d
  rw [e, hc, show 1 + (q + 1) * c + a ^ (q + 1) = a ^ (q + 1) + 1 + (q + 1) * c by omega, Nat.add_mul_mod_self_left]
theorem qf_fer {p : Nat} (hp : qf_pr p) (a : Nat) : a ^ p % p = a % p := by
  induction a with
  | zero => rw [Nat.zero_pow (by have := hp.1; omega)]
  | succ a ih => rw [qf_step hp, Nat.add_mod, ih, ← Nat.add_mod]
theorem qf_inv {p : Nat} (hp : qf_pr p) {a : Nat} (h0 : 0 < a) (h1 : a < p) : a * a ^ (p - 2) % p = 1 := by
  have h2 := hp.1
  have e := qf_fer hp a
  have e2 : a ^ p = a * (a * a ^ (p - 2)) := by
    obtain ⟨q, rfl⟩ : ∃ q, p = q + 2 := ⟨p - 2, by omega⟩
    rw [Nat.add_sub_cancel, Nat.pow_add, Nat.mul_comm, ← Nat.mul_assoc]
    congr 1
    rw [Nat.pow_two]
  rw [e2] at e
  generalize a * a ^ (p - 2) = t at *
  have ht : 0 < t := by
    rcases Nat.eq_zero_or_pos t with z | z
    · subst z
      rw [Nat.mul_zero, Nat.zero_mod, Nat.mod_eq_of_lt h1] at e
      omega
    · exact z
  have d : p ∣ a * (t - 1) := by
    have z := Nat.dvd_of_mod_eq_zero (Nat.sub_mod_eq_zero_of_mod_eq e)
    rw [Nat.mul_sub, Nat.mul_one]
    exact z
  have d2 := Nat.Coprime.dvd_of_dvd_mul_left (hp.2 a h0 h1).symm d
  obtain ⟨c, hc⟩ := d2
  have : t = 1 + p * c := by omega
  rw [this, Nat.add_mul_mod_self_left, Nat.mod_eq_of_lt h2]
def qf_ck (p : Nat) : Nat → Bool
  | 0 => true
  | n + 1 => (p % (n + 2) != 0) && qf_ck p n
theorem qf_ck_e {p : Nat} : ∀ n, qf_ck p n = true → ∀ d, 2 ≤ d → d ≤ n + 1 → p % d ≠ 0 := by
  intro n
  induction n with
  | zero => intro _ d h1 h2; omega
  | succ n ih =>
    intro h d h1 h2
    rw [qf_ck, Bool.and_eq_true] at h
    by_cases e : d = n + 2
    · subst e
      simpa using h.1
    · exact ih h.2 d h1 (by omega)
theorem qf_ck_p : qf_ck 2147483647 46340 = true := by decide +kernel
theorem qf_prime_of {p r : Nat} (h1 : 1 < p) (hr : p < (r + 2) * (r + 2)) (h : ∀ d, 2 ≤ d → d ≤ r + 1 → p % d ≠ 0) : qf_pr p := by
  refine ⟨h1, fun d h0 hd => ?_⟩
  have g1 : Nat.gcd d p ∣ p := Nat.gcd_dvd_right d p
  have g2 : Nat.gcd d p ≤ d := Nat.gcd_le_left p h0
  have g3 : 0 < Nat.gcd d p := Nat.gcd_pos_of_pos_left p h0
  show Nat.gcd d p = 1
  generalize Nat.gcd d p = g at *
  obtain ⟨c, hc⟩ := g1
  by_cases e : g = 1
  · exact e
  · exfalso
    have hc2 : 2 ≤ c := by
      rcases c with _ | _ | c
      · omega
      · omega
      · omega
    by_cases hg : g ≤ r + 1
    · exact h g (by omega) hg (by rw [hc]; exact Nat.mul_mod_right g c)
    · by_cases hcr : c ≤ r + 1
      · exact h c hc2 hcr (by rw [hc]; exact Nat.mul_mod_left g c)
      · have := Nat.mul_le_mul (show r + 2 ≤ g by omega) (show r + 2 ≤ c by omega)
        omega
theorem qf_p : qf_pr 2147483647 := qf_prime_of (r := 46340) (by decide) (by decide) (qf_ck_e 46340 qf_ck_p)
