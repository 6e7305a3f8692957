theorem qf_powmod {p : Nat} (a b : Int) (h : a % (p : Int) = b % (p : Int)) (k : Nat) : a ^ k % (p : Int) = b ^ k % (p : Int) := by
  induction k with
  | zero => rw [Int.pow_zero, Int.pow_zero]
  | succ k ih => rw [Int.pow_succ, Int.pow_succ, Int.mul_emod, ih, h, ← Int.mul_emod]
theorem qf_unit {p e : Nat} (hp : qf_pr p) (he : e + 2 = p) {a : Int} (h : a % (p : Int) ≠ 0) : a * a ^ e % (p : Int) = 1 := by
  have h2 := hp.1
  have hp0 : (0 : Int) < (p : Int) := by omega
  have b1 := Int.emod_nonneg a (show (p : Int) ≠ 0 by omega)
  have b2 := Int.emod_lt_of_pos a hp0
  obtain ⟨n, hn⟩ : ∃ n : Nat, a % (p : Int) = (n : Int) := ⟨(a % (p : Int)).toNat, by omega⟩
  have hm : a % (p : Int) = (n : Int) % (p : Int) := by rw [hn]; exact (Int.emod_eq_of_lt (by omega) (by omega)).symm
  have i := qf_inv hp (a := n) (by omega) (by omega)
  rw [show p - 2 = e by omega] at i
  rw [Int.mul_emod, hm, qf_powmod a n hm e, ← Int.mul_emod]
  have : ((n * n ^ e % p : Nat) : Int) = 1 := by rw [i]; rfl
  rw [Int.natCast_emod, Int.natCast_mul, Int.natCast_pow] at this
  exact this
theorem qf_dom {p : Nat} (hp : qf_pr p) {a b : Int} (h : a * b % (p : Int) = 0) (ha : a % (p : Int) ≠ 0) : b % (p : Int) = 0 := by
  have h2 := hp.1
  have u := qf_unit hp (show (p - 2) + 2 = p by omega) ha
  generalize a ^ (p - 2) = c at u
  have e : b * (a * c) = (a * b) * c := by grind
  have e1 : b * (a * c) % (p : Int) = 0 := by rw [e, Int.mul_emod, h, Int.zero_mul, Int.zero_emod]
  rw [Int.mul_emod, u, Int.mul_one, Int.emod_emod] at e1
  exact e1
theorem qf_lc {p : Nat} {a b c : Int} (hc : c % (p : Int) = 0) (h : (a * b + c) % (p : Int) = 0) : a * b % (p : Int) = 0 := by
  obtain ⟨x, hx⟩ := Int.dvd_of_emod_eq_zero hc
  obtain ⟨y, hy⟩ := Int.dvd_of_emod_eq_zero h
  exact Int.emod_eq_zero_of_dvd ⟨y - x, by rw [Int.mul_sub]; omega⟩
theorem qf_lc2 {p : Nat} {a b c : Int} (hb : b % (p : Int) = 0) (hc : c % (p : Int) = 0) : (b - a * c) % (p : Int) = 0 := by
  obtain ⟨x, hx⟩ := Int.dvd_of_emod_eq_zero hb
  obtain ⟨y, hy⟩ := Int.dvd_of_emod_eq_zero hc
  exact Int.emod_eq_zero_of_dvd ⟨x - a * y, by rw [hx, hy]; grind⟩
theorem qf_ho_add {f g h : Nat → Int} (x : Int) : ∀ d k, (∀ i, k ≤ i → f i = g i + h i) → qa_ho f x d k = qa_ho g x d k + qa_ho h x d k := by
  intro d
  induction d with
  | zero => intro k _; rfl
  | succ d ih =>
    intro k hf
    rw [qa_ho_s, qa_ho_s, qa_ho_s, ih (k + 1) (fun i hi => hf i (by omega)), hf k (by omega)]
    grind
theorem qf_ho_0 {f : Nat → Int} (x : Int) : ∀ d k, (∀ i, k ≤ i → f i = 0) → qa_ho f x d k = 0 := by
  intro d
  induction d with
  | zero => intro k _; rfl
  | succ d ih =>
    intro k hf
    rw [qa_ho_s, ih (k + 1) (fun i hi => hf i (by omega)), hf k (by omega)]
    simp
theorem qf_root {p : Nat} (hp : qf_pr p) : ∀ (m : Nat) (f pts : Nat → Int), (∀ k, m ≤ k → f k = 0) → (∀ i j, i < j → j < m → (pts i - pts j) % (p : Int) ≠ 0) → (∀ j, j < m → qa_ho f (pts j) m 0 % (p : Int) = 0) → ∀ k, k < m → f k % (p : Int) = 0 := by
  intro m
  induction m with
  | zero => intro f pts _ _ _ k hk; omega
  | succ m ih =>
    intro f pts hf hd hz
    have hc := hz m (by omega)
    generalize hac : qa_ho f (pts m) (m + 1) 0 = c at hc
    generalize hg : (fun k => if k < m then qa_ho f (pts m) (m - k) (k + 1) else 0 : Nat → Int) = g
    have g0 : ∀ k, m ≤ k → g k = 0 := by
      intro k hk
      rw [← hg]
      exact if_neg (by omega)
    have gs : ∀ k, f (k + 1) = g k - pts m * g (k + 1) := by
      intro k
      by_cases h1 : k < m
      · have e1 : g k = qa_ho f (pts m) (m - k) (k + 1) := by rw [← hg]; exact if_pos h1
        have e2 : g (k + 1) = qa_ho f (pts m) (m - k - 1) (k + 1 + 1) := by
          by_cases h2 : k + 1 < m
          · rw [← hg]
            show (if k + 1 < m then qa_ho f (pts m) (m - (k + 1)) (k + 1 + 1) else 0) = _
            rw [if_pos h2, show m - (k + 1) = m - k - 1 by omega]
          · rw [g0 (k + 1) (by omega), show m - k - 1 = 0 by omega]
            rfl
        obtain ⟨t, ht⟩ : ∃ t, m - k = t + 1 := ⟨m - k - 1, by omega⟩
        rw [e1, e2, ht, qa_ho_s, Nat.add_sub_cancel]
        grind
      · rw [g0 k (by omega), g0 (k + 1) (by omega), hf (k + 1) (by omega)]
        simp
    have gz : f 0 = c - pts m * g 0 := by
      rw [← hac, qa_ho_s]
      by_cases h1 : 0 < m
      · have e1 : g 0 = qa_ho f (pts m) m 1 := by rw [← hg]; exact if_pos h1
        rw [e1]
        grind
      · rw [g0 0 (by omega), show m = 0 by omega]
        simp only [qa_ho]
        grind
    have fe : ∀ k, f k = qa_lin (pts m) g k + (if k = 0 then c else 0) := by
      intro k
      cases k with
      | zero => rw [gz, qa_lin0, if_pos rfl]; omega
      | succ k => rw [gs, qa_linS, if_neg (by omega)]; omega
    have gr : ∀ k, k < m → g k % (p : Int) = 0 := by
      refine ih g pts g0 (fun i j h1 h2 => hd i j h1 (by omega)) fun j hj => ?_
      have h := hz j (by omega)
      obtain ⟨t, rfl⟩ : ∃ t, m = t + 1 := ⟨m - 1, by omega⟩
      rw [qf_ho_add (g := qa_lin (pts (t + 1)) g) (h := fun k => if k = 0 then c else 0) (pts j) (t + 2) 0 (fun i _ => fe i), qa_ho_lin _ _ t g0] at h
      have e : qa_ho (fun k => if k = 0 then c else 0) (pts j) (t + 2) 0 = c := by
        rw [qa_ho_s, qf_ho_0 (pts j) (t + 1) 1 (fun i hi => if_neg (by omega))]
        rw [if_pos rfl, Int.zero_mul, Int.zero_add]
      rw [e] at h
      exact qf_dom hp (qf_lc hc h) (hd j (t + 1) (by omega) (by omega))
    intro k hk
    cases k with
    | zero =>
      rw [gz]
      by_cases h1 : 0 < m
      · exact qf_lc2 hc (gr 0 h1)
      · rw [g0 0 (by omega)]
        rw [Int.mul_zero, Int.sub_zero]
        exact hc
    | succ k =>
      rw [gs]
      by_cases h1 : k + 1 < m
      · exact qf_lc2 (gr k (by omega)) (gr (k + 1) h1)
      · rw [g0 (k + 1) (by omega), Int.mul_zero, Int.sub_zero]
        exact gr k (by omega)
