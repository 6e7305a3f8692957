def qa_sm (f : Nat → Int) : Nat → Int
  | 0 => 0
  | n + 1 => qa_sm f n + f n
theorem qa_sm_c {f g : Nat → Int} {n : Nat} (h : ∀ i, i < n → f i = g i) : qa_sm f n = qa_sm g n := by
  induction n with
  | zero => rfl
  | succ n ih => rw [qa_sm, qa_sm, ih (fun i hi => h i (by omega)), h n (by omega)]
theorem qa_sm_0 {f : Nat → Int} {n : Nat} (h : ∀ i, i < n → f i = 0) : qa_sm f n = 0 := by
  induction n with
  | zero => rfl
  | succ n ih => rw [qa_sm, ih (fun i hi => h i (by omega)), h n (by omega)]; rfl
def qa_lin (a : Int) (f : Nat → Int) : Nat → Int := fun k => (if k = 0 then 0 else f (k - 1)) - a * f k
theorem qa_lin0 (a : Int) (f : Nat → Int) : qa_lin a f 0 = 0 - a * f 0 := rfl
theorem qa_linS (a : Int) (f : Nat → Int) (k : Nat) : qa_lin a f (k + 1) = f k - a * f (k + 1) := rfl
theorem qa_lin_comm (a b : Int) (f : Nat → Int) : qa_lin a (qa_lin b f) = qa_lin b (qa_lin a f) := by
  funext k
  match k with
  | 0 => simp only [qa_lin0]; grind
  | 1 => simp only [qa_linS, qa_lin0, Nat.zero_add]; grind
  | k + 2 => simp only [qa_linS]; grind
def qa_one : Nat → Int := fun k => if k = 0 then 1 else 0
def qa_zp (pt : Nat → Int) : Nat → Nat → Int
  | 0 => qa_one
  | n + 1 => qa_lin (pt n) (qa_zp pt n)
def qa_np (pt : Nat → Int) (j : Nat) : Nat → Nat → Int
  | 0 => qa_one
  | n + 1 => if n = j then qa_np pt j n else qa_lin (pt n) (qa_np pt j n)
def qa_dn (pt : Nat → Int) (j : Nat) : Nat → Int
  | 0 => 1
  | n + 1 => if n = j then qa_dn pt j n else qa_dn pt j n * (pt j - pt n)
theorem qa_np_e (pt : Nat → Int) (n : Nat) : qa_np pt n (n + 1) = qa_np pt n n := by rw [qa_np, if_pos rfl]
theorem qa_np_s {j n : Nat} (pt : Nat → Int) (h : n ≠ j) : qa_np pt j (n + 1) = qa_lin (pt n) (qa_np pt j n) := by rw [qa_np, if_neg h]
theorem qa_dn_e (pt : Nat → Int) (n : Nat) : qa_dn pt n (n + 1) = qa_dn pt n n := by rw [qa_dn, if_pos rfl]
theorem qa_dn_s {j n : Nat} (pt : Nat → Int) (h : n ≠ j) : qa_dn pt j (n + 1) = qa_dn pt j n * (pt j - pt n) := by rw [qa_dn, if_neg h]
theorem qa_np_lo (pt : Nat → Int) {j n : Nat} (h : n ≤ j) : qa_np pt j n = qa_zp pt n := by
  induction n with
  | zero => rfl
  | succ n ih => rw [qa_np_s pt (by omega), ih (by omega), qa_zp]
theorem qa_np_hi (pt : Nat → Int) {j n : Nat} (h : j < n) : qa_zp pt n = qa_lin (pt j) (qa_np pt j n) := by
  induction n with
  | zero => omega
  | succ n ih =>
    by_cases e : n = j
    · subst e
      rw [qa_np_e, qa_np_lo pt (Nat.le_refl n), qa_zp]
    · rw [qa_np_s pt e, qa_zp, ih (by omega), qa_lin_comm]
theorem qa_lin_deg {a : Int} {f : Nat → Int} {d : Nat} (h : ∀ k, d ≤ k → f k = 0) : ∀ k, d + 1 ≤ k → qa_lin a f k = 0 := by
  intro k hk
  obtain ⟨t, rfl⟩ : ∃ t, k = t + 1 := ⟨k - 1, by omega⟩
  rw [qa_linS, h t (by omega), h (t + 1) (by omega)]
  simp
theorem qa_one_deg : ∀ k, 1 ≤ k → qa_one k = 0 := by
  intro k hk
  exact if_neg (by omega)
theorem qa_zp_deg (pt : Nat → Int) (n : Nat) : ∀ k, n + 1 ≤ k → qa_zp pt n k = 0 := by
  induction n with
  | zero => exact qa_one_deg
  | succ n ih => exact qa_lin_deg ih
theorem qa_np_deg (pt : Nat → Int) {j n : Nat} (h : j < n) : ∀ k, n ≤ k → qa_np pt j n k = 0 := by
  induction n with
  | zero => omega
  | succ n ih =>
    by_cases e : n = j
    · subst e
      rw [qa_np_e, qa_np_lo pt (Nat.le_refl n)]
      exact qa_zp_deg pt n
    · rw [qa_np_s pt e]
      exact qa_lin_deg (ih (by omega))
def qa_ho (f : Nat → Int) (x : Int) : Nat → Nat → Int
  | 0 => fun _ => 0
  | d + 1 => fun k => qa_ho f x d (k + 1) * x + f k
theorem qa_ho_s (f : Nat → Int) (x : Int) (d k : Nat) : qa_ho f x (d + 1) k = qa_ho f x d (k + 1) * x + f k := rfl
theorem qa_ho_c {f g : Nat → Int} (x : Int) : ∀ d k, (∀ i, k ≤ i → i < k + d → f i = g i) → qa_ho f x d k = qa_ho g x d k := by
  intro d
  induction d with
  | zero => intro k _; rfl
  | succ d ih =>
    intro k h
    rw [qa_ho_s, qa_ho_s, ih (k + 1) (fun i h1 h2 => h i (by omega) (by omega)), h k (by omega) (by omega)]
theorem qa_ho_l {f : Nat → Int} (a x : Int) : ∀ d k, (∀ i, k + d ≤ i → f i = 0) → qa_ho (qa_lin a f) x d (k + 1) = f k + (x - a) * qa_ho f x d (k + 1) := by
  intro d
  induction d with
  | zero =>
    intro k h
    rw [h k (by omega)]
    simp only [qa_ho]
    omega
  | succ d ih =>
    intro k h
    rw [qa_ho_s, qa_ho_s, ih (k + 1) (fun i hi => h i (by omega)), qa_linS]
    grind
theorem qa_ho_up {f : Nat → Int} (x : Int) : ∀ d k, (∀ i, k + d ≤ i → f i = 0) → qa_ho f x (d + 1) k = qa_ho f x d k := by
  intro d
  induction d with
  | zero => intro k h; rw [qa_ho_s]; simp only [qa_ho]; rw [h k (by omega)]; simp
  | succ d ih =>
    intro k h
    rw [qa_ho_s, ih (k + 1) (fun i hi => h i (by omega)), ← qa_ho_s]
theorem qa_ho_lin {f : Nat → Int} (a x : Int) (d : Nat) (h : ∀ i, d + 1 ≤ i → f i = 0) : qa_ho (qa_lin a f) x (d + 2) 0 = (x - a) * qa_ho f x (d + 1) 0 := by
  have e : qa_ho f x (d + 1) 1 = qa_ho f x d 1 := qa_ho_up x d 1 (fun i hi => h i (by omega))
  rw [qa_ho_s, qa_ho_l a x (d + 1) 0 (fun i hi => h i (by omega)), qa_ho_s f x d 0, Nat.zero_add, e, qa_lin0]
  grind
theorem qa_zp_val (pt : Nat → Int) (j n : Nat) (h : n ≤ j) : qa_ho (qa_zp pt n) (pt j) (n + 1) 0 = qa_dn pt j n := by
  induction n with
  | zero => simp only [qa_ho, qa_zp, qa_one, qa_dn]; simp
  | succ n ih =>
    rw [qa_zp, qa_ho_lin _ _ n (qa_zp_deg pt n), ih (by omega), qa_dn_s pt (by omega), Int.mul_comm]
theorem qa_np_val (pt : Nat → Int) {j n : Nat} (h : j < n) : qa_ho (qa_np pt j n) (pt j) n 0 = qa_dn pt j n := by
  induction n with
  | zero => omega
  | succ n ih =>
    by_cases e : n = j
    · subst e
      rw [qa_np_e, qa_dn_e, qa_np_lo pt (Nat.le_refl n), qa_zp_val pt n n (Nat.le_refl n)]
    · obtain ⟨t, rfl⟩ : ∃ t, n = t + 1 := ⟨n - 1, by omega⟩
      rw [qa_np_s pt e, qa_ho_lin _ _ t (qa_np_deg pt (by omega)), ih (by omega), qa_dn_s pt e, Int.mul_comm]
def qa_pw (a : Int) : Nat → Int × Int
  | 0 => (1, a)
  | n + 1 => (if (((2147483645 : Int32) >>> (nI n &&& 31)) &&& 1) = 1 then (qa_pw a n).1 * (qa_pw a n).2 else (qa_pw a n).1, (qa_pw a n).2 * (qa_pw a n).2)
def qa_iv (a : Int) : Int := (qa_pw a 31).1
def qa_bs (pt : Nat → Int) (m j k : Nat) : Int := qa_np pt j m k * qa_iv (qa_dn pt j m)
def qa_mi (t j v : Nat) : Nat := (t * 16 + j) * 32 + v
def qa_rv (M x : Nat → Int) (w t j : Nat) : Int := qa_sm (fun v => M (qa_mi t j v) * x v) w
def qa_wv (F x : Nat → Int) (w i : Nat) : Int := qa_sm (fun v => F (i * 32 + v) * x v) w
def qa_pz (M x pt : Nat → Int) (w m t k : Nat) : Int := qa_sm (fun j => qa_rv M x w t j * qa_bs pt m j k) m
def qa_c2 (A B : Nat → Int) (i : Nat) (l t : Nat) : Int := qa_sm (fun b => if i + b = t then A i * B b else 0) l
def qa_c1 (A B : Nat → Int) (m : Nat) (i t : Nat) : Int := qa_sm (fun a => qa_c2 A B a m t) i
def qa_pp (M x pt : Nat → Int) (w m k : Nat) : Int := qa_c1 (qa_pz M x pt w m 0) (qa_pz M x pt w m 1) m m k - (if k < m then qa_pz M x pt w m 2 k else 0)
theorem qa_c2_s (A B : Nat → Int) (i l t : Nat) : qa_c2 A B i (l + 1) t = qa_c2 A B i l t + (if i + l = t then A i * B l else 0) := rfl
theorem qa_c1_s (A B : Nat → Int) (m i t : Nat) : qa_c1 A B m (i + 1) t = qa_c1 A B m i t + qa_c2 A B i m t := rfl
theorem qa_c2_c {A B A' B' : Nat → Int} {m : Nat} (hA : ∀ k, k < m → A k = A' k) (hB : ∀ k, k < m → B k = B' k) {i : Nat} (hi : i < m) : ∀ {l : Nat} (_ : l ≤ m) (t : Nat), qa_c2 A B i l t = qa_c2 A' B' i l t := by
  intro l hl t
  refine qa_sm_c fun b hb => ?_
  rw [hA i hi, hB b (by omega)]
theorem qa_c1_c {A B A' B' : Nat → Int} {m : Nat} (hA : ∀ k, k < m → A k = A' k) (hB : ∀ k, k < m → B k = B' k) {i : Nat} (hi : i ≤ m) (t : Nat) : qa_c1 A B m i t = qa_c1 A' B' m i t :=
  qa_sm_c fun a ha => qa_c2_c hA hB (by omega) (Nat.le_refl m) t
theorem qa_c2_0 {A B : Nat → Int} {i l t : Nat} (h : t < i ∨ i + l ≤ t) : qa_c2 A B i l t = 0 :=
  qa_sm_0 fun b hb => if_neg (by omega)
theorem qa_c1_0 {A B : Nat → Int} {m i t : Nat} (h : i + m ≤ t + 1) : qa_c1 A B m i t = 0 :=
  qa_sm_0 fun a ha => qa_c2_0 (Or.inr (by omega))
def qa_dst (Z g : Nat → Int) (i : Nat) (q : Int) (k : Nat) : Nat → Int := fun t => if i ≤ t ∧ t < i + k then g t - q * Z (t - i) else g t
theorem qa_dst_0 (Z g : Nat → Int) (i : Nat) (q : Int) : qa_dst Z g i q 0 = g := by
  funext t
  exact if_neg (by omega)
theorem qa_dst_s (Z g : Nat → Int) (i : Nat) (q : Int) (k : Nat) : qa_dst Z g i q (k + 1) = qa_uz (qa_dst Z g i q k) (i + k) (g (i + k) - q * Z k) := by
  funext t
  unfold qa_uz qa_dst
  by_cases h : t = i + k
  · subst h
    rw [if_pos (by omega), if_pos rfl, show i + k - i = k by omega]
  · rw [if_neg h]
    by_cases h2 : i ≤ t ∧ t < i + k
    · rw [if_pos (by omega), if_pos h2]
    · rw [if_neg (by omega), if_neg h2]
theorem qa_dst_at (Z g : Nat → Int) (i : Nat) (q : Int) (k : Nat) : qa_dst Z g i q k (i + k) = g (i + k) := if_neg (by omega)
def qa_rm (Z g : Nat → Int) (m : Nat) : Nat → Nat → Int
  | 0 => g
  | s + 1 => qa_dst Z (qa_rm Z g m s) (m - 2 - s) (qa_rm Z g m s (m - 2 - s + m)) (m + 1)
def qa_hh (Z g : Nat → Int) (m i : Nat) : Int := if i + 1 < m then qa_rm Z g m (m - 2 - i) (i + m) else 0
def qa_rr (Z g : Nat → Int) (m k : Nat) : Int := qa_rm Z g m (m - 1) k
theorem qa_pp_0 (M x pt : Nat → Int) (w m k : Nat) (h : 2 * m ≤ k + 1) (hm : 0 < m) : qa_pp M x pt w m k = 0 := by
  unfold qa_pp
  rw [qa_c1_0 (by omega), if_neg (by omega)]
  rfl
def qa_row (P : Nat → Int) (b m : Nat) (g : Nat → Int) : Nat → Int := fun i => if b ≤ i ∧ i < b + m then g (i - b) else P i
def qa_mix (k : Nat) (f g : Nat → Int) : Nat → Int := fun i => if i < k then f i else g i
theorem qa_row_in {P g : Nat → Int} {b m i : Nat} (h : i < m) : qa_row P b m g (b + i) = g i := by
  unfold qa_row
  rw [if_pos (by omega), Nat.add_sub_cancel_left]
theorem qa_row_out {P g : Nat → Int} {b m i : Nat} (h : i < b ∨ b + m ≤ i) : qa_row P b m g i = P i := if_neg (by omega)
theorem qa_row_0 (P g : Nat → Int) (b : Nat) : qa_row P b 0 g = P := by
  funext i
  exact if_neg (by omega)
theorem qa_row_s (P g : Nat → Int) (b v : Nat) : qa_uz (qa_row P b v g) (b + v) (g v) = qa_row P b (v + 1) g := by
  funext i
  unfold qa_uz qa_row
  by_cases h : i = b + v
  · subst h
    rw [if_pos rfl, if_pos (by omega), Nat.add_sub_cancel_left]
  · rw [if_neg h]
    by_cases h2 : b ≤ i ∧ i < b + v
    · rw [if_pos h2, if_pos (by omega)]
    · rw [if_neg h2, if_neg (by omega)]
theorem qa_row_u {P g : Nat → Int} {b m k : Nat} (h : k < m) (z : Int) : qa_uz (qa_row P b m g) (b + k) z = qa_row P b m (qa_uz g k z) := by
  funext i
  unfold qa_uz qa_row
  by_cases h1 : i = b + k
  · subst h1
    rw [if_pos rfl, if_pos (by omega)]
    exact (if_pos (by omega)).symm
  · rw [if_neg h1]
    by_cases h2 : b ≤ i ∧ i < b + m
    · rw [if_pos h2, if_pos h2]
      exact (if_neg (by omega)).symm
    · rw [if_neg h2, if_neg h2]
theorem qa_row_c {P g g' : Nat → Int} {b m : Nat} (h : ∀ i, i < m → g i = g' i) : qa_row P b m g = qa_row P b m g' := by
  funext i
  unfold qa_row
  by_cases h2 : b ≤ i ∧ i < b + m
  · rw [if_pos h2, if_pos h2, h _ (by omega)]
  · rw [if_neg h2, if_neg h2]
theorem qa_row_id {P g : Nat → Int} {b m : Nat} (h : ∀ i, i < m → g i = P (b + i)) : qa_row P b m g = P := by
  funext i
  unfold qa_row
  by_cases h2 : b ≤ i ∧ i < b + m
  · rw [if_pos h2, h _ (by omega), show b + (i - b) = i by omega]
  · rw [if_neg h2]
theorem qa_mix_0 (f g : Nat → Int) : qa_mix 0 f g = g := by
  funext i
  exact if_neg (by omega)
theorem qa_mix_s (f g : Nat → Int) (k : Nat) : qa_uz (qa_mix k f g) k (f k) = qa_mix (k + 1) f g := by
  funext i
  unfold qa_uz qa_mix
  by_cases h : i = k
  · subst h
    rw [if_pos rfl, if_pos (by omega)]
  · rw [if_neg h]
    by_cases h2 : i < k
    · rw [if_pos h2, if_pos (by omega)]
    · rw [if_neg h2, if_neg (by omega)]
theorem qa_mix_d (f g : Nat → Int) (k : Nat) : qa_uz (qa_mix (k + 1) f g) k (g k) = qa_mix k f g := by
  funext i
  unfold qa_uz qa_mix
  by_cases h : i = k
  · subst h
    rw [if_pos rfl, if_neg (by omega)]
  · rw [if_neg h]
    by_cases h2 : i < k
    · rw [if_pos h2, if_pos (by omega)]
    · rw [if_neg h2, if_neg (by omega)]
theorem qa_mix_lt {f g : Nat → Int} {k i : Nat} (h : i < k) : qa_mix k f g i = f i := if_pos h
theorem qa_mix_ge {f g : Nat → Int} {k i : Nat} (h : k ≤ i) : qa_mix k f g i = g i := if_neg (by omega)
