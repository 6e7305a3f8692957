theorem qk_l0 : (0 : Int64) = (qa_fe 0).toInt64 := by rw [← qa_0]; decide
theorem qk_lmul (a b : Int) : ((qa_fe a).toInt64 * (qa_fe b).toInt64) - ((qa_fe a).toInt64 * (qa_fe b).toInt64) / 2147483647 * 2147483647 = (qa_fe (a * b)).toInt64 := by
  apply Int64.toInt_inj.mp
  have h := qa_lmul a b
  rw [Jvm.Kit.i64_rem_nonneg (by rw [h]; exact (qa_mb' a b).1), h, qa_p64, qa_mm, qa_l]
theorem qk_ladd (a b : Int) : ((qa_fe a).toInt64 + (qa_fe b).toInt64) - ((qa_fe a).toInt64 + (qa_fe b).toInt64) / 2147483647 * 2147483647 = (qa_fe (a + b)).toInt64 := by
  apply Int64.toInt_inj.mp
  have h := qa_ladd a b
  rw [Jvm.Kit.i64_rem_nonneg (by rw [h]; omega), h, qa_p64, qa_add_mod, qa_l]
theorem qk_field {post : Int32 → Prop} (z : Int) (h : post 1) : wpL_field post () (qa_fe z) := by
  refine br_f (qa_ge0 z) (br_f ?_ h)
  intro y
  rw [Int32.le_iff_toInt_le, qa_fe_int, qa_p32] at y
  omega
section QK
variable {w m : Nat} {K : Nat → Nat} {L R : Nat → Int32} {x F M pt B P : Nat → Int}
theorem qk_ir {post : Int32 → Prop} {t : Nat} (ht : t < 7) (h : post 1) : wpX_isReadable post ((nI 16), (nI 8), (nI w), (nI m), 1, 1, (fun zi => nI (K zi)), L, R, (fun zi => qa_fe (x zi)), (fun zi => qa_fe (F zi)), (fun zi => qa_fe (M zi)), (fun zi => qa_fe (pt zi)), (fun zi => qa_fe (B zi)), (fun zi => qa_fe (P zi))) (nI t) := by
  have t6 : ¬ (6 : Int32) < nI t := Int32.not_lt.mpr (nI_le (b := 6) (by omega) (by omega))
  exact br_f (nI_pos (by omega)) (br_f t6 (br_f (by decide) (br_f (by decide) h)))
theorem qk_len {t : Nat} (ht : t < 7) (hm : m ≤ 16) : qa_len t m ≤ 32 := by
  unfold qa_len
  split
  · omega
  · split <;> omega
theorem qk_co {post : Int32 → Prop} {t k : Nat} (ht : t < 7) (m0 : 0 < m) (hm : m ≤ 16) (hk : k < qa_len t m) (h : post (qa_fe (P (t * 32 + k)))) : wpX_coeff post ((nI 16), (nI 8), (nI w), (nI m), 1, 1, (fun zi => nI (K zi)), L, R, (fun zi => qa_fe (x zi)), (fun zi => qa_fe (F zi)), (fun zi => qa_fe (M zi)), (fun zi => qa_fe (pt zi)), (fun zi => qa_fe (B zi)), (fun zi => qa_fe (P zi))) (nI t) (nI k) := by
  have hl := qk_len ht hm
  unfold wpX_coeff
  refine qk_ir ht (br_f (by decide) (br_f (nI_pos (by omega)) (qx_len ht m0 hm (br_t (nI_lt hk (by omega)) ?_))))
  rw [qn_m32, nI_add, nI_clamp (by omega)]
  exact ⟨vp_in_nI (by omega) (by omega), h⟩
theorem qk_ev {post : Int32 → Prop} {t : Nat} (ht : t < 7) (m0 : 0 < m) (hm : m ≤ 16) (p : Int32) (h : post (qa_fe (qa_ho (fun k => P (t * 32 + k)) p.toInt (qa_len t m) 0))) : wpX_evaluate post ((nI 16), (nI 8), (nI w), (nI m), 1, 1, (fun zi => nI (K zi)), L, R, (fun zi => qa_fe (x zi)), (fun zi => qa_fe (F zi)), (fun zi => qa_fe (M zi)), (fun zi => qa_fe (pt zi)), (fun zi => qa_fe (B zi)), (fun zi => qa_fe (P zi))) (nI t) p := by
  unfold wpX_evaluate
  refine qk_ir ht (br_f (by decide) ?_)
  rw [qx_red]
  exact qx_pv ht m0 hm _ h
theorem qk_at {post : Int32 → Prop} (m0 : 0 < m) (hm : m ≤ 16) (p : Int32) (he : qa_fe (qa_ho (fun k => P (4 * 32 + k)) p.toInt (qa_len 4 m) 0) = qa_fe (qa_ho (fun k => P (5 * 32 + k)) p.toInt (qa_len 5 m) 0 * qa_ho (fun k => P (3 * 32 + k)) p.toInt (qa_len 3 m) 0)) (h : post 1) : wpX_checkAt post ((nI 16), (nI 8), (nI w), (nI m), 1, 1, (fun zi => nI (K zi)), L, R, (fun zi => qa_fe (x zi)), (fun zi => qa_fe (F zi)), (fun zi => qa_fe (M zi)), (fun zi => qa_fe (pt zi)), (fun zi => qa_fe (B zi)), (fun zi => qa_fe (P zi))) p := by
  unfold wpX_checkAt
  refine br_f (by decide) ?_
  rw [qx_red]
  refine qx_pv (t := 5) (by omega) m0 hm _ ?_
  refine qx_pv (t := 3) (by omega) m0 hm _ ?_
  refine qx_pv (t := 4) (by omega) m0 hm _ ?_
  rw [qx_mul]
  exact br_t he h
theorem qk_220 {post : Int32 → Prop} {J : Int32 → Prop} (m0 : 0 < m) (hm : m ≤ 8) (x1 x2 x4 : Int32) {k : Nat} (hk : k < 2 * m - 1) (z : Int) (he : qa_fe (P (128 + k)) = qa_fe z) (h : J (nI (k + 1))) : wL_check_220 post J x1 x2 x4 (nI k) (qa_fe z).toInt64 (nI 16) (nI 8) (nI w) (nI m) 1 1 (fun zi => nI (K zi)) L R (fun zi => qa_fe (x zi)) (fun zi => qa_fe (F zi)) (fun zi => qa_fe (M zi)) (fun zi => qa_fe (pt zi)) (fun zi => qa_fe (B zi)) (fun zi => qa_fe (P zi)) := by
  unfold wL_check_220
  refine qk_co (t := 4) (k := k) (by omega) m0 (by omega) (by unfold qa_len; rw [if_neg (by omega), if_pos rfl]; exact hk) ?_
  exact qk_field _ (br_f (by decide) (br_t (by rw [← he]) (nm_r (nI_1 k) h)))
theorem qk_107 {post : Int32 → Prop} {J : Int32 → Prop} {Z H Q : Nat → Int} (m0 : 0 < m) (hm : m ≤ 8) (x1 x4 : Int32) {k : Nat} (hk : k < 2 * m - 1) (hZ : ∀ k, k < 32 → P (96 + k) = Z k) (hH : ∀ k, k < 32 → P (160 + k) = H k) (hR : ∀ k, k < 32 → P (192 + k) = Q k) (hP : P (128 + k) = qa_sm (fun i => qe_d Z H m i k) m + (if k < m then Q k else 0)) (h : J (nI (k + 1))) : ∀ n i, i ≤ m → m - i < n → wL_check_107 post J x1 (nI m) x4 (nI k) (nI 16) (nI 8) (nI w) (nI m) 1 1 (fun zi => nI (K zi)) L R (fun zi => qa_fe (x zi)) (fun zi => qa_fe (F zi)) (fun zi => qa_fe (M zi)) (fun zi => qa_fe (pt zi)) (fun zi => qa_fe (B zi)) (fun zi => qa_fe (P zi)) n (qa_fe (qa_sm (fun i => qe_d Z H m i k) i)).toInt64 (nI i) := by
  intro n
  induction n with
  | zero => intros; omega
  | succ n ih =>
    intro i hi hn
    by_cases z : i < m
    · have i2 := ih (i + 1) (by omega) (by omega)
      refine br_f (nI_ge z (by omega)) ?_
      by_cases c1 : k < i
      · have e0 : qe_d Z H m i k = 0 := if_neg (by omega)
        rw [qa_sm, e0, Int.add_zero] at i2
        exact nm_e (br_t (pk_sneg (by omega) c1) (nm_r (nI_1 i) i2))
      · refine nm_r (pk_sub (by omega)) (br_f (nI_pos (by omega)) ?_)
        by_cases c2 : k - i ≤ m
        · have e0 : qe_d Z H m i k = H i * Z (k - i) := if_pos (by omega)
          rw [qa_sm, e0] at i2
          refine br_t (nI_le c2 (by omega)) ?_
          refine qk_co (t := 5) (k := i) (by omega) m0 (by omega) (by unfold qa_len; rw [if_neg (by omega), if_neg (by omega)]; exact z) ?_
          refine qk_co (t := 3) (k := k - i) (by omega) m0 (by omega) (by unfold qa_len; rw [if_pos rfl]; omega) ?_
          refine qk_field _ (br_f (by decide) (qk_field _ (br_f (by decide) ⟨by decide, by decide, ?_⟩)))
          rw [show P (5 * 32 + i) = H i from hH i (by omega), show P (3 * 32 + (k - i)) = Z (k - i) from hZ (k - i) (by omega)]
          rw [qk_lmul, qk_ladd]
          exact nm_e (nm_r (nI_1 i) i2)
        · have e0 : qe_d Z H m i k = 0 := if_neg (by omega)
          rw [qa_sm, e0, Int.add_zero] at i2
          exact br_f (nI_ge (by omega) (by omega)) (nm_r (nI_1 i) i2)
    · obtain rfl : i = m := by omega
      refine br_t (nI_le (Nat.le_refl _) (by omega)) ?_
      by_cases c : i ≤ k
      · rw [if_neg (by omega), Int.add_zero] at hP
        exact br_t (nI_le c (by omega)) (qk_220 m0 hm x1 (nI i) x4 hk _ (by rw [hP]) h)
      · rw [if_pos (by omega)] at hP
        refine br_f (nI_ge (by omega) (by omega)) ?_
        refine qk_co (t := 6) (k := k) (by omega) m0 (by omega) (by unfold qa_len; rw [if_neg (by omega), if_neg (by omega)]; omega) ⟨by decide, ?_⟩
        rw [show P (6 * 32 + k) = Q k from hR k (by omega), qk_ladd]
        exact nm_e (qk_220 m0 hm x1 (nI i) x4 hk _ (by rw [hP]) h)
theorem qk_91 {post : Int32 → Prop} {Z H Q : Nat → Int} (m0 : 0 < m) (hm : m ≤ 8) (x1 x4 : Int32) (hZ : ∀ k, k < 32 → P (96 + k) = Z k) (hH : ∀ k, k < 32 → P (160 + k) = H k) (hR : ∀ k, k < 32 → P (192 + k) = Q k) (hP : ∀ k, k < 2 * m - 1 → P (128 + k) = qa_sm (fun i => qe_d Z H m i k) m + (if k < m then Q k else 0)) (hc : ¬ x4 = 0 → qa_fe (qa_ho (fun k => P (4 * 32 + k)) x1.toInt (qa_len 4 m) 0) = qa_fe (qa_ho (fun k => P (5 * 32 + k)) x1.toInt (qa_len 5 m) 0 * qa_ho (fun k => P (3 * 32 + k)) x1.toInt (qa_len 3 m) 0)) (h : post 1) : ∀ n k, k ≤ 2 * m - 1 → 2 * m - 1 - k < n → wL_check_91 post x1 (nI m) x4 (nI 16) (nI 8) (nI w) (nI m) 1 1 (fun zi => nI (K zi)) L R (fun zi => qa_fe (x zi)) (fun zi => qa_fe (F zi)) (fun zi => qa_fe (M zi)) (fun zi => qa_fe (pt zi)) (fun zi => qa_fe (B zi)) (fun zi => qa_fe (P zi)) n (nI k) := by
  have l : (2 : Int32) * nI m - 1 = nI (2 * m - 1) := by
    rw [show (2 : Int32) = nI 2 by decide, pk_mul, show (1 : Int32) = nI 1 by decide, pk_sub (by omega)]
  intro n
  induction n with
  | zero => intros; omega
  | succ n ih =>
    intro k hk hn
    by_cases z : k < 2 * m - 1
    · refine br_f (by rw [l]; exact nI_ge z (by omega)) ⟨m + 1, ?_⟩
      exact qk_107 m0 hm x1 x4 z hZ hH hR (hP k z) (ih (k + 1) (by omega) (by omega)) (m + 1) 0 (by omega) (by omega)
    · obtain rfl : k = 2 * m - 1 := by omega
      refine br_t (by rw [l]; exact nI_le (Nat.le_refl _) (by omega)) (br_c (fun _ => h) (fun e => ?_))
      refine qk_at m0 (by omega) x1 (hc e) (br_t rfl ?_)
      refine qk_ev (t := 4) (by omega) m0 (by omega) x1 ?_
      refine qk_ev (t := 5) (by omega) m0 (by omega) x1 ?_
      refine qk_ev (t := 3) (by omega) m0 (by omega) x1 ?_
      refine qk_field _ (br_f (by decide) (qk_field _ (br_f (by decide) (qk_field _ (br_f (by decide) ⟨by decide, br_t ?_ h⟩)))))
      rw [qk_lmul, hc e]
theorem qk_24 {post : Int32 → Prop} {Q : Nat → Int} (m0 : 0 < m) (hw : w ≤ 16) (hm : m ≤ 8) (x1 : Int32) (hR : ∀ k, k < 32 → P (192 + k) = Q k) (hs : qa_sat M x w m ↔ ∀ k, k < m → qa_fe (Q k) = 0) (h1 : qa_sat M x w m → ∃ n, wL_check_91 post x1 (nI m) 1 (nI 16) (nI 8) (nI w) (nI m) 1 1 (fun zi => nI (K zi)) L R (fun zi => qa_fe (x zi)) (fun zi => qa_fe (F zi)) (fun zi => qa_fe (M zi)) (fun zi => qa_fe (pt zi)) (fun zi => qa_fe (B zi)) (fun zi => qa_fe (P zi)) n 0) (h0 : ∃ n, wL_check_91 post x1 (nI m) 0 (nI 16) (nI 8) (nI w) (nI m) 1 1 (fun zi => nI (K zi)) L R (fun zi => qa_fe (x zi)) (fun zi => qa_fe (F zi)) (fun zi => qa_fe (M zi)) (fun zi => qa_fe (pt zi)) (fun zi => qa_fe (B zi)) (fun zi => qa_fe (P zi)) n 0) : ∀ n k (r : Int32), k ≤ m → m - k < n → ((r = 1 ∧ ∀ i, i < k → qa_fe (Q i) = 0) ∨ (r = 0 ∧ ¬ (∀ i, i < m → qa_fe (Q i) = 0))) → wL_check_24 post x1 (nI m) (nI 16) (nI 8) (nI w) (nI m) 1 1 (fun zi => nI (K zi)) L R (fun zi => qa_fe (x zi)) (fun zi => qa_fe (F zi)) (fun zi => qa_fe (M zi)) (fun zi => qa_fe (pt zi)) (fun zi => qa_fe (B zi)) (fun zi => qa_fe (P zi)) n r (nI k) := by
  intro n
  induction n with
  | zero => intros; omega
  | succ n ih =>
    intro k r hk hn hr
    by_cases z : k < m
    · refine br_f (nI_ge z (by omega)) ?_
      refine qk_co (t := 6) (k := k) (by omega) m0 (by omega) (by unfold qa_len; rw [if_neg (by omega), if_neg (by omega)]; exact z) ?_
      rw [show P (6 * 32 + k) = Q k from hR k (by omega)]
      refine qk_field _ (br_f (by decide) ?_)
      by_cases q : qa_fe (Q k) = 0
      · refine br_t q (nm_r (nI_1 k) (ih (k + 1) r (by omega) (by omega) ?_))
        rcases hr with ⟨e, hr⟩ | hr
        · refine Or.inl ⟨e, fun i hi => ?_⟩
          by_cases y : i = k
          · rw [y]; exact q
          · exact hr i (by omega)
        · exact Or.inr hr
      · exact br_f q (nm_r (nI_1 k) (ih (k + 1) 0 (by omega) (by omega) (Or.inr ⟨rfl, fun y => q (y k z)⟩)))
    · obtain rfl : k = m := by omega
      refine br_t (nI_le (Nat.le_refl _) (by omega)) ?_
      refine qj_i4 hw hm 0 (fun s => br_t rfl ?_) (fun s => br_f (by decide) ?_)
      · rcases hr with ⟨rfl, hr⟩ | ⟨rfl, hr⟩
        · exact br_t rfl (h1 s)
        · exact absurd (hs.mp s) hr
      · rcases hr with ⟨rfl, hr⟩ | ⟨rfl, hr⟩
        · exact absurd (hs.mpr hr) s
        · exact br_t rfl h0
end QK
theorem qk_check {post : Int32 → Prop} {u : St2} (I : qj_I u) (p : Int32) (h : post 1) : wpL_check post u p := by
  obtain ⟨w, m, cp, hq, K, L, R, x, F, M, pt, B, P, rfl, I⟩ := I
  obtain ⟨n1, n2, n3, hk, hd, hQ, hH⟩ := I
  unfold wpL_check
  rcases id hH with rfl | ⟨rfl, rfl, hHR⟩
  · exact qj_i3 0 (fun y => absurd rfl y) (fun _ => br_f (by decide) h)
  · rcases id hQ with ⟨y, -⟩ | ⟨-, m0, q1, q2, q3, q4, q5⟩
    · exact absurd y (by decide)
    · refine qj_i3 0 (fun _ => br_t rfl ?_) (fun y => absurd y (by decide))
      refine qj_i1 0 ⟨m + 1, ?_⟩
      have hg : ∀ t, 2 * m ≤ t + 1 → qa_pp M x pt w m t = 0 := fun t ht => qa_pp_0 M x pt w m t ht m0
      have hP : ∀ k, k < 2 * m - 1 → P (128 + k) = qa_sm (fun i => qe_d (qa_zp pt m) (qa_hh (qa_zp pt m) (qa_pp M x pt w m) m) m i k) m + (if k < m then qa_rr (qa_zp pt m) (qa_pp M x pt w m) m k else 0) := by
        intro k hk
        have e1 := qe_div pt (qa_pp M x pt w m) m0 k
        have e2 : qa_sm (fun i => qe_d (qa_zp pt m) (qa_hh (qa_zp pt m) (qa_pp M x pt w m) m) m i k) m = qa_sm (fun i => qe_d (qa_zp pt m) (qa_hh (qa_zp pt m) (qa_pp M x pt w m) m) m i k) (m - 1) := by
          refine qs_ext (by omega) fun i h1 h2 => ?_
          unfold qe_d
          rw [qe_hh0 _ _ (by omega), Int.zero_mul]
          split <;> rfl
        rw [q4 k (by omega), e2, ← e1]
        by_cases y : k < m
        · rw [if_pos y, Int.add_comm]
        · rw [if_neg y, qe_rr0 pt _ m0 hg (by omega), Int.add_comm]
      have hs := qe_sat (M := M) (x := x) (w := w) m0 (qj_dd hd n3)
      have v4 : ∀ y : Int, qa_ho (fun k => P (4 * 32 + k)) y (qa_len 4 m) 0 = qe_v (qa_pp M x pt w m) y (2 * m - 1) := by
        intro y
        rw [← qe_ho0]
        unfold qa_len
        rw [if_neg (by omega), if_pos rfl]
        exact qa_ho_c y _ _ fun i _ h2 => q4 i (by omega)
      have v5 : ∀ y : Int, qa_ho (fun k => P (5 * 32 + k)) y (qa_len 5 m) 0 = qe_v (qa_hh (qa_zp pt m) (qa_pp M x pt w m) m) y m := by
        intro y
        rw [← qe_ho0]
        unfold qa_len
        rw [if_neg (by omega), if_neg (by omega)]
        exact qa_ho_c y _ _ fun i _ h2 => (hHR i (by omega)).1
      have v3 : ∀ y : Int, qa_ho (fun k => P (3 * 32 + k)) y (qa_len 3 m) 0 = qe_v (qa_zp pt m) y (m + 1) := by
        intro y
        rw [← qe_ho0]
        unfold qa_len
        rw [if_pos rfl]
        exact qa_ho_c y _ _ fun i _ h2 => q2 i (by omega)
      refine qk_24 (Q := qa_rr (qa_zp pt m) (qa_pp M x pt w m) m) m0 n2 n3 p (fun k hk => (hHR k hk).2) hs (fun s => ⟨2 * m, ?_⟩) ⟨2 * m, ?_⟩ (m + 1) 0 1 (by omega) (by omega) (Or.inl ⟨rfl, fun i hi => by omega⟩)
      · exact qk_91 m0 n3 p 1 q2 (fun k hk => (hHR k hk).1) (fun k hk => (hHR k hk).2) hP (fun _ => by rw [v4, v5, v3]; exact qa_cong (qe_cert m0 (hs.mp s) p.toInt)) h (2 * m) 0 (by omega) (by omega)
      · exact qk_91 m0 n3 p 0 q2 (fun k hk => (hHR k hk).1) (fun k hk => (hHR k hk).2) hP (fun y => absurd rfl y) h (2 * m) 0 (by omega) (by omega)
