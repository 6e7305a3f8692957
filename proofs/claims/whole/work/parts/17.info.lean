theorem i_vc_info {k : Nat} {u : SX} {v : SY} (I : i_Rel k u v) (hk : k + 4 ≤ 2050) (v1 : Int32) (v2 : Int32) : wpX_info (fun r => wpY_info (fun r' v' => r' = r ∧ i_Rel (k + 4) u v') v v1 v2) u v1 v2 := by
  obtain ⟨W, C, w, m, cp, hq, K, L, R, x, F, M, pt, B, P, oa, ob, st, ca, cb, cw, hh, rr, col, bas, pm, pp, zz, rm, rfl, rfl, hN, hW, hX, hC, hQ, hH⟩ := I
  have same : ∀ c : Nat → Int32, i_Rel (k + 4) ((nI W), (nI C), (nI w), (nI m), cp, hq, (fun zi => nI (K zi)), L, R, (fun zi => qa_fe (x zi)), (fun zi => qa_fe (F zi)), (fun zi => qa_fe (M zi)), (fun zi => qa_fe (pt zi)), (fun zi => qa_fe (B zi)), (fun zi => qa_fe (P zi))) ((nI W), (nI C), (nI w), (nI m), cp, hq, (fun zi => nI (K zi)), oa, ob, st, ca, cb, cw, (fun zi => qa_fe (pt zi)), hh, rr, c, bas, pm, pp, zz, rm) := fun c => qi_mk hN hW hX hC hQ hH
  have s0 := same col
  obtain ⟨n1, n2, n3, n4, n5, n6, n7⟩ := id hN
  rcases pk_ix v1 (n := 10) (by omega) with z | z | ⟨t, ht, rfl⟩
  · have ne : ∀ j : Nat, j < 10 → ¬ v1 = nI j := fun j hj e => nI_pos (n := j) (by omega) (by rw [← e]; exact z)
    exact br_t z (br_f (ne 0 (by omega)) (br_f (ne 1 (by omega)) (br_f (ne 2 (by omega)) (br_f (ne 3 (by omega)) (br_f (ne 4 (by omega)) (br_f (ne 5 (by omega)) (br_f (ne 6 (by omega)) (br_f (ne 7 (by omega)) (br_f (ne 8 (by omega)) (br_f (ne 9 (by omega)) ⟨rfl, s0⟩))))))))))
  · have ne : ∀ j : Nat, j < 10 → ¬ v1 = nI j := fun j hj e => nI_ge (a := j) (b := 10) hj (by omega) (by rw [← e]; exact z)
    have h9 : (9 : Int32) < v1 := Int32.lt_of_lt_of_le (by decide) z
    exact br_f (qm_ge (by omega) z).1 (br_t h9 (br_f (ne 0 (by omega)) (br_f (ne 1 (by omega)) (br_f (ne 2 (by omega)) (br_f (ne 3 (by omega)) (br_f (ne 4 (by omega)) (br_f (ne 5 (by omega)) (br_f (ne 6 (by omega)) (br_f (ne 7 (by omega)) (br_f (ne 8 (by omega)) (br_f (ne 9 (by omega)) ⟨rfl, s0⟩)))))))))))
  · refine br_f (nI_pos (by omega)) (br_f (Int32.not_lt.mpr (nI_le (b := 9) (by omega) (by omega))) ?_)
    have d : t = 0 ∨ t = 1 ∨ t = 2 ∨ t = 3 ∨ t = 4 ∨ t = 5 ∨ t = 6 ∨ t = 7 ∨ t = 8 ∨ t = 9 := by omega
    rcases d with rfl | rfl | rfl | rfl | rfl | rfl | rfl | rfl | rfl | rfl
    · exact br_t (by decide) (br_t (by decide) ⟨rfl, s0⟩)
    · exact br_f (by decide) (br_t (by decide) (br_f (by decide) (br_t (by decide) ⟨rfl, s0⟩)))
    · refine br_f (by decide) (br_f (by decide) (br_t (by decide) ?_))
      by_cases e : cp = 0
      · exact br_t e (br_f (by decide) (br_f (by decide) (br_t (by decide) (br_t e ⟨rfl, s0⟩))))
      · exact br_f e (br_f (by decide) (br_f (by decide) (br_t (by decide) (br_f e ⟨rfl, s0⟩))))
    · refine br_f (by decide) (br_f (by decide) (br_f (by decide) (br_t (by decide) ?_)))
      by_cases e : hq = 0
      · exact br_t e (br_f (by decide) (br_f (by decide) (br_f (by decide) (br_t (by decide) (br_t e ⟨rfl, s0⟩)))))
      · exact br_f e (br_f (by decide) (br_f (by decide) (br_f (by decide) (br_t (by decide) (br_f e ⟨rfl, s0⟩)))))
    · refine br_f (by decide) (br_f (by decide) (br_f (by decide) (br_f (by decide) (br_t (by decide) ?_))))
      have yy : ∀ post : Int32 → SY → Prop, (qa_sat M x w m → ∀ c : Nat → Int32, post 1 ((nI W), (nI C), (nI w), (nI m), cp, hq, (fun zi => nI (K zi)), oa, ob, st, ca, cb, cw, (fun zi => qa_fe (pt zi)), hh, rr, c, bas, pm, pp, zz, rm)) → (¬ qa_sat M x w m → ∀ c : Nat → Int32, post 0 ((nI W), (nI C), (nI w), (nI m), cp, hq, (fun zi => nI (K zi)), oa, ob, st, ca, cb, cw, (fun zi => qa_fe (pt zi)), hh, rr, c, bas, pm, pp, zz, rm)) → wpY_info post ((nI W), (nI C), (nI w), (nI m), cp, hq, (fun zi => nI (K zi)), oa, ob, st, ca, cb, cw, (fun zi => qa_fe (pt zi)), hh, rr, col, bas, pm, pp, zz, rm) (nI 4) v2 := by
        intro post h1 h0
        refine br_f (by decide) (br_f (by decide) (br_f (by decide) (br_f (by decide) (br_t (by decide) ?_))))
        exact qy_sat hW hX hC (by omega) (by omega) (fun s c => br_f (by decide) (h1 s c)) (fun s c => br_t rfl (h0 s c))
      refine qx_sat (by omega) (by omega) (fun s => br_f (by decide) ?_) (fun s => br_t rfl ?_)
      · exact yy _ (fun _ c => ⟨rfl, same c⟩) (fun y => absurd s y)
      · exact yy _ (fun y => absurd y s) (fun _ c => ⟨rfl, same c⟩)
    · refine br_f (by decide) (br_f (by decide) (br_f (by decide) (br_f (by decide) (br_f (by decide) (br_t (by decide) ?_)))))
      have yy : ∀ post : Int32 → SY → Prop, ((v2 < 0 → post (-1) ((nI W), (nI C), (nI w), (nI m), cp, hq, (fun zi => nI (K zi)), oa, ob, st, ca, cb, cw, (fun zi => qa_fe (pt zi)), hh, rr, col, bas, pm, pp, zz, rm)) ∧ (¬ v2 < 0 → ((v2 < nI w → (vp_in v2 32 ∧ post (nI (K v2.toNatClampNeg)) ((nI W), (nI C), (nI w), (nI m), cp, hq, (fun zi => nI (K zi)), oa, ob, st, ca, cb, cw, (fun zi => qa_fe (pt zi)), hh, rr, col, bas, pm, pp, zz, rm))) ∧ (¬ v2 < nI w → post (-1) ((nI W), (nI C), (nI w), (nI m), cp, hq, (fun zi => nI (K zi)), oa, ob, st, ca, cb, cw, (fun zi => qa_fe (pt zi)), hh, rr, col, bas, pm, pp, zz, rm))))) → wpY_info post ((nI W), (nI C), (nI w), (nI m), cp, hq, (fun zi => nI (K zi)), oa, ob, st, ca, cb, cw, (fun zi => qa_fe (pt zi)), hh, rr, col, bas, pm, pp, zz, rm) (nI 5) v2 := fun post h =>
        br_f (by decide) (br_f (by decide) (br_f (by decide) (br_f (by decide) (br_f (by decide) (br_t (by decide) h)))))
      rcases pk_ix v2 (n := w) (by omega) with z | z | ⟨a, ha, rfl⟩
      · exact qx_nw (by omega) (Or.inl z) (br_t rfl (yy _ (br_t z ⟨rfl, s0⟩)))
      · have q := qm_ge (by omega) z
        exact qx_nw (by omega) (Or.inr z) (br_t rfl (yy _ (br_f q.1 (br_f q.2 ⟨rfl, s0⟩))))
      · have vi : vp_in (nI a) 32 := vp_in_nI (by omega) (by omega)
        exact qx_iw (by omega) ha (br_f (by decide) ⟨vi, yy _ (br_f (nI_pos (by omega)) (br_t (nI_lt ha (by omega)) ⟨vi, rfl, s0⟩))⟩)
    · refine br_f (by decide) (br_f (by decide) (br_f (by decide) (br_f (by decide) (br_f (by decide) (br_f (by decide) (br_t (by decide) ?_))))))
      have yy : ∀ post : Int32 → SY → Prop, ((v2 < 0 → post (-1) ((nI W), (nI C), (nI w), (nI m), cp, hq, (fun zi => nI (K zi)), oa, ob, st, ca, cb, cw, (fun zi => qa_fe (pt zi)), hh, rr, col, bas, pm, pp, zz, rm)) ∧ (¬ v2 < 0 → ((v2 < nI w → wpY_value (fun r_16 u => match u with | (a1, a2, a3, a4, a5, a6, a7, a8, a9, a10, a11, a12, a13, a14, a15, a16, a17, a18, a19, a20, a21, a22) => post r_16 (a1, a2, a3, a4, a5, a6, a7, a8, a9, a10, a11, a12, a13, a14, a15, a16, a17, a18, a19, a20, a21, a22)) ((nI W), (nI C), (nI w), (nI m), cp, hq, (fun zi => nI (K zi)), oa, ob, st, ca, cb, cw, (fun zi => qa_fe (pt zi)), hh, rr, col, bas, pm, pp, zz, rm) v2) ∧ (¬ v2 < nI w → post (-1) ((nI W), (nI C), (nI w), (nI m), cp, hq, (fun zi => nI (K zi)), oa, ob, st, ca, cb, cw, (fun zi => qa_fe (pt zi)), hh, rr, col, bas, pm, pp, zz, rm))))) → wpY_info post ((nI W), (nI C), (nI w), (nI m), cp, hq, (fun zi => nI (K zi)), oa, ob, st, ca, cb, cw, (fun zi => qa_fe (pt zi)), hh, rr, col, bas, pm, pp, zz, rm) (nI 6) v2 := fun post h =>
        br_f (by decide) (br_f (by decide) (br_f (by decide) (br_f (by decide) (br_f (by decide) (br_f (by decide) (br_t (by decide) h))))))
      rcases pk_ix v2 (n := w) (by omega) with z | z | ⟨a, ha, rfl⟩
      · exact qx_nw (by omega) (Or.inl z) (br_t rfl (yy _ (br_t z ⟨rfl, s0⟩)))
      · have q := qm_ge (by omega) z
        exact qx_nw (by omega) (Or.inr z) (br_t rfl (yy _ (br_f q.1 (br_f q.2 ⟨rfl, s0⟩))))
      · refine qx_iw (by omega) ha (br_f (by decide) (qx_wv (by omega) (by omega) ?_))
        exact yy _ (br_f (nI_pos (by omega)) (br_t (nI_lt ha (by omega)) (qy_val hW hX (by omega) ha fun c => ⟨rfl, same c⟩)))
    · refine br_f (by decide) (br_f (by decide) (br_f (by decide) (br_f (by decide) (br_f (by decide) (br_f (by decide) (br_f (by decide) (br_t (by decide) ?_)))))))
      have yy : ∀ post : Int32 → SY → Prop, ((v2 < 0 → post (-1) ((nI W), (nI C), (nI w), (nI m), cp, hq, (fun zi => nI (K zi)), oa, ob, st, ca, cb, cw, (fun zi => qa_fe (pt zi)), hh, rr, col, bas, pm, pp, zz, rm)) ∧ (¬ v2 < 0 → ((v2 < nI C → (vp_in v2 16 ∧ post (qa_fe (pt v2.toNatClampNeg)) ((nI W), (nI C), (nI w), (nI m), cp, hq, (fun zi => nI (K zi)), oa, ob, st, ca, cb, cw, (fun zi => qa_fe (pt zi)), hh, rr, col, bas, pm, pp, zz, rm))) ∧ (¬ v2 < nI C → post (-1) ((nI W), (nI C), (nI w), (nI m), cp, hq, (fun zi => nI (K zi)), oa, ob, st, ca, cb, cw, (fun zi => qa_fe (pt zi)), hh, rr, col, bas, pm, pp, zz, rm))))) → wpY_info post ((nI W), (nI C), (nI w), (nI m), cp, hq, (fun zi => nI (K zi)), oa, ob, st, ca, cb, cw, (fun zi => qa_fe (pt zi)), hh, rr, col, bas, pm, pp, zz, rm) (nI 7) v2 := fun post h =>
        br_f (by decide) (br_f (by decide) (br_f (by decide) (br_f (by decide) (br_f (by decide) (br_f (by decide) (br_f (by decide) (br_t (by decide) h)))))))
      rcases pk_ix v2 (n := C) (by omega) with z | z | ⟨a, ha, rfl⟩
      · exact br_t z (yy _ (br_t z ⟨rfl, s0⟩))
      · have q := qm_ge (by omega) z
        exact br_f q.1 (br_t z (yy _ (br_f q.1 (br_f q.2 ⟨rfl, s0⟩))))
      · have vi : vp_in (nI a) 16 := vp_in_nI (by omega) (by omega)
        have a1 : ¬ nI a < 0 := nI_pos (by omega)
        exact br_f a1 (br_f (nI_ge ha (by omega)) ⟨vi, yy _ (br_f a1 (br_t (nI_lt ha (by omega)) ⟨vi, rfl, s0⟩))⟩)
    · exact br_f (by decide) (br_f (by decide) (br_f (by decide) (br_f (by decide) (br_f (by decide) (br_f (by decide) (br_f (by decide) (br_f (by decide) (br_t (by decide) (br_f (by decide) (br_f (by decide) (br_f (by decide) (br_f (by decide) (br_f (by decide) (br_f (by decide) (br_f (by decide) (br_f (by decide) (br_t (by decide) ⟨rfl, s0⟩)))))))))))))))))
    · exact br_f (by decide) (br_f (by decide) (br_f (by decide) (br_f (by decide) (br_f (by decide) (br_f (by decide) (br_f (by decide) (br_f (by decide) (br_f (by decide) (br_t (by decide) (br_f (by decide) (br_f (by decide) (br_f (by decide) (br_f (by decide) (br_f (by decide) (br_f (by decide) (br_f (by decide) (br_f (by decide) (br_f (by decide) (br_t (by decide) ⟨rfl, s0⟩)))))))))))))))))))
theorem qc_cl (p : Int32) {lo hi : Nat} (h : lo ≤ hi) (hi2 : hi < 2 ^ 31) : ∃ c, lo ≤ c ∧ c ≤ hi ∧ ∀ A : Int32 → Prop, A (nI c) → ((nI lo ≤ p → ((p ≤ nI hi → A p) ∧ (¬ p ≤ nI hi → A (nI hi)))) ∧ (¬ nI lo ≤ p → A (nI lo))) := by
  by_cases h1 : nI lo ≤ p
  · by_cases h2 : p ≤ nI hi
    · obtain ⟨j, hj, rfl⟩ := nI_of (x := p) (qm_ge (by omega) h1).1
      rw [nI_leI (by omega) (by omega)] at h1 h2
      exact ⟨j, h1, h2, fun A a => br_t (nI_le h1 (by omega)) (br_t (nI_le h2 (by omega)) a)⟩
    · exact ⟨hi, h, Nat.le_refl _, fun A a => br_t h1 (br_f h2 a)⟩
  · exact ⟨lo, Nat.le_refl _, h, fun A a => br_f h1 a⟩
def qc_pt (k : Nat) : Nat → Int := fun i => if i < k then (i : Int) + 1 else 0
theorem qc_pt_s (k : Nat) (hk : k < 16) : upd (fun zi => qa_fe (qc_pt k zi)) k (nI k + 1) = fun zi => qa_fe (qc_pt (k + 1) zi) := by
  rw [nI_1, qa_nI (by omega), qa_upd]
  funext zi
  congr 1
  unfold qa_uz qc_pt
  by_cases h : zi = k
  · subst h
    rw [if_pos rfl, if_pos (by omega)]
    rfl
  · rw [if_neg h]
    by_cases h2 : zi < k
    · rw [if_pos h2, if_pos (by omega)]
    · rw [if_neg h2, if_neg (by omega)]
theorem qc_x105 {post : SX → Prop} {W C : Nat} (h : post (nI W, nI C, nI 1, nI 0, 0, 0, (fun zi => nI ((fun _ => 0) zi)), (fun _ => 0), (fun _ => 0), (fun zi => qa_fe (qa_uz (fun _ => 0) 0 1 zi)), (fun zi => qa_fe (qa_uz (fun _ => 0) 0 1 zi)), (fun zi => qa_fe ((fun _ => 0) zi)), (fun zi => qa_fe (qc_pt 16 zi)), (fun zi => qa_fe ((fun _ => 0) zi)), (fun zi => qa_fe ((fun _ => 0) zi)))) : ∀ n k, k ≤ 16 → 16 - k < n → wX_init_105 post (nI W) (nI C) 0 0 0 0 n (nI k) (fun _ => 0) (fun _ => 0) (fun _ => 0) (fun _ => 0) (fun _ => 0) (fun _ => 0) (fun zi => qa_fe (qc_pt k zi)) (fun _ => 0) (fun _ => 0) := by
  intro n
  induction n with
  | zero => intros; omega
  | succ n ih =>
    intro k hk hn
    by_cases h1 : k < 16
    · refine br_f (by rw [qn_16]; exact nI_ge h1 (by omega)) ⟨vp_in_nI h1 (by omega), ?_⟩
      rw [nI_clamp (by omega)]
      exact nm_r (qc_pt_s k h1) (nm_r (nI_1 k) (ih (k + 1) (by omega) (by omega)))
    · obtain rfl : k = 16 := by omega
      refine br_t (by decide) ?_
      refine qx_mv (w := 0) (m := 0) (K := fun _ => 0) (x := fun _ => 0) (F := fun _ => 0) (M := fun _ => 0) (pt := qc_pt 16) (B := fun _ => 0) (P := fun _ => 0) (by omega) 0 ?_
      have e1 : (fun zi => nI (qa_un (fun _ => 0) 0 0 zi)) = (fun zi => nI ((fun _ => 0) zi)) := by
        funext zi
        congr 1
        unfold qa_un
        split <;> rfl
      refine nm_r (e' := fun zi => qa_fe (qa_uz (fun _ => 0) 0 1 zi)) ?_ ?_
      · rw [qa_1]
        exact qa_upd (fun _ => 0) 0 1
      · rw [e1]
        exact h
theorem qc_y198 {post : SY → Prop} {W C : Nat} (h : post (nI W, nI C, nI 1, nI 0, 0, 0, (fun zi => nI ((fun _ => 0) zi)), (fun _ => 0), (fun _ => 0), (fun _ => 0), (fun _ => 0), (fun _ => 0), (fun _ => 0), (fun zi => qa_fe (qc_pt 16 zi)), (fun _ => 0), (fun _ => 0), (fun _ => 0), (fun _ => 0), (fun _ => 0), (fun _ => 0), (fun _ => 0), (fun _ => 0))) : ∀ n k, k ≤ 16 → 16 - k < n → wY_init_198 post (nI W) (nI C) 1 0 0 0 n (nI k) (fun _ => 0) (fun _ => 0) (fun _ => 0) (fun _ => 0) (fun _ => 0) (fun _ => 0) (fun _ => 0) (fun zi => qa_fe (qc_pt k zi)) (fun _ => 0) (fun _ => 0) (fun _ => 0) (fun _ => 0) (fun _ => 0) (fun _ => 0) (fun _ => 0) (fun _ => 0) := by
  intro n
  induction n with
  | zero => intros; omega
  | succ n ih =>
    intro k hk hn
    by_cases h1 : k < 16
    · refine br_f (by rw [qn_16]; exact nI_ge h1 (by omega)) ⟨vp_in_nI h1 (by omega), ?_⟩
      rw [nI_clamp (by omega)]
      exact nm_r (qc_pt_s k h1) (nm_r (nI_1 k) (ih (k + 1) (by omega) (by omega)))
    · obtain rfl : k = 16 := by omega
      exact br_t (by decide) h
theorem qc_pt0 : (fun zi => qa_fe (qc_pt 0 zi)) = (fun _ => 0) := by
  funext zi
  unfold qc_pt
  rw [if_neg (by omega), ← qa_0]
theorem qc_rel {W C : Nat} (w1 : 8 ≤ W) (w2 : W ≤ 32) (c1 : 4 ≤ C) (c2 : C ≤ 16) : i_Rel 2 (nI W, nI C, nI 1, nI 0, 0, 0, (fun zi => nI ((fun _ => 0) zi)), (fun _ => 0), (fun _ => 0), (fun zi => qa_fe (qa_uz (fun _ => 0) 0 1 zi)), (fun zi => qa_fe (qa_uz (fun _ => 0) 0 1 zi)), (fun zi => qa_fe ((fun _ => 0) zi)), (fun zi => qa_fe (qc_pt 16 zi)), (fun zi => qa_fe ((fun _ => 0) zi)), (fun zi => qa_fe ((fun _ => 0) zi))) (nI W, nI C, nI 1, nI 0, 0, 0, (fun zi => nI ((fun _ => 0) zi)), (fun _ => 0), (fun _ => 0), (fun _ => 0), (fun _ => 0), (fun _ => 0), (fun _ => 0), (fun zi => qa_fe (qc_pt 16 zi)), (fun _ => 0), (fun _ => 0), (fun _ => 0), (fun _ => 0), (fun _ => 0), (fun _ => 0), (fun _ => 0), (fun _ => 0)) := by
  refine qi_mk (w := 1) (m := 0) (K := fun _ => 0) (x := qa_uz (fun _ => 0) 0 1) (F := qa_uz (fun _ => 0) 0 1) (M := fun _ => 0) (pt := qc_pt 16) (B := fun _ => 0) (P := fun _ => 0) ⟨w1, w2, c1, c2, by omega, by omega, by omega⟩ ⟨fun i hi => ?_, fun i v hi hv h => ?_, rfl⟩ ⟨rfl, fun v h1 h2 => ?_, fun v h1 h2 => ?_⟩ ⟨fun j hj => by omega, fun _ _ _ _ _ _ _ => rfl⟩ (Or.inl ⟨rfl, fun _ _ => rfl⟩) (Or.inl rfl)
  · obtain rfl : i = 0 := by omega
    refine Or.inr (Or.inr ⟨Or.inr (Or.inr rfl), fun v hv => ?_⟩)
    unfold qa_uz
    by_cases e : v = 0
    · rw [if_pos (by omega), if_pos (by omega)]
    · rw [if_neg (by omega), if_neg (by omega)]
  · exact qa_uzn (by omega)
  · rw [qa_uzn (by omega), ← qa_0]
  · refine qa_uzn ?_
    rcases h2 with y | y | y
    · omega
    · exact absurd (show (0 : Nat) = 2 from y) (by decide)
    · exact absurd (show (0 : Nat) = 4 from y) (by decide)
theorem i_vc0 (k0 : Int32) (k1 : Int32) : wpX_init (fun u => wpY_init (fun v => i_Rel 2 u v) k0 k1) k0 k1 := by
  obtain ⟨W, w1, w2, hA⟩ := qc_cl k0 (lo := 8) (hi := 32) (by omega) (by omega)
  obtain ⟨C, c1, c2, hB⟩ := qc_cl k1 (lo := 4) (hi := 16) (by omega) (by omega)
  have e0 : upd (fun _ => (0 : Int32)) 0 0 = (fun _ => 0) := by
    funext i
    unfold upd
    split <;> rfl
  have hy : wpY_init (fun v => i_Rel 2 (nI W, nI C, nI 1, nI 0, 0, 0, (fun zi => nI ((fun _ => 0) zi)), (fun _ => 0), (fun _ => 0), (fun zi => qa_fe (qa_uz (fun _ => 0) 0 1 zi)), (fun zi => qa_fe (qa_uz (fun _ => 0) 0 1 zi)), (fun zi => qa_fe ((fun _ => 0) zi)), (fun zi => qa_fe (qc_pt 16 zi)), (fun zi => qa_fe ((fun _ => 0) zi)), (fun zi => qa_fe ((fun _ => 0) zi))) v) k0 k1 := by
    have h198 := qc_y198 (W := W) (C := C) (post := fun v => i_Rel 2 (nI W, nI C, nI 1, nI 0, 0, 0, (fun zi => nI ((fun _ => 0) zi)), (fun _ => 0), (fun _ => 0), (fun zi => qa_fe (qa_uz (fun _ => 0) 0 1 zi)), (fun zi => qa_fe (qa_uz (fun _ => 0) 0 1 zi)), (fun zi => qa_fe ((fun _ => 0) zi)), (fun zi => qa_fe (qc_pt 16 zi)), (fun zi => qa_fe ((fun _ => 0) zi)), (fun zi => qa_fe ((fun _ => 0) zi))) v) (qc_rel w1 w2 c1 c2) 17 0 (by omega) (by omega)
    rw [qc_pt0] at h198
    have h181 : wY_init_181 (fun v => i_Rel 2 (nI W, nI C, nI 1, nI 0, 0, 0, (fun zi => nI ((fun _ => 0) zi)), (fun _ => 0), (fun _ => 0), (fun zi => qa_fe (qa_uz (fun _ => 0) 0 1 zi)), (fun zi => qa_fe (qa_uz (fun _ => 0) 0 1 zi)), (fun zi => qa_fe ((fun _ => 0) zi)), (fun zi => qa_fe (qc_pt 16 zi)), (fun zi => qa_fe ((fun _ => 0) zi)), (fun zi => qa_fe ((fun _ => 0) zi))) v) (nI C) (nI W) 0 0 0 0 0 (fun _ => 0) (fun _ => 0) (fun _ => 0) (fun _ => 0) (fun _ => 0) (fun _ => 0) (fun _ => 0) (fun _ => 0) (fun _ => 0) (fun _ => 0) (fun _ => 0) (fun _ => 0) (fun _ => 0) (fun _ => 0) (fun _ => 0) (fun _ => 0) := nm_r e0 ⟨17, h198⟩
    exact hA (fun z => wY_init_156 (fun v => i_Rel 2 (nI W, nI C, nI 1, nI 0, 0, 0, (fun zi => nI ((fun _ => 0) zi)), (fun _ => 0), (fun _ => 0), (fun zi => qa_fe (qa_uz (fun _ => 0) 0 1 zi)), (fun zi => qa_fe (qa_uz (fun _ => 0) 0 1 zi)), (fun zi => qa_fe ((fun _ => 0) zi)), (fun zi => qa_fe (qc_pt 16 zi)), (fun zi => qa_fe ((fun _ => 0) zi)), (fun zi => qa_fe ((fun _ => 0) zi))) v) k1 z 0 0 0 0 0 0 (fun _ => 0) (fun _ => 0) (fun _ => 0) (fun _ => 0) (fun _ => 0) (fun _ => 0) (fun _ => 0) (fun _ => 0) (fun _ => 0) (fun _ => 0) (fun _ => 0) (fun _ => 0) (fun _ => 0) (fun _ => 0) (fun _ => 0) (fun _ => 0)) (hB (fun z => wY_init_181 (fun v => i_Rel 2 (nI W, nI C, nI 1, nI 0, 0, 0, (fun zi => nI ((fun _ => 0) zi)), (fun _ => 0), (fun _ => 0), (fun zi => qa_fe (qa_uz (fun _ => 0) 0 1 zi)), (fun zi => qa_fe (qa_uz (fun _ => 0) 0 1 zi)), (fun zi => qa_fe ((fun _ => 0) zi)), (fun zi => qa_fe (qc_pt 16 zi)), (fun zi => qa_fe ((fun _ => 0) zi)), (fun zi => qa_fe ((fun _ => 0) zi))) v) z (nI W) 0 0 0 0 0 (fun _ => 0) (fun _ => 0) (fun _ => 0) (fun _ => 0) (fun _ => 0) (fun _ => 0) (fun _ => 0) (fun _ => 0) (fun _ => 0) (fun _ => 0) (fun _ => 0) (fun _ => 0) (fun _ => 0) (fun _ => 0) (fun _ => 0) (fun _ => 0)) h181)
  have hx := qc_x105 (W := W) (C := C) (post := fun u => wpY_init (fun v => i_Rel 2 u v) k0 k1) hy 17 0 (by omega) (by omega)
  rw [qc_pt0] at hx
  have hx2 : ∃ n, wX_init_105 (fun u => wpY_init (fun v => i_Rel 2 u v) k0 k1) (nI W) (nI C) 0 0 0 0 n 0 (fun _ => 0) (fun _ => 0) (fun _ => 0) (fun _ => 0) (fun _ => 0) (fun _ => 0) (fun _ => 0) (fun _ => 0) (fun _ => 0) := ⟨17, hx⟩
  exact hA (fun r => wpX_clamp (fun r2 => ∃ n, wX_init_105 (fun u => wpY_init (fun v => i_Rel 2 u v) k0 k1) r r2 0 0 0 0 n 0 (fun _ => 0) (fun _ => 0) (fun _ => 0) (fun _ => 0) (fun _ => 0) (fun _ => 0) (fun _ => 0) (fun _ => 0) (fun _ => 0)) k1 4 16) (hB (fun r2 => ∃ n, wX_init_105 (fun u => wpY_init (fun v => i_Rel 2 u v) k0 k1) (nI W) r2 0 0 0 0 n 0 (fun _ => 0) (fun _ => 0) (fun _ => 0) (fun _ => 0) (fun _ => 0) (fun _ => 0) (fun _ => 0) (fun _ => 0) (fun _ => 0)) hx2)
