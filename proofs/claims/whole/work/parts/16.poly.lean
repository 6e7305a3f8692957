section QM
variable {k W C w m : Nat} {cp hq : Int32} {K : Nat → Nat} {L R : Nat → Int32} {x F M pt B P : Nat → Int} {oa ob st ca cb cw hh rr col bas pm pp zz rm : Nat → Int32}
theorem qp_rd (hQ : qi_q 1 w m M x pt B P) (hH : qi_h 1 hq m P hh rr) (hm : m ≤ 16) {t : Nat} (ht : t < 7) (hr : hq = 1 ∨ (t ≠ 5 ∧ t ≠ 6)) {p q z : Nat → Int32} (h1 : t < 3 → ∀ k, k < m → p (t * 16 + k) = qa_fe (qa_pz M x pt w m t k)) (h2 : t = 3 → ∀ k, k < 17 → z k = qa_fe (qa_zp pt m k)) (h3 : t = 4 → ∀ k, k < 32 → q k = qa_fe (qa_pp M x pt w m k)) : qy_rd P t m p q z hh rr := by
  rcases hQ with ⟨e, -⟩ | ⟨-, m0, q1, q2, q3, q4, q5⟩
  · exact absurd e (by decide)
  · intro k hk
    have hl := qa_len_le ht hm
    refine ⟨fun h => ?_, fun h => ?_, fun h => ?_, fun h => ?_, fun h => ?_⟩
    · have : k < m := by have := hl.2.2 (by omega) (by omega); omega
      rw [h1 h k this, q3 t k h (by omega), if_pos this]
    · subst h
      rw [h2 rfl k (by omega), ← q2 k (by omega)]
    · subst h
      rw [h3 rfl k (by omega), ← q4 k (by omega)]
    · subst h
      have : k < m := by have := hl.2.2 (by omega) (by omega); omega
      rcases hH with y | y
      · subst y
        rcases hr with y | y
        · exact absurd y (by decide)
        · omega
      · exact (y.2.2 k this).1
    · subst h
      have : k < m := by have := hl.2.2 (by omega) (by omega); omega
      rcases hH with y | y
      · subst y
        rcases hr with y | y
        · exact absurd y (by decide)
        · omega
      · exact (y.2.2 k this).2
theorem qm_7 {p : Int32} (h : nI 7 ≤ p) : ¬ p < 0 ∧ ¬ p ≤ 6 ∧ 6 < p := by
  have h6 : (6 : Int32) < p := Int32.lt_of_lt_of_le (by decide) h
  exact ⟨(qm_ge (by omega) h).1, Int32.not_le.mpr h6, h6⟩
theorem qx_ir {post : Int32 → Prop} {t : Nat} (ht : t < 7) (hr : hq = 1 ∨ (hq = 0 ∧ t ≠ 5 ∧ t ≠ 6)) (h : post 1) : wpX_isReadable post ((nI W), (nI C), (nI w), (nI m), 1, hq, (fun zi => nI (K zi)), L, R, (fun zi => qa_fe (x zi)), (fun zi => qa_fe (F zi)), (fun zi => qa_fe (M zi)), (fun zi => qa_fe (pt zi)), (fun zi => qa_fe (B zi)), (fun zi => qa_fe (P zi))) (nI t) := by
  have t6 : ¬ (6 : Int32) < nI t := Int32.not_lt.mpr (nI_le (b := 6) (by omega) (by omega))
  refine br_f (nI_pos (by omega)) (br_f t6 (br_f (by decide) ?_))
  rcases hr with rfl | ⟨rfl, h5, h6⟩
  · exact br_f (by decide) h
  · refine br_t rfl (br_f ?_ (br_f ?_ h))
    · rw [show (5 : Int32) = nI 5 by decide, nI_eq (by omega) (by omega)]; exact h5
    · rw [show (6 : Int32) = nI 6 by decide, nI_eq (by omega) (by omega)]; exact h6
theorem qx_nir {post : Int32 → Prop} {t : Nat} (h56 : t = 5 ∨ t = 6) (h : post 0) : wpX_isReadable post ((nI W), (nI C), (nI w), (nI m), 1, 0, (fun zi => nI (K zi)), L, R, (fun zi => qa_fe (x zi)), (fun zi => qa_fe (F zi)), (fun zi => qa_fe (M zi)), (fun zi => qa_fe (pt zi)), (fun zi => qa_fe (B zi)), (fun zi => qa_fe (P zi))) (nI t) := by
  rcases h56 with rfl | rfl
  · exact br_f (by decide) (br_f (by decide) (br_f (by decide) (br_t rfl (br_t (by decide) h))))
  · exact br_f (by decide) (br_f (by decide) (br_f (by decide) (br_t rfl (br_f (by decide) (br_t (by decide) h)))))
theorem qx_nir0 {post : Int32 → Prop} {t : Nat} (ht : t < 7) (h : post 0) : wpX_isReadable post ((nI W), (nI C), (nI w), (nI m), 0, hq, (fun zi => nI (K zi)), L, R, (fun zi => qa_fe (x zi)), (fun zi => qa_fe (F zi)), (fun zi => qa_fe (M zi)), (fun zi => qa_fe (pt zi)), (fun zi => qa_fe (B zi)), (fun zi => qa_fe (P zi))) (nI t) := by
  have t6 : ¬ (6 : Int32) < nI t := Int32.not_lt.mpr (nI_le (b := 6) (by omega) (by omega))
  exact br_f (nI_pos (by omega)) (br_f t6 (br_t rfl h))
theorem qx_nir1 {post : Int32 → Prop} {p : Int32} (hp : p < 0 ∨ nI 7 ≤ p) (h : post 0) : wpX_isReadable post ((nI W), (nI C), (nI w), (nI m), cp, hq, (fun zi => nI (K zi)), L, R, (fun zi => qa_fe (x zi)), (fun zi => qa_fe (F zi)), (fun zi => qa_fe (M zi)), (fun zi => qa_fe (pt zi)), (fun zi => qa_fe (B zi)), (fun zi => qa_fe (P zi))) p := by
  rcases hp with z | z
  · exact br_t z h
  · exact br_f (qm_7 z).1 (br_t (qm_7 z).2.2 h)
theorem qi_hq (hH : qi_h cp hq m P hh rr) : hq = 0 ∨ hq = 1 := hH.elim Or.inl (fun z => Or.inr z.1)
theorem qi_m0 (hQ : qi_q 1 w m M x pt B P) : 0 < m := hQ.elim (fun z => absurd z.1 (by decide)) (fun z => z.2.1)
theorem qm_56 (t : Nat) : (t = 5 ∨ t = 6) ∨ (t ≠ 5 ∧ t ≠ 6) := by omega
end QM
theorem i_vc_coeff {k : Nat} {u : SX} {v : SY} (I : i_Rel k u v) (hk : k + 4 ≤ 2050) (v1 : Int32) (v2 : Int32) : wpX_coeff (fun r => wpY_coeff (fun r' v' => r' = r ∧ i_Rel (k + 4) u v') v v1 v2) u v1 v2 := by
  obtain ⟨W, C, w, m, cp, hq, K, L, R, x, F, M, pt, B, P, oa, ob, st, ca, cb, cw, hh, rr, col, bas, pm, pp, zz, rm, rfl, rfl, hN, hW, hX, hC, hQ, hH⟩ := I
  have same : ∀ c b p q z : Nat → Int32, i_Rel (k + 4) ((nI W), (nI C), (nI w), (nI m), cp, hq, (fun zi => nI (K zi)), L, R, (fun zi => qa_fe (x zi)), (fun zi => qa_fe (F zi)), (fun zi => qa_fe (M zi)), (fun zi => qa_fe (pt zi)), (fun zi => qa_fe (B zi)), (fun zi => qa_fe (P zi))) ((nI W), (nI C), (nI w), (nI m), cp, hq, (fun zi => nI (K zi)), oa, ob, st, ca, cb, cw, (fun zi => qa_fe (pt zi)), hh, rr, c, b, p, q, z, rm) := fun c b p q z => qi_mk hN hW hX hC hQ hH
  have same0 := same col bas pm pp zz
  obtain ⟨n1, n2, n3, n4, n5, n6, n7⟩ := id hN
  unfold wpX_coeff
  rcases pk_ix v1 (n := 7) (by omega) with z | z | ⟨t, ht, rfl⟩
  · exact qx_nir1 (Or.inl z) (br_t rfl (br_t z ⟨rfl, same0⟩))
  · exact qx_nir1 (Or.inr z) (br_t rfl (br_f (qm_7 z).1 (br_f (qm_7 z).2.1 ⟨rfl, same0⟩)))
  · have t1 : ¬ nI t < 0 := nI_pos (by omega)
    have t2 : nI t ≤ 6 := nI_le (b := 6) (by omega) (by omega)
    rcases qi_cp hQ with rfl | rfl
    · exact qx_nir0 ht (br_t rfl (br_f t1 (br_t t2 (br_t rfl ⟨rfl, same0⟩))))
    · have c1 : ¬ (1 : Int32) = 0 := by decide
      have m0 := qi_m0 hQ
      have hl := qa_len_le ht (show m ≤ 16 by omega)
      have go : (hq = 1 ∨ (hq = 0 ∧ t ≠ 5 ∧ t ≠ 6)) → (∀ post : Int32 → SY → Prop, wY_coeff_41 post (nI t) v2 (nI W) (nI C) (nI w) (nI m) 1 hq (fun zi => nI (K zi)) oa ob st ca cb cw (fun zi => qa_fe (pt zi)) hh rr col bas pm pp zz rm → wpY_coeff post ((nI W), (nI C), (nI w), (nI m), 1, hq, (fun zi => nI (K zi)), oa, ob, st, ca, cb, cw, (fun zi => qa_fe (pt zi)), hh, rr, col, bas, pm, pp, zz, rm) (nI t) v2) → wpX_isReadable (fun r_1 => (((r_1 = 0 → ((fun r => wpY_coeff (fun r' v' => r' = r ∧ i_Rel (k + 4) ((nI W), (nI C), (nI w), (nI m), 1, hq, (fun zi => nI (K zi)), L, R, (fun zi => qa_fe (x zi)), (fun zi => qa_fe (F zi)), (fun zi => qa_fe (M zi)), (fun zi => qa_fe (pt zi)), (fun zi => qa_fe (B zi)), (fun zi => qa_fe (P zi))) v') ((nI W), (nI C), (nI w), (nI m), 1, hq, (fun zi => nI (K zi)), oa, ob, st, ca, cb, cw, (fun zi => qa_fe (pt zi)), hh, rr, col, bas, pm, pp, zz, rm) (nI t) v2) (-1))) ∧ (¬ r_1 = 0 → (((v2 < 0 → ((fun r => wpY_coeff (fun r' v' => r' = r ∧ i_Rel (k + 4) ((nI W), (nI C), (nI w), (nI m), 1, hq, (fun zi => nI (K zi)), L, R, (fun zi => qa_fe (x zi)), (fun zi => qa_fe (F zi)), (fun zi => qa_fe (M zi)), (fun zi => qa_fe (pt zi)), (fun zi => qa_fe (B zi)), (fun zi => qa_fe (P zi))) v') ((nI W), (nI C), (nI w), (nI m), 1, hq, (fun zi => nI (K zi)), oa, ob, st, ca, cb, cw, (fun zi => qa_fe (pt zi)), hh, rr, col, bas, pm, pp, zz, rm) (nI t) v2) (-1))) ∧ (¬ v2 < 0 → (wpX_polyLength (fun r_19 => (((v2 < r_19 → (vp_in ((nI t * 32) + v2) 224 ∧ ((fun r => wpY_coeff (fun r' v' => r' = r ∧ i_Rel (k + 4) ((nI W), (nI C), (nI w), (nI m), 1, hq, (fun zi => nI (K zi)), L, R, (fun zi => qa_fe (x zi)), (fun zi => qa_fe (F zi)), (fun zi => qa_fe (M zi)), (fun zi => qa_fe (pt zi)), (fun zi => qa_fe (B zi)), (fun zi => qa_fe (P zi))) v') ((nI W), (nI C), (nI w), (nI m), 1, hq, (fun zi => nI (K zi)), oa, ob, st, ca, cb, cw, (fun zi => qa_fe (pt zi)), hh, rr, col, bas, pm, pp, zz, rm) (nI t) v2) ((fun zi => qa_fe (P zi)) ((nI t * 32) + v2).toNatClampNeg)))) ∧ (¬ v2 < r_19 → ((fun r => wpY_coeff (fun r' v' => r' = r ∧ i_Rel (k + 4) ((nI W), (nI C), (nI w), (nI m), 1, hq, (fun zi => nI (K zi)), L, R, (fun zi => qa_fe (x zi)), (fun zi => qa_fe (F zi)), (fun zi => qa_fe (M zi)), (fun zi => qa_fe (pt zi)), (fun zi => qa_fe (B zi)), (fun zi => qa_fe (P zi))) v') ((nI W), (nI C), (nI w), (nI m), 1, hq, (fun zi => nI (K zi)), oa, ob, st, ca, cb, cw, (fun zi => qa_fe (pt zi)), hh, rr, col, bas, pm, pp, zz, rm) (nI t) v2) (-1)))))) ((nI W), (nI C), (nI w), (nI m), 1, hq, (fun zi => nI (K zi)), L, R, (fun zi => qa_fe (x zi)), (fun zi => qa_fe (F zi)), (fun zi => qa_fe (M zi)), (fun zi => qa_fe (pt zi)), (fun zi => qa_fe (B zi)), (fun zi => qa_fe (P zi))) (nI t))))))))) ((nI W), (nI C), (nI w), (nI m), 1, hq, (fun zi => nI (K zi)), L, R, (fun zi => qa_fe (x zi)), (fun zi => qa_fe (F zi)), (fun zi => qa_fe (M zi)), (fun zi => qa_fe (pt zi)), (fun zi => qa_fe (B zi)), (fun zi => qa_fe (P zi))) (nI t) := by
        intro hr hY
        refine qx_ir ht hr (br_f c1 ?_)
        rcases pk_ix v2 (n := qa_len t m) (by omega) with z | z | ⟨l, hlt, rfl⟩
        · exact br_t z (hY _ (qy_len ht m0 (by omega) (br_t z ⟨rfl, same0⟩)))
        · have q := qm_ge (by omega) z
          exact br_f q.1 (qx_len ht m0 (by omega) (br_f q.2 (hY _ (qy_len ht m0 (by omega) (br_f q.1 (br_f q.2 ⟨rfl, same0⟩))))))
        · have l1 : ¬ nI l < 0 := nI_pos (by omega)
          have l2 : nI l < nI (qa_len t m) := nI_lt hlt (by omega)
          refine br_f l1 (qx_len ht m0 (by omega) (br_t l2 ?_))
          rw [qn_m32, nI_add, nI_clamp (by omega)]
          refine ⟨vp_in_nI (by omega) (by omega), hY _ (qy_len ht m0 (by omega) (br_f l1 (br_t l2 ?_)))⟩
          refine qy_ff hW hX hC (by omega) (by omega) ht fun c b p q z h1 h2 h3 => ?_
          exact qy_rc ht (by omega) (qp_rd hQ hH (by omega) ht (hr.elim Or.inl (fun y => Or.inr y.2)) h1 h2 h3) hlt ⟨rfl, same c b p q z⟩
      rcases qm_56 t with h56 | h56
      · rcases qi_hq hH with rfl | rfl
        · refine qx_nir h56 (br_t rfl (br_f t1 (br_t t2 (br_f c1 ?_))))
          rcases h56 with rfl | rfl
          · exact br_t (by decide) (br_t rfl ⟨rfl, same0⟩)
          · exact br_f (by decide) (br_t (by decide) (br_t rfl ⟨rfl, same0⟩))
        · refine go (Or.inl rfl) fun post h => br_f t1 (br_t t2 (br_f c1 ?_))
          rcases h56 with rfl | rfl
          · exact br_t (by decide) (br_f c1 h)
          · exact br_f (by decide) (br_t (by decide) (br_f c1 h))
      · refine go ((qi_hq hH).elim (fun y => Or.inr ⟨y, h56⟩) Or.inl) fun post h => br_f t1 (br_t t2 (br_f c1 (br_f ?_ (br_f ?_ h))))
        · rw [show (5 : Int32) = nI 5 by decide, nI_eq (by omega) (by omega)]; exact h56.1
        · rw [show (6 : Int32) = nI 6 by decide, nI_eq (by omega) (by omega)]; exact h56.2
theorem i_vc_evaluate {k : Nat} {u : SX} {v : SY} (I : i_Rel k u v) (hk : k + 4 ≤ 2050) (v1 : Int32) (v2 : Int32) : wpX_evaluate (fun r => wpY_evaluate (fun r' v' => r' = r ∧ i_Rel (k + 4) u v') v v1 v2) u v1 v2 := by
  obtain ⟨W, C, w, m, cp, hq, K, L, R, x, F, M, pt, B, P, oa, ob, st, ca, cb, cw, hh, rr, col, bas, pm, pp, zz, rm, rfl, rfl, hN, hW, hX, hC, hQ, hH⟩ := I
  have same : ∀ c b p q z : Nat → Int32, i_Rel (k + 4) ((nI W), (nI C), (nI w), (nI m), cp, hq, (fun zi => nI (K zi)), L, R, (fun zi => qa_fe (x zi)), (fun zi => qa_fe (F zi)), (fun zi => qa_fe (M zi)), (fun zi => qa_fe (pt zi)), (fun zi => qa_fe (B zi)), (fun zi => qa_fe (P zi))) ((nI W), (nI C), (nI w), (nI m), cp, hq, (fun zi => nI (K zi)), oa, ob, st, ca, cb, cw, (fun zi => qa_fe (pt zi)), hh, rr, c, b, p, q, z, rm) := fun c b p q z => qi_mk hN hW hX hC hQ hH
  have same0 := same col bas pm pp zz
  obtain ⟨n1, n2, n3, n4, n5, n6, n7⟩ := id hN
  unfold wpX_evaluate
  rcases pk_ix v1 (n := 7) (by omega) with z | z | ⟨t, ht, rfl⟩
  · exact qx_nir1 (Or.inl z) (br_t rfl (br_t z ⟨rfl, same0⟩))
  · exact qx_nir1 (Or.inr z) (br_t rfl (br_f (qm_7 z).1 (br_f (qm_7 z).2.1 ⟨rfl, same0⟩)))
  · have t1 : ¬ nI t < 0 := nI_pos (by omega)
    have t2 : nI t ≤ 6 := nI_le (b := 6) (by omega) (by omega)
    rcases qi_cp hQ with rfl | rfl
    · exact qx_nir0 ht (br_t rfl (br_f t1 (br_t t2 (br_t rfl ⟨rfl, same0⟩))))
    · have c1 : ¬ (1 : Int32) = 0 := by decide
      have m0 := qi_m0 hQ
      have go : (hq = 1 ∨ (hq = 0 ∧ t ≠ 5 ∧ t ≠ 6)) → (∀ post : Int32 → SY → Prop, wY_evaluate_41 post (nI t) v2 (nI W) (nI C) (nI w) (nI m) 1 hq (fun zi => nI (K zi)) oa ob st ca cb cw (fun zi => qa_fe (pt zi)) hh rr col bas pm pp zz rm → wpY_evaluate post ((nI W), (nI C), (nI w), (nI m), 1, hq, (fun zi => nI (K zi)), oa, ob, st, ca, cb, cw, (fun zi => qa_fe (pt zi)), hh, rr, col, bas, pm, pp, zz, rm) (nI t) v2) → wpX_isReadable (fun r_1 => (((r_1 = 0 → ((fun r => wpY_evaluate (fun r' v' => r' = r ∧ i_Rel (k + 4) ((nI W), (nI C), (nI w), (nI m), 1, hq, (fun zi => nI (K zi)), L, R, (fun zi => qa_fe (x zi)), (fun zi => qa_fe (F zi)), (fun zi => qa_fe (M zi)), (fun zi => qa_fe (pt zi)), (fun zi => qa_fe (B zi)), (fun zi => qa_fe (P zi))) v') ((nI W), (nI C), (nI w), (nI m), 1, hq, (fun zi => nI (K zi)), oa, ob, st, ca, cb, cw, (fun zi => qa_fe (pt zi)), hh, rr, col, bas, pm, pp, zz, rm) (nI t) v2) (-1))) ∧ (¬ r_1 = 0 → (wpX_reduce (fun r_18 => (wpX_polyValue (fun r_19 => ((fun r => wpY_evaluate (fun r' v' => r' = r ∧ i_Rel (k + 4) ((nI W), (nI C), (nI w), (nI m), 1, hq, (fun zi => nI (K zi)), L, R, (fun zi => qa_fe (x zi)), (fun zi => qa_fe (F zi)), (fun zi => qa_fe (M zi)), (fun zi => qa_fe (pt zi)), (fun zi => qa_fe (B zi)), (fun zi => qa_fe (P zi))) v') ((nI W), (nI C), (nI w), (nI m), 1, hq, (fun zi => nI (K zi)), oa, ob, st, ca, cb, cw, (fun zi => qa_fe (pt zi)), hh, rr, col, bas, pm, pp, zz, rm) (nI t) v2) r_19)) ((nI W), (nI C), (nI w), (nI m), 1, hq, (fun zi => nI (K zi)), L, R, (fun zi => qa_fe (x zi)), (fun zi => qa_fe (F zi)), (fun zi => qa_fe (M zi)), (fun zi => qa_fe (pt zi)), (fun zi => qa_fe (B zi)), (fun zi => qa_fe (P zi))) (nI t) r_18)) v2))))) ((nI W), (nI C), (nI w), (nI m), 1, hq, (fun zi => nI (K zi)), L, R, (fun zi => qa_fe (x zi)), (fun zi => qa_fe (F zi)), (fun zi => qa_fe (M zi)), (fun zi => qa_fe (pt zi)), (fun zi => qa_fe (B zi)), (fun zi => qa_fe (P zi))) (nI t) := by
        intro hr hY
        refine qx_ir ht hr (br_f c1 ?_)
        rw [qx_red]
        refine qx_pv ht m0 (by omega) _ (hY _ ?_)
        unfold wY_evaluate_41
        rw [qy_i]
        refine qy_ff hW hX hC (by omega) (by omega) ht fun c b p q z h1 h2 h3 => ?_
        exact qy_ho ht m0 (by omega) (qp_rd hQ hH (by omega) ht (hr.elim Or.inl (fun y => Or.inr y.2)) h1 h2 h3) _ ⟨rfl, same c b p q z⟩
      rcases qm_56 t with h56 | h56
      · rcases qi_hq hH with rfl | rfl
        · refine qx_nir h56 (br_t rfl (br_f t1 (br_t t2 (br_f c1 ?_))))
          rcases h56 with rfl | rfl
          · exact br_t (by decide) (br_t rfl ⟨rfl, same0⟩)
          · exact br_f (by decide) (br_t (by decide) (br_t rfl ⟨rfl, same0⟩))
        · refine go (Or.inl rfl) fun post h => br_f t1 (br_t t2 (br_f c1 ?_))
          rcases h56 with rfl | rfl
          · exact br_t (by decide) (br_f c1 h)
          · exact br_f (by decide) (br_t (by decide) (br_f c1 h))
      · refine go ((qi_hq hH).elim (fun y => Or.inr ⟨y, h56⟩) Or.inl) fun post h => br_f t1 (br_t t2 (br_f c1 (br_f ?_ (br_f ?_ h))))
        · rw [show (5 : Int32) = nI 5 by decide, nI_eq (by omega) (by omega)]; exact h56.1
        · rw [show (6 : Int32) = nI 6 by decide, nI_eq (by omega) (by omega)]; exact h56.2
theorem i_vc_checkAt {k : Nat} {u : SX} {v : SY} (I : i_Rel k u v) (hk : k + 4 ≤ 2050) (v1 : Int32) : wpX_checkAt (fun r => wpY_checkAt (fun r' v' => r' = r ∧ i_Rel (k + 4) u v') v v1) u v1 := by
  obtain ⟨W, C, w, m, cp, hq, K, L, R, x, F, M, pt, B, P, oa, ob, st, ca, cb, cw, hh, rr, col, bas, pm, pp, zz, rm, rfl, rfl, hN, hW, hX, hC, hQ, hH⟩ := I
  have same : ∀ c b p q z : Nat → Int32, i_Rel (k + 4) ((nI W), (nI C), (nI w), (nI m), cp, hq, (fun zi => nI (K zi)), L, R, (fun zi => qa_fe (x zi)), (fun zi => qa_fe (F zi)), (fun zi => qa_fe (M zi)), (fun zi => qa_fe (pt zi)), (fun zi => qa_fe (B zi)), (fun zi => qa_fe (P zi))) ((nI W), (nI C), (nI w), (nI m), cp, hq, (fun zi => nI (K zi)), oa, ob, st, ca, cb, cw, (fun zi => qa_fe (pt zi)), hh, rr, c, b, p, q, z, rm) := fun c b p q z => qi_mk hN hW hX hC hQ hH
  obtain ⟨n1, n2, n3, n4, n5, n6, n7⟩ := id hN
  rcases id hH with rfl | ⟨rfl, rfl, hHR⟩
  · exact br_t rfl (br_t rfl ⟨rfl, same col bas pm pp zz⟩)
  · have c1 : ¬ (1 : Int32) = 0 := by decide
    have m0 := qi_m0 hQ
    refine br_f c1 ?_
    rw [qx_red]
    refine qx_pv (t := 5) (by omega) m0 (by omega) _ ?_
    refine qx_pv (t := 3) (by omega) m0 (by omega) _ ?_
    refine qx_pv (t := 4) (by omega) m0 (by omega) _ ?_
    rw [qx_mul]
    have yy : ∀ post : Int32 → SY → Prop, (∀ c b p q z : Nat → Int32, (qa_fe (qa_ho (fun k => P (4 * 32 + k)) v1.toInt (qa_len 4 m) 0) = qa_fe (qa_ho (fun k => P (5 * 32 + k)) v1.toInt (qa_len 5 m) 0 * qa_ho (fun k => P (3 * 32 + k)) v1.toInt (qa_len 3 m) 0) → post 1 ((nI W), (nI C), (nI w), (nI m), 1, 1, (fun zi => nI (K zi)), oa, ob, st, ca, cb, cw, (fun zi => qa_fe (pt zi)), hh, rr, c, b, p, q, z, rm)) ∧ (¬ qa_fe (qa_ho (fun k => P (4 * 32 + k)) v1.toInt (qa_len 4 m) 0) = qa_fe (qa_ho (fun k => P (5 * 32 + k)) v1.toInt (qa_len 5 m) 0 * qa_ho (fun k => P (3 * 32 + k)) v1.toInt (qa_len 3 m) 0) → post 0 ((nI W), (nI C), (nI w), (nI m), 1, 1, (fun zi => nI (K zi)), oa, ob, st, ca, cb, cw, (fun zi => qa_fe (pt zi)), hh, rr, c, b, p, q, z, rm))) → wpY_checkAt post ((nI W), (nI C), (nI w), (nI m), 1, 1, (fun zi => nI (K zi)), oa, ob, st, ca, cb, cw, (fun zi => qa_fe (pt zi)), hh, rr, col, bas, pm, pp, zz, rm) v1 := by
      intro post h
      refine br_f c1 ?_
      rw [qy_i]
      refine qy_ff (t := 4) hW hX hC (by omega) (by omega) (by omega) fun c b p q z h1 h2 h3 => ?_
      refine qy_ho (t := 4) (by omega) m0 (by omega) (qp_rd (z := z) hQ hH (by omega) (by omega) (Or.inl rfl) h1 h2 h3) _ ?_
      refine qy_ho (t := 5) (P := P) (by omega) m0 (by omega) (qp_rd (p := p) (q := q) (z := z) hQ hH (by omega) (by omega) (Or.inl rfl) (fun e => absurd e (by omega)) (fun e => absurd e (by omega)) (fun e => absurd e (by omega))) _ ?_
      refine qy_Z (by omega) fun z' hz => ?_
      refine qy_ho (t := 3) (P := P) (by omega) m0 (by omega) (qp_rd (p := p) (q := q) (z := z') hQ hH (by omega) (by omega) (Or.inl rfl) (fun e => absurd e (by omega)) (fun _ => hz) (fun e => absurd e (by omega))) _ ?_
      rw [qy_mul]
      exact h c b p q z'
    by_cases e : qa_fe (qa_ho (fun k => P (4 * 32 + k)) v1.toInt (qa_len 4 m) 0) = qa_fe (qa_ho (fun k => P (5 * 32 + k)) v1.toInt (qa_len 5 m) 0 * qa_ho (fun k => P (3 * 32 + k)) v1.toInt (qa_len 3 m) 0)
    · exact br_t e (yy _ fun c b p q z => br_t e ⟨rfl, same c b p q z⟩)
    · exact br_f e (yy _ fun c b p q z => br_f e ⟨rfl, same c b p q z⟩)
theorem i_vc_divide {k : Nat} {u : SX} {v : SY} (I : i_Rel k u v) (hk : k + 4 ≤ 2050) : wpX_divide (fun r u' => wpY_divide (fun r' v' => r' = r ∧ i_Rel (k + 4) u' v') v) u := by
  obtain ⟨W, C, w, m, cp, hq, K, L, R, x, F, M, pt, B, P, oa, ob, st, ca, cb, cw, hh, rr, col, bas, pm, pp, zz, rm, rfl, rfl, hN, hW, hX, hC, hQ, hH⟩ := I
  have same : i_Rel (k + 4) ((nI W), (nI C), (nI w), (nI m), cp, hq, (fun zi => nI (K zi)), L, R, (fun zi => qa_fe (x zi)), (fun zi => qa_fe (F zi)), (fun zi => qa_fe (M zi)), (fun zi => qa_fe (pt zi)), (fun zi => qa_fe (B zi)), (fun zi => qa_fe (P zi))) ((nI W), (nI C), (nI w), (nI m), cp, hq, (fun zi => nI (K zi)), oa, ob, st, ca, cb, cw, (fun zi => qa_fe (pt zi)), hh, rr, col, bas, pm, pp, zz, rm) := qi_mk hN hW hX hC hQ hH
  obtain ⟨n1, n2, n3, n4, n5, n6, n7⟩ := id hN
  rcases id hQ with ⟨rfl, -⟩ | ⟨rfl, m0, q1, q2, q3, q4, q5⟩
  · exact br_t rfl (br_t rfl ⟨rfl, same⟩)
  · have c1 : ¬ (1 : Int32) = 0 := by decide
    refine br_f c1 ?_
    refine qx_bq m0 (by omega) (qa_zp pt m) q2 fun P' p1 p2 p3 => ?_
    have cg := qa_rm_c (Z := qa_zp pt m) (g := fun k => P (128 + k)) (g' := qa_pp M x pt w m) (m := m) (by omega) m0 q4
    have eH : ∀ k, k < 32 → P' (160 + k) = qa_hh (qa_zp pt m) (qa_pp M x pt w m) m k := by
      intro k hk
      rw [p2 k hk]
      unfold qa_hh
      by_cases y : k + 1 < m
      · rw [if_pos y, if_pos y, if_pos y, cg _ _ (by omega)]
      · rw [if_neg y, if_neg y, q5 k (by omega) hk]
    have eR : ∀ k, k < 32 → P' (192 + k) = qa_rr (qa_zp pt m) (qa_pp M x pt w m) m k := by
      intro k hk
      rw [p3 k hk]
      exact cg _ _ hk
    have hQ' : qi_q 1 w m M x pt B P' := Or.inr ⟨rfl, m0, q1, fun k hk => by rw [p1 _ (by omega), q2 k hk], fun t k ht hk => by rw [p1 _ (by omega), q3 t k ht hk], fun k hk => by rw [p1 _ (by omega), q4 k hk], fun k h1 h2 => by rw [eH k h2]; unfold qa_hh; rw [if_neg (by omega)]⟩
    have rel : ∀ c b p q z a b' r : Nat → Int32, (∀ k, k < m → a k = qa_fe (qa_hh (qa_zp pt m) (qa_pp M x pt w m) m k) ∧ b' k = qa_fe (qa_rr (qa_zp pt m) (qa_pp M x pt w m) m k)) → i_Rel (k + 4) ((nI W), (nI C), (nI w), (nI m), 1, 1, (fun zi => nI (K zi)), L, R, (fun zi => qa_fe (x zi)), (fun zi => qa_fe (F zi)), (fun zi => qa_fe (M zi)), (fun zi => qa_fe (pt zi)), (fun zi => qa_fe (B zi)), (fun zi => qa_fe (P' zi))) ((nI W), (nI C), (nI w), (nI m), 1, 1, (fun zi => nI (K zi)), oa, ob, st, ca, cb, cw, (fun zi => qa_fe (pt zi)), a, b', c, b, p, q, z, r) :=
      fun c b p q z a b' r hab => qi_mk hN hW hX hC hQ' (Or.inr ⟨rfl, rfl, fun k hk => ⟨by rw [(hab k hk).1, eH k (by omega)], by rw [(hab k hk).2, eR k (by omega)]⟩⟩)
    have iff : qa_rz P' m ↔ ∀ k, k < m → qa_fe (qa_rr (qa_zp pt m) (qa_pp M x pt w m) m k) = 0 :=
      ⟨fun h k hk => by rw [← eR k (by omega)]; exact h k hk, fun h k hk => by rw [eR k (by omega)]; exact h k hk⟩
    refine qx_rz (by omega) (fun d => br_f c1 ?_) (fun d => br_t rfl ?_)
    · exact qy_dv hW hX hC (by omega) m0 (by omega) (fun _ c b p q z a b' r hab => ⟨rfl, rel c b p q z a b' r hab⟩) (fun y => absurd (iff.mp d) y)
    · exact qy_dv hW hX hC (by omega) m0 (by omega) (fun y => absurd (iff.mpr y) d) (fun _ c b p q z a b' r hab => ⟨rfl, rel c b p q z a b' r hab⟩)
