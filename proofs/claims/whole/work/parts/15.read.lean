section QM
variable {k W C w m : Nat} {cp hq : Int32} {K : Nat → Nat} {L R : Nat → Int32} {x F M pt B P : Nat → Int} {oa ob st ca cb cw hh rr col bas pm pp zz rm : Nat → Int32}
theorem qs_x {x0 : Nat → Int} (hN : qi_n W C w m) (hW : qi_w w K L R oa ob F) (hC : qi_c w m F M ca cb cw) (hQ : qi_q cp w m M x0 pt B P) {PY : (Int32 → SY → Prop) → Prop} : ∀ n i (r : Int32) (x : Nat → Int) (st : Nat → Int32), 1 ≤ i → i ≤ w → w - i < n → qi_x w K x st → (∀ post : Int32 → SY → Prop, (∀ (c : Nat → Int32) (f : Nat), w - i < f → wY_solve_4 post f r (nI i) (nI W) (nI C) (nI w) (nI m) cp hq (fun zi => nI (K zi)) oa ob st ca cb cw (fun zi => qa_fe (pt zi)) hh rr c bas pm pp zz rm) → PY post) → wX_solve_4 (fun r u' => PY (fun r' v' => r' = r ∧ i_Rel k u' v')) (nI W) (nI C) (nI w) (nI m) cp hq n r (nI i) (fun zi => nI (K zi)) L R (fun zi => qa_fe (x zi)) (fun zi => qa_fe (F zi)) (fun zi => qa_fe (M zi)) (fun zi => qa_fe (pt zi)) (fun zi => qa_fe (B zi)) (fun zi => qa_fe (P zi)) := by
  obtain ⟨n1, n2, n3, n4, n5, n6, n7⟩ := id hN
  intro n
  induction n with
  | zero => intros; omega
  | succ n ih =>
    intro i r x st hi0 hi hn hX hY
    by_cases z : i < w
    · have lt : ¬ nI w ≤ nI i := nI_ge z (by omega)
      have vi : vp_in (nI i) 32 := vp_in_nI (by omega) (by omega)
      have cl : (nI i).toNatClampNeg = i := nI_clamp (by omega)
      have k5 := qi_var hW z
      refine br_f lt ⟨vi, ?_⟩
      rw [cl]
      by_cases k3 : K i = 3
      · have e3 : nI (K i) = 3 := by rw [k3]; rfl
        obtain ⟨a, b, ha, hb, o1, o2, o3, o4⟩ : ∃ a b, a < i ∧ b < i ∧ oa i = nI a ∧ ob i = nI b ∧ L i = nI a ∧ R i = nI b := by
          rcases hW.1 i z with y | y | ⟨y | y | y, -⟩
          · omega
          · omega
          · exact y.2
          · omega
          · omega
        refine br_t e3 ⟨vi, ?_⟩
        rw [o3, o4]
        refine qx_wv (by omega) (by omega) ⟨vi, ?_⟩
        refine qx_wv (by omega) (by omega) ?_
        rw [qx_mul]
        refine ⟨vi, ?_⟩
        generalize hp : qa_wv F x w a * qa_wv F x w b = p
        have hs := hX.2.1 i (by omega) (by omega)
        have walk : ∀ (post : Int32 → SY → Prop) (r' : Int32), ((qa_fe p = st i → r' = r) ∧ (¬ qa_fe p = st i → r' = r + 1)) → (∀ (c : Nat → Int32) (f : Nat), w - (i + 1) < f → wY_solve_4 post f r' (nI (i + 1)) (nI W) (nI C) (nI w) (nI m) cp hq (fun zi => nI (K zi)) oa ob (upd st i (qa_fe p)) ca cb cw (fun zi => qa_fe (pt zi)) hh rr c bas pm pp zz rm) → PY post := by
          intro post r' hr H
          refine hY post fun c f hf => ?_
          obtain ⟨f, rfl⟩ : ∃ q, f = q + 1 := ⟨f - 1, by omega⟩
          refine br_f lt ⟨vi, ?_⟩
          rw [cl]
          refine br_t e3 ⟨vi, ?_⟩
          rw [o1]
          refine qy_val hW hX (by omega) (by omega) fun c1 => ⟨vi, ?_⟩
          dsimp only
          rw [o2]
          refine qy_val hW hX (by omega) (by omega) fun c2 => ?_
          dsimp only
          rw [qy_mul, hp]
          refine ⟨vi, ?_⟩
          by_cases e : qa_fe p = st i
          · refine br_t e ⟨vi, nm_e (nm_r (nI_1 i) ?_)⟩
            rw [← hr.1 e]
            exact H c2 f (by omega)
          · refine br_f e ?_
            rw [← hr.2 e]
            exact nm_e ⟨vi, nm_e (nm_r (nI_1 i) (H c2 f (by omega)))⟩
        have hX' := qe_set hX (show 0 < i by omega) z p (by omega)
        by_cases e : qa_fe p = qa_fe (x i)
        · refine br_t e (nm_r (nI_1 i) ?_)
          have ex : qi_x w K x (upd st i (qa_fe p)) := by
            refine ⟨hX.1, fun v h1 h2 => ?_, hX.2.2⟩
            by_cases y : v = i
            · rw [y, pk_us, e]
            · rw [pk_un y]
              exact hX.2.1 v h1 h2
          exact ih (i + 1) r x _ (by omega) (by omega) (by omega) ex fun post H => walk post r ⟨fun _ => rfl, fun y => absurd (by rw [hs]; exact e) y⟩ H
        · refine br_f e ⟨vi, nm_r (qa_upd _ _ _) (nm_e (nm_r (nI_1 i) ?_))⟩
          exact ih (i + 1) (r + 1) _ _ (by omega) (by omega) (by omega) hX' fun post H => walk post (r + 1) ⟨fun y => absurd (by rw [hs] at y; exact y) e, fun _ => rfl⟩ H
      · have e3 : ¬ nI (K i) = 3 := by rw [show (3 : Int32) = nI 3 by decide, nI_eq (by omega) (by omega)]; exact k3
        refine br_f e3 (nm_r (nI_1 i) ?_)
        refine ih (i + 1) r x st (by omega) (by omega) (by omega) hX fun post H => hY post fun c f hf => ?_
        obtain ⟨f, rfl⟩ : ∃ q, f = q + 1 := ⟨f - 1, by omega⟩
        refine br_f lt ⟨vi, ?_⟩
        rw [cl]
        exact br_f e3 (nm_r (nI_1 i) (H c f (by omega)))
    · obtain rfl : i = w := by omega
      have le : nI i ≤ nI i := nI_le (Nat.le_refl _) (by omega)
      refine br_t le (qx_wc (by omega) (by omega) hQ fun P' hQ' => hY _ fun c f hf => ?_)
      obtain ⟨f, rfl⟩ : ∃ q, f = q + 1 := ⟨f - 1, by omega⟩
      exact br_t le ⟨rfl, qi_mk hN hW hX hC hQ' (Or.inl rfl)⟩
end QM
theorem i_vc_solve {k : Nat} {u : SX} {v : SY} (I : i_Rel k u v) (hk : k + 4 ≤ 2050) : wpX_solve (fun r u' => wpY_solve (fun r' v' => r' = r ∧ i_Rel (k + 4) u' v') v) u := by
  obtain ⟨W, C, w, m, cp, hq, K, L, R, x, F, M, pt, B, P, oa, ob, st, ca, cb, cw, hh, rr, col, bas, pm, pp, zz, rm, rfl, rfl, hN, hW, hX, hC, hQ, hH⟩ := I
  obtain ⟨n1, n2, n3, n4, n5, n6, n7⟩ := id hN
  have h := qs_x (k := k + 4) (hq := hq) (hh := hh) (rr := rr) (bas := bas) (pm := pm) (pp := pp) (zz := zz) (rm := rm) hN hW hC hQ (PY := fun post => wpY_solve post ((nI W), (nI C), (nI w), (nI m), cp, hq, (fun zi => nI (K zi)), oa, ob, st, ca, cb, cw, (fun zi => qa_fe (pt zi)), hh, rr, col, bas, pm, pp, zz, rm)) w 1 0 x st (by omega) (by omega) (by omega) hX (fun post H => ⟨w, H col w (by omega)⟩)
  refine ⟨w + 1, ?_⟩
  have k0 : ¬ nI (K 0) = 3 := by rw [hW.2.2]; decide
  exact br_f (nI_ge (a := 0) (by omega) (by omega)) ⟨vp_in_nI (n := 0) (by omega) (by omega), br_f k0 (nm_r (nI_1 0) h)⟩
theorem i_vc_linearForm {k : Nat} {u : SX} {v : SY} (I : i_Rel k u v) (hk : k + 4 ≤ 2050) (v1 : Int32) (v2 : Int32) : wpX_linearForm (fun r => wpY_linearForm (fun r' v' => r' = r ∧ i_Rel (k + 4) u v') v v1 v2) u v1 v2 := by
  obtain ⟨W, C, w, m, cp, hq, K, L, R, x, F, M, pt, B, P, oa, ob, st, ca, cb, cw, hh, rr, col, bas, pm, pp, zz, rm, rfl, rfl, hN, hW, hX, hC, hQ, hH⟩ := I
  have same : ∀ c : Nat → Int32, i_Rel (k + 4) ((nI W), (nI C), (nI w), (nI m), cp, hq, (fun zi => nI (K zi)), L, R, (fun zi => qa_fe (x zi)), (fun zi => qa_fe (F zi)), (fun zi => qa_fe (M zi)), (fun zi => qa_fe (pt zi)), (fun zi => qa_fe (B zi)), (fun zi => qa_fe (P zi))) ((nI W), (nI C), (nI w), (nI m), cp, hq, (fun zi => nI (K zi)), oa, ob, st, ca, cb, cw, (fun zi => qa_fe (pt zi)), hh, rr, c, bas, pm, pp, zz, rm) := fun c => qi_mk hN hW hX hC hQ hH
  obtain ⟨n1, n2, n3, n4, n5, n6, n7⟩ := id hN
  unfold wpX_linearForm
  rcases pk_ix v1 (n := w) (by omega) with z | z | ⟨a, ha, rfl⟩
  · exact qx_nw (by omega) (Or.inl z) (br_t rfl (br_t z ⟨rfl, same col⟩))
  · exact qx_nw (by omega) (Or.inr z) (br_t rfl (br_f (qm_ge (by omega) z).1 (br_t z ⟨rfl, same col⟩)))
  · refine qx_iw (by omega) ha (br_f (by decide) ?_)
    have a1 : ¬ nI a < 0 := nI_pos (by omega)
    have a2 : ¬ nI w ≤ nI a := nI_ge ha (by omega)
    rcases pk_ix v2 (n := w) (by omega) with z | z | ⟨b, hb, rfl⟩
    · exact qx_niv (by omega) (Or.inl z) (br_t rfl (br_f a1 (br_f a2 (br_t z ⟨rfl, same col⟩))))
    · exact qx_niv (by omega) (Or.inr z) (br_t rfl (br_f a1 (br_f a2 (br_f (qm_ge (by omega) z).1 (br_f (qm_ge (by omega) z).2 ⟨rfl, same col⟩)))))
    · have b1 : ¬ nI b < 0 := nI_pos (by omega)
      have b2 : nI b < nI w := nI_lt hb (by omega)
      have k5 := qi_var hW hb
      refine qx_iv (by omega) hb (by omega) (fun y2 y4 => br_f (by decide) ?_) (fun y => br_t rfl (br_f a1 (br_f a2 (br_f b1 (br_t b2 (qy_var hW (by omega) hb (fun q2 q4 => by omega) (fun _ => br_t rfl ⟨rfl, same col⟩)))))))
      rw [qn_m32, nI_add, nI_clamp (by omega)]
      refine ⟨vp_in_nI (by omega) (by omega), ?_⟩
      refine br_f a1 (br_f a2 (br_f b1 (br_t b2 (qy_var hW (by omega) hb (fun _ _ => br_f (by decide) ?_) (fun q => by omega)))))
      exact qy_form hW (by omega) ha (by omega) fun c => ⟨rfl, same c⟩
section QM
variable {k W C w m : Nat} {cp hq : Int32} {K : Nat → Nat} {L R : Nat → Int32} {x F M pt B P : Nat → Int} {oa ob st ca cb cw hh rr col bas pm pp zz rm : Nat → Int32}
theorem qx_im {post : Int32 → Prop} {t : Nat} (ht : t < 3) (h : post 1) : wpX_isMatrix post (nI t) := by
  have : t = 0 ∨ t = 1 ∨ t = 2 := by omega
  rcases this with rfl | rfl | rfl
  · exact br_t (by decide) h
  · exact br_f (by decide) (br_t (by decide) h)
  · exact br_f (by decide) (br_f (by decide) (br_t (by decide) h))
theorem qx_nim {post : Int32 → Prop} {p : Int32} (hp : p < 0 ∨ nI 3 ≤ p) (h : post 0) : wpX_isMatrix post p := by
  have n0 : ¬ p = 0 := by rintro rfl; revert hp; decide
  have n1 : ¬ p = 1 := by rintro rfl; revert hp; decide
  have n2 : ¬ p = 2 := by rintro rfl; revert hp; decide
  exact br_f n0 (br_f n1 (br_f n2 h))
theorem qm_3 {p : Int32} (h : nI 3 ≤ p) : ¬ p < 0 ∧ ¬ p ≤ 2 := by
  refine ⟨(qm_ge (by omega) h).1, fun z => ?_⟩
  have := Int32.le_trans h z
  exact absurd this (by decide)
theorem qm_t {t n : Nat} (ht : t ≤ n) (hn : n < 2 ^ 31) : ¬ nI t < 0 ∧ nI t ≤ nI n := ⟨nI_pos (by omega), nI_le ht hn⟩
end QM
theorem i_vc_matrixEntry {k : Nat} {u : SX} {v : SY} (I : i_Rel k u v) (hk : k + 4 ≤ 2050) (v1 : Int32) (v2 : Int32) (v3 : Int32) : wpX_matrixEntry (fun r => wpY_matrixEntry (fun r' v' => r' = r ∧ i_Rel (k + 4) u v') v v1 v2 v3) u v1 v2 v3 := by
  obtain ⟨W, C, w, m, cp, hq, K, L, R, x, F, M, pt, B, P, oa, ob, st, ca, cb, cw, hh, rr, col, bas, pm, pp, zz, rm, rfl, rfl, hN, hW, hX, hC, hQ, hH⟩ := I
  have same : ∀ c : Nat → Int32, i_Rel (k + 4) ((nI W), (nI C), (nI w), (nI m), cp, hq, (fun zi => nI (K zi)), L, R, (fun zi => qa_fe (x zi)), (fun zi => qa_fe (F zi)), (fun zi => qa_fe (M zi)), (fun zi => qa_fe (pt zi)), (fun zi => qa_fe (B zi)), (fun zi => qa_fe (P zi))) ((nI W), (nI C), (nI w), (nI m), cp, hq, (fun zi => nI (K zi)), oa, ob, st, ca, cb, cw, (fun zi => qa_fe (pt zi)), hh, rr, c, bas, pm, pp, zz, rm) := fun c => qi_mk hN hW hX hC hQ hH
  obtain ⟨n1, n2, n3, n4, n5, n6, n7⟩ := id hN
  unfold wpX_matrixEntry
  rcases pk_ix v1 (n := 3) (by omega) with z | z | ⟨t, ht, rfl⟩
  · exact qx_nim (Or.inl z) (br_t rfl (br_t z ⟨rfl, same col⟩))
  · exact qx_nim (Or.inr z) (br_t rfl (br_f (qm_3 z).1 (br_f (qm_3 z).2 ⟨rfl, same col⟩)))
  · obtain ⟨t1, t2⟩ := qm_t (show t ≤ 2 by omega) (by omega)
    refine qx_im ht (br_f (by decide) ?_)
    rcases pk_ix v2 (n := m) (by omega) with z | z | ⟨j, hj, rfl⟩
    · exact br_t z (br_f t1 (br_t t2 (br_t z ⟨rfl, same col⟩)))
    · have q := (qm_ge (by omega) z).1
      exact br_f q (br_t z (br_f t1 (br_t t2 (br_f q (br_t z ⟨rfl, same col⟩)))))
    · have j1 : ¬ nI j < 0 := nI_pos (by omega)
      have j2 : ¬ nI m ≤ nI j := nI_ge hj (by omega)
      refine br_f j1 (br_f j2 ?_)
      rcases pk_ix v3 (n := w) (by omega) with z | z | ⟨b, hb, rfl⟩
      · exact qx_niv (by omega) (Or.inl z) (br_t rfl (br_f t1 (br_t t2 (br_f j1 (br_f j2 (br_t z ⟨rfl, same col⟩))))))
      · have q := qm_ge (by omega) z
        exact qx_niv (by omega) (Or.inr z) (br_t rfl (br_f t1 (br_t t2 (br_f j1 (br_f j2 (br_f q.1 (br_f q.2 ⟨rfl, same col⟩)))))))
      · have b1 : ¬ nI b < 0 := nI_pos (by omega)
        have b2 : nI b < nI w := nI_lt hb (by omega)
        have k5 := qi_var hW hb
        refine qx_iv (by omega) hb (by omega) (fun y2 y4 => br_f (by decide) ?_) (fun y => br_t rfl (br_f t1 (br_t t2 (br_f j1 (br_f j2 (br_f b1 (br_t b2 (qy_var hW (by omega) hb (fun q2 q4 => by omega) (fun _ => br_t rfl ⟨rfl, same col⟩)))))))))
        unfold wpX_matrixRow
        rw [qn_m16, nI_add, qn_m32]
        dsimp only
        rw [nI_add, nI_clamp (by omega)]
        refine ⟨vp_in_nI (by omega) (by omega), ?_⟩
        refine br_f t1 (br_t t2 (br_f j1 (br_f j2 (br_f b1 (br_t b2 (qy_var hW (by omega) hb (fun _ _ => br_f (by decide) ?_) (fun q => by omega)))))))
        exact qy_ent hW hC (by omega) (by omega) ht hj (by omega) fun c => ⟨rfl, same c⟩
section QM
variable {k W C w m : Nat} {cp hq : Int32} {K : Nat → Nat} {L R : Nat → Int32} {x F M pt B P : Nat → Int} {oa ob st ca cb cw hh rr col bas pm pp zz rm : Nat → Int32}
theorem qy_cc {post : Int32 → SY → Prop} (hW : qi_w w K L R oa ob F) (hC : qi_c w m F M ca cb cw) (hw : w ≤ 32) (hm : m ≤ 16) {t v l : Nat} (ht : t < 3) (hv : v < 32) (hl : l < m) (h : ∀ c b : Nat → Int32, post (qa_fe (qa_cc M pt m t v l m)) ((nI W), (nI C), (nI w), (nI m), cp, hq, (fun zi => nI (K zi)), oa, ob, st, ca, cb, cw, (fun zi => qa_fe (pt zi)), hh, rr, c, b, pm, pp, zz, rm)) : ∀ n j (c b : Nat → Int32), j ≤ m → m - j < n → wY_columnCoeff_64 post (nI t) (nI v) (nI l) n (qa_fe (qa_cc M pt m t v l j)) (nI j) (nI W) (nI C) (nI w) (nI m) cp hq (fun zi => nI (K zi)) oa ob st ca cb cw (fun zi => qa_fe (pt zi)) hh rr c b pm pp zz rm := by
  intro n
  induction n with
  | zero => intros; omega
  | succ n ih =>
    intro j c b hj hn
    by_cases h1 : j < m
    · refine br_f (nI_ge h1 (by omega)) ?_
      refine qy_ent hW hC hw hm ht h1 hv fun c1 => ?_
      refine qy_fb hm h1 fun b1 hb => ⟨vp_in_nI (by omega) (by omega), ?_⟩
      rw [nI_clamp (by omega), hb l hl, qy_ac]
      exact nm_r (nI_1 j) (ih (j + 1) c1 b1 (by omega) (by omega))
    · obtain rfl : j = m := by omega
      exact br_t (nI_le (Nat.le_refl _) (by omega)) (h c b)
end QM
theorem i_vc_columnCoeff {k : Nat} {u : SX} {v : SY} (I : i_Rel k u v) (hk : k + 4 ≤ 2050) (v1 : Int32) (v2 : Int32) (v3 : Int32) : wpX_columnCoeff (fun r => wpY_columnCoeff (fun r' v' => r' = r ∧ i_Rel (k + 4) u v') v v1 v2 v3) u v1 v2 v3 := by
  obtain ⟨W, C, w, m, cp, hq, K, L, R, x, F, M, pt, B, P, oa, ob, st, ca, cb, cw, hh, rr, col, bas, pm, pp, zz, rm, rfl, rfl, hN, hW, hX, hC, hQ, hH⟩ := I
  have same : ∀ c b : Nat → Int32, i_Rel (k + 4) ((nI W), (nI C), (nI w), (nI m), cp, hq, (fun zi => nI (K zi)), L, R, (fun zi => qa_fe (x zi)), (fun zi => qa_fe (F zi)), (fun zi => qa_fe (M zi)), (fun zi => qa_fe (pt zi)), (fun zi => qa_fe (B zi)), (fun zi => qa_fe (P zi))) ((nI W), (nI C), (nI w), (nI m), cp, hq, (fun zi => nI (K zi)), oa, ob, st, ca, cb, cw, (fun zi => qa_fe (pt zi)), hh, rr, c, b, pm, pp, zz, rm) := fun c b => qi_mk hN hW hX hC hQ hH
  obtain ⟨n1, n2, n3, n4, n5, n6, n7⟩ := id hN
  unfold wpX_columnCoeff
  rcases pk_ix v1 (n := 3) (by omega) with z | z | ⟨t, ht, rfl⟩
  · exact qx_nim (Or.inl z) (br_t rfl (br_t z ⟨rfl, same col bas⟩))
  · exact qx_nim (Or.inr z) (br_t rfl (br_f (qm_3 z).1 (br_f (qm_3 z).2 ⟨rfl, same col bas⟩)))
  · obtain ⟨t1, t2⟩ := qm_t (show t ≤ 2 by omega) (by omega)
    refine qx_im ht (br_f (by decide) ?_)
    rcases id hQ with ⟨rfl, -⟩ | ⟨rfl, m0, hB, -⟩
    · exact br_t rfl (br_f t1 (br_t t2 (br_t rfl ⟨rfl, same col bas⟩)))
    · have c1 : ¬ (1 : Int32) = 0 := by decide
      refine br_f c1 ?_
      rcases pk_ix v2 (n := w) (by omega) with z | z | ⟨b, hb, rfl⟩
      · exact qx_niv (by omega) (Or.inl z) (br_t rfl (br_f t1 (br_t t2 (br_f c1 (br_t z ⟨rfl, same col bas⟩)))))
      · have q := qm_ge (by omega) z
        exact qx_niv (by omega) (Or.inr z) (br_t rfl (br_f t1 (br_t t2 (br_f c1 (br_f q.1 (br_f q.2 ⟨rfl, same col bas⟩))))))
      · have b1 : ¬ nI b < 0 := nI_pos (by omega)
        have b2 : nI b < nI w := nI_lt hb (by omega)
        have k5 := qi_var hW hb
        refine qx_iv (by omega) hb (by omega) (fun y2 y4 => br_f (by decide) ?_) (fun y => br_t rfl (br_f t1 (br_t t2 (br_f c1 (br_f b1 (br_t b2 (qy_var hW (by omega) hb (fun q2 q4 => by omega) (fun _ => br_t rfl ⟨rfl, same col bas⟩))))))))
        have yy : ∀ post : Int32 → SY → Prop, ((v3 < 0 → post (-1) ((nI W), (nI C), (nI w), (nI m), 1, hq, (fun zi => nI (K zi)), oa, ob, st, ca, cb, cw, (fun zi => qa_fe (pt zi)), hh, rr, col, bas, pm, pp, zz, rm)) ∧ (¬ v3 < 0 → ((v3 < nI m → ∃ n, wY_columnCoeff_64 post (nI t) (nI b) v3 n 0 0 (nI W) (nI C) (nI w) (nI m) 1 hq (fun zi => nI (K zi)) oa ob st ca cb cw (fun zi => qa_fe (pt zi)) hh rr col bas pm pp zz rm) ∧ (¬ v3 < nI m → post (-1) ((nI W), (nI C), (nI w), (nI m), 1, hq, (fun zi => nI (K zi)), oa, ob, st, ca, cb, cw, (fun zi => qa_fe (pt zi)), hh, rr, col, bas, pm, pp, zz, rm))))) → wpY_columnCoeff post ((nI W), (nI C), (nI w), (nI m), 1, hq, (fun zi => nI (K zi)), oa, ob, st, ca, cb, cw, (fun zi => qa_fe (pt zi)), hh, rr, col, bas, pm, pp, zz, rm) (nI t) (nI b) v3 := fun post h => br_f t1 (br_t t2 (br_f c1 (br_f b1 (br_t b2 (qy_var hW (by omega) hb (fun _ _ => br_f c1 h) (fun q => by omega))))))
        rcases pk_ix v3 (n := m) (by omega) with z | z | ⟨l, hl, rfl⟩
        · exact br_t z (yy _ (br_t z ⟨rfl, same col bas⟩))
        · have q := qm_ge (by omega) z
          exact br_f q.1 (br_f q.2 (yy _ (br_f q.1 (br_f q.2 ⟨rfl, same col bas⟩))))
        · have l1 : ¬ nI l < 0 := nI_pos (by omega)
          have l2 : nI l < nI m := nI_lt hl (by omega)
          refine br_f l1 (br_t l2 (qx_cc (by omega) ht (by omega) hl hB ?_))
          exact yy _ (br_f l1 (br_t l2 ⟨m + 1, qy_cc hW hC (by omega) (by omega) ht (by omega) hl (fun c b' => ⟨rfl, same c b'⟩) (m + 1) 0 col bas (by omega) (by omega)⟩))
