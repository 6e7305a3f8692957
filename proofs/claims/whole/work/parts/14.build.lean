section QM
variable {k W C w m : Nat} {cp hq : Int32} {K : Nat → Nat} {L R : Nat → Int32} {x F M pt B P : Nat → Int} {oa ob st ca cb cw hh rr col bas pm pp zz rm : Nat → Int32}
theorem qg_sum (hN : qi_n W C w m) (hW : qi_w w K L R oa ob F) (hX : qi_x w K x st) (hC : qi_c w m F M ca cb cw) (hQ : qi_q 0 w m M x pt B P) (hH : qi_h 0 hq m P hh rr) (hw : w < W) {a b : Nat} (ha : a < w) (hb : b < w) {PY : (Int32 → SY → Prop) → Prop} (hY : ∀ post, wY_addGate_90 post 2 (nI a) (nI b) (nI W) (nI C) (nI w) (nI m) 0 hq (fun zi => nI (K zi)) oa ob st ca cb cw (fun zi => qa_fe (pt zi)) hh rr col bas pm pp zz rm → PY post) : wX_addGate_70 (fun r u' => PY (fun r' v' => r' = r ∧ i_Rel k u' v')) 2 (nI a) (nI b) (nI W) (nI C) (nI w) (nI m) 0 hq (fun zi => nI (K zi)) L R (fun zi => qa_fe (x zi)) (fun zi => qa_fe (F zi)) (fun zi => qa_fe (M zi)) (fun zi => qa_fe (pt zi)) (fun zi => qa_fe (B zi)) (fun zi => qa_fe (P zi)) := by
  obtain ⟨n1, n2, n3, n4, n5, n6, n7⟩ := hN
  refine br_f (by decide) (br_t (by decide) (qx_ms ha hb (by omega) (hY _ ?_)))
  refine ⟨vp_in_nI (by omega) (by omega), ?_⟩
  rw [nI_clamp (by omega)]
  refine nm_r (qa_updN K w 2) ⟨vp_in_nI (by omega) (by omega), nm_e (br_f (by decide) ⟨vp_in_nI (by omega) (by omega), ?_⟩)⟩
  rw [nI_clamp (by omega)]
  refine nm_e ⟨vp_in_nI (by omega) (by omega), nm_e (br_f (by decide) (nm_r (nI_1 w) ⟨rfl, ?_⟩))⟩
  exact qi_mk ⟨n1, n2, n3, n4, by omega, by omega, n7⟩ (qe_sum hW (by omega) (by omega) ha hb) (qe_x hX (by omega) (by omega) 2) (qi_c_w (by omega) (by omega) (fun a v h1 h2 => qa_row_out (by omega)) hC) (qi_q0 hQ) hH
theorem qg_cmul (hN : qi_n W C w m) (hW : qi_w w K L R oa ob F) (hX : qi_x w K x st) (hC : qi_c w m F M ca cb cw) (hQ : qi_q 0 w m M x pt B P) (hH : qi_h 0 hq m P hh rr) (hw : w < W) {a : Nat} (b : Int32) (ha : a < w) {PY : (Int32 → SY → Prop) → Prop} (hY : ∀ post, wY_addGate_90 post 4 (nI a) b (nI W) (nI C) (nI w) (nI m) 0 hq (fun zi => nI (K zi)) oa ob st ca cb cw (fun zi => qa_fe (pt zi)) hh rr col bas pm pp zz rm → PY post) : wX_addGate_70 (fun r u' => PY (fun r' v' => r' = r ∧ i_Rel k u' v')) 4 (nI a) b (nI W) (nI C) (nI w) (nI m) 0 hq (fun zi => nI (K zi)) L R (fun zi => qa_fe (x zi)) (fun zi => qa_fe (F zi)) (fun zi => qa_fe (M zi)) (fun zi => qa_fe (pt zi)) (fun zi => qa_fe (B zi)) (fun zi => qa_fe (P zi)) := by
  obtain ⟨n1, n2, n3, n4, n5, n6, n7⟩ := hN
  refine br_f (by decide) (br_f (by decide) ?_)
  rw [qx_red]
  refine qx_mm _ ha (by omega) (hY _ ?_)
  refine ⟨vp_in_nI (by omega) (by omega), ?_⟩
  rw [nI_clamp (by omega)]
  refine nm_r (qa_updN K w 4) ⟨vp_in_nI (by omega) (by omega), nm_e (br_t (by decide) ?_)⟩
  rw [qy_i]
  refine ⟨vp_in_nI (by omega) (by omega), ?_⟩
  rw [nI_clamp (by omega)]
  refine nm_e ⟨vp_in_nI (by omega) (by omega), nm_e (br_f (by decide) (nm_r (nI_1 w) ⟨rfl, ?_⟩))⟩
  exact qi_mk ⟨n1, n2, n3, n4, by omega, by omega, n7⟩ (qe_mul hW (by omega) (by omega) b.toInt ha) (qe_x hX (by omega) (by omega) 4) (qi_c_w (by omega) (by omega) (fun a v h1 h2 => qa_row_out (by omega)) hC) (qi_q0 hQ) hH
theorem qg_mul (hN : qi_n W C w m) (hW : qi_w w K L R oa ob F) (hX : qi_x w K x st) (hC : qi_c w m F M ca cb cw) (hQ : qi_q 0 w m M x pt B P) (hH : qi_h 0 hq m P hh rr) (hw : w < W) (hm : m < C) {a b : Nat} (ha : a < w) (hb : b < w) {PY : (Int32 → SY → Prop) → Prop} (hY : ∀ post, wY_addGate_90 post 3 (nI a) (nI b) (nI W) (nI C) (nI w) (nI m) 0 hq (fun zi => nI (K zi)) oa ob st ca cb cw (fun zi => qa_fe (pt zi)) hh rr col bas pm pp zz rm → PY post) : wX_addGate_70 (fun r u' => PY (fun r' v' => r' = r ∧ i_Rel k u' v')) 3 (nI a) (nI b) (nI W) (nI C) (nI w) (nI m) 0 hq (fun zi => nI (K zi)) L R (fun zi => qa_fe (x zi)) (fun zi => qa_fe (F zi)) (fun zi => qa_fe (M zi)) (fun zi => qa_fe (pt zi)) (fun zi => qa_fe (B zi)) (fun zi => qa_fe (P zi)) := by
  obtain ⟨n1, n2, n3, n4, n5, n6, n7⟩ := hN
  refine br_t (by decide) (qx_mp ha hb (by omega) (by omega) (hY _ ?_))
  refine ⟨vp_in_nI (by omega) (by omega), ?_⟩
  rw [nI_clamp (by omega)]
  refine nm_r (qa_updN K w 3) ⟨vp_in_nI (by omega) (by omega), nm_e (br_f (by decide) ⟨vp_in_nI (by omega) (by omega), ?_⟩)⟩
  rw [nI_clamp (by omega)]
  refine nm_e ⟨vp_in_nI (by omega) (by omega), nm_e (br_t (by decide) ⟨vp_in_nI (by omega) (by omega), ?_⟩)⟩
  rw [nI_clamp (by omega)]
  refine nm_e ⟨vp_in_nI (by omega) (by omega), nm_e ⟨vp_in_nI (by omega) (by omega), nm_e (nm_r (nI_1 m) (nm_r (nI_1 w) ⟨rfl, ?_⟩))⟩⟩
  exact qi_mk ⟨n1, n2, n3, n4, by omega, by omega, by omega⟩ (qe_var hW (by omega) (by omega) 3 (fun i hi => pk_un (by omega)) (fun i hi => pk_un (by omega)) (fun i hi => pk_un (by omega)) (fun i hi => pk_un (by omega)) (Or.inl ⟨rfl, a, b, ha, hb, pk_us, pk_us, pk_us, pk_us⟩)) (qe_x hX (by omega) (by omega) 3) (qe_con hW hC (by omega) (by omega) ha hb) (qi_q0 hQ) (qi_h0 hH)
end QM
theorem i_vc_addGate {k : Nat} {u : SX} {v : SY} (I : i_Rel k u v) (hk : k + 4 ≤ 2050) (v1 : Int32) (v2 : Int32) (v3 : Int32) : wpX_addGate (fun r u' => wpY_addGate (fun r' v' => r' = r ∧ i_Rel (k + 4) u' v') v v1 v2 v3) u v1 v2 v3 := by
  obtain ⟨W, C, w, m, cp, hq, K, L, R, x, F, M, pt, B, P, oa, ob, st, ca, cb, cw, hh, rr, col, bas, pm, pp, zz, rm, rfl, rfl, hN, hW, hX, hC, hQ, hH⟩ := I
  have same : i_Rel (k + 4) ((nI W), (nI C), (nI w), (nI m), cp, hq, (fun zi => nI (K zi)), L, R, (fun zi => qa_fe (x zi)), (fun zi => qa_fe (F zi)), (fun zi => qa_fe (M zi)), (fun zi => qa_fe (pt zi)), (fun zi => qa_fe (B zi)), (fun zi => qa_fe (P zi))) ((nI W), (nI C), (nI w), (nI m), cp, hq, (fun zi => nI (K zi)), oa, ob, st, ca, cb, cw, (fun zi => qa_fe (pt zi)), hh, rr, col, bas, pm, pp, zz, rm) := qi_mk hN hW hX hC hQ hH
  obtain ⟨n1, n2, n3, n4, n5, n6, n7⟩ := id hN
  rcases qi_cp hQ with rfl | rfl
  · unfold wpX_addGate
    refine br_t rfl ?_
    have hg : v1 = 2 ∨ v1 = 3 ∨ v1 = 4 ∨ (¬ v1 = 2 ∧ ¬ v1 = 3 ∧ ¬ v1 = 4) := by
      by_cases g2 : v1 = 2
      · exact Or.inl g2
      · by_cases g3 : v1 = 3
        · exact Or.inr (Or.inl g3)
        · by_cases g4 : v1 = 4
          · exact Or.inr (Or.inr (Or.inl g4))
          · exact Or.inr (Or.inr (Or.inr ⟨g2, g3, g4⟩))
    have c1 : ∀ post : Int32 → SY → Prop, (v1 = 2 ∨ v1 = 3 ∨ v1 = 4) → wY_addGate_26 post v1 v2 v3 (nI W) (nI C) (nI w) (nI m) 0 hq (fun zi => nI (K zi)) oa ob st ca cb cw (fun zi => qa_fe (pt zi)) hh rr col bas pm pp zz rm → wpY_addGate post ((nI W), (nI C), (nI w), (nI m), 0, hq, (fun zi => nI (K zi)), oa, ob, st, ca, cb, cw, (fun zi => qa_fe (pt zi)), hh, rr, col, bas, pm, pp, zz, rm) v1 v2 v3 := by
      intro post hv h
      refine br_t rfl ?_
      rcases hv with e | e | e
      · exact br_t e h
      · exact br_f (by rw [e]; decide) (br_t e h)
      · exact br_f (by rw [e]; decide) (br_f (by rw [e]; decide) (br_t e h))
    by_cases hv : v1 = 2 ∨ v1 = 3 ∨ v1 = 4
    · have gk : ∀ post : Int32 → Prop, post 1 → wpX_isGateKind post v1 := by
        intro post h
        rcases hv with e | e | e
        · exact br_t e h
        · exact br_f (by rw [e]; decide) (br_t e h)
        · exact br_f (by rw [e]; decide) (br_f (by rw [e]; decide) (br_t e h))
      refine gk _ (br_f (by decide) ?_)
      rcases pk_ix v2 (n := w) (by omega) with z | z | ⟨a, ha, rfl⟩
      · exact qx_nw (by omega) (Or.inl z) (br_t rfl (c1 _ hv (br_t z ⟨rfl, same⟩)))
      · exact qx_nw (by omega) (Or.inr z) (br_t rfl (c1 _ hv (br_f (qm_ge (by omega) z).1 (br_f (qm_ge (by omega) z).2 ⟨rfl, same⟩))))
      · refine qx_iw (by omega) ha (br_f (by decide) ?_)
        have c2 : ∀ post : Int32 → SY → Prop, (v1 = 4 → wY_addGate_59 post v1 (nI a) v3 (nI W) (nI C) (nI w) (nI m) 0 hq (fun zi => nI (K zi)) oa ob st ca cb cw (fun zi => qa_fe (pt zi)) hh rr col bas pm pp zz rm) → (¬ v1 = 4 → ((v3 < 0 → post (-1) ((nI W), (nI C), (nI w), (nI m), 0, hq, (fun zi => nI (K zi)), oa, ob, st, ca, cb, cw, (fun zi => qa_fe (pt zi)), hh, rr, col, bas, pm, pp, zz, rm)) ∧ (¬ v3 < 0 → ((v3 < nI w → wY_addGate_59 post v1 (nI a) v3 (nI W) (nI C) (nI w) (nI m) 0 hq (fun zi => nI (K zi)) oa ob st ca cb cw (fun zi => qa_fe (pt zi)) hh rr col bas pm pp zz rm) ∧ (¬ v3 < nI w → post (-1) ((nI W), (nI C), (nI w), (nI m), 0, hq, (fun zi => nI (K zi)), oa, ob, st, ca, cb, cw, (fun zi => qa_fe (pt zi)), hh, rr, col, bas, pm, pp, zz, rm)))))) → wpY_addGate post ((nI W), (nI C), (nI w), (nI m), 0, hq, (fun zi => nI (K zi)), oa, ob, st, ca, cb, cw, (fun zi => qa_fe (pt zi)), hh, rr, col, bas, pm, pp, zz, rm) v1 (nI a) v3 :=
          fun post h4 hn => c1 _ hv (br_f (nI_pos (by omega)) (br_t (nI_lt ha (by omega)) ⟨h4, hn⟩))
        by_cases g4 : v1 = 4
        · subst g4
          refine br_t rfl ?_
          by_cases e : w = W
          · subst e
            exact br_t rfl (c2 _ (fun _ => br_t rfl ⟨rfl, same⟩) (fun z => absurd rfl z))
          · have ne : ¬ nI w = nI W := by rw [nI_eq (by omega) (by omega)]; exact e
            refine br_f ne (br_f (by decide) ?_)
            exact qg_cmul hN hW hX hC hQ hH (by omega) v3 ha (PY := fun post => wpY_addGate post ((nI W), (nI C), (nI w), (nI m), 0, hq, (fun zi => nI (K zi)), oa, ob, st, ca, cb, cw, (fun zi => qa_fe (pt zi)), hh, rr, col, bas, pm, pp, zz, rm) 4 (nI a) v3) fun post h => c2 _ (fun _ => br_f ne (br_f (by decide) h)) (fun z => absurd rfl z)
        · refine br_f g4 ?_
          rcases pk_ix v3 (n := w) (by omega) with z | z | ⟨b, hb, rfl⟩
          · exact qx_nw (by omega) (Or.inl z) (br_t rfl (c2 _ (fun y => absurd y g4) (fun _ => br_t z ⟨rfl, same⟩)))
          · exact qx_nw (by omega) (Or.inr z) (br_t rfl (c2 _ (fun y => absurd y g4) (fun _ => br_f (qm_ge (by omega) z).1 (br_f (qm_ge (by omega) z).2 ⟨rfl, same⟩))))
          · refine qx_iw (by omega) hb (br_f (by decide) ?_)
            have c3 : ∀ post : Int32 → SY → Prop, wY_addGate_59 post v1 (nI a) (nI b) (nI W) (nI C) (nI w) (nI m) 0 hq (fun zi => nI (K zi)) oa ob st ca cb cw (fun zi => qa_fe (pt zi)) hh rr col bas pm pp zz rm → wpY_addGate post ((nI W), (nI C), (nI w), (nI m), 0, hq, (fun zi => nI (K zi)), oa, ob, st, ca, cb, cw, (fun zi => qa_fe (pt zi)), hh, rr, col, bas, pm, pp, zz, rm) v1 (nI a) (nI b) :=
              fun post h => c2 _ (fun y => absurd y g4) (fun _ => br_f (nI_pos (by omega)) (br_t (nI_lt hb (by omega)) h))
            by_cases e : w = W
            · subst e
              exact br_t rfl (c3 _ (br_t rfl ⟨rfl, same⟩))
            · have ne : ¬ nI w = nI W := by rw [nI_eq (by omega) (by omega)]; exact e
              refine br_f ne ?_
              by_cases g3 : v1 = 3
              · subst g3
                refine br_t rfl ?_
                by_cases em : m = C
                · subst em
                  exact br_t rfl (c3 _ (br_f ne (br_t rfl (br_t rfl ⟨rfl, same⟩))))
                · have nm : ¬ nI m = nI C := by rw [nI_eq (by omega) (by omega)]; exact em
                  refine br_f nm ?_
                  exact qg_mul hN hW hX hC hQ hH (by omega) (by omega) ha hb (PY := fun post => wpY_addGate post ((nI W), (nI C), (nI w), (nI m), 0, hq, (fun zi => nI (K zi)), oa, ob, st, ca, cb, cw, (fun zi => qa_fe (pt zi)), hh, rr, col, bas, pm, pp, zz, rm) 3 (nI a) (nI b)) fun post h => c3 _ (br_f ne (br_t rfl (br_f nm h)))
              · have g2 : v1 = 2 := by
                  rcases hv with y | y | y
                  · exact y
                  · exact absurd y g3
                  · exact absurd y g4
                subst g2
                refine br_f (by decide) ?_
                exact qg_sum hN hW hX hC hQ hH (by omega) ha hb (PY := fun post => wpY_addGate post ((nI W), (nI C), (nI w), (nI m), 0, hq, (fun zi => nI (K zi)), oa, ob, st, ca, cb, cw, (fun zi => qa_fe (pt zi)), hh, rr, col, bas, pm, pp, zz, rm) 2 (nI a) (nI b)) fun post h => c3 _ (br_f ne (br_f (by decide) h))
    · have q2 : ¬ v1 = 2 := fun z => hv (Or.inl z)
      have q3 : ¬ v1 = 3 := fun z => hv (Or.inr (Or.inl z))
      have q4 : ¬ v1 = 4 := fun z => hv (Or.inr (Or.inr z))
      exact br_f q2 (br_f q3 (br_f q4 (br_t rfl (br_t rfl (br_f q2 (br_f q3 (br_f q4 ⟨rfl, same⟩)))))))
  · exact br_f (by decide) (br_f (by decide) ⟨rfl, same⟩)
theorem i_vc_assertEqual {k : Nat} {u : SX} {v : SY} (I : i_Rel k u v) (hk : k + 4 ≤ 2050) (v1 : Int32) (v2 : Int32) : wpX_assertEqual (fun r u' => wpY_assertEqual (fun r' v' => r' = r ∧ i_Rel (k + 4) u' v') v v1 v2) u v1 v2 := by
  obtain ⟨W, C, w, m, cp, hq, K, L, R, x, F, M, pt, B, P, oa, ob, st, ca, cb, cw, hh, rr, col, bas, pm, pp, zz, rm, rfl, rfl, hN, hW, hX, hC, hQ, hH⟩ := I
  have same : i_Rel (k + 4) ((nI W), (nI C), (nI w), (nI m), cp, hq, (fun zi => nI (K zi)), L, R, (fun zi => qa_fe (x zi)), (fun zi => qa_fe (F zi)), (fun zi => qa_fe (M zi)), (fun zi => qa_fe (pt zi)), (fun zi => qa_fe (B zi)), (fun zi => qa_fe (P zi))) ((nI W), (nI C), (nI w), (nI m), cp, hq, (fun zi => nI (K zi)), oa, ob, st, ca, cb, cw, (fun zi => qa_fe (pt zi)), hh, rr, col, bas, pm, pp, zz, rm) := qi_mk hN hW hX hC hQ hH
  obtain ⟨n1, n2, n3, n4, n5, n6, n7⟩ := id hN
  rcases qi_cp hQ with rfl | rfl
  · unfold wpX_assertEqual
    refine br_t rfl ?_
    rcases pk_ix v1 (n := w) (by omega) with z | z | ⟨a, ha, rfl⟩
    · exact qx_nw (by omega) (Or.inl z) (br_t rfl (br_t rfl (br_t z ⟨rfl, same⟩)))
    · exact qx_nw (by omega) (Or.inr z) (br_t rfl (br_t rfl (br_f (qm_ge (by omega) z).1 (br_t z ⟨rfl, same⟩))))
    · refine qx_iw (by omega) ha (br_f (by decide) ?_)
      have a1 : ¬ nI a < 0 := nI_pos (by omega)
      have a2 : ¬ nI w ≤ nI a := nI_ge ha (by omega)
      rcases pk_ix v2 (n := w) (by omega) with z | z | ⟨b, hb, rfl⟩
      · exact qx_nw (by omega) (Or.inl z) (br_t rfl (br_t rfl (br_f a1 (br_f a2 (br_t z ⟨rfl, same⟩)))))
      · exact qx_nw (by omega) (Or.inr z) (br_t rfl (br_t rfl (br_f a1 (br_f a2 (br_f (qm_ge (by omega) z).1 (br_f (qm_ge (by omega) z).2 ⟨rfl, same⟩))))))
      · refine qx_iw (by omega) hb (br_f (by decide) ?_)
        have b1 : ¬ nI b < 0 := nI_pos (by omega)
        have b2 : nI b < nI w := nI_lt hb (by omega)
        by_cases em : m = C
        · subst em
          exact br_t rfl (br_t rfl (br_f a1 (br_f a2 (br_f b1 (br_t b2 (br_t rfl ⟨rfl, same⟩))))))
        · have nm : ¬ nI m = nI C := by rw [nI_eq (by omega) (by omega)]; exact em
          refine br_f nm (qx_ae ha hb (by omega) (by omega) ?_)
          refine br_t rfl (br_f a1 (br_f a2 (br_f b1 (br_t b2 (br_f nm ⟨vp_in_nI (by omega) (by omega), ?_⟩)))))
          rw [nI_clamp (by omega)]
          refine nm_e ⟨vp_in_nI (by omega) (by omega), nm_e ⟨vp_in_nI (by omega) (by omega), nm_e (nm_r (nI_1 m) ⟨nI_pred m, ?_⟩)⟩⟩
          exact qi_mk ⟨n1, n2, n3, n4, n5, n6, by omega⟩ hW hX (qe_eq hW hC (by omega) (by omega) (by omega) ha hb) (qi_q0 hQ) (qi_h0 hH)
  · exact br_f (by decide) (br_f (by decide) ⟨rfl, same⟩)
section QM
variable {k W C w m : Nat} {cp hq : Int32} {K : Nat → Nat} {L R : Nat → Int32} {x F M pt B P : Nat → Int} {oa ob st ca cb cw hh rr col bas pm pp zz rm : Nat → Int32}
theorem qy_sp33 {post : Int32 → SY → Prop} (hC : C ≤ 16) {j : Nat} (hj : j < C) (z : Int) (h1 : qa_ds pt C j z → post 1 ((nI W), (nI C), (nI w), (nI m), cp, hq, (fun zi => nI (K zi)), oa, ob, st, ca, cb, cw, (fun zi => qa_fe ((qa_uz pt j z) zi)), hh, rr, col, bas, pm, pp, zz, rm)) (h0 : ¬ qa_ds pt C j z → post 0 ((nI W), (nI C), (nI w), (nI m), cp, hq, (fun zi => nI (K zi)), oa, ob, st, ca, cb, cw, (fun zi => qa_fe (pt zi)), hh, rr, col, bas, pm, pp, zz, rm)) : ∀ n k, k ≤ C → C - k < n → (∀ i, i < k → i ≠ j → qa_fe (pt i) ≠ qa_fe z) → wY_setPoint_33 post (nI j) (qa_fe z) (nI W) (nI C) (nI w) (nI m) cp hq (fun zi => nI (K zi)) oa ob st ca cb cw (fun zi => qa_fe (pt zi)) hh rr col bas pm pp zz rm n (nI k) := by
  intro n
  induction n with
  | zero => intros; omega
  | succ n ih =>
    intro k hk hn hI
    by_cases h2 : k < C
    · refine br_f (nI_ge h2 (by omega)) ?_
      by_cases e : k = j
      · exact br_t (by rw [e]) (nm_r (nI_1 k) (ih (k + 1) (by omega) (by omega) fun i hi hn => hI i (by omega) hn))
      · refine br_f (by rw [nI_eq (by omega) (by omega)]; exact e) ⟨vp_in_nI (by omega) (by omega), ?_⟩
        rw [nI_clamp (by omega)]
        by_cases q : qa_fe (pt k) = qa_fe z
        · exact br_t q (h0 fun y => y k h2 e q)
        · refine br_f q (nm_r (nI_1 k) (ih (k + 1) (by omega) (by omega) fun i hi hn => ?_))
          by_cases y : i = k
          · rw [y]; exact q
          · exact hI i (by omega) hn
    · obtain rfl : k = C := by omega
      refine br_t (nI_le (Nat.le_refl _) (by omega)) ⟨vp_in_nI (by omega) (by omega), ?_⟩
      rw [nI_clamp (by omega)]
      exact nm_r (qa_upd _ _ _) (h1 hI)
end QM
theorem i_vc_setPoint {k : Nat} {u : SX} {v : SY} (I : i_Rel k u v) (hk : k + 4 ≤ 2050) (v1 : Int32) (v2 : Int32) : wpX_setPoint (fun r u' => wpY_setPoint (fun r' v' => r' = r ∧ i_Rel (k + 4) u' v') v v1 v2) u v1 v2 := by
  obtain ⟨W, C, w, m, cp, hq, K, L, R, x, F, M, pt, B, P, oa, ob, st, ca, cb, cw, hh, rr, col, bas, pm, pp, zz, rm, rfl, rfl, hN, hW, hX, hC, hQ, hH⟩ := I
  have same : i_Rel (k + 4) ((nI W), (nI C), (nI w), (nI m), cp, hq, (fun zi => nI (K zi)), L, R, (fun zi => qa_fe (x zi)), (fun zi => qa_fe (F zi)), (fun zi => qa_fe (M zi)), (fun zi => qa_fe (pt zi)), (fun zi => qa_fe (B zi)), (fun zi => qa_fe (P zi))) ((nI W), (nI C), (nI w), (nI m), cp, hq, (fun zi => nI (K zi)), oa, ob, st, ca, cb, cw, (fun zi => qa_fe (pt zi)), hh, rr, col, bas, pm, pp, zz, rm) := qi_mk hN hW hX hC hQ hH
  obtain ⟨n1, n2, n3, n4, n5, n6, n7⟩ := id hN
  rcases qi_cp hQ with rfl | rfl
  · rcases pk_ix v1 (n := C) (by omega) with z | z | ⟨j, hj, rfl⟩
    · exact br_t rfl (br_t z (br_t rfl (br_t z ⟨rfl, same⟩)))
    · have q := qm_ge (by omega) z
      exact br_t rfl (br_f q.1 (br_f q.2 (br_t rfl (br_f q.1 (br_f q.2 ⟨rfl, same⟩)))))
    · have a1 : ¬ nI j < 0 := nI_pos (by omega)
      have a2 : nI j < nI C := nI_lt hj (by omega)
      refine br_t rfl (br_f a1 (br_t a2 ?_))
      rw [qx_red]
      have yy : ∀ post : Int32 → SY → Prop, (qa_ds pt C j v2.toInt → post 1 ((nI W), (nI C), (nI w), (nI m), 0, hq, (fun zi => nI (K zi)), oa, ob, st, ca, cb, cw, (fun zi => qa_fe ((qa_uz pt j v2.toInt) zi)), hh, rr, col, bas, pm, pp, zz, rm)) → (¬ qa_ds pt C j v2.toInt → post 0 ((nI W), (nI C), (nI w), (nI m), 0, hq, (fun zi => nI (K zi)), oa, ob, st, ca, cb, cw, (fun zi => qa_fe (pt zi)), hh, rr, col, bas, pm, pp, zz, rm)) → wpY_setPoint post ((nI W), (nI C), (nI w), (nI m), 0, hq, (fun zi => nI (K zi)), oa, ob, st, ca, cb, cw, (fun zi => qa_fe (pt zi)), hh, rr, col, bas, pm, pp, zz, rm) (nI j) v2 := by
        intro post h1 h0
        refine br_t rfl (br_f a1 (br_t a2 ?_))
        rw [qy_i]
        exact ⟨C + 1, qy_sp33 (by omega) hj v2.toInt h1 h0 (C + 1) 0 (by omega) (by omega) (fun i hi => by omega)⟩
      refine ⟨C + 1, qx_sp29 (by omega) hj v2.toInt (fun d => ?_) (fun d => ?_) (C + 1) 0 (by omega) (by omega) (fun i hi => by omega)⟩
      · exact yy _ (fun _ => ⟨rfl, qi_mk hN hW hX hC (qi_q0 hQ) hH⟩) (fun y => absurd d y)
      · exact yy _ (fun y => absurd y d) (fun _ => ⟨rfl, same⟩)
  · exact br_f (by decide) (br_f (by decide) ⟨rfl, same⟩)
theorem i_vc_compile {k : Nat} {u : SX} {v : SY} (I : i_Rel k u v) (hk : k + 4 ≤ 2050) : wpX_compile (fun r u' => wpY_compile (fun r' v' => r' = r ∧ i_Rel (k + 4) u' v') v) u := by
  obtain ⟨W, C, w, m, cp, hq, K, L, R, x, F, M, pt, B, P, oa, ob, st, ca, cb, cw, hh, rr, col, bas, pm, pp, zz, rm, rfl, rfl, hN, hW, hX, hC, hQ, hH⟩ := I
  have same : i_Rel (k + 4) ((nI W), (nI C), (nI w), (nI m), cp, hq, (fun zi => nI (K zi)), L, R, (fun zi => qa_fe (x zi)), (fun zi => qa_fe (F zi)), (fun zi => qa_fe (M zi)), (fun zi => qa_fe (pt zi)), (fun zi => qa_fe (B zi)), (fun zi => qa_fe (P zi))) ((nI W), (nI C), (nI w), (nI m), cp, hq, (fun zi => nI (K zi)), oa, ob, st, ca, cb, cw, (fun zi => qa_fe (pt zi)), hh, rr, col, bas, pm, pp, zz, rm) := qi_mk hN hW hX hC hQ hH
  obtain ⟨n1, n2, n3, n4, n5, n6, n7⟩ := id hN
  rcases id hQ with ⟨rfl, hP⟩ | ⟨rfl, -⟩
  · have hq0 : hq = 0 := hH.elim id (fun z => absurd z.2.1 (by decide))
    subst hq0
    by_cases e : m = 0
    · subst e
      exact br_t rfl (br_t rfl (br_t rfl (br_t rfl ⟨rfl, same⟩)))
    · refine qx_cp (by omega) (by omega) (by omega) hP fun B' P' hQ' => ?_
      exact br_t rfl (br_f (nI_ne0 (by omega) (by omega)) ⟨rfl, qi_mk hN hW hX hC hQ' (Or.inl rfl)⟩)
  · exact br_f (by decide) (br_f (by decide) ⟨rfl, same⟩)
section QM
variable {k W C w m : Nat} {cp hq : Int32} {K : Nat → Nat} {L R : Nat → Int32} {x F M pt B P : Nat → Int} {oa ob st ca cb cw hh rr col bas pm pp zz rm : Nat → Int32}
theorem qe_set (hX : qi_x w K x st) {j : Nat} (h0 : 0 < j) (hj : j < w) (z : Int) (hK : K j ≠ 2 ∧ K j ≠ 4) : qi_x w K (qa_uz x j z) (upd st j (qa_fe z)) := by
  obtain ⟨a, b, c⟩ := hX
  refine ⟨by rw [qa_uzn (by omega)]; exact a, fun v h1 h2 => ?_, fun v h1 h2 => ?_⟩
  · by_cases e : v = j
    · rw [e, pk_us, qa_uzs]
    · rw [pk_un e, qa_uzn e]
      exact b v h1 h2
  · by_cases e : v = j
    · subst e
      rcases h2 with y | y | y
      · omega
      · exact absurd y hK.1
      · exact absurd y hK.2
    · rw [qa_uzn e]
      exact c v h1 h2
theorem qg_set (hN : qi_n W C w m) (hW : qi_w w K L R oa ob F) (hX : qi_x w K x st) (hC : qi_c w m F M ca cb cw) (hQ : qi_q cp w m M x pt B P) {j : Nat} (b : Int32) (hj : j < w) (hK : K j = 1 ∨ K j = 3) {PY : (Int32 → SY → Prop) → Prop} (hY : ∀ post, wY_setWitness_36 post (nI j) b (nI W) (nI C) (nI w) (nI m) cp hq (fun zi => nI (K zi)) oa ob st ca cb cw (fun zi => qa_fe (pt zi)) hh rr col bas pm pp zz rm → PY post) : wX_setWitness_30 (fun r u' => PY (fun r' v' => r' = r ∧ i_Rel k u' v')) (nI j) b (nI W) (nI C) (nI w) (nI m) cp hq (fun zi => nI (K zi)) L R (fun zi => qa_fe (x zi)) (fun zi => qa_fe (F zi)) (fun zi => qa_fe (M zi)) (fun zi => qa_fe (pt zi)) (fun zi => qa_fe (B zi)) (fun zi => qa_fe (P zi)) := by
  obtain ⟨n1, n2, n3, n4, n5, n6, n7⟩ := id hN
  have j0 : 0 < j := by
    rcases Nat.eq_zero_or_pos j with z | z
    · subst z
      have := hW.2.2
      omega
    · exact z
  unfold wX_setWitness_30
  rw [qx_red]
  refine ⟨vp_in_nI (by omega) (by omega), ?_⟩
  rw [nI_clamp (by omega)]
  refine nm_r (qa_upd _ _ _) (qx_wc (by omega) (by omega) hQ fun P' hQ' => hY _ ?_)
  unfold wY_setWitness_36
  rw [qy_i]
  refine ⟨vp_in_nI (by omega) (by omega), ?_⟩
  rw [nI_clamp (by omega)]
  exact nm_e ⟨rfl, qi_mk hN hW (qe_set hX j0 hj b.toInt (by omega)) hC hQ' (Or.inl rfl)⟩
end QM
theorem i_vc_setWitness {k : Nat} {u : SX} {v : SY} (I : i_Rel k u v) (hk : k + 4 ≤ 2050) (v1 : Int32) (v2 : Int32) : wpX_setWitness (fun r u' => wpY_setWitness (fun r' v' => r' = r ∧ i_Rel (k + 4) u' v') v v1 v2) u v1 v2 := by
  obtain ⟨W, C, w, m, cp, hq, K, L, R, x, F, M, pt, B, P, oa, ob, st, ca, cb, cw, hh, rr, col, bas, pm, pp, zz, rm, rfl, rfl, hN, hW, hX, hC, hQ, hH⟩ := I
  have same : i_Rel (k + 4) ((nI W), (nI C), (nI w), (nI m), cp, hq, (fun zi => nI (K zi)), L, R, (fun zi => qa_fe (x zi)), (fun zi => qa_fe (F zi)), (fun zi => qa_fe (M zi)), (fun zi => qa_fe (pt zi)), (fun zi => qa_fe (B zi)), (fun zi => qa_fe (P zi))) ((nI W), (nI C), (nI w), (nI m), cp, hq, (fun zi => nI (K zi)), oa, ob, st, ca, cb, cw, (fun zi => qa_fe (pt zi)), hh, rr, col, bas, pm, pp, zz, rm) := qi_mk hN hW hX hC hQ hH
  obtain ⟨n1, n2, n3, n4, n5, n6, n7⟩ := id hN
  unfold wpX_setWitness
  rcases pk_ix v1 (n := w) (by omega) with z | z | ⟨j, hj, rfl⟩
  · exact qx_nw (by omega) (Or.inl z) (br_t rfl (br_t z ⟨rfl, same⟩))
  · exact qx_nw (by omega) (Or.inr z) (br_t rfl (br_f (qm_ge (by omega) z).1 (br_f (qm_ge (by omega) z).2 ⟨rfl, same⟩)))
  · refine qx_iw (by omega) hj (br_f (by decide) ?_)
    have a1 : ¬ nI j < 0 := nI_pos (by omega)
    have a2 : nI j < nI w := nI_lt hj (by omega)
    have vi : vp_in (nI j) 32 := vp_in_nI (by omega) (by omega)
    have cl : (nI j).toNatClampNeg = j := nI_clamp (by omega)
    have yy : ∀ post : Int32 → SY → Prop, ((nI (K j) = 1 → wY_setWitness_36 post (nI j) v2 (nI W) (nI C) (nI w) (nI m) cp hq (fun zi => nI (K zi)) oa ob st ca cb cw (fun zi => qa_fe (pt zi)) hh rr col bas pm pp zz rm) ∧ (¬ nI (K j) = 1 → (vp_in (nI j) 32 ∧ ((nI (K j) = 3 → wY_setWitness_36 post (nI j) v2 (nI W) (nI C) (nI w) (nI m) cp hq (fun zi => nI (K zi)) oa ob st ca cb cw (fun zi => qa_fe (pt zi)) hh rr col bas pm pp zz rm) ∧ (¬ nI (K j) = 3 → post 0 ((nI W), (nI C), (nI w), (nI m), cp, hq, (fun zi => nI (K zi)), oa, ob, st, ca, cb, cw, (fun zi => qa_fe (pt zi)), hh, rr, col, bas, pm, pp, zz, rm)))))) → wpY_setWitness post ((nI W), (nI C), (nI w), (nI m), cp, hq, (fun zi => nI (K zi)), oa, ob, st, ca, cb, cw, (fun zi => qa_fe (pt zi)), hh, rr, col, bas, pm, pp, zz, rm) (nI j) v2 := by
      intro post h
      refine br_f a1 (br_t a2 ⟨vi, ?_⟩)
      rw [cl]
      exact h
    rw [cl]
    have k5 := qi_var hW hj
    by_cases k1 : K j = 1
    · have e1 : nI (K j) = 1 := by rw [k1]; rfl
      refine ⟨vi, br_t e1 ?_⟩
      exact qg_set hN hW hX hC hQ v2 hj (Or.inl k1) (PY := fun post => wpY_setWitness post ((nI W), (nI C), (nI w), (nI m), cp, hq, (fun zi => nI (K zi)), oa, ob, st, ca, cb, cw, (fun zi => qa_fe (pt zi)), hh, rr, col, bas, pm, pp, zz, rm) (nI j) v2) fun post h => yy _ (br_t e1 h)
    · have e1 : ¬ nI (K j) = 1 := by rw [show (1 : Int32) = nI 1 by decide, nI_eq (by omega) (by omega)]; exact k1
      by_cases k3 : K j = 3
      · have e3 : nI (K j) = 3 := by rw [k3]; rfl
        refine ⟨vi, br_f e1 ⟨vi, br_t e3 ?_⟩⟩
        exact qg_set hN hW hX hC hQ v2 hj (Or.inr k3) (PY := fun post => wpY_setWitness post ((nI W), (nI C), (nI w), (nI m), cp, hq, (fun zi => nI (K zi)), oa, ob, st, ca, cb, cw, (fun zi => qa_fe (pt zi)), hh, rr, col, bas, pm, pp, zz, rm) (nI j) v2) fun post h => yy _ (br_f e1 ⟨vi, br_t e3 h⟩)
      · have e3 : ¬ nI (K j) = 3 := by rw [show (3 : Int32) = nI 3 by decide, nI_eq (by omega) (by omega)]; exact k3
        exact ⟨vi, br_f e1 ⟨vi, br_f e3 (yy _ (br_f e1 ⟨vi, br_f e3 ⟨rfl, same⟩⟩))⟩⟩
