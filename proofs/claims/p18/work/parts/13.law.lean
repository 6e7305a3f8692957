def qc_pt (k : Nat) : Nat → Int := fun i => if i < k then (i : Int) + 1 else 0
theorem qc_pt_s (k : Nat) (hk : k < 16) : upd (fun zi => qa_fe (qc_pt k zi)) k (nI k + 1) = fun zi => qa_fe (qc_pt (k + 1) zi) := by
  rw [nI_1, qa_nI (by omega), qa_upd]
  funext zi
  congr 1
  unfold qa_uz qc_pt
  by_cases h : zi = k
  · subst h
    rw [if_pos rfl, if_pos (by omega)]
    rfl
  · rw [if_neg h]
    by_cases h2 : zi < k
    · rw [if_pos h2, if_pos (by omega)]
    · rw [if_neg h2, if_neg (by omega)]
theorem qc_x105 {post : St2 → Prop} {mc ms kc ks : Nat} (h : post (nI 16, nI 8, nI 1, nI 0, 0, 0, (fun zi => nI ((fun _ => 0) zi)), (fun _ => 0), (fun _ => 0), (fun zi => qa_fe (qa_uz (fun _ => 0) 0 1 zi)), (fun zi => qa_fe (qa_uz (fun _ => 0) 0 1 zi)), (fun zi => qa_fe ((fun _ => 0) zi)), (fun zi => qa_fe (qc_pt 16 zi)), (fun zi => qa_fe ((fun _ => 0) zi)), (fun zi => qa_fe ((fun _ => 0) zi)))) : ∀ n k, k ≤ 16 → 16 - k < n → wX_init_105 post mc ms kc ks (nI 16) (nI 8) 0 0 0 0 n (nI k) (fun _ => 0) (fun _ => 0) (fun _ => 0) (fun _ => 0) (fun _ => 0) (fun _ => 0) (fun zi => qa_fe (qc_pt k zi)) (fun _ => 0) (fun _ => 0) := by
  intro n
  induction n with
  | zero => intros; omega
  | succ n ih =>
    intro k hk hn
    by_cases h1 : k < 16
    · refine br_f (by rw [qn_16]; exact nI_ge h1 (by omega)) ⟨vp_in_nI h1 (by omega), ?_⟩
      rw [nI_clamp (by omega)]
      exact nm_r (qc_pt_s k h1) (nm_r (nI_1 k) (ih (k + 1) (by omega) (by omega)))
    · obtain rfl : k = 16 := by omega
      refine br_t (by decide) ?_
      refine qx_mv (w := 0) (m := 0) (K := fun _ => 0) (x := fun _ => 0) (F := fun _ => 0) (M := fun _ => 0) (pt := qc_pt 16) (B := fun _ => 0) (P := fun _ => 0) (by omega) 0 ?_
      have e1 : (fun zi => nI (qa_un (fun _ => 0) 0 0 zi)) = (fun zi => nI ((fun _ => 0) zi)) := by
        funext zi
        congr 1
        unfold qa_un
        split <;> rfl
      refine nm_r (e' := fun zi => qa_fe (qa_uz (fun _ => 0) 0 1 zi)) ?_ ?_
      · rw [qa_1]
        exact qa_upd (fun _ => 0) 0 1
      · rw [e1]
        exact h
theorem qc_pt0 : (fun zi => qa_fe (qc_pt 0 zi)) = (fun _ => 0) := by
  funext zi
  unfold qc_pt
  rw [if_neg (by omega), ← qa_0]
theorem qc_rel : qj_I (nI 16, nI 8, nI 1, nI 0, 0, 0, (fun zi => nI ((fun _ => 0) zi)), (fun _ => 0), (fun _ => 0), (fun zi => qa_fe (qa_uz (fun _ => 0) 0 1 zi)), (fun zi => qa_fe (qa_uz (fun _ => 0) 0 1 zi)), (fun zi => qa_fe ((fun _ => 0) zi)), (fun zi => qa_fe (qc_pt 16 zi)), (fun zi => qa_fe ((fun _ => 0) zi)), (fun zi => qa_fe ((fun _ => 0) zi))) := by
  refine qj_mk (w := 1) (m := 0) (K := fun _ => 0) (x := qa_uz (fun _ => 0) 0 1) (F := qa_uz (fun _ => 0) 0 1) (M := fun _ => 0) (pt := qc_pt 16) (B := fun _ => 0) (P := fun _ => 0) ⟨by omega, by omega, by omega, ⟨fun i hi => (by decide : (0 : Nat) < 5), fun i hi e => absurd (show (0 : Nat) = 3 from e) (by decide)⟩, fun i j hi hj hne h => ?_, Or.inl ⟨rfl, fun _ _ => rfl⟩, Or.inl rfl⟩
  have := qa_feq.mp h
  unfold qc_pt at this
  rw [if_pos (by omega), if_pos (by omega)] at this
  omega
theorem qc_init {post : St2 → Prop} (h : ∀ u, qj_I u → post u) : wpX_init post 9 3184 (0, 0, 0, 0, 0, 0) 16 8 := by
  have hx := qc_x105 (post := post) (mc := 9) (ms := 3184) (kc := 9) (ks := 3184) (h _ qc_rel) 17 0 (by omega) (by omega)
  rw [qc_pt0] at hx
  unfold wpX_init
  refine ⟨by decide, by decide, by decide, by decide, by decide, by decide, by decide, by decide, by decide, by decide, by decide, by decide, by decide, by decide, by decide, by decide, by decide, by decide, ?_⟩
  exact br_t (by decide) (br_t (by decide) (br_t (by decide) (br_t (by decide) ⟨17, hx⟩)))
theorem ql_cell {post : Int32 → Prop} {N0 j : Nat} {xs : Nat → Int32} (hN : N0 ≤ 260) (hj : j < 1000) (h : ∀ r, post r) : wpL_cell post N0 xs () (nI j) := by
  refine br_c (fun _ => h _) (fun z => ⟨?_, h _⟩)
  have z2 : ¬ nI N0 ≤ nI j := z
  rw [nI_leI (by omega) (by omega)] at z2
  exact vp_in_nI (by omega) (by omega)
theorem ql_nn {post : Int32 → Prop} (r : Int32) (h : ∀ q, q < 2 ^ 31 → post (nI q)) : wpL_nn post () r := by
  obtain ⟨q, hq, e⟩ := pk_andE r (m := 2147483647) 31 (by decide)
  unfold wpL_nn
  rw [e]
  exact h q hq
section QL
variable {w m N0 : Nat} {xs : Nat → Int32} {cp hq : Int32} {K : Nat → Nat} {L R : Nat → Int32} {x F M pt B P : Nat → Int} {post : Int32 → Prop} {kc ks : Nat}
theorem ql_425 {J : Int32 → Int32 → Int32 → Int32 → Int32 → Int32 → Int32 → Int32 → (Nat → Int32) → (Nat → Int32) → (Nat → Int32) → (Nat → Int32) → (Nat → Int32) → (Nat → Int32) → (Nat → Int32) → (Nat → Int32) → (Nat → Int32) → Prop} (hN : N0 ≤ 260) {j : Nat} (hj : j < 1000) (x4 : Int32) (t : Nat) (hp : qj_p w m cp hq K L R x M pt B P) (h : J (nI (j + 1)) (nI (t + 1)) (nI 16) (nI 8) (nI w) (nI m) cp hq (fun zi => nI (K zi)) L R (fun zi => qa_fe (x zi)) (fun zi => qa_fe (F zi)) (fun zi => qa_fe (M zi)) (fun zi => qa_fe (pt zi)) (fun zi => qa_fe (B zi)) (fun zi => qa_fe (P zi))) : wL_law_425 post N0 xs J (nI j) x4 (nI t) kc ks (nI 16) (nI 8) (nI w) (nI m) cp hq (fun zi => nI (K zi)) L R (fun zi => qa_fe (x zi)) (fun zi => qa_fe (F zi)) (fun zi => qa_fe (M zi)) (fun zi => qa_fe (pt zi)) (fun zi => qa_fe (B zi)) (fun zi => qa_fe (P zi)) := by
  unfold wL_law_425
  refine nm_r (nI_1 j) (ql_cell hN hj fun r => ?_)
  exact qk_check (qj_mk hp) r (br_f (by decide) (nm_r (nI_1 t) h))
theorem ql_291 (hN : N0 ≤ 260) (h1 : post 1) {nw : Nat} (hw : nw ≤ 27) : ∀ n j t (w m : Nat) (cp hq : Int32) (K : Nat → Nat) (L R : Nat → Int32) (x F M pt B P : Nat → Int), t ≤ nw → nw - t < n → j + 4 * (nw - t) ≤ 500 → qj_p w m cp hq K L R x M pt B P → wL_law_291 post N0 xs (nI nw) kc ks n (nI j) (nI t) (nI 16) (nI 8) (nI w) (nI m) cp hq (fun zi => nI (K zi)) L R (fun zi => qa_fe (x zi)) (fun zi => qa_fe (F zi)) (fun zi => qa_fe (M zi)) (fun zi => qa_fe (pt zi)) (fun zi => qa_fe (B zi)) (fun zi => qa_fe (P zi)) := by
  intro n
  induction n with
  | zero => intros; omega
  | succ n ih =>
    intro j t w m cp hq K L R x F M pt B P ht hn hj hp
    have hw1 : 1 ≤ w := hp.1
    have hw2 : w ≤ 16 := hp.2.1
    by_cases z : t < nw
    · refine br_f (nI_ge z (by omega)) (nm_r (nI_1 j) (ql_cell hN (by omega) fun r1 => ql_nn r1 fun q1 hq1 => ⟨by decide, fun x6 _ => ?_⟩))
      refine qj_i0 0 (nm_r (nI_1 (j + 1)) (ql_cell hN (by omega) fun r2 => ql_nn r2 fun q2 hq2 => ⟨nI_ne0 (by omega) (by omega), fun x8 _ => ?_⟩))
      refine br_c (fun _ => ?_) (fun _ => br_c (fun _ => ?_) (fun _ => br_c (fun _ => ?_) (fun _ => br_c (fun _ => ?_) (fun _ => br_c (fun _ => ?_) (fun _ => ?_)))))
      · refine nm_r (nI_1 (j + 2)) (ql_cell hN (by omega) fun r3 => ?_)
        refine qj_setWitness (qj_mk hp) _ _ fun r u' J => ?_
        obtain ⟨w, m, cp, hq, K, L, R, x, F, M, pt, B, P, rfl, J⟩ := J
        exact ql_425 hN (by omega) _ t J (ih _ _ _ _ _ _ _ _ _ _ _ _ _ _ _ (by omega) (by omega) (by omega) J)
      · refine nm_r (nI_1 (j + 2)) (ql_cell hN (by omega) fun r3 => ql_nn r3 fun q3 hq3 => ⟨by decide, ?_⟩)
        refine qj_setWitness (qj_mk hp) _ _ fun r u' J => ?_
        obtain ⟨w, m, cp, hq, K, L, R, x, F, M, pt, B, P, rfl, J⟩ := J
        exact ql_425 hN (by omega) _ t J (ih _ _ _ _ _ _ _ _ _ _ _ _ _ _ _ (by omega) (by omega) (by omega) J)
      · refine qj_solve (qj_mk hp) fun r u' J => ?_
        obtain ⟨w, m, cp, hq, K, L, R, x, F, M, pt, B, P, rfl, J⟩ := J
        exact ql_425 hN (by omega) _ t J (ih _ _ _ _ _ _ _ _ _ _ _ _ _ _ _ (by omega) (by omega) (by omega) J)
      · unfold wL_law_416
        refine qj_divideOk (qj_mk hp) fun u' J => ?_
        obtain ⟨w, m, cp, hq, K, L, R, x, F, M, pt, B, P, rfl, J⟩ := J
        exact br_f (by decide) (ql_425 hN (by omega) _ t J (ih _ _ _ _ _ _ _ _ _ _ _ _ _ _ _ (by omega) (by omega) (by omega) J))
      · unfold wL_law_416
        refine qj_divideOk (qj_mk hp) fun u' J => ?_
        obtain ⟨w, m, cp, hq, K, L, R, x, F, M, pt, B, P, rfl, J⟩ := J
        exact br_f (by decide) (ql_425 hN (by omega) _ t J (ih _ _ _ _ _ _ _ _ _ _ _ _ _ _ _ (by omega) (by omega) (by omega) J))
      · exact ql_425 hN (by omega) _ t hp (ih _ _ _ _ _ _ _ _ _ _ _ _ _ _ _ (by omega) (by omega) (by omega) hp)
    · obtain rfl : t = nw := by omega
      refine br_t (nI_le (Nat.le_refl _) (by omega)) (qj_solve (qj_mk hp) fun r u' J => ?_)
      obtain ⟨w, m, cp, hq, K, L, R, x, F, M, pt, B, P, rfl, J⟩ := J
      refine qj_divideOk (qj_mk J) fun u' J => ?_
      obtain ⟨w, m, cp, hq, K, L, R, x, F, M, pt, B, P, rfl, J⟩ := J
      exact br_f (by decide) (nm_r (nI_1 j) (ql_cell hN (by omega) fun r => qk_check (qj_mk J) r h1))
theorem ql_265 (hN : N0 ≤ 260) (h1 : post 1) {j : Nat} (hj : j ≤ 200) (hp : qj_p w m cp hq K L R x M pt B P) : wL_law_265 post N0 xs (nI j) kc ks (nI 16) (nI 8) (nI w) (nI m) cp hq (fun zi => nI (K zi)) L R (fun zi => qa_fe (x zi)) (fun zi => qa_fe (F zi)) (fun zi => qa_fe (M zi)) (fun zi => qa_fe (pt zi)) (fun zi => qa_fe (B zi)) (fun zi => qa_fe (P zi)) := by
  unfold wL_law_265
  refine qj_compile (qj_mk hp) fun r u' J => ?_
  obtain ⟨w, m, cp, hq, K, L, R, x, F, M, pt, B, P, rfl, J⟩ := J
  refine nm_r (nI_1 j) (ql_cell hN (by omega) fun r => ql_nn r fun q hq => ⟨by decide, ?_⟩)
  have e : (4 : Int32) + (nI q - nI q / 24 * 24) = nI (4 + q % 24) := by
    have := pk_rem (a := q) (d := 24) hq (by omega) (by omega)
    rw [show (24 : Int32) = nI 24 by decide, this]
    exact nI_add 4 (q % 24)
  have hl : 4 + q % 24 ≤ 27 := by omega
  exact nm_r e ⟨4 + q % 24 + 1, ql_291 hN h1 hl _ _ 0 _ _ _ _ _ _ _ _ _ _ _ _ _ (by omega) (by omega) (by omega) J⟩
theorem ql_44 (hN : N0 ≤ 260) (h1 : post 1) {nb : Nat} (hb : nb ≤ 12) : ∀ n j t (w m : Nat) (cp hq : Int32) (K : Nat → Nat) (L R : Nat → Int32) (x F M pt B P : Nat → Int), t ≤ nb → nb - t < n → j + 4 * (nb - t) ≤ 100 → qj_p w m cp hq K L R x M pt B P → wL_law_44 post N0 xs (nI nb) kc ks n (nI j) (nI t) (nI 16) (nI 8) (nI w) (nI m) cp hq (fun zi => nI (K zi)) L R (fun zi => qa_fe (x zi)) (fun zi => qa_fe (F zi)) (fun zi => qa_fe (M zi)) (fun zi => qa_fe (pt zi)) (fun zi => qa_fe (B zi)) (fun zi => qa_fe (P zi)) := by
  intro n
  induction n with
  | zero => intros; omega
  | succ n ih =>
    intro j t w m cp hq K L R x F M pt B P ht hn hj hp
    have hw1 : 1 ≤ w := hp.1
    have hw2 : w ≤ 16 := hp.2.1
    by_cases z : t < nb
    · refine br_f (nI_ge z (by omega)) (nm_r (nI_1 j) (ql_cell hN (by omega) fun r1 => ql_nn r1 fun q1 hq1 => ⟨by decide, fun x5 _ => ?_⟩))
      refine qj_i0 0 (nm_r (nI_1 (j + 1)) (ql_cell hN (by omega) fun r2 => ql_nn r2 fun q2 hq2 => ⟨nI_ne0 (by omega) (by omega), fun x7 _ => ?_⟩))
      refine nm_r (nI_1 (j + 2)) (ql_cell hN (by omega) fun r3 => ql_nn r3 fun q3 hq3 => ⟨nI_ne0 (by omega) (by omega), fun x8 _ => ?_⟩)
      refine br_c (fun _ => ?_) (fun _ => br_c (fun _ => ?_) (fun _ => br_c (fun _ => ?_) (fun _ => br_c (fun _ => ?_) (fun _ => br_c (fun _ => ?_) (fun _ => br_c (fun _ => ?_) (fun _ => ⟨by decide, ?_⟩))))))
      · refine qj_addInput (qj_mk hp) fun r u' J => ?_
        obtain ⟨w, m, cp, hq, K, L, R, x, F, M, pt, B, P, rfl, J⟩ := J
        exact nm_r (nI_1 t) (ih _ _ _ _ _ _ _ _ _ _ _ _ _ _ _ (by omega) (by omega) (by omega) J)
      · refine qj_addGate (qj_mk hp) _ _ _ fun r u' J => ?_
        obtain ⟨w, m, cp, hq, K, L, R, x, F, M, pt, B, P, rfl, J⟩ := J
        exact nm_r (nI_1 t) (ih _ _ _ _ _ _ _ _ _ _ _ _ _ _ _ (by omega) (by omega) (by omega) J)
      · unfold wL_law_150
        refine qj_addGate (qj_mk hp) _ _ _ fun r u' J => ?_
        obtain ⟨w, m, cp, hq, K, L, R, x, F, M, pt, B, P, rfl, J⟩ := J
        exact nm_r (nI_1 t) (ih _ _ _ _ _ _ _ _ _ _ _ _ _ _ _ (by omega) (by omega) (by omega) J)
      · unfold wL_law_150
        refine qj_addGate (qj_mk hp) _ _ _ fun r u' J => ?_
        obtain ⟨w, m, cp, hq, K, L, R, x, F, M, pt, B, P, rfl, J⟩ := J
        exact nm_r (nI_1 t) (ih _ _ _ _ _ _ _ _ _ _ _ _ _ _ _ (by omega) (by omega) (by omega) J)
      · refine nm_r (nI_1 (j + 3)) (ql_cell hN (by omega) fun r4 => ?_)
        refine qj_addGate (qj_mk hp) _ _ _ fun r u' J => ?_
        obtain ⟨w, m, cp, hq, K, L, R, x, F, M, pt, B, P, rfl, J⟩ := J
        exact nm_r (nI_1 t) (ih _ _ _ _ _ _ _ _ _ _ _ _ _ _ _ (by omega) (by omega) (by omega) J)
      · refine nm_r (nI_1 (j + 3)) (ql_cell hN (by omega) fun r4 => br_c (fun _ => ?_) (fun _ => ?_))
        · unfold wL_law_217
          refine qj_assertEqual (qj_mk hp) _ _ fun r u' J => ?_
          obtain ⟨w, m, cp, hq, K, L, R, x, F, M, pt, B, P, rfl, J⟩ := J
          exact nm_r (nI_1 t) (ih _ _ _ _ _ _ _ _ _ _ _ _ _ _ _ (by omega) (by omega) (by omega) J)
        · unfold wL_law_217
          refine qj_assertEqual (qj_mk hp) _ _ fun r u' J => ?_
          obtain ⟨w, m, cp, hq, K, L, R, x, F, M, pt, B, P, rfl, J⟩ := J
          exact nm_r (nI_1 t) (ih _ _ _ _ _ _ _ _ _ _ _ _ _ _ _ (by omega) (by omega) (by omega) J)
      · refine nm_r (nI_1 (j + 3)) (ql_cell hN (by omega) fun r4 => ?_)
        refine qj_setPoint (qj_mk hp) _ _ fun r u' J => ?_
        obtain ⟨w, m, cp, hq, K, L, R, x, F, M, pt, B, P, rfl, J⟩ := J
        exact nm_r (nI_1 t) (ih _ _ _ _ _ _ _ _ _ _ _ _ _ _ _ (by omega) (by omega) (by omega) J)
    · obtain rfl : t = nb := by omega
      refine br_t (nI_le (Nat.le_refl _) (by omega)) (qj_i1 0 (br_c (fun _ => ?_) (fun _ => ?_)))
      · refine qj_addGate (qj_mk hp) _ _ _ fun r u' J => ?_
        obtain ⟨w, m, cp, hq, K, L, R, x, F, M, pt, B, P, rfl, J⟩ := J
        exact ql_265 hN h1 (by omega) J
      · exact ql_265 hN h1 (by omega) hp
end QL
theorem i_vc (xs : Nat → Int32) (L : Nat) (hL : L ≤ 260) : wpL_law (fun r => r = 1) L xs := by
  refine ⟨9, 3184, by omega, by omega, ?_⟩
  refine qc_init fun u J => ?_
  obtain ⟨w, m, cp, hq, K, L0, R, x, F, M, pt, B, P, rfl, J⟩ := J
  refine qj_addInput (qj_mk J) fun r u' J => ?_
  obtain ⟨w, m, cp, hq, K, L1, R, x, F, M, pt, B, P, rfl, J⟩ := J
  refine qj_addInput (qj_mk J) fun r u' J => ?_
  obtain ⟨w, m, cp, hq, K, L2, R, x, F, M, pt, B, P, rfl, J⟩ := J
  refine nm_r (nI_1 0) (ql_cell (j := 0) hL (by omega) fun r => ql_nn r fun q hq => ⟨by decide, ?_⟩)
  have e : (1 : Int32) + (nI q - nI q / 12 * 12) = nI (1 + q % 12) := by
    have := pk_rem (a := q) (d := 12) hq (by omega) (by omega)
    rw [show (12 : Int32) = nI 12 by decide, this]
    exact nI_add 1 (q % 12)
  have hl : 1 + q % 12 ≤ 12 := by omega
  exact nm_r e ⟨1 + q % 12 + 1, ql_44 (post := fun r => r = 1) hL rfl hl (1 + q % 12 + 1) (0 + 1) 0 _ _ _ _ _ _ _ _ _ _ _ _ _ (by omega) (by omega) (by omega) J⟩
