/-! THE TEXT: hold and back. -/
def mHold (M : Mt) (v : Nat) : Mt := ((qH M, qD M, v, qB M, qL M), M.2)
def mBack (M : Mt) (v : Nat) : Mt := ((qH M, qD M, qO M, v, qL M), M.2)
section HOLD
variable {N : Nat} {S : St} {len x : Nat} {M : Mt}
theorem num_nz {m : Mm} {l u : Int32} (h : f_Reader_isNumber N S l u m = some 1) : ¬ mI m 2 3 = 0 := fun w => by
  unfold f_Reader_isNumber at h
  rw [w, if_neg (show ¬ (0 : Int32) = 2 by decide)] at h
  exact absurd (Option.some.inj h) (by decide)
/-- a semicolon ends it -/
theorem close_sim (hx : x = 3 ∨ x = 10) (hN : 1000 ≤ N) {pos pos1 : Nat} {m mr m0 mr0 : Mm} (hp : pos < pos1) (hR : RS len pos1 m mr) (hD : DR x M m mr) (f1 : FrX x m0 m) (f2 : FP mr0 mr) : LineTo x len pos m0 mr0 (if mI m 2 3 = 4 then b3 (f_Reader_step N S m) fun m3 => some (1, m3) else some (0, m)) (f_Mo_closes N mr) := by
  unfold f_Mo_closes
  rw [(sign_of (N := N) hR.2.1).1, b1_s]
  by_cases q4 : mI m 2 3 = 4
  · rw [if_pos q4, decide_eq_true q4, if_neg tft]
    obtain ⟨p5, m5, mr5, v1, v2, v3, v4, v5, v6, v7⟩ := t_step (N := N) (S := S) hN hR.1
    rw [v1, v2, b3_s, b3_s]
    exact Or.inr ⟨p5, M, m5, mr5, rfl, rfl, v3, by omega, DR_s hx v6 v7 hD, f1.trans v6.fc, f2.trans v7.fp⟩
  · rw [if_neg q4, decide_eq_false q4, if_pos tf_f]
    exact Or.inl ⟨m, mr, rfl, rfl, hR.2.2, f1, f2⟩
theorem LineTo_ck {pos : Nat} {m mr : Mm} {a b : Option (Int32 × Mm)} (h : LineTo x len pos m mr a b) : LineTo x len pos m mr (b2 a fun r5 m5 => ck (r5 = 0 ∨ r5 = 1) (some (r5, m5))) (b2 b fun r5 m5 => ck (r5 = 0 ∨ r5 = 1) (some (r5, m5))) := by
  rcases h with ⟨m', mr', i1, i2, i3, i4, i5⟩ | ⟨pos', M', m', mr', i1, i2, i3, i4, i5, i6, i7⟩
  · rw [i1, i2, b2_s, b2_s, ck_t (Or.inl rfl), ck_t (Or.inl rfl)]
    exact Or.inl ⟨m', mr', rfl, rfl, i3, i4, i5⟩
  · rw [i1, i2, b2_s, b2_s, ck_t (Or.inr rfl), ck_t (Or.inr rfl)]
    exact Or.inr ⟨pos', M', m', mr', rfl, rfl, i3, i4, i5, i6, i7⟩
theorem pass_sim (hx : x = 3 ∨ x = 10) (hN : 1000 ≤ N) {pos pos1 : Nat} {m mr m0 mr0 : Mm} (hp : pos < pos1) (hT : TP len pos1 m mr) (hD : DR x M m mr) (f1 : FrX x m0 m) (f2 : FP mr0 mr) : LineTo x len pos m0 mr0 (f_Reader_passSemicolon N S m) (b3 (f_Mo_next N mr) fun m1 => f_Mo_closes N m1) := by
  unfold f_Reader_passSemicolon
  obtain ⟨p5, m5, mr5, v1, v2, v3, v4, v5, v6, v7⟩ := t_step (N := N) (S := S) hN hT
  rw [v1, v2, b3_s, b3_s]
  exact close_sim hx hN (by omega) v3 (DR_s hx v6 v7 hD) (f1.trans v6.fc) (f2.trans v7.fp)
theorem b2_b3 {α : Type} {o : Option Mm} {f : Mm → Option (Int32 × Mm)} {g : Int32 → Mm → Option α} : b2 (b3 o f) g = b3 o fun m => b2 (f m) g := by cases o <;> rfl
theorem hold_sim (hx : x = 3 ∨ x = 10) (hN : 1000 ≤ N) {pos : Nat} {m mr : Mm} (hR : RS len pos m mr) (hD : DR x M m mr) : LineTo x len pos m mr (f_Reader_readHold N S x m) (if mI mr 0 13 = -1 then b3 (f_Mo_next N mr) fun m13 => b1 (f_Mo_isNumber N 0 2 m13) fun r15 => (if r15 = 0 then some (0, m13) else b3 (f_Mo_next N (vI m13 0 13 (((mJ m13 0 5)).toInt32))) fun m21 => b2 (f_Mo_closes N m21) fun r22 m22 => ck (r22 = 0 ∨ r22 = 1) (some (r22, m22))) else some (0, mr)) := by
  have hO := hD.1.2.1.2.2.1
  unfold f_Reader_readHold
  rcases hD.2.2.2.2.2.2.1 with ⟨h1, h2, h3⟩ | ⟨h1, h2⟩
  · rw [if_pos h1, if_pos h2]
    obtain ⟨p1, m1, mr1, s1, s2, s3, s4, s5, s6, s7⟩ := t_step (N := N) (S := S) hN hR.1
    rw [s1, s2, b3_s, b3_s]
    have hD1 := DR_s hx s6 s7 hD
    have hnum : (f_Reader_isNumber N S 0 2 m1 = some 0 ∧ f_Mo_isNumber N 0 2 mr1 = some 0) ∨ ∃ v, 0 ≤ v ∧ v ≤ 2 ∧ f_Reader_isNumber N S 0 2 m1 = some 1 ∧ f_Mo_isNumber N 0 2 mr1 = some 1 ∧ mI m1 2 5 = nI v ∧ mJ mr1 0 5 = lN v := num_of (N := N) (S := S) (l := 0) (u := 2) s3.2.1 (by omega) (by omega)
    rcases hnum with ⟨n1, n2⟩ | ⟨v, _, v2, n1, n2, n3, n4⟩
    · rw [n1, n2, b1_s, b1_s, if_pos rfl, if_pos rfl]
      exact Or.inl ⟨m1, mr1, rfl, rfl, s3.2.2, s6.fc, s7.fp⟩
    · rw [n1, n2, b1_s, b1_s, if_neg (show ¬ (1 : Int32) = 0 by decide), if_neg (show ¬ (1 : Int32) = 0 by decide), n3, n4, lN_i]
      have hp : pos < p1 := s5 (num_nz n1)
      have hD2 : DR x (mHold M v) (vI (vI m1 x 2 (nI v)) x 4 1) (vI mr1 0 13 (nI v)) := by
        obtain ⟨⟨⟨c1, c2, c3, c4, c5, c6, c7, c8⟩, ok, r1, r2⟩, a2, a3, a4, a5, a6, a7, a8⟩ := hD1
        refine ⟨⟨⟨?_, ?_, ?_, ?_, ?_, c6, c7, c8⟩, ⟨ok.1, ok.2.1, v2, ok.2.2.2.1, ok.2.2.2.2.1, ok.2.2.2.2.2.1, ok.2.2.2.2.2.2.1, ok.2.2.2.2.2.2.2⟩, ?_, ?_⟩, a2, a3, a4, a5, a6, Or.inr ⟨mI_s, mI_s⟩, ?_⟩
        · rw [mI_n (by omega), mI_n (by omega)]; exact c1
        · rw [mI_n (by omega), mI_n (by omega)]; exact c2
        · rw [mI_n (by omega), mI_s]; rfl
        · rw [mI_n (by omega), mI_n (by omega)]; exact c4
        · rw [mI_n (by omega), mI_n (by omega)]; exact c5
        · rw [mI_n (by omega)]; exact r1
        · rw [mI_n (by omega)]; exact r2
        · rw [mI_n (by omega), mI_n (by omega), mI_n (by omega)]; exact a8
      have hT2 : TP len p1 (vI (vI m1 x 2 (nI v)) x 4 1) (vI mr1 0 13 (nI v)) := TP_r (fun k hk => mI_n (by omega)) (fun i => rfl) (TP_l (m := m1) (fun k hk => by rw [mI_n (by omega), mI_n (by omega)]) (fun i => rfl) s3.1)
      have := LineTo_ck (pass_sim (S := S) hx hN hp hT2 hD2 (s6.fc.trans ((FC_i (Or.inr rfl)).trans (FC_i (Or.inr rfl)))) (s7.fp.trans (FP_i (by omega))))
      rw [b2_b3] at this
      exact this
  · rw [if_neg (by rw [h1]; decide), if_neg (by rw [h2]; exact nI_m1 (by omega))]
    exact Or.inl ⟨m, mr, rfl, rfl, hR.2.2, FrX.refl, FP.refl⟩
theorem back_sim (hx : x = 3 ∨ x = 10) (hN : 1000 ≤ N) {pos : Nat} {m mr : Mm} (hR : RS len pos m mr) (hD : DR x M m mr) : LineTo x len pos m mr (f_Reader_readBack N S x m) (if mI mr 0 14 = -1 then b3 (f_Mo_next N mr) fun m13 => b1 (f_Mo_isNumber N 0 1 m13) fun r15 => (if r15 = 0 then some (0, m13) else b3 (f_Mo_next N (vI m13 0 14 (((mJ m13 0 5)).toInt32))) fun m18 => b2 (f_Mo_closes N m18) fun r19 m19 => ck (r19 = 0 ∨ r19 = 1) (some (r19, m19))) else some (0, mr)) := by
  have hO := hD.1.2.1.2.2.2.1
  unfold f_Reader_readBack
  rcases hD.2.2.2.2.2.2.2 with ⟨h1, h2, h3⟩ | ⟨h1, h2⟩
  · rw [if_pos h1, if_pos h2]
    obtain ⟨p1, m1, mr1, s1, s2, s3, s4, s5, s6, s7⟩ := t_step (N := N) (S := S) hN hR.1
    rw [s1, s2, b3_s, b3_s]
    have hD1 := DR_s hx s6 s7 hD
    have hnum : (f_Reader_isNumber N S 0 1 m1 = some 0 ∧ f_Mo_isNumber N 0 1 mr1 = some 0) ∨ ∃ v, 0 ≤ v ∧ v ≤ 1 ∧ f_Reader_isNumber N S 0 1 m1 = some 1 ∧ f_Mo_isNumber N 0 1 mr1 = some 1 ∧ mI m1 2 5 = nI v ∧ mJ mr1 0 5 = lN v := num_of (N := N) (S := S) (l := 0) (u := 1) s3.2.1 (by omega) (by omega)
    rcases hnum with ⟨n1, n2⟩ | ⟨v, _, v2, n1, n2, n3, n4⟩
    · rw [n1, n2, b1_s, b1_s, if_pos rfl, if_pos rfl]
      exact Or.inl ⟨m1, mr1, rfl, rfl, s3.2.2, s6.fc, s7.fp⟩
    · rw [n1, n2, b1_s, b1_s, if_neg (show ¬ (1 : Int32) = 0 by decide), if_neg (show ¬ (1 : Int32) = 0 by decide), n3, n4, lN_i]
      have hp : pos < p1 := s5 (num_nz n1)
      have hD2 : DR x (mBack M v) (vI (vI m1 x 3 (nI v)) x 5 1) (vI mr1 0 14 (nI v)) := by
        obtain ⟨⟨⟨c1, c2, c3, c4, c5, c6, c7, c8⟩, ok, r1, r2⟩, a2, a3, a4, a5, a6, a7, a8⟩ := hD1
        refine ⟨⟨⟨?_, ?_, ?_, ?_, ?_, c6, c7, c8⟩, ⟨ok.1, ok.2.1, ok.2.2.1, v2, ok.2.2.2.2.1, ok.2.2.2.2.2.1, ok.2.2.2.2.2.2.1, ok.2.2.2.2.2.2.2⟩, ?_, ?_⟩, a2, a3, a4, a5, a6, ?_, Or.inr ⟨mI_s, mI_s⟩⟩
        · rw [mI_n (by omega), mI_n (by omega)]; exact c1
        · rw [mI_n (by omega), mI_n (by omega)]; exact c2
        · rw [mI_n (by omega), mI_n (by omega)]; exact c3
        · rw [mI_n (by omega), mI_s]; rfl
        · rw [mI_n (by omega), mI_n (by omega)]; exact c5
        · rw [mI_n (by omega)]; exact r1
        · rw [mI_n (by omega)]; exact r2
        · rw [mI_n (by omega), mI_n (by omega), mI_n (by omega)]; exact a7
      have hT2 : TP len p1 (vI (vI m1 x 3 (nI v)) x 5 1) (vI mr1 0 14 (nI v)) := TP_r (fun k hk => mI_n (by omega)) (fun i => rfl) (TP_l (m := m1) (fun k hk => by rw [mI_n (by omega), mI_n (by omega)]) (fun i => rfl) s3.1)
      have := LineTo_ck (pass_sim (S := S) hx hN hp hT2 hD2 (s6.fc.trans ((FC_i (Or.inr rfl)).trans (FC_i (Or.inr rfl)))) (s7.fp.trans (FP_i (by omega))))
      rw [b2_b3] at this
      exact this
  · rw [if_neg (by rw [h1]; decide), if_neg (by rw [h2]; exact nI_m1 (by omega))]
    exact Or.inl ⟨m, mr, rfl, rfl, hR.2.2, FrX.refl, FP.refl⟩
end HOLD
