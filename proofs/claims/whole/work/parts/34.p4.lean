/-! holds, keep, back, count. -/
def holdX (X : Nat → Nat) (p b f n : Nat) : Nat → Nat := fun i => if i = 0 then X 0 + 1 else if i = 37 + X 0 then n else if i = 25 + X 0 then f else if i = 13 + X 0 then b else if i = 1 + X 0 then p else X i
theorem holdX_q (X : Nat → Nat) (p b f n : Nat) (hx : X 0 < 12) (k : Nat) (hk : k < 12) : holdX X p b f n (1 + k) = (if k = X 0 then p else X (1 + k)) ∧ holdX X p b f n (13 + k) = (if k = X 0 then b else X (13 + k)) ∧ holdX X p b f n (25 + k) = (if k = X 0 then f else X (25 + k)) ∧ holdX X p b f n (37 + k) = (if k = X 0 then n else X (37 + k)) := by
  refine ⟨?_, ?_, ?_, ?_⟩
  · unfold holdX
    rw [if_neg (by omega), if_neg (by omega), if_neg (by omega), if_neg (by omega)]
    by_cases c : k = X 0
    · rw [if_pos (by omega), if_pos c]
    · rw [if_neg (by omega), if_neg c]
  · unfold holdX
    rw [if_neg (by omega), if_neg (by omega), if_neg (by omega)]
    by_cases c : k = X 0
    · rw [if_pos (by omega), if_pos c]
    · rw [if_neg (by omega), if_neg c, if_neg (by omega)]
  · unfold holdX
    rw [if_neg (by omega), if_neg (by omega)]
    by_cases c : k = X 0
    · rw [if_pos (by omega), if_pos c]
    · rw [if_neg (by omega), if_neg c, if_neg (by omega), if_neg (by omega)]
  · unfold holdX
    rw [if_neg (by omega)]
    by_cases c : k = X 0
    · rw [if_pos (by omega), if_pos c]
    · rw [if_neg (by omega), if_neg c, if_neg (by omega), if_neg (by omega), if_neg (by omega)]
theorem hold_INV {S S2 : St} {T X Z : Nat → Nat} {nt p b f n : Nat} (hR : RAIL S T) (hW : NOW S T X Z) (hT : TEXT S nt) (h0 : IMG0 S T) (h1 : IMG1 S T) (ht : S.2 0 = S.2 1) (hx : X 0 < 12) (hp : p < T 1) (hb : b < T 0) (hf : f ≤ 9) (hn : 1 ≤ n) (hfn : f + n ≤ 10)
    (e0 : S2.1 1900 0 = nI (X 0 + 1)) (e1 : S2.1 19 = upd (S.1 19) (X 0) (nI p)) (e2 : S2.1 20 = upd (S.1 20) (X 0) (nI b)) (e3 : S2.1 21 = upd (S.1 21) (X 0) (nI f)) (e4 : S2.1 22 = upd (S.1 22) (X 0) (nI n)) (e5 : S2.1 53 = upd (upd (upd (upd (upd (S.1 53) (1 + X 0) (nI p)) (13 + X 0) (nI b)) (25 + X 0) (nI f)) (37 + X 0) (nI n)) 0 (nI (X 0 + 1)))
    (hF : FR [1900, 19, 20, 21, 22, 53] S S2) : INV S2 := by
  have e : ∀ c, c ∉ [1900, 19, 20, 21, 22, 53] → S2.1 c = S.1 c := hF.1
  obtain ⟨x12, ec, hs, he, hv, hz, hz2⟩ := hW
  refine ⟨T, holdX X p b f n, Z, nt, ?_, ⟨?_, ?_, ?_, ?_, ?_, ?_, hz2⟩, ?_, ?_, ?_, ?_⟩
  · unfold RAIL at hR ⊢
    rw [e 1200 (by decide), e 1201 (by decide), e 1202 (by decide), e 12 (by decide), e 13 (by decide), e 14 (by decide), e 15 (by decide), e 16 (by decide), e 17 (by decide), e 51 (by decide)]
    exact hR
  · show holdX X p b f n 0 ≤ 12
    rw [holdX, if_pos rfl]
    omega
  · rw [e0, holdX, if_pos rfl]
  · intro i hi
    rw [Nat.zero_add, e5]
    have hsi := hs i hi
    rw [Nat.zero_add] at hsi
    unfold holdX
    by_cases c0 : i = 0
    · rw [if_pos c0, c0, pk_us]
    · rw [if_neg c0, pk_un c0]
      by_cases c1 : i = 37 + X 0
      · rw [if_pos c1, c1, pk_us]
      · rw [if_neg c1, pk_un c1]
        by_cases c2 : i = 25 + X 0
        · rw [if_pos c2, c2, pk_us]
        · rw [if_neg c2, pk_un c2]
          by_cases c3 : i = 13 + X 0
          · rw [if_pos c3, c3, pk_us]
          · rw [if_neg c3, pk_un c3]
            by_cases c4 : i = 1 + X 0
            · rw [if_pos c4, c4, pk_us]
            · rw [if_neg c4, pk_un c4]
              exact hsi
  · intro k hk
    rw [e1, e2, e3, e4]
    obtain ⟨q1, q2, q3, q4⟩ := holdX_q X p b f n hx k hk
    rw [q1, q2, q3, q4]
    obtain ⟨a1, a2, a3, a4⟩ := he k hk
    by_cases c : k = X 0
    · rw [if_pos c, if_pos c, if_pos c, if_pos c]
      subst c
      rw [pk_us, pk_us, pk_us, pk_us]
      exact ⟨rfl, rfl, rfl, rfl⟩
    · rw [if_neg c, if_neg c, if_neg c, if_neg c]
      rw [pk_un c, pk_un c, pk_un c, pk_un c]
      exact ⟨a1, a2, a3, a4⟩
  · intro k hk
    have hk2 : k < X 0 + 1 := by
      have : holdX X p b f n 0 = X 0 + 1 := by rw [holdX, if_pos rfl]
      omega
    obtain ⟨q1, q2, q3, q4⟩ := holdX_q X p b f n hx k (by omega)
    rw [q1, q2, q3, q4]
    by_cases c : k = X 0
    · rw [if_pos c, if_pos c, if_pos c, if_pos c]
      exact ⟨hp, hb, hf, hn, hfn⟩
    · rw [if_neg c, if_neg c, if_neg c, if_neg c]
      exact hv k (by omega)
  · intro j hj
    obtain ⟨a1, a2, a3⟩ := hz j hj
    rw [e5, e 23 (by decide), pk_un (by omega), pk_un (by omega), pk_un (by omega), pk_un (by omega), pk_un (by omega)]
    exact ⟨a1, a2, a3⟩
  · unfold TEXT at hT ⊢
    rw [e 301 (by decide), e 3 (by decide), e 5002 (by decide), e 50 (by decide)]
    exact hT
  · unfold IMG0 at h0 ⊢
    rw [e 37 (by decide), e 55 (by decide), e 2600 (by decide), e 26 (by decide), e 27 (by decide), e 28 (by decide), e 29 (by decide), e 30 (by decide), e 54 (by decide)]
    exact h0
  · unfold IMG1 at h1 ⊢
    rw [e 37 (by decide), e 55 (by decide), e 3200 (by decide), e 32 (by decide), e 33 (by decide), e 34 (by decide), e 35 (by decide), e 36 (by decide), e 54 (by decide)]
    exact h1
  · rw [hF.2]
    exact ht
theorem add_ok {S : St} {H : Nat} {p b f n : Int32} {Q : St → Prop} (hc : S.1 1900 0 = nI H) (hH : H < 12) (h : ∀ S2 : St, S2.1 1900 0 = nI (H + 1) → S2.1 19 = upd (S.1 19) H p → S2.1 20 = upd (S.1 20) H b → S2.1 21 = upd (S.1 21) H f → S2.1 22 = upd (S.1 22) H n → FR [1900, 19, 20, 21, 22] S S2 → Q S2) : w_X1_add S p b f n Q := by
  have hi : (S.1 1900 0).toNatClampNeg = H := by rw [hc, nI_clamp (by omega)]
  unfold w_X1_add
  refine ⟨vin' H (by omega) hc, ?_⟩
  rintro _ rfl
  refine ⟨vin' H (by omega) hc, ?_⟩
  rintro _ rfl
  refine ⟨vin' H (by omega) hc, ?_⟩
  rintro _ rfl
  refine ⟨vin' H (by omega) hc, ?_⟩
  rintro _ rfl _ rfl
  refine h _ ?_ ?_ ?_ ?_ ?_ ?_
  · show S.1 1900 0 + 1 = nI (H + 1)
    rw [hc, nI_1]
  · show upd (S.1 19) (S.1 1900 0).toNatClampNeg p = _
    rw [hi]
  · show upd (S.1 20) (S.1 1900 0).toNatClampNeg b = _
    rw [hi]
  · show upd (S.1 21) (S.1 1900 0).toNatClampNeg f = _
    rw [hi]
  · show upd (S.1 22) (S.1 1900 0).toNatClampNeg n = _
    rw [hi]
  · exact ((((FR.rf.set (by decide)).set (by decide)).set (by decide)).set (by decide)).set (by decide)
theorem ok_holds {S : St} (h : INV S) (x y z w : Int32) : w_X6_holds S x y z w (fun r S1 => w_X7_holds S1 x y z w (fun r2 S2 => r = r2 ∧ INV S2)) := by
  have hI := h
  obtain ⟨T, X, Z, nt, hR, hW, hT, h0, h1, ht⟩ := h
  have hW' := hW
  obtain ⟨x12, ec, hs, he, hv, hz, hz2⟩ := hW'
  have hR' := hR
  obtain ⟨⟨hB, hP, -⟩, ⟨e0, e1, -⟩, htl, -⟩ := hR'
  have z0 : (0 : Int32).toNatClampNeg = 0 := rfl
  have es0 : S.1 53 0 = nI (X 0) := hs 0 (by omega)
  unfold w_X6_holds w_X7_holds
  rcases person_cases hR x with ⟨p, hp, rfl⟩ | ⟨g1, g2⟩
  · refine hasPerson_in e1 hP hp (br_f (by decide) ?_)
    rcases bar_cases hR y with ⟨b, hb, rfl⟩ | ⟨g1, g2⟩
    · refine hasBar_in e0 hB hb (nb_t (by decide) ?_)
      rcases year_cases z with ⟨f, hf, rfl⟩ | g1
      · refine isYear_in hf (br_f (by decide) ?_)
        have e10 : (10 : Int32) - nI f = nI (10 - f) := pk_sub (a := 10) (b := f) (by omega)
        rw [e10]
        rcases rng_cases w 1 (10 - f) (by omega) (by omega) with ⟨n, hn, hn2, rfl⟩ | g1
        · refine within_in 1 (10 - f) n hn hn2 (nb_t (by decide) (pk_lt (X 0) 12 (fun c => ?_) (fun c => ?_) ec rfl))
          · refine add_ok ec c (fun S1 a0 a1 a2 a3 a4 hF => isPerson_in (by rw [hF.1 51 (by decide)]; exact htl 1 (by omega)) hP hp (br_f (by decide) (isBar_in (by rw [hF.1 51 (by decide)]; exact htl 0 (by omega)) hB hb (br_f (by decide) (in_in 0 9 f (by omega) (by omega) (br_f (by decide) ?_))))))
            have eS : S1.1 53 = S.1 53 := hF.1 53 (by decide)
            refine in_in 1 (10 - f) n hn hn2 (nb_t (by decide) ⟨vin (i := 0) (by omega), ?_⟩)
            rw [z0, eS, es0]
            refine pk_eqN (X 0) 12 (fun _ => ⟨vin (i := 0) (by omega), ?_⟩) (fun q => absurd q (by omega))
            rintro _ rfl
            have q1 : (1 : Int32) + nI (X 0) = nI (1 + X 0) := nI_add 1 _
            have q13 : (13 : Int32) + nI (X 0) = nI (13 + X 0) := nI_add 13 _
            have q25 : (25 : Int32) + nI (X 0) = nI (25 + X 0) := nI_add 25 _
            have q37 : (37 : Int32) + nI (X 0) = nI (37 + X 0) := nI_add 37 _
            rw [q1, q13, q25, q37, nI_clamp (by omega), nI_clamp (by omega), nI_clamp (by omega), nI_clamp (by omega)]
            refine ⟨vin (by omega), ?_⟩
            rintro _ rfl
            refine ⟨vin (by omega), ?_⟩
            rintro _ rfl
            refine ⟨vin (by omega), ?_⟩
            rintro _ rfl
            refine ⟨vin (by omega), ?_⟩
            rintro _ rfl
            refine ⟨vin (i := 0) (by omega), vin (i := 0) (by omega), ?_⟩
            rintro _ rfl
            have key : upd (upd (upd (upd (S.1 53) (1 + X 0) (nI p)) (13 + X 0) (nI b)) (25 + X 0) (nI f)) (37 + X 0) (nI n) 0 + 1 = nI (X 0 + 1) := by
              rw [pk_un (by omega), pk_un (by omega), pk_un (by omega), pk_un (by omega), es0, nI_1]
            refine ⟨vin (i := 0) (by omega), ?_, ?_⟩
            · show S1.1 1900 0 = upd (upd (upd (upd (upd (S.1 53) (1 + X 0) (nI p)) (13 + X 0) (nI b)) (25 + X 0) (nI f)) (37 + X 0) (nI n)) 0 (upd (upd (upd (upd (S.1 53) (1 + X 0) (nI p)) (13 + X 0) (nI b)) (25 + X 0) (nI f)) (37 + X 0) (nI n) 0 + 1) 0
              rw [pk_us, key]
              exact a0
            · refine hold_INV hR hW hT h0 h1 ht c hp hb (by omega) hn (by omega) a0 a1 a2 a3 a4 ?_ ?_
              · show upd (upd (upd (upd (upd (S.1 53) (1 + X 0) (nI p)) (13 + X 0) (nI b)) (25 + X 0) (nI f)) (37 + X 0) (nI n)) 0 (upd (upd (upd (upd (S.1 53) (1 + X 0) (nI p)) (13 + X 0) (nI b)) (25 + X 0) (nI f)) (37 + X 0) (nI n) 0 + 1) = _
                rw [key]
              · exact (((((hF.mono (by decide)).set (by decide)).set (by decide)).set (by decide)).set (by decide)).set (by decide)
          · refine isPerson_in (htl 1 (by omega)) hP hp (br_f (by decide) (isBar_in (htl 0 (by omega)) hB hb (br_f (by decide) (in_in 0 9 f (by omega) (by omega) (br_f (by decide) ?_)))))
            refine in_in 1 (10 - f) n hn hn2 (nb_t (by decide) ⟨vin (i := 0) (by omega), ?_⟩)
            rw [z0, es0]
            exact pk_eqN (X 0) 12 (fun q => absurd (by omega : X 0 = 12) q) (fun _ => ⟨rfl, hI⟩)
        · refine within_out g1 (nb_f rfl (isPerson_in (htl 1 (by omega)) hP hp (br_f (by decide) (isBar_in (htl 0 (by omega)) hB hb (br_f (by decide) (in_in 0 9 f (by omega) (by omega) (br_f (by decide) ?_)))))))
          exact in_out g1 (nb_f rfl ⟨rfl, hI⟩)
      · refine isYear_out g1 (br_t rfl ?_)
        refine isPerson_in (htl 1 (by omega)) hP hp (br_f (by decide) ?_)
        refine isBar_in (htl 0 (by omega)) hB hb (br_f (by decide) ?_)
        exact in_out g1 (br_t rfl ⟨rfl, hI⟩)
    · refine hasBar_out g1 (nb_f rfl ?_)
      refine isPerson_in (htl 1 (by omega)) hP hp (br_f (by decide) ?_)
      exact isBar_out g2 (br_t rfl ⟨rfl, hI⟩)
  · exact hasPerson_out g1 (br_t rfl (isPerson_out g2 (br_t rfl ⟨rfl, hI⟩)))
