/-! BOTH AT ONCE: the class at b, the model at b + 69. -/
theorem isR.keepC {h h1 : hc_H} {b len um sp fs : Nat} {X : Nat → Nat → Nat} {Q : Nat → Int32} (hr : isR h (b + 69) len um sp fs X Q) (f : frC h h1 b (b + 83)) : isR h1 (b + 69) len um sp fs X Q := by
  obtain ⟨e0, e1, e2, e3, e4, e5, e6, e7, e8, e9, e10, e11⟩ := hr
  refine ⟨?_, ?_, ?_, ?_, ?_, ?_, ?_, ?_, ?_, ?_, ?_, ?_⟩ <;> rw [f _ (by omega) (by omega)] <;> assumption
theorem isStd.keepM {h h' : hc_H} {b sl n C : Nat} {T B A J : Nat → Nat} (hS : isStd h (b + 53) (b + 3) (b + 9) (b + 83) sl n C T B A J) (f : frm h h' (b + 69) 12) : isStd h' (b + 53) (b + 3) (b + 9) (b + 83) sl n C T B A J := by
  obtain ⟨so, bo, st, lc, bp, bc, H, K, ⟨ln, N, me, hy, hm1, fx, wh, c, us, F, G, h1, h2, h3⟩, s2, s3, s4, s5⟩ := hS
  obtain ⟨b1, b2, b3⟩ := hy.le (lay_b (by omega))
  refine ⟨so, bo, st, lc, bp, bc, H, K, ⟨ln, N, me, hy.keep f (by omega), hm1, fx, wh, c, us, F, G, h1.keep f (by omega), h2, h3⟩, s2, s3, s4, s5⟩
theorem isB.keepM {h h' : hc_H} {b sl len n C z : Nat} {L T B A J S : Nat → Nat} {V : Nat → pv} (hb : isB h b (b + 83) sl len L n C T B A J S z V) (f : frm h h' (b + 69) 12) : isB h' b (b + 83) sl len L n C T B A J S z V := by
  obtain ⟨h1, h2, h3, ⟨n', c', T', B', A', J', S', h4⟩, ⟨K, h5⟩, h6⟩ := hb
  exact ⟨by rw [f.2 _ (by omega)]; exact h1, h2.keep f (by omega), h3.keep f (by omega), ⟨n', c', T', B', A', J', S', h4.keep f (by omega)⟩, ⟨K, h5.keep f (by omega)⟩, h6.keepM f⟩
/-- THE TWO ARE IN STEP -/
def rel (h : hc_H) (b sl : Nat) : Prop := ∃ len L n C T B A J S z V sp fs X Q, isB h b (b + 83) sl len L n C T B A J S z V ∧ isR h (b + 69) len z sp fs X Q ∧ X 2 = rowP n C T B A J S ∧ (∀ j, j < len → X 1 j = L j) ∧ bfR (X 3) z V ∧ vOk n C T B A J S ∧ len ≤ 200 ∧ z ≤ 6 ∧ (∀ j, L j < 65536) ∧ (∀ x, x < 12 → X 11 x ≤ 12) ∧ fs < 4096
/-- both are asked, both answer the same, and are in step again -/
def bth (h : hc_H) (b sl : Nat) (MB MR : hc_M) (as : List Value) : Prop := ∃ r h1 h2, (∃ fs, h1.1 (b + 69) = some (.inr (6, fs))) ∧ MA MB (.ref b :: as) h (some (.int r)) h1 ∧ MA MR (.ref (b + 69) :: as) h1 (some (.int r)) h2 ∧ rel h2 b sl
theorem vOk.spots {n C : Nat} {T B A J S S' : Nat → Nat} (h : vOk n C T B A J S) (hS : ∀ x, S' x ≤ 12) : vOk n C T B A J S' := ⟨h.1, ⟨h.2.1.1, h.2.1.2.1, h.2.1.2.2.1, h.2.1.2.2.2.1, h.2.1.2.2.2.2.1, hS⟩, h.2.2⟩
theorem vOk.tm {n C : Nat} {T B A J S : Nat → Nat} (h : vOk n C T B A J S) : vOk n C T B A J (tmS n C T B A J S n) := h.spots (fun x => tmS_le h.2.1.2.2.2.2.2 n x)
theorem vOk.time {n C t v : Nat} {T B A J S : Nat → Nat} (h : vOk n C T B A J S) (h1 : 1 ≤ v) (h2 : v ≤ 60) : vOk n C (va_up T t v) B A J S := by
  refine ⟨h.1, h.2.1.up h2, h.2.2.1, h.2.2.2.1, h.2.2.2.2.1, h.2.2.2.2.2.1, fun x hx => ?_⟩
  by_cases e : x = t
  · rw [e, up_eq]; exact h1
  · rw [up_ne e]; exact h.2.2.2.2.2.2 x hx
theorem vOk.cycle {n C c : Nat} {T B A J S : Nat → Nat} (h : vOk n C T B A J S) (h1 : 1 ≤ c) (h2 : c ≤ 120) : vOk n c T B A J S := ⟨h.1, h.2.1, ⟨h1, h2⟩, h.2.2.2⟩
theorem kz_le {z : Nat} (h : z ≤ 6) : kz z ≤ 6 := by unfold kz; split <;> omega
section BO
variable {h : hc_H} {b sl : Nat}
theorem both_write (hr : rel h b sl) (x : Int32) : bth h b sl M_B_write M_R_write [.int x] := by
  obtain ⟨len, L, n, C, T, B, A, J, S, z, V, sp, fs, X, Q, g1, g2, g3, g4, g5, g6, g7, g8, g9, g10, g11⟩ := id hr
  by_cases w : nI 32 ≤ x ∧ x ≤ nI 126
  · obtain ⟨j, rfl, j1, j2⟩ := in_n (by omega) (by omega) w
    rcases c_B_write (by omega) g1 g7 j1 j2 with ⟨l1, a1⟩ | ⟨l1, h1, a1, a2, a3⟩
    · have : len = 200 := by omega
      subst this
      exact ⟨_, h, h, ⟨_, g2.1⟩, a1, c_R_write_full g2 j1 j2, hr⟩
    · obtain ⟨h2, b1, b2, b3⟩ := c_R_write (g2.keepC a3) l1 j1 j2
      refine ⟨_, h1, h2, (by first | exact ⟨_, (g2.keepC a3).1⟩ | exact ⟨_, r1'.1⟩ | exact ⟨_, (g2.keepC a4).1⟩), a1, b1, _, _, _, _, _, _, _, _, _, _, _, _, _, _, _, a2.keepM b3, b2, g3, fun i hi => ?_, g5, g6, by omega, g8, fun i => ?_, g10, g11⟩
      · show va_up (X 1) len j i = va_up L len j i
        by_cases e : i = len
        · rw [e, up_eq, up_eq]
        · rw [up_ne e, up_ne e]; exact g4 i (by omega)
      · by_cases e : i = len
        · rw [e, up_eq]; omega
        · rw [up_ne e]; exact g9 i
  · exact ⟨_, h, h, ⟨_, g2.1⟩, c_B_write_bad g1 w, c_R_write_bad h w, hr⟩
theorem both_wipe (hr : rel h b sl) : bth h b sl M_B_wipe M_R_wipe [] := by
  obtain ⟨len, L, n, C, T, B, A, J, S, z, V, sp, fs, X, Q, g1, g2, g3, g4, g5, g6, g7, g8, g9, g10, g11⟩ := id hr
  obtain ⟨h1, a1, a2, a3⟩ := c_B_wipe (by omega) g1
  obtain ⟨h2, b1, b2, b3⟩ := c_R_wipe (g2.keepC a3)
  exact ⟨_, h1, h2, (by first | exact ⟨_, (g2.keepC a3).1⟩ | exact ⟨_, r1'.1⟩ | exact ⟨_, (g2.keepC a4).1⟩), a1, b1, _, _, _, _, _, _, _, _, _, _, _, _, _, _, _, a2.keepM b3, b2, g3, fun i hi => by omega, g5, g6, by omega, g8, g9, g10, g11⟩
theorem both_fault (hr : rel h b sl) : bth h b sl M_B_fault M_R_fault [] := by
  obtain ⟨len, L, n, C, T, B, A, J, S, z, V, sp, fs, X, Q, g1, g2, g3, g4, g5, g6, g7, g8, g9, g10, g11⟩ := id hr
  obtain ⟨h1, a1, a2, a3⟩ := c_B_fault (by omega) g1 g7 g9
  obtain ⟨h2, Q2, sp2, b1, b2, b3, -⟩ := c_R_fault (g2.keepC a3) g7 (fun j hj => by rw [g4 j hj]; exact g9 j)
  rw [rdC_c (L' := L) g4] at b1
  exact ⟨_, h1, h2, (by first | exact ⟨_, (g2.keepC a3).1⟩ | exact ⟨_, r1'.1⟩ | exact ⟨_, (g2.keepC a4).1⟩), a1, b1, _, _, _, _, _, _, _, _, _, _, _, _, _, _, _, a2.keepM b3, b2, g3, g4, g5, g6, g7, g8, g9, g10, g11⟩
theorem both_lay (hr : rel h b sl) : bth h b sl M_B_lay M_R_lay [] := by
  obtain ⟨len, L, n, C, T, B, A, J, S, z, V, sp, fs, X, Q, g1, g2, g3, g4, g5, g6, g7, g8, g9, g10, g11⟩ := id hr
  have hL : ∀ j, j < len → X 1 j < 65536 := fun j hj => by rw [g4 j hj]; exact g9 j
  have ec := rdC_c (L' := L) g4 200 0 pv0
  by_cases w : (rdC L len 200 0 pv0).1 ≠ none ∨ (rdC L len 200 0 pv0).2.1 = 0
  · obtain ⟨h1, a1, a2, a3⟩ := c_B_lay_no (by omega) g1 g7 g9 w
    obtain ⟨h2, Q2, sp2, b1, b2, b3⟩ := c_R_lay_no (g2.keepC a3) g7 hL (by rw [ec]; exact w)
    exact ⟨_, h1, h2, (by first | exact ⟨_, (g2.keepC a3).1⟩ | exact ⟨_, r1'.1⟩ | exact ⟨_, (g2.keepC a4).1⟩), a1, b1, _, _, _, _, _, _, _, _, _, _, _, _, _, _, _, a2.keepM b3, b2, g3, g4, g5, g6, g7, g8, g9, g10, g11⟩
  · have w1 : (rdC L len 200 0 pv0).1 = none := Classical.byContradiction fun q => w (Or.inl q)
    have w2 : ¬ (rdC L len 200 0 pv0).2.1 = 0 := fun q => w (Or.inr q)
    obtain ⟨y, y1, y2⟩ := rd_ok 200 0 pv0 rV_0 rC_0 w1
    obtain ⟨v, ev⟩ : ∃ v, (rdC L len 200 0 pv0).2 = v := ⟨_, rfl⟩
    rw [ev] at y1 y2 w2
    obtain ⟨C', c1, c2⟩ := rV_ok y1 y2 (by omega)
    have erd : rdC L len 200 0 pv0 = (none, v.1, nI C', v.2.2.1, v.2.2.2.1, v.2.2.2.2.1, v.2.2.2.2.2.1, v.2.2.2.2.2.2) := by
      rw [← c1, ← ev, ← w1]
    have n12 := c2.2.1.1
    obtain ⟨h1, a1, a2, a3⟩ := c_B_lay (by omega) g1 g7 g9 erd ⟨by omega, n12⟩
    obtain ⟨h2, Q2, sp2, b1, b2, b3⟩ := c_R_lay (g2.keepC a3) g7 hL (by rw [ec]; exact erd) ⟨by omega, n12⟩
    exact ⟨_, h1, h2, (by first | exact ⟨_, (g2.keepC a3).1⟩ | exact ⟨_, r1'.1⟩ | exact ⟨_, (g2.keepC a4).1⟩), a1, b1, _, _, _, _, _, _, _, _, _, _, _, _, _, _, _, a2.keepM b3, b2, rfl, g4, fun i hi => by omega, c2, g7, by omega, g9, g10, g11⟩
/-- behind a call of the model that leaves what is told -/
theorem rel_quiet {h1 h2 : hc_H} {len n C z sp fs fs' : Nat} {L T B A J S : Nat → Nat} {V : Nat → pv} {X X' : Nat → Nat → Nat} {Q : Nat → Int32} (g1 : isB h1 b (b + 83) sl len L n C T B A J S z V) (g2 : isR h2 (b + 69) len z sp fs' X' Q) (f : frm h1 h2 (b + 69) 12) (q : ∀ j, ¬ (5 ≤ j ∧ j ≤ 11) → X' j = X j) (q11 : ∀ x, x < 12 → X' 11 x ≤ 12) (hfs : fs' < 4096) (g3 : X 2 = rowP n C T B A J S) (g4 : ∀ j, j < len → X 1 j = L j) (g5 : bfR (X 3) z V) (g6 : vOk n C T B A J S) (g7 : len ≤ 200) (g8 : z ≤ 6) (g9 : ∀ j, L j < 65536) : rel h2 b sl :=
  ⟨_, _, _, _, _, _, _, _, _, _, _, _, _, X', _, g1.keepM f, g2, by rw [q 2 (by omega)]; exact g3, fun j hj => by rw [q 1 (by omega)]; exact g4 j hj, by rw [q 3 (by omega)]; exact g5, g6, g7, g8, g9, q11, hfs⟩
/-- behind a change that is noted -/
theorem rel_noted {h1 h2 : hc_H} {len n C z sp fs n' C' : Nat} {L T B A J S T' B' A' J' S' : Nat → Nat} {V : Nat → pv} {X X' : Nat → Nat → Nat} {Q : Nat → Int32} (g1 : isB h1 b (b + 83) sl len L n' C' T' B' A' J' S' (kz z) (kV z V (n, nI C, T, B, A, J, S))) (g2 : isR h2 (b + 69) len (kz z) sp fs X' Q) (f : frm h1 h2 (b + 69) 12) (e1 : X' 1 = X 1) (e2 : X' 2 = rowP n' C' T' B' A' J' S') (e3 : X' 3 = ntB z (X 3) (rowP n C T B A J S)) (e11 : ∀ x, x < 12 → X' 11 x ≤ 12) (hfs : fs < 4096) (g4 : ∀ j, j < len → X 1 j = L j) (g5 : bfR (X 3) z V) (g6 : vOk n C T B A J S) (g6' : vOk n' C' T' B' A' J' S') (g7 : len ≤ 200) (g8 : z ≤ 6) (g9 : ∀ j, L j < 65536) : rel h2 b sl :=
  ⟨_, _, _, _, _, _, _, _, _, _, _, _, _, X', _, g1.keepM f, g2, e2, fun j hj => by rw [e1]; exact g4 j hj, by rw [e3]; exact bfR_note g8 g6 g5, g6', g7, kz_le g8, g9, e11, hfs⟩
theorem both_cycle (hr : rel h b sl) (x : Int32) : bth h b sl M_B_cycle M_R_cycle [.int x] := by
  obtain ⟨len, L, n, C, T, B, A, J, S, z, V, sp, fs, X, Q, g1, g2, g3, g4, g5, g6, g7, g8, g9, g10, g11⟩ := id hr
  have hw := g6.2.1
  have hC := g6.2.2.1
  by_cases w : nI 1 ≤ x ∧ x ≤ nI 120
  · obtain ⟨c, rfl, c1, c2⟩ := in_n (by omega) (by omega) w
    by_cases e : C = c
    · subst e
      exact ⟨_, h, h, ⟨_, g2.1⟩, c_B_cycle_no g1 c1 c2, R_cycle g2 w (c_R_tells_no g2 (by omega) (by rw [g3]; rfl)), hr⟩
    · obtain ⟨h1, a1, a2, a3⟩ := c_B_cycle (by omega) g1 g8 hw hC.2 c1 c2 e
      have r1' := g2.keepC a3
      obtain ⟨h2, X2, b1, b2, b3, b4, b5, b7, b6⟩ := c_R_tells r1' g3 g8 (t := 1) (v := c) (by omega) (by omega) (show C < 2 ^ 31 by omega) (show ¬ C = c from e) rp_up1 hw (by omega) g6.2.2.2.1
      exact ⟨_, h1, h2, (by first | exact ⟨_, (g2.keepC a3).1⟩ | exact ⟨_, r1'.1⟩ | exact ⟨_, (g2.keepC a4).1⟩), a1, R_cycle r1' w b1, rel_noted a2 b2 b6 b3 b4 b5 (by rw [b7]; exact g10) g11 g4 g5 g6 (g6.cycle c1 c2).tm g7 g8 g9⟩
  · exact ⟨_, h, h, ⟨_, g2.1⟩, c_B_cycle_bad g1 w, c_R_cycle_bad h w, hr⟩
theorem both_time (hr : rel h b sl) (t v : Int32) : bth h b sl M_B_time M_R_time [.int t, .int v] := by
  obtain ⟨len, L, n, C, T, B, A, J, S, z, V, sp, fs, X, Q, g1, g2, g3, g4, g5, g6, g7, g8, g9, g10, g11⟩ := id hr
  have hw := g6.2.1
  have hC := g6.2.2.1
  have hn : 1 ≤ n ∧ n ≤ 12 := ⟨g6.1, hw.1⟩
  have h0 : X 2 0 = n := by rw [g3]; rfl
  by_cases w : (0 ≤ t ∧ t < nI n) ∧ (nI 1 ≤ v ∧ v ≤ nI 60)
  · obtain ⟨j, rfl, j1⟩ := has_n hn.2 w.1
    obtain ⟨c, rfl, c1, c2⟩ := in_n (by omega) (by omega) w.2
    have bT := hw.2.1 j
    by_cases e : T j = c
    · exact ⟨_, h, h, ⟨_, g2.1⟩, c_B_time_no g1 hw j1 c1 c2 e, R_time g2 h0 hn j1 w.2 (c_R_tells_no g2 (by omega) (by rw [g3, rp_T (by omega)]; exact e)), hr⟩
    · obtain ⟨h1, a1, a2, a3⟩ := c_B_time (by omega) g1 g8 hw hC.2 j1 c1 c2 e
      have r1' := g2.keepC a3
      have eT : rowP n C T B A J S (2 + j) = T j := rp_T (by omega)
      obtain ⟨h2, X2, b1, b2, b3, b4, b5, b7, b6⟩ := c_R_tells r1' g3 g8 (t := 2 + j) (v := c) (by omega) (by omega) (by rw [eT]; omega) (by rw [eT]; exact e) (rp_upT (by omega)) (hw.up c2) (by omega) g6.2.2.2.1
      rw [eT] at b1
      exact ⟨_, h1, h2, (by first | exact ⟨_, (g2.keepC a3).1⟩ | exact ⟨_, r1'.1⟩ | exact ⟨_, (g2.keepC a4).1⟩), a1, R_time r1' h0 hn j1 w.2 b1, rel_noted a2 b2 b6 b3 b4 b5 (by rw [b7]; exact g10) g11 g4 g5 g6 (g6.time c1 c2).tm g7 g8 g9⟩
  · exact ⟨_, h, h, ⟨_, g2.1⟩, c_B_time_bad g1 hn.2 w, c_R_time_bad g2 h0 hn w, hr⟩
theorem bool01 {i : Int32} (h : nI 0 ≤ i ∧ i ≤ nI 1) : ∃ w : Bool, i = nI w.toNat := by
  obtain ⟨j, rfl, -, j2⟩ := in_n (by omega) (by omega) h
  rcases (show j = 0 ∨ j = 1 by omega) with rfl | rfl
  · exact ⟨false, rfl⟩
  · exact ⟨true, rfl⟩
theorem both_order (hr : rel h b sl) (x y i : Int32) : bth h b sl M_B_order M_R_order [.int x, .int y, .int i] := by
  obtain ⟨len, L, n, C, T, B, A, J, S, z, V, sp, fs, X, Q, g1, g2, g3, g4, g5, g6, g7, g8, g9, g10, g11⟩ := id hr
  have hw := g6.2.1
  have hC := g6.2.2.1
  have hn : 1 ≤ n ∧ n ≤ 12 := ⟨g6.1, hw.1⟩
  have h0 : X 2 0 = n := by rw [g3]; rfl
  by_cases w : ((0 ≤ x ∧ x < nI n) ∧ (0 ≤ y ∧ y < nI n) ∧ ¬ x = y) ∧ (nI 0 ≤ i ∧ i ≤ nI 1)
  · obtain ⟨p, q, rfl, rfl, p1, q1, pq⟩ := pair_n hn.2 w.1
    obtain ⟨u, rfl⟩ := bool01 w.2
    have rnd : (ab_r B q n n).testBit p = true ↔ (aa_r B 12 (B p) 12).testBit q = true := round_iff g6.bo p1
    by_cases e : (B q).testBit p = u ∨ (u = true ∧ (ab_r B q n n).testBit p = true)
    · exact ⟨_, h, h, ⟨_, g2.1⟩, c_B_order_no g1 hw p1 q1 pq u e, c_R_order_no g2 g3 hw hn.1 p1 q1 pq u (by rw [← rnd]; exact e), hr⟩
    · obtain ⟨h1, a1, a2, a3⟩ := c_B_order (by omega) g1 g8 hw hC.2 p1 q1 pq u e
      have r1' := g2.keepC a3
      have pr := prOk_ord g6.bo p1 pq e g6.2.2.2.1
      have bo := boK_ord (w := u) g6.bo p1 q1
      obtain ⟨h2, X2, b1, b2, b3, b4, b5, b7, b6⟩ := c_R_order r1' g3 hw hn.1 (by omega) g8 p1 q1 pq u (by rw [← rnd]; exact e) pr
      have ok : vOk n C T (ordB B p q u) A J S := ⟨g6.1, hw.ord (by omega) u, hC, pr, bo.2.1, bo.2.2, g6.2.2.2.2.2.2⟩
      exact ⟨_, h1, h2, (by first | exact ⟨_, (g2.keepC a3).1⟩ | exact ⟨_, r1'.1⟩ | exact ⟨_, (g2.keepC a4).1⟩), a1, b1, rel_noted a2 b2 b6 b3 b4 b5 (by rw [b7]; exact g10) g11 g4 g5 g6 ok.tm g7 g8 g9⟩
  · exact ⟨_, h, h, ⟨_, g2.1⟩, c_B_order_bad g1 hn.2 w, c_R_order_bad g2 h0 hn w, hr⟩
theorem both_zone (hr : rel h b sl) (x y i : Int32) : bth h b sl M_B_zone M_R_zone [.int x, .int y, .int i] := by
  obtain ⟨len, L, n, C, T, B, A, J, S, z, V, sp, fs, X, Q, g1, g2, g3, g4, g5, g6, g7, g8, g9, g10, g11⟩ := id hr
  have hw := g6.2.1
  have hC := g6.2.2.1
  have hn : 1 ≤ n ∧ n ≤ 12 := ⟨g6.1, hw.1⟩
  have h0 : X 2 0 = n := by rw [g3]; rfl
  by_cases w : ((0 ≤ x ∧ x < nI n) ∧ (0 ≤ y ∧ y < nI n) ∧ ¬ x = y) ∧ (nI 0 ≤ i ∧ i ≤ nI 2)
  · obtain ⟨p, q, rfl, rfl, p1, q1, pq⟩ := pair_n hn.2 w.1
    obtain ⟨k, rfl, -, k2⟩ := in_n (by omega) (by omega) w.2
    by_cases e : zon A J p q = k
    · exact ⟨_, h, h, ⟨_, g2.1⟩, c_B_zone_no g1 hw p1 q1 pq k2 e, c_R_zone_no g2 g3 hw hn.1 p1 q1 pq k2 e, hr⟩
    · obtain ⟨h1, a1, a2, a3⟩ := c_B_zone (by omega) g1 g8 hw hC.2 p1 q1 pq k2 e
      have r1' := g2.keepC a3
      have pr : prOk B (prs A p q (decide (k = 1))) (prs J p q (decide (k = 2))) := prOk_zone pq (fun z => by
        have z1 := of_decide_eq_true z.1
        have z2 := of_decide_eq_true z.2
        omega) g6.2.2.2.1
      obtain ⟨h2, X2, b1, b2, b3, b4, b5, b7, b6⟩ := c_R_zone r1' g3 hw hn.1 (by omega) g8 p1 q1 pq k2 e pr
      have ok : vOk n C T B (prs A p q (decide (k = 1))) (prs J p q (decide (k = 2))) S := ⟨g6.1, hw.zon (by omega) (by omega) k, hC, pr, g6.2.2.2.2⟩
      exact ⟨_, h1, h2, (by first | exact ⟨_, (g2.keepC a3).1⟩ | exact ⟨_, r1'.1⟩ | exact ⟨_, (g2.keepC a4).1⟩), a1, b1, rel_noted a2 b2 b6 b3 b4 b5 (by rw [b7]; exact g10) g11 g4 g5 g6 ok.tm g7 g8 g9⟩
  · exact ⟨_, h, h, ⟨_, g2.1⟩, c_B_zone_bad g1 hn.2 w, c_R_zone_bad g2 h0 hn w, hr⟩
theorem both_undo (hr : rel h b sl) : bth h b sl M_B_undo M_R_undo [] := by
  obtain ⟨len, L, n, C, T, B, A, J, S, z, V, sp, fs, X, Q, g1, g2, g3, g4, g5, g6, g7, g8, g9, g10, g11⟩ := id hr
  cases z with
  | zero => exact ⟨_, h, h, ⟨_, g2.1⟩, c_B_undo_no g1, c_R_undo_no g2, hr⟩
  | succ z =>
    obtain ⟨n', C', T', B', A', J', S', v1, v2, v3⟩ := g5 z (by omega)
    obtain ⟨h1, a1, a2, a3⟩ := c_B_undo (by omega) g1 (by omega) v1
    obtain ⟨h2, b1, b2, b3⟩ := c_R_undo (g2.keepC a3) (by omega) v3
    exact ⟨_, h1, h2, (by first | exact ⟨_, (g2.keepC a3).1⟩ | exact ⟨_, r1'.1⟩ | exact ⟨_, (g2.keepC a4).1⟩), a1, b1, _, _, _, _, _, _, _, _, _, _, _, _, _, _, _, a2.keepM b3, b2, rfl, g4, fun i hi => g5 i (by omega), v2, g7, by omega, g9, g10, g11⟩
theorem both_task (hr : rel h b sl) (t x : Int32) : bth h b sl M_B_task M_R_task [.int t, .int x] := by
  obtain ⟨len, L, n, C, T, B, A, J, S, z, V, sp, fs, X, Q, g1, g2, g3, g4, g5, g6, g7, g8, g9, g10, g11⟩ := id hr
  have hw := g6.2.1
  have hn : 1 ≤ n ∧ n ≤ 12 := ⟨g6.1, hw.1⟩
  by_cases w : 0 ≤ t ∧ t < nI n
  · obtain ⟨j, rfl, j1⟩ := has_n hn.2 w
    exact ⟨_, h, h, ⟨_, g2.1⟩, c_B_task g1 hw j1 x, c_R_task g2 g3 hw hn.1 j1 (far_eq g6.bo) x, hr⟩
  · exact ⟨_, h, h, ⟨_, g2.1⟩, c_B_task_bad g1 hn.2 w, c_R_task_bad g2 (by rw [g3]; rfl) hn w, hr⟩
theorem both_put (hr : rel h b sl) (t v : Int32) : bth h b sl M_B_put M_R_put [.int t, .int v] := by
  obtain ⟨len, L, n, C, T, B, A, J, S, z, V, sp, fs, X, Q, g1, g2, g3, g4, g5, g6, g7, g8, g9, g10, g11⟩ := id hr
  have hw := g6.2.1
  have hC := g6.2.2.1
  have hn : 1 ≤ n ∧ n ≤ 12 := ⟨g6.1, hw.1⟩
  by_cases w : (0 ≤ t ∧ t < nI n) ∧ (nI 1 ≤ v ∧ v ≤ nI 12)
  · obtain ⟨j, rfl, j1⟩ := has_n hn.2 w.1
    obtain ⟨s, rfl, s1, s2⟩ := in_n (by omega) (by omega) w.2
    have ew : wn n C T B A J S j s = mwn n C T B A J S j s := wn_eq s1 g6.2.2.2.1
    have wl := wn_le n C T B A J S j s
    by_cases e : S j = s ∨ wn n C T B A J S j s ≠ 0
    · exact ⟨_, h, h, ⟨_, g2.1⟩, c_B_put_no g1 hw hC.2 j1 s1 s2 e, c_R_put_no g2 g3 hw hn.1 (by omega) j1 s1 s2 (by omega) (by rw [← ew]; exact e), hr⟩
    · have e1 : ¬ S j = s := fun q => e (Or.inl q)
      have e2 : wn n C T B A J S j s = 0 := Decidable.byContradiction fun q => e (Or.inr q)
      obtain ⟨h1, a1, a2, a3⟩ := c_B_put (by omega) g1 g8 hw hC.2 j1 s1 s2 e1 e2
      obtain ⟨h2, X2, b1, b2, b3, b4, b5, b7, b6⟩ := c_R_put (g2.keepC a3) g3 hw hn.1 (by omega) g8 j1 s1 s2 e1 (by rw [← ew]; exact e2)
      exact ⟨_, h1, h2, (by first | exact ⟨_, (g2.keepC a3).1⟩ | exact ⟨_, r1'.1⟩ | exact ⟨_, (g2.keepC a4).1⟩), a1, b1, rel_noted a2 b2 b6 b3 b4 b5 (by rw [b7]; exact g10) g11 g4 g5 g6 (g6.spots (hw.spot s2).2.2.2.2.2) g7 g8 g9⟩
  · exact ⟨_, h, h, ⟨_, g2.1⟩, c_B_put_bad g1 hn.2 w, c_R_put_bad g2 (by rw [g3]; rfl) hn w, hr⟩
theorem both_off (hr : rel h b sl) (t : Int32) : bth h b sl M_B_off M_R_off [.int t] := by
  obtain ⟨len, L, n, C, T, B, A, J, S, z, V, sp, fs, X, Q, g1, g2, g3, g4, g5, g6, g7, g8, g9, g10, g11⟩ := id hr
  have hw := g6.2.1
  have hn : 1 ≤ n ∧ n ≤ 12 := ⟨g6.1, hw.1⟩
  by_cases w : 0 ≤ t ∧ t < nI n
  · obtain ⟨j, rfl, j1⟩ := has_n hn.2 w
    by_cases e : S j = 0
    · exact ⟨_, h, h, ⟨_, g2.1⟩, c_B_off_no g1 hw j1 e, c_R_off_no g2 g3 hn j1 e, hr⟩
    · obtain ⟨h1, a1, a2, a3⟩ := c_B_off (by omega) g1 g8 hw j1 e
      obtain ⟨h2, X2, b1, b2, b3, b4, b5, b7, b6⟩ := c_R_off (g2.keepC a3) g3 hw hn.1 g8 j1 e
      exact ⟨_, h1, h2, (by first | exact ⟨_, (g2.keepC a3).1⟩ | exact ⟨_, r1'.1⟩ | exact ⟨_, (g2.keepC a4).1⟩), a1, b1, rel_noted a2 b2 b6 b3 b4 b5 (by rw [b7]; exact g10) g11 g4 g5 g6 (g6.spots (hw.spot (Nat.zero_le _)).2.2.2.2.2) g7 g8 g9⟩
  · exact ⟨_, h, h, ⟨_, g2.1⟩, c_B_off_bad g1 hn.2 w, c_R_off_bad g2 (by rw [g3]; rfl) hn w, hr⟩
theorem both_why (hr : rel h b sl) (t v : Int32) : bth h b sl M_B_why M_R_why [.int t, .int v] := by
  obtain ⟨len, L, n, C, T, B, A, J, S, z, V, sp, fs, X, Q, g1, g2, g3, g4, g5, g6, g7, g8, g9, g10, g11⟩ := id hr
  have hw := g6.2.1
  have hC := g6.2.2.1
  have hn : 1 ≤ n ∧ n ≤ 12 := ⟨g6.1, hw.1⟩
  by_cases w : (0 ≤ t ∧ t < nI n) ∧ (nI 1 ≤ v ∧ v ≤ nI 12)
  · obtain ⟨j, rfl, j1⟩ := has_n hn.2 w.1
    obtain ⟨s, rfl, s1, s2⟩ := in_n (by omega) (by omega) w.2
    have ew : wn n C T B A J S j s = mwn n C T B A J S j s := wn_eq s1 g6.2.2.2.1
    exact ⟨_, h, h, ⟨_, g2.1⟩, c_B_why g1 hw hC.2 j1 s1 s2, by rw [ew]; exact c_R_why g2 g3 hw hn.1 (by omega) j1 s1 s2, hr⟩
  · exact ⟨_, h, h, ⟨_, g2.1⟩, c_B_why_bad g1 hn.2 w, c_R_why_bad g2 (by rw [g3]; rfl) hn w, hr⟩
theorem both_station (hr : rel h b sl) (k x : Int32) : bth h b sl M_B_station M_R_station [.int k, .int x] := by
  obtain ⟨len, L, n, C, T, B, A, J, S, z, V, sp, fs, X, Q, g1, g2, g3, g4, g5, g6, g7, g8, g9, g10, g11⟩ := id hr
  have hw := g6.2.1
  by_cases w : nI 1 ≤ k ∧ k ≤ nI 12
  · obtain ⟨s, rfl, s1, s2⟩ := in_n (by omega) (by omega) w
    exact ⟨_, h, h, ⟨_, g2.1⟩, c_B_station g1 hw s1 s2 x, c_R_station g2 g3 hw s1 s2 x, hr⟩
  · exact ⟨_, h, h, ⟨_, g2.1⟩, c_B_station_bad g1 w, c_R_station_bad h w, hr⟩
theorem both_where (hr : rel h b sl) (t : Int32) : bth h b sl M_B_where M_R_where [.int t] := by
  obtain ⟨len, L, n, C, T, B, A, J, S, z, V, sp, fs, X, Q, g1, g2, g3, g4, g5, g6, g7, g8, g9, g10, g11⟩ := id hr
  have hw := g6.2.1
  have hn : 1 ≤ n ∧ n ≤ 12 := ⟨g6.1, hw.1⟩
  by_cases w : 0 ≤ t ∧ t < nI n
  · obtain ⟨j, rfl, j1⟩ := has_n hn.2 w
    exact ⟨_, h, h, ⟨_, g2.1⟩, c_B_where g1 hw j1, c_R_where g2 g3 hw hn.1 j1, hr⟩
  · exact ⟨_, h, h, ⟨_, g2.1⟩, c_B_where_bad g1 hn.2 w, c_R_where_bad g2 (by rw [g3]; rfl) hn w, hr⟩
theorem both_floor (hr : rel h b sl) (x : Int32) : bth h b sl M_B_floor M_R_floor [.int x] := by
  obtain ⟨len, L, n, C, T, B, A, J, S, z, V, sp, fs, X, Q, g1, g2, g3, g4, g5, g6, g7, g8, g9, g10, g11⟩ := id hr
  have hw := g6.2.1
  have hC := g6.2.2.1
  exact ⟨_, h, h, ⟨_, g2.1⟩, c_B_floor g1 hw hC.2 (by omega) x, c_R_floor g2 g3 hw hC.2 (by omega) g6.bo x, hr⟩
theorem both_left (hr : rel h b sl) : bth h b sl M_B_left M_R_left [] := by
  obtain ⟨len, L, n, C, T, B, A, J, S, z, V, sp, fs, X, Q, g1, g2, g3, g4, g5, g6, g7, g8, g9, g10, g11⟩ := id hr
  have hw := g6.2.1
  have hC := g6.2.2.1
  obtain ⟨h1, r, a1, a2, a3, a4⟩ := c_B_left (by omega) g1 hw hC.2 (by omega) g6.1
  obtain ⟨h2, X2, r2, b1, b2, b3, b4, b5⟩ := c_R_left (g2.keepC a3) g3 hw g6.1 hC.2
  have e := b5.one a4
  rw [e] at b1
  exact ⟨_, h1, h2, (by first | exact ⟨_, (g2.keepC a3).1⟩ | exact ⟨_, r1'.1⟩ | exact ⟨_, (g2.keepC a4).1⟩), a1, b1, rel_quiet (fs := fs) a2 b2 b4 (fun j hj => b3 j (by omega) (by omega) (by omega) (by omega)) (by rw [b3 11 (by omega) (by omega) (by omega) (by omega)]; exact g10) g11 g3 g4 g5 g6 g7 g8 g9⟩
theorem both_load (hr : rel h b sl) (i : Int32) : bth h b sl M_B_load M_R_load [.int i] := by
  obtain ⟨len, L, n, C, T, B, A, J, S, z, V, sp, fs, X, Q, g1, g2, g3, g4, g5, g6, g7, g8, g9, g10, g11⟩ := id hr
  have hw := g6.2.1
  have hC := g6.2.2.1
  by_cases w : i < -1
  · exact ⟨_, h, h, ⟨_, g2.1⟩, c_B_load_bad h w, c_R_load_bad h w, hr⟩
  · obtain ⟨h1, a1, a2, a3⟩ := c_B_load (by omega) g1 hw hC.2 w
    have r1' := g2.keepC a3
    obtain ⟨h2, X2, b1, b2, b3, b4⟩ := c_R_loads r1' g3 hw hC.2 i false (P := fun s => decide (nd n C T B A J s = 0)) (fun s _ => by rw [decide_eq_true_eq]; exact Iff.rfl)
    exact ⟨_, h1, h2, (by first | exact ⟨_, (g2.keepC a3).1⟩ | exact ⟨_, r1'.1⟩ | exact ⟨_, (g2.keepC a4).1⟩), a1, R_load r1' w b1, rel_quiet (fs := fs) a2 b2 b4 (fun j hj => b3 j (by omega) (by omega)) (by rw [b3 11 (by omega) (by omega)]; exact g10) g11 g3 g4 g5 g6 g7 g8 g9⟩
theorem both_full (hr : rel h b sl) (i : Int32) : bth h b sl M_B_full M_R_full [.int i] := by
  obtain ⟨len, L, n, C, T, B, A, J, S, z, V, sp, fs, X, Q, g1, g2, g3, g4, g5, g6, g7, g8, g9, g10, g11⟩ := id hr
  have hw := g6.2.1
  have hC := g6.2.2.1
  by_cases w : i < -1
  · exact ⟨_, h, h, ⟨_, g2.1⟩, c_B_full_bad h w, c_R_full_bad h w, hr⟩
  · obtain ⟨h1, ne, cv, a1, a2, a3, a4, a5⟩ := c_B_full (by omega) g1 hw hC.2 w
    have r1' := g2.keepC a3
    have hpn := Nat.two_pow_pos n
    obtain ⟨P, hP⟩ : ∃ P : Nat → Bool, ∀ s, P s = true ↔ fulP n C T B A J s := ⟨fun s => Classical.choose (dec_c (fulP n C T B A J s)), fun s => Classical.choose_spec (dec_c (fulP n C T B A J s))⟩
    obtain ⟨h2, X2, b1, b2, b3, b4⟩ := c_R_loads r1' g3 hw hC.2 i true (P := P) (fun s _ => by rw [hP s]; exact Iff.rfl)
    have ep : pick (fun s => decide (nd n C T B A J s = 0) && !decide (cv s ≠ 0)) i (2 ^ n - 1) 1 0 = pick P i (2 ^ n - 1) 1 0 := pick_c _ _ _ (fun t t1 t2 => by
      have e1 := ful_iff a4 a5 t1 (show t < 2 ^ n by omega)
      rw [← hP t] at e1
      exact Bool.eq_iff_iff.mpr e1)
    rw [ep] at a1
    exact ⟨_, h1, h2, (by first | exact ⟨_, (g2.keepC a3).1⟩ | exact ⟨_, r1'.1⟩ | exact ⟨_, (g2.keepC a4).1⟩), a1, R_full r1' w b1, rel_quiet (fs := fs) a2 b2 b4 (fun j hj => b3 j (by omega) (by omega)) (by rw [b3 11 (by omega) (by omega)]; exact g10) g11 g3 g4 g5 g6 g7 g8 g9⟩
theorem both_fewest (hr : rel h b sl) : bth h b sl M_B_fewest M_R_fewest [] := by
  obtain ⟨len, L, n, C, T, B, A, J, S, z, V, sp, fs, X, Q, g1, g2, g3, g4, g5, g6, g7, g8, g9, g10, g11⟩ := id hr
  have hw := g6.2.1
  have hC := g6.2.2.1
  obtain ⟨h1, st, lc, bp, H, a1, a2, a3, a4⟩ := c_B_fewest (by omega) g1 hw hC.2 (by omega) g6.1
  obtain ⟨h2, X2, b1, b2, b3, b4, b5⟩ := c_R_fewest (g2.keepC a3) g3 hw g6.1 hC.2
  have e := (rest_min hw.1 (b4.2 0 (Nat.zero_le _))).one (slv_min hw.1 a4)
  rw [e] at b1
  exact ⟨_, h1, h2, (by first | exact ⟨_, (g2.keepC a3).1⟩ | exact ⟨_, r1'.1⟩ | exact ⟨_, (g2.keepC a4).1⟩), a1, b1, rel_quiet (fs := fs) a2 b2 b5 (fun j hj => b3 j (by omega) (by omega) (by omega)) (by rw [b3 11 (by omega) (by omega) (by omega)]; exact g10) g11 g3 g4 g5 g6 g7 g8 g9⟩
theorem slv_no {n C lc bp : Nat} {T B A J H : Nat → Nat} {st : Int32} (hn : n ≤ 12) (h : slv n C T B A J st lc bp H) (hs : st = -4) : ∀ k, k ≤ n → ¬ lin n C T B A J k := by
  rcases slv_min hn h with ⟨k, k1, -, -, k4⟩ | ⟨k1, -⟩
  · exact absurd (by rw [← k4]; exact hs) (nI_m4 (k := k) (by omega))
  · exact k1
theorem both_best (hr : rel h b sl) (t : Int32) : bth h b sl M_B_best M_R_best [.int t] := by
  obtain ⟨len, L, n, C, T, B, A, J, S, z, V, sp, fs, X, Q, g1, g2, g3, g4, g5, g6, g7, g8, g9, g10, g11⟩ := id hr
  have hw := g6.2.1
  have hC := g6.2.2.1
  have hn : 1 ≤ n ∧ n ≤ 12 := ⟨g6.1, hw.1⟩
  by_cases w : 0 ≤ t ∧ t < nI n
  · obtain ⟨j, rfl, j1⟩ := has_n hn.2 w
    obtain ⟨h1, st, lc, bp, H, a1, a2, a3, a4⟩ := c_B_best (by omega) g1 hw hC.2 (by omega) j1
    by_cases e : st = -4
    · rw [if_pos e] at a1
      obtain ⟨h2, X2, b1, b2, b3, b4⟩ := c_R_best_no (g2.keepC a3) g3 hw hC.2 j1 (slv_no hn.2 a4 e)
      exact ⟨_, h1, h2, (by first | exact ⟨_, (g2.keepC a3).1⟩ | exact ⟨_, r1'.1⟩ | exact ⟨_, (g2.keepC a4).1⟩), a1, b1, rel_quiet (fs := fs) a2 b2 b4 (fun j hj => b3 j (by omega) (by omega) (by omega)) (by rw [b3 11 (by omega) (by omega) (by omega)]; exact g10) g11 g3 g4 g5 g6 g7 g8 g9⟩
    · rw [if_neg e] at a1
      obtain ⟨K, k1, k2, k3, -, k5, k6, -⟩ := slv_lines hn a4 e
      obtain ⟨h2, X2, b1, b2, b3, b4, b5⟩ := c_R_best (g2.keepC a3) g3 hw hC.2 g10 j1 (show K ≤ 12 by omega) k3 ⟨k5, k6⟩
      have := every_lt hn.2
      exact ⟨_, h1, h2, (by first | exact ⟨_, (g2.keepC a3).1⟩ | exact ⟨_, r1'.1⟩ | exact ⟨_, (g2.keepC a4).1⟩), a1, b1, rel_quiet (fs := fs) a2 b2 b5 b3 b4 this g3 g4 g5 g6 g7 g8 g9⟩
  · exact ⟨_, h, h, ⟨_, g2.1⟩, c_B_best_bad g1 hn.2 w, c_R_best_bad g2 (by rw [g3]; rfl) hn w, hr⟩
theorem psp_bit {H : Nat → Nat} {t j : Nat} : ∀ k, (psp H t k).testBit j = true ↔ 1 ≤ j ∧ j ≤ k ∧ (H j).testBit t = true := by
  intro k
  induction k with
  | zero => exact ⟨fun q => by simp [psp] at q, fun q => by omega⟩
  | succ k ih =>
    simp only [psp]
    by_cases w : (H (k + 1)).testBit t = true
    · rw [if_pos w, bit_or, ih, Nat.testBit_two_pow, decide_eq_true_eq]
      constructor
      · rintro (q | q)
        · exact ⟨q.1, by omega, q.2.2⟩
        · rw [← q]; exact ⟨by omega, Nat.le_refl _, w⟩
      · rintro ⟨q1, q2, q3⟩
        by_cases e : j = k + 1
        · exact Or.inr e.symm
        · exact Or.inl ⟨q1, by omega, q3⟩
    · rw [if_neg w, ih]
      constructor
      · rintro ⟨q1, q2, q3⟩; exact ⟨q1, by omega, q3⟩
      · rintro ⟨q1, q2, q3⟩
        have : ¬ j = k + 1 := fun e => w (by rw [← e]; exact q3)
        exact ⟨q1, by omega, q3⟩
theorem both_may (hr : rel h b sl) (t : Int32) : bth h b sl M_B_may M_R_may [.int t] := by
  obtain ⟨len, L, n, C, T, B, A, J, S, z, V, sp, fs, X, Q, g1, g2, g3, g4, g5, g6, g7, g8, g9, g10, g11⟩ := id hr
  have hw := g6.2.1
  have hC := g6.2.2.1
  have hn : 1 ≤ n ∧ n ≤ 12 := ⟨g6.1, hw.1⟩
  by_cases w : 0 ≤ t ∧ t < nI n
  · obtain ⟨j, rfl, j1⟩ := has_n hn.2 w
    obtain ⟨h1, st, lc, bp, H, a1, a2, a3, a4⟩ := c_B_may (by omega) g1 hw hC.2 (by omega) j1
    by_cases e : st = -4
    · rw [if_pos e] at a1
      obtain ⟨h2, X2, b1, b2, b3, b4⟩ := c_R_may_no (g2.keepC a3) g3 hw hC.2 j1 (slv_no hn.2 a4 e)
      exact ⟨_, h1, h2, (by first | exact ⟨_, (g2.keepC a3).1⟩ | exact ⟨_, r1'.1⟩ | exact ⟨_, (g2.keepC a4).1⟩), a1, b1, rel_quiet (fs := fs) a2 b2 b4 (fun j hj => b3 j (by omega) (by omega) (by omega)) (by rw [b3 11 (by omega) (by omega) (by omega)]; exact g10) g11 g3 g4 g5 g6 g7 g8 g9⟩
    · rw [if_neg e] at a1
      obtain ⟨K, k1, k2, k3, k4, -, -, -⟩ := slv_lines hn a4 e
      obtain ⟨h2, X2, c, b1, b2, b3, b4, b5⟩ := c_R_may (g2.keepC a3) g3 hw hC.2 g10 j1 (show K ≤ 12 by omega) k3
      have ec : psp H j 12 = c := by
        apply tb_ext
        intro i
        rw [psp_bit, b5 i, k4 i j]
        constructor
        · rintro ⟨-, -, q⟩; exact q
        · rintro ⟨D, y, q1, q2, q3, q4⟩; exact ⟨by omega, by omega, D, y, q1, q2, q3, q4⟩
      rw [ec] at a1
      exact ⟨_, h1, h2, (by first | exact ⟨_, (g2.keepC a3).1⟩ | exact ⟨_, r1'.1⟩ | exact ⟨_, (g2.keepC a4).1⟩), a1, b1, rel_quiet (fs := fs) a2 b2 b4 (fun j hj => b3 j (by omega)) (by rw [b3 11 (by omega)]; exact g10) (by omega) g3 g4 g5 g6 g7 g8 g9⟩
  · exact ⟨_, h, h, ⟨_, g2.1⟩, c_B_may_bad g1 hn.2 w, c_R_may_bad g2 (by rw [g3]; rfl) hn w, hr⟩
theorem both_many (hr : rel h b sl) : bth h b sl M_B_many M_R_many [] := by
  obtain ⟨len, L, n, C, T, B, A, J, S, z, V, sp, fs, X, Q, g1, g2, g3, g4, g5, g6, g7, g8, g9, g10, g11⟩ := id hr
  have hw := g6.2.1
  have hC := g6.2.2.1
  have hn : 1 ≤ n ∧ n ≤ 12 := ⟨g6.1, hw.1⟩
  obtain ⟨h1, st, lc, bp, H, a1, a2, a3, a4⟩ := c_B_many (by omega) g1 hw hC.2 (by omega) g6.1
  obtain ⟨h2, X2, st2, b1, b2, b3, b4, b5, b6, b7⟩ := c_R_many (g2.keepC a3) g3 hw g6.1 hC.2
  have e := b5.one (slv_min hw.1 a4)
  subst e
  have er : (if st2 = -4 then nI 0 else nI (X2 8 0)) = nI lc := by
    by_cases w : st2 = -4
    · rw [if_pos w]
      obtain ⟨-, -, -, -, q, -⟩ := a4
      rw [q w]
    · rw [if_neg w]
      obtain ⟨K, -, -, -, -, -, -, k7⟩ := slv_lines hn a4 w
      rw [k7 (X2 7) (X2 8) b6 (b7 w)]
  rw [er] at b1
  exact ⟨_, h1, h2, (by first | exact ⟨_, (g2.keepC a3).1⟩ | exact ⟨_, r1'.1⟩ | exact ⟨_, (g2.keepC a4).1⟩), a1, b1, rel_quiet (fs := fs) a2 b2 b4 (fun j hj => b3 j (by omega) (by omega) (by omega) (by omega)) (by rw [b3 11 (by omega) (by omega) (by omega) (by omega)]; exact g10) g11 g3 g4 g5 g6 g7 g8 g9⟩
theorem both_adopt (hr : rel h b sl) : bth h b sl M_B_adopt M_R_adopt [] := by
  obtain ⟨len, L, n, C, T, B, A, J, S, z, V, sp, fs, X, Q, g1, g2, g3, g4, g5, g6, g7, g8, g9, g10, g11⟩ := id hr
  have hw := g6.2.1
  have hC := g6.2.2.1
  have hn : 1 ≤ n ∧ n ≤ 12 := ⟨g6.1, hw.1⟩
  obtain ⟨h1, st, lc, bp, H, a1, a4, a3, a5, a6⟩ := c_B_adopt (by omega) g1 g8 hw hC.2 (by omega) g6.1
  by_cases e : st = -4
  · obtain ⟨h2, X2, b1, b2, b3, b4⟩ := c_R_adopt_no (g2.keepC a3) g3 hw g6.1 hC.2 (slv_no hn.2 a4 e)
    rw [e] at a1
    exact ⟨_, h1, h2, (by first | exact ⟨_, (g2.keepC a3).1⟩ | exact ⟨_, r1'.1⟩ | exact ⟨_, (g2.keepC a4).1⟩), a1, b1, rel_quiet (fs := fs) (a5 e) b2 b4 (fun j hj => b3 j (by omega) (by omega) (by omega)) (by rw [b3 11 (by omega) (by omega) (by omega)]; exact g10) g11 g3 g4 g5 g6 g7 g8 g9⟩
  · obtain ⟨K, k1, k2, k3, -, k5, k6, -⟩ := slv_lines hn a4 e
    have k12 : K ≤ 12 := by omega
    obtain ⟨h2, X2, b1, b2, b3, b4, b5, b6, b7⟩ := c_R_adopt (g2.keepC a3) g3 hw g6.1 hC.2 g8 g10 k12 k3 ⟨k5, k6⟩
    rw [k2] at a1
    have := every_lt hn.2
    refine ⟨_, h1, h2, (by first | exact ⟨_, (g2.keepC a3).1⟩ | exact ⟨_, r1'.1⟩ | exact ⟨_, (g2.keepC a4).1⟩), a1, b1, rel_noted (a6 e) b2 b7 b3 b4 b5 b6 this g4 g5 g6 (g6.spots (fun x => ?_)) g7 g8 g9⟩
    unfold bsp
    split
    · rename_i q; exact (mc_pos hn.2 k12 ⟨k5, k6⟩ q).2
    · exact hw.2.2.2.2.2 x
theorem both_shortest (hr : rel h b sl) (k : Int32) : bth h b sl M_B_shortest M_R_shortest [.int k] := by
  obtain ⟨len, L, n, C, T, B, A, J, S, z, V, sp, fs, X, Q, g1, g2, g3, g4, g5, g6, g7, g8, g9, g10, g11⟩ := id hr
  have hw := g6.2.1
  have hC := g6.2.2.1
  by_cases w : nI 1 ≤ k ∧ k ≤ nI 12
  · obtain ⟨s, rfl, s1, s2⟩ := in_n (by omega) (by omega) w
    obtain ⟨h1, r, a1, a2, a3, a4⟩ := c_B_shortest (by omega) g1 hw hC.2 g6.1 s1 s2
    obtain ⟨h2, X2, r2, b1, b2, b3, b4, b5⟩ := c_R_shortest (g2.keepC a3) g3 hw g6.1 g6.2.2.2.2.2.2 s1 s2
    have e : r2 = r := by
      rcases a4 with ⟨x1, x2⟩ | ⟨c, x1, x2, x3⟩ <;> rcases b5 with ⟨y1, y2⟩ | ⟨d, y1, y2, y3⟩
      · rw [x1, y1]
      · exact absurd y2 (x2 d)
      · exact absurd x2 (y2 c)
      · have : c = d := by
          apply Nat.le_antisymm
          · exact Nat.le_of_not_lt fun q => x3 d q y2
          · exact Nat.le_of_not_lt fun q => y3 c q x2
        rw [x1, y1, this]
    rw [e] at b1
    exact ⟨_, h1, h2, (by first | exact ⟨_, (g2.keepC a3).1⟩ | exact ⟨_, r1'.1⟩ | exact ⟨_, (g2.keepC a4).1⟩), a1, b1, rel_quiet (fs := fs) a2 b2 b4 (fun j hj => b3 j (by omega) (by omega) (by omega)) (by rw [b3 11 (by omega) (by omega) (by omega)]; exact g10) g11 g3 g4 g5 g6 g7 g8 g9⟩
  · exact ⟨_, h, h, ⟨_, g2.1⟩, c_B_shortest_bad h w, c_R_shortest_bad h w, hr⟩
theorem both_by (hr : rel h b sl) (x : Int32) : bth h b sl M_B_by M_R_by [.int x] := by
  obtain ⟨len, L, n, C, T, B, A, J, S, z, V, sp, fs, X, Q, g1, g2, g3, g4, g5, g6, g7, g8, g9, g10, g11⟩ := id hr
  have hw := g6.2.1
  by_cases w : nI 1 ≤ x ∧ x ≤ nI 120
  · obtain ⟨c, rfl, c1, c2⟩ := in_n (by omega) (by omega) w
    obtain ⟨h1, r, a1, a2, a3, a4⟩ := c_B_by (by omega) g1 hw g6.1 c1 c2
    obtain ⟨h2, X2, r2, b1, b2, b3, b4, b5⟩ := c_R_by (g2.keepC a3) g3 hw g6.1 c1 c2
    rw [b5.one a4] at b1
    exact ⟨_, h1, h2, (by first | exact ⟨_, (g2.keepC a3).1⟩ | exact ⟨_, r1'.1⟩ | exact ⟨_, (g2.keepC a4).1⟩), a1, b1, rel_quiet (fs := fs) a2 b2 b4 (fun j hj => b3 j (by omega) (by omega) (by omega)) (by rw [b3 11 (by omega) (by omega) (by omega)]; exact g10) g11 g3 g4 g5 g6 g7 g8 g9⟩
  · exact ⟨_, h, h, ⟨_, g2.1⟩, c_B_by_bad h w, c_R_by_bad h w, hr⟩
theorem both_were (hr : rel h b sl) (t v : Int32) : bth h b sl M_B_were M_R_were [.int t, .int v] := by
  obtain ⟨len, L, n, C, T, B, A, J, S, z, V, sp, fs, X, Q, g1, g2, g3, g4, g5, g6, g7, g8, g9, g10, g11⟩ := id hr
  have hw := g6.2.1
  have hC := g6.2.2.1
  have hn : 1 ≤ n ∧ n ≤ 12 := ⟨g6.1, hw.1⟩
  by_cases w : (0 ≤ t ∧ t < nI n) ∧ (nI 1 ≤ v ∧ v ≤ nI 60)
  · obtain ⟨j, rfl, j1⟩ := has_n hn.2 w.1
    obtain ⟨c, rfl, c1, c2⟩ := in_n (by omega) (by omega) w.2
    obtain ⟨h1, r, a1, a2, a3, a4⟩ := c_B_were (by omega) g1 hw hC.2 (by omega) j1 c1 c2
    obtain ⟨h2, X2, r2, b1, b2, b3, b4, b5⟩ := c_R_were (g2.keepC a3) g3 hw g6.1 hC.2 j1 c1 c2
    rw [b5.one a4] at b1
    exact ⟨_, h1, h2, (by first | exact ⟨_, (g2.keepC a3).1⟩ | exact ⟨_, r1'.1⟩ | exact ⟨_, (g2.keepC a4).1⟩), a1, b1, rel_quiet (fs := fs) a2 b2 b4 (fun j hj => b3 j (by omega) (by omega) (by omega)) (by rw [b3 11 (by omega) (by omega) (by omega)]; exact g10) g11 g3 g4 g5 g6 g7 g8 g9⟩
  · exact ⟨_, h, h, ⟨_, g2.1⟩, c_B_were_bad g1 hn.2 w, c_R_were_bad g2 (by rw [g3]; rfl) hn w, hr⟩
theorem both_binds (hr : rel h b sl) (i : Int32) : bth h b sl M_B_binds M_R_binds [.int i] := by
  obtain ⟨len, L, n, C, T, B, A, J, S, z, V, sp, fs, X, Q, g1, g2, g3, g4, g5, g6, g7, g8, g9, g10, g11⟩ := id hr
  have hw := g6.2.1
  have hC := g6.2.2.1
  by_cases w : i < -1
  · exact ⟨_, h, h, ⟨_, g2.1⟩, c_B_binds_bad h w, c_R_binds_bad h w, hr⟩
  · obtain ⟨h1, P, a1, a2, a3, a4⟩ := c_B_binds (by omega) g1 hw hC.2 (by omega) g6.1 (fun a b _ _ => g6.2.2.2.1.1 a b) w
    obtain ⟨h2, X2, b1, b2, b3, b4⟩ := c_R_binds (g2.keepC a3) g3 hw g6.1 hC.2 (fun x q => g6.2.2.2.1.1 x x q q) a4 w
    exact ⟨_, h1, h2, (by first | exact ⟨_, (g2.keepC a3).1⟩ | exact ⟨_, r1'.1⟩ | exact ⟨_, (g2.keepC a4).1⟩), a1, b1, rel_quiet (fs := fs) a2 b2 b4 (fun j hj => b3 j (by omega) (by omega) (by omega)) (by rw [b3 11 (by omega) (by omega) (by omega)]; exact g10) g11 g3 g4 g5 g6 g7 g8 g9⟩
theorem both_count (hr : rel h b sl) (x : Int32) : bth h b sl M_B_count M_R_count [.int x] := by
  obtain ⟨len, L, n, C, T, B, A, J, S, z, V, sp, fs, X, Q, g1, g2, g3, g4, g5, g6, g7, g8, g9, g10, g11⟩ := id hr
  have hw := g6.2.1
  have hC := g6.2.2.1
  by_cases w : x = nI 10
  · subst w
    obtain ⟨h1, st, lc, bp, H, a1, a2, a3, a4⟩ := c_B_count10 (by omega) g1 hw hC.2 (by omega) g6.1
    obtain ⟨h2, X2, st2, b1, b2, b3, b4, b5⟩ := c_R_count10 (g2.keepC a3) g3 hw g6.1 hC.2
    rw [b5.one (slv_min hw.1 a4)] at b1
    exact ⟨_, h1, h2, (by first | exact ⟨_, (g2.keepC a3).1⟩ | exact ⟨_, r1'.1⟩ | exact ⟨_, (g2.keepC a4).1⟩), a1, b1, rel_quiet (fs := fs) a2 b2 b4 (fun j hj => b3 j (by omega) (by omega) (by omega)) (by rw [b3 11 (by omega) (by omega) (by omega)]; exact g10) g11 g3 g4 g5 g6 g7 g8 g9⟩
  · exact ⟨_, h, h, ⟨_, g2.1⟩, c_B_count g1 hw w, c_R_count g2 g3 hw w, hr⟩
end BO
