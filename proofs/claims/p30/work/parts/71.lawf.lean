/-! ===== the law's body: all pairs of rooms; from the start ===== -/
section LAWF
variable {sc : SCT} {L : LMem} {pd : Nat → Nat} {n r0 : Nat}
theorem l76 {s : Stt} {a T : Nat} {C66 : Int32 → Int32 → Int32 → Int32 → Mem → LMem → Prop} (ha : a < 8) (h20 : sG s 0 = 20) (kk : ∀ M1, GD s pd r0 M1 → C66 (nI n) (nI (sG s 1)) (nI (T + sm (fun y => dc (sH s) (Int32.ofInt 0) (sG s 0) a y) 8)) (nI a + Int32.ofInt 1) M1 L) :
    ∀ (f b : Nat) (M : Mem), b ≤ 8 → 8 < f + b → GD s pd r0 M → PL_L_law_76 sc KL C66 f (nI n) (nI (sG s 1)) (nI (T + sm (fun y => dc (sH s) (Int32.ofInt 0) (sG s 0) a y) b)) (nI a) (nI b) M L := by
  intro f
  induction f with
  | zero => intro b M h1 h2; omega
  | succ f ih =>
    intro b M h1 h2 hG
    have hS := hG.1.1
    unfold PL_L_law_76
    refine pk_le 8 b (fun c => ?_) (fun c => ?_)
    · have e : b = 8 := by omega
      subst e
      exact kk M hG
    · have nxt : ∀ M1, GD s pd r0 M1 → PL_L_law_76 sc KL C66 f (nI n) (nI (sG s 1)) (nI (T + sm (fun y => dc (sH s) (Int32.ofInt 0) (sG s 0) a y) b + dc (sH s) (Int32.ofInt 0) (sG s 0) a b)) (nI a) (nI b + Int32.ofInt 1) M1 L := fun M1 G1 => by
        have h := ih (b + 1) M1 (by omega) (by omega) G1
        rw [sm_s, ← Nat.add_assoc] at h
        rw [nI_s]
        exact h
      refine pk_eq a b (fun e => ?_) (fun hab => ?_)
      · have h := nxt M hG
        rw [← e, dc_0 hS.1, Nat.add_zero] at h
        rw [← e]
        exact h
      · refine u_wayL hG.1 ha c hab (fun hw cI M1 hF1 => ?_) (fun hw M1 hF1 => ?_)
        · have G1 := hG.scr hF1
          refine u_wayN G1.1 ha c hab (fun _ _ M2 hF2 => ?_) (fun e => absurd hw e)
          have G2 := G1.scr hF2
          have h := l133 (sc := sc) (L := L) (n := n) (S := T + sm (fun y => dc (sH s) (Int32.ofInt 0) (sG s 0) a y) b) (C66 := C66) ha c hab h20 hw nxt 100000 0 (2 ^ a) M2 (Nat.zero_le _) (by omega) G2 (show 2 ^ a < 2 ^ 8 from Nat.pow_lt_pow_right (by decide) ha) (fun r => by
            rw [Nat.testBit_two_pow, decide_eq_true_eq]
            constructor
            · intro e; exact ⟨0, Nat.le_refl _, e⟩
            · intro ⟨j, j1, j2⟩
              have e0 : j = 0 := by omega
              rw [e0] at j2
              exact j2)
          rw [show Int32.ofInt 1 <<< (nI a &&& 31) = nI (2 ^ a) by rw [show Int32.ofInt 1 = nI 1 from rfl, sh1 (by omega)]]
          exact h
        · have G1 := hG.scr hF1
          refine u_wayN G1.1 ha c hab (fun e => absurd e hw) (fun _ M2 hF2 => ?_)
          show PL_L_law_133 sc KL C66 (PL_L_law_76 sc KL C66 f) (99999 + 1) _ _ _ _ _ _ _ _ _ _ _ M2 L
          unfold PL_L_law_133
          exact br_t (by decide) (l225n (f := 99999) ha c hab hw (G1.scr hF2) nxt)
theorem l66 {s : Stt} (hn : qn (sH s) = n) (h20 : sG s 0 = 20) (h4 : sG s 4 = 0) (hN : ∀ r, r < 8 → sN s r = 0) (h2 : sG s 2 = 0) (hr0 : r0 < 8) :
    ∀ (f a : Nat) (M : Mem), a ≤ 8 → 8 < f + a → GD s pd r0 M → PL_L_law_66 sc KL f (nI n) (nI (sG s 1)) (nI (sm (fun x => sm (fun y => dc (sH s) (Int32.ofInt 0) (sG s 0) x y) 8) a)) (nI a) M L := by
  intro f
  induction f with
  | zero => intro a M h1 h2; omega
  | succ f ih =>
    intro a M h1 h3 hG
    unfold PL_L_law_66
    refine pk_le 8 a (fun c => ?_) (fun c => ?_)
    · have e : a = 8 := by omega
      subst e
      exact l475 (f := 99999) hn h4 hN h2 hr0 hG
    · refine l76 (T := sm (fun x => sm (fun y => dc (sH s) (Int32.ofInt 0) (sG s 0) x y) 8) a) c h20 (fun M1 G1 => ?_) 100000 0 M (by omega) (by omega) hG
      rw [nI_s]
      exact ih (a + 1) M1 (by omega) (by omega) G1
/-- how it begins -/
def s0 : Stt := ((0, fun _ => 0, fun _ => 0, fun _ => 0, fun _ => 0), fun i => if i = 0 then 20 else if i = 1 then 255 else if i = 3 then 4096 else 0, fun _ => 0, fun _ _ => 0)
theorem s0_ok : SOK s0 := ⟨⟨by decide, fun t ht => absurd ht (Nat.not_lt_zero t)⟩, by decide, ⟨by decide, by decide⟩, by decide, by decide, by decide, by decide, fun r _ => (by decide : 0 < 256), fun c hc => absurd hc (Nat.not_lt_zero c)⟩
theorem inv_0 : INVs M0 s0 0 (fun _ => 0) := ⟨s0_ok, ⟨rfl, fun t ht => absurd ht (Nat.not_lt_zero t), rfl, rfl, rfl, rfl, rfl, fun r _ => rfl, fun c hc => absurd hc (Nat.not_lt_zero c)⟩, trivial, ⟨rfl, trivial, by decide, fun i hi => absurd hi (Nat.not_lt_zero i)⟩, rfl, trivial⟩
theorem HT_of {M : Mem} {m : Nat} {pd : Nat → Nat} (h : ∀ j, j < m → ∃ a b c l, TB M pd j a b c l) : HT M (hpd m pd) := fun k hk => by
  obtain ⟨a, b, c, l, ⟨h1, h2, h3, h4, h5, h6⟩, ⟨m1, m2, m3, m4⟩, p1, p2, p3, p4⟩ := h k hk
  refine ⟨?_, ?_, ⟨c, h4, m3, p2⟩, ?_⟩
  · rw [m1, show qa (hpd m pd) k = a by show pd (4 * k) - 65 = a; omega]
  · rw [m2, show qb (hpd m pd) k = b by show pd (4 * k + 2) - 65 = b; omega]
  · rw [m4, show ql (hpd m pd) k = l by show pd (4 * k + 3) - 48 = l; omega]
theorem law_true : P_L_law sc M0 L0 KL := by
  unfold P_L_law
  obtain ⟨c0, hc0, ec0⟩ := cell_in sc (k := 0) (n := 6) (by decide) (by decide) (by decide)
  obtain ⟨c1, hc1, ec1⟩ := cell_in sc (k := 1) (n := 256) (by decide) (by decide) (by decide)
  rw [show Int32.ofInt 0 = nI 0 from rfl, show Int32.ofInt 6 = nI 6 from rfl, ec0, show Int32.ofInt 3 = nI 3 from rfl, nI_add]
  refine ⟨cell_ok (by decide) (by decide) (by decide), h_lhouse (s := s0) (by omega) inv_0 rfl (fun m M1 pd hm hF hI hTB h0 => ⟨cell_ok (k := 1) (n := 256) (by decide) (by decide) (by decide), br_f (nI_pos (by omega)) ?_⟩)⟩
  rw [show Int32.ofInt 256 = nI 256 from rfl, show Int32.ofInt 1 = nI 1 from rfl, ec1]
  have q0 : sG (sHs s0 m pd) 0 = 20 := rfl
  have q1 : sG (sHs s0 m pd) 1 = 255 := rfl
  have q2 : sG (sHs s0 m pd) 2 = 0 := rfl
  have q4 : sG (sHs s0 m pd) 4 = 0 := rfl
  refine u_set1 hI hc1 (fun M2 hF2 hI2 => br_t rfl ?_)
  have hT1 : HT M1 (hpd m pd) := HT_of hTB
  obtain ⟨r0, hr0, e0⟩ : ∃ r0, r0 < 8 ∧ M1 74 0 = nI r0 := by
    by_cases c : m = 0
    · exact ⟨0, by decide, h0 c⟩
    · obtain ⟨a, b, c2, l, g1, g2, -⟩ := hTB 0 (by omega)
      exact ⟨a, g1.1, g2.1⟩
  have hG : GD (sGu (sHs s0 m pd) 1 c1) pd r0 M2 := ⟨hI2, hT1.kp hF2, (hF2 74 0 (cKp_o (by decide))).trans e0⟩
  have s1 : sG (sGu (sHs s0 m pd) 1 c1) 1 = c1 := fup_s (sHs s0 m pd).2.1 1 c1
  have h := l66 (sc := sc) (L := L0) (pd := pd) (n := m) (r0 := r0) (s := sGu (sHs s0 m pd) 1 c1) rfl q0 q4 (fun r _ => rfl) q2 hr0 100000 0 M2 (by omega) (by omega) hG
  rw [s1] at h
  exact h
end LAWF
