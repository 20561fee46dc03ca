/-! ===== the model sorts what each takes ===== -/
theorem dnI_1 : ∀ a, dnI a + Int32.ofInt 1 = nI a := by
  intro a
  cases a with
  | zero => decide
  | succ a => exact nI_s a
theorem dnI_p (a p : Nat) : nI a + dnI p + Int32.ofInt 1 = nI (a + p) := by
  cases p with
  | zero => rw [show dnI 0 = Int32.ofInt (-1) from rfl, dnI_a, dnI_1]; rfl
  | succ p => rw [show dnI (p + 1) = nI p from rfl, nI_add, nI_s]; rfl
def ins (g : Nat → Nat) (p v j : Nat) : Nat := if j < p then g j else if j = p then v else g (j - 1)
section SRT
variable {s : Stt} {np : Nat} {pd : Nat → Nat} {L : LMem}
theorem hl_so39 {M0 : Mem} {C2 : Int32 → Mem → LMem → Prop} {C : Int32 → Int32 → Mem → LMem → Prop} {K : Mem → LMem → Prop} {c m v : Nat} {g : Nat → Nat} (hc : c < 5) (hm : m ≤ 7) (hg : ∀ j, j < m → g j < 100) (hv : v < 100) (kk : ∀ M p, p ≤ m → Fr (c1h c) M0 M → (∀ j, m < j → j < 8 → M 100 (8 * c + j) = M0 100 (8 * c + j)) → (∀ j, p ≤ j → j < m → v < g j) → (p = 0 ∨ g (p - 1) ≤ v) → (∀ j, j ≤ m → M 100 (8 * c + j) = nI (ins g p v j)) → C (nI c) (nI (m + 1)) M L) :
    ∀ (f p : Nat) (M : Mem), p ≤ m → p < f → Fr (c1h c) M0 M → (∀ j, m < j → j < 8 → M 100 (8 * c + j) = M0 100 (8 * c + j)) → (∀ j, p ≤ j → j < m → v < g j) → (∀ j, j ≤ m → j ≠ p → M 100 (8 * c + j) = nI (ins g p v j)) → PL_X10_sortWays_39 K C2 C f (nI c) (nI m) (nI v) (dnI p) M L := by
  intro f
  induction f with
  | zero => intro p M h1 h2; omega
  | succ f ih =>
    intro p M h1 h2 hF hU hgt hA
    unfold PL_X10_sortWays_39
    have e8c : Int32.ofInt 8 * nI c = nI (8 * c) := by rw [show Int32.ofInt 8 = nI 8 from rfl, pk_mul]
    have ec : (nI (8 * c + p)).toNatClampNeg = 8 * c + p := nI_clamp (by omega)
    have hin : c1h c 100 (8 * c + p) = true := by
      unfold c1h
      rw [show (8 * c + p) / 8 = c by omega, Nat.beq_refl, Nat.beq_refl]; rfl
    rw [e8c, nI_s, dnI_p, ec]
    have put : (p = 0 ∨ g (p - 1) ≤ v) → C (nI c) (nI (m + 1)) (mput M 100 (8 * c + p) (nI v)) L := fun hp => by
      refine kk _ p h1 (hF.put hin) (fun j hj hj8 => ?_) hgt hp (fun j hj => ?_)
      · rw [mp_i _ (by omega)]; exact hU j hj hj8
      · by_cases e : j = p
        · subst e
          rw [mp_s]; unfold ins; rw [if_neg (Nat.lt_irrefl _), if_pos rfl]
        · rw [mp_i _ (by omega)]; exact hA j hj e
    cases p with
    | zero => exact br_t dnI_0 ⟨pk_in (8 * c + 0) 40 (by omega), put (Or.inl rfl)⟩
    | succ p =>
      have e0 : dnI (p + 1) = nI p := rfl
      have ec2 : (nI (8 * c + p)).toNatClampNeg = 8 * c + p := nI_clamp (by omega)
      have hap : M 100 (8 * c + p) = nI (g p) := by
        rw [hA p (by omega) (by omega)]; unfold ins; rw [if_pos (Nat.lt_succ_self _)]
      have hgp := hg p (by omega)
      rw [e0, nI_add, ec2, hap, dnI_a]
      refine br_f (nI_pos (by omega)) ⟨pk_in (8 * c + p) 40 (by omega), pk_le (g p) v (fun c1 => ⟨pk_in (8 * c + (p + 1)) 40 (by omega), put (Or.inr c1)⟩) (fun c1 => ⟨pk_in (8 * c + (p + 1)) 40 (by omega), ?_⟩) rfl rfl (by omega) (by omega)⟩
      refine ih p _ (by omega) (by omega) (hF.put hin) (fun j hj hj8 => ?_) (fun j hj hjm => ?_) (fun j hj hn => ?_)
      · rw [mp_i _ (by omega)]; exact hU j hj hj8
      · by_cases e : j = p
        · rw [e]; exact c1
        · exact hgt j (by omega) hjm
      · by_cases e : j = p + 1
        · subst e
          rw [mp_s]; unfold ins
          rw [if_neg (by omega), if_neg (by omega)]; rfl
        · rw [mp_i _ (by omega), hA j hj e]
          unfold ins
          by_cases e2 : j < p
          · rw [if_pos e2, if_pos (by omega)]
          · rw [if_neg e2, if_neg hn, if_neg (by omega), if_neg e]
theorem hl_so12 {M0 : Mem} (hS : SOK s) {C2 : Int32 → Mem → LMem → Prop} {K : Mem → LMem → Prop} {c : Nat} (hc : c < sG s 2) (h101 : M0 101 c = nI (oN s c)) (kk : ∀ M, Fr (c1h c) M0 M → (hw s c → ∃ f, SQ f (oN s c) (oT s c) ∧ ∀ j, j < oN s c → M 100 (8 * c + j) = nI (f j)) → C2 (nI (c + 1)) M L) :
    ∀ (f m : Nat) (g : Nat → Nat) (M : Mem), 1 ≤ m → m ≤ 8 → 20 < f + m → Fr (c1h c) M0 M → (hw s c → (∀ j, j < oN s c → M 100 (8 * c + j) = nI (if j < m then g j else oW s c j)) ∧ (∀ j j', j < j' → j' < m → g j < g j') ∧ (∀ t, (∃ j, j < m ∧ g j = t) ↔ ∃ j, j < m ∧ oW s c j = t) ∧ m ≤ oN s c) → PL_X10_sortWays_12 K C2 f (nI c) (nI m) M L := by
  intro f
  have h5 := hS.2.2.2.2.1
  induction f with
  | zero => intro m g M h1 h2 h3; omega
  | succ f ih =>
    intro m g M h1 h2 h3 hF hA
    unfold PL_X10_sortWays_12
    have h7 := oN_7 hS hc
    have e1 : (nI c).toNatClampNeg = c := nI_clamp (by omega)
    rw [nI_s, e1]
    refine ⟨pk_in c 5 (by omega), pk_le (oN s c) m (fun c1 => ?_) (fun c1 => ?_) ((hF 101 c rfl).trans h101) rfl (by omega) (by omega)⟩
    · refine kk M hF (fun hh => ?_)
      obtain ⟨a1, a2, a3, a4⟩ := hA hh
      have e : m = oN s c := by omega
      subst e
      refine ⟨g, ⟨a2, fun t => ?_⟩, fun j hj => ?_⟩
      · rw [oT_bit hh, a3 t]
      · rw [a1 j hj, if_pos hj]
    · have hh : hw s c := Classical.byContradiction (fun hn => by have := oN_neg hn; omega)
      obtain ⟨a1, a2, a3, a4⟩ := hA hh
      have e2 : Int32.ofInt 8 * nI c + nI m = nI (8 * c + m) := e8 c m
      have e3 : (nI (8 * c + m)).toNatClampNeg = 8 * c + m := nI_clamp (by omega)
      have hv := oW_q hS hc hh c1
      have hg12 : ∀ j, j < m → g j < 12 := fun j hj => by
        obtain ⟨i, i1, i2⟩ := (a3 (g j)).mp ⟨j, hj, rfl⟩
        rw [← i2]; exact oW_q hS hc hh (by omega)
      have hne : ∀ j, j < m → g j ≠ oW s c m := fun j hj e => by
        obtain ⟨i, i1, i2⟩ := (a3 (g j)).mp ⟨j, hj, rfl⟩
        rw [e] at i2
        have := oW_inj hS hc hh (show i < oN s c by omega) c1 i2
        omega
      rw [e2, e3, a1 m c1, if_neg (Nat.lt_irrefl _), dnI_s]
      refine ⟨pk_in (8 * c + m) 40 (by omega), hl_so39 (g := g) (by omega) (by omega) (fun j hj => by have := hg12 j hj; omega) (by omega) (fun M2 p hp hF2 hU hgt hle hA2 => ?_) 100000 m M (Nat.le_refl _) (by omega) (Fr.rf _ _) (fun j _ _ => rfl) (fun j h1 h2 => by omega) (fun j hj hn => ?_)⟩
      · refine ih (m + 1) (ins g p (oW s c m)) M2 (by omega) (by omega) (by omega) (hF.tr hF2) (fun _ => ⟨fun j hj => ?_, fun j j' hjj hj' => ?_, fun t => ?_, c1⟩)
        · by_cases e : j < m + 1
          · rw [if_pos e]; exact hA2 j (by omega)
          · rw [if_neg e, hU j (by omega) (by omega), a1 j hj, if_neg (by omega)]
        · have hlt : ∀ i, i < p → g i < oW s c m := fun i hi => by
            rcases hle with e | e
            · omega
            · have n1 := hne (p - 1) (by omega)
              rcases Nat.lt_or_ge i (p - 1) with q | q
              · have := a2 i (p - 1) q (by omega); omega
              · have : i = p - 1 := by omega
                rw [this]; omega
          unfold ins
          by_cases q1 : j' < p
          · rw [if_pos (by omega), if_pos q1]; exact a2 j j' hjj (by omega)
          · rw [if_neg q1]
            by_cases q2 : j' = p
            · rw [if_pos (by omega), if_pos q2]; exact hlt j (by omega)
            · rw [if_neg q2]
              by_cases q3 : j < p
              · rw [if_pos q3]; exact a2 j (j' - 1) (by omega) (by omega)
              · rw [if_neg q3]
                by_cases q4 : j = p
                · rw [if_pos q4]; exact hgt (j' - 1) (by omega) (by omega)
                · rw [if_neg q4]; exact a2 (j - 1) (j' - 1) (by omega) (by omega)
        · constructor
          · intro ⟨j, j1, j2⟩
            unfold ins at j2
            by_cases q1 : j < p
            · rw [if_pos q1] at j2
              obtain ⟨i, i1, i2⟩ := (a3 t).mp ⟨j, by omega, j2⟩
              exact ⟨i, by omega, i2⟩
            · rw [if_neg q1] at j2
              by_cases q2 : j = p
              · rw [if_pos q2] at j2; exact ⟨m, by omega, j2⟩
              · rw [if_neg q2] at j2
                obtain ⟨i, i1, i2⟩ := (a3 t).mp ⟨j - 1, by omega, j2⟩
                exact ⟨i, by omega, i2⟩
          · intro ⟨i, i1, i2⟩
            by_cases q : i = m
            · refine ⟨p, by omega, ?_⟩
              unfold ins; rw [if_neg (Nat.lt_irrefl _), if_pos rfl, ← q]; exact i2
            · obtain ⟨j, j1, j2⟩ := (a3 t).mpr ⟨i, by omega, i2⟩
              by_cases q1 : j < p
              · exact ⟨j, by omega, by unfold ins; rw [if_pos q1]; exact j2⟩
              · exact ⟨j + 1, by omega, by unfold ins; rw [if_neg (by omega), if_neg (by omega)]; exact j2⟩
      · rw [a1 j (by omega), if_pos (by omega)]
        unfold ins
        rw [if_pos (by omega)]
/-- the model's takes, as the rule asks -/
def WYs (M : Mem) (s : Stt) (ru : Nat) : Prop := ∀ c, c < sG s 2 → M 101 c = nI (oN s c) ∧ (hw s c → ∃ f, TKP s ru c f ∧ ∀ j, j < oN s c → M 100 (8 * c + j) = nI (f j))
theorem WYm.s0 {M : Mem} (h : WYm M s (sG s 2)) : WYs M s 0 := fun c hc => ⟨(h c hc).2.1, fun _ => ⟨oW s c, ⟨fun _ j _ => rfl, fun e => absurd rfl e⟩, (h c hc).2.2⟩⟩
theorem hl_so2 {M0 : Mem} (hI : INVs M0 s np pd) (hW : WYm M0 s (sG s 2)) {K : Mem → LMem → Prop} (kk : ∀ M, Fr cScr M0 M → WYs M s 1 → K M L) :
    ∀ (f k : Nat) (M : Mem), k ≤ sG s 2 → sG s 2 < f + k → Fr cScr M0 M → (∀ c, c < sG s 2 → M 101 c = nI (oN s c) ∧ (k ≤ c → ∀ j, j < oN s c → M 100 (8 * c + j) = nI (oW s c j)) ∧ (c < k → hw s c → ∃ f, SQ f (oN s c) (oT s c) ∧ ∀ j, j < oN s c → M 100 (8 * c + j) = nI (f j))) → PL_X10_sortWays_2 K f (nI k) M L := by
  intro f
  have hS := hI.1
  have h5 := hS.2.2.2.2.1
  induction f with
  | zero => intro k M h1 h2; omega
  | succ f ih =>
    intro k M h1 h2 hF hA
    unfold PL_X10_sortWays_2
    refine pk_le (sG s 2) k (fun c1 => ?_) (fun c1 => ?_) (hI.scr hF).2.2.1.wai
    · refine kk M hF (fun c hc => ⟨(hA c hc).1, fun hh => ?_⟩)
      obtain ⟨g, g1, g2⟩ := (hA c hc).2.2 (by omega) hh
      exact ⟨g, ⟨fun e => absurd e (by decide), fun _ => g1⟩, g2⟩
    · refine hl_so12 hS c1 (hA k c1).1 (fun M2 hF2 hq => ?_) 100000 1 (oW s k) M (by omega) (by omega) (by omega) (Fr.rf _ _) (fun hh => ⟨fun j hj => ?_, fun j j' h1 h2 => by omega, fun t => Iff.rfl, oN_1 hS c1 hh⟩)
      · refine ih (k + 1) M2 (by omega) (by omega) (hF.tr (c1h_scr hF2)) (fun c hc => ⟨(hF2 101 c rfl).trans (hA c hc).1, fun hk j hj => ?_, fun hk hh => ?_⟩)
        · have := oN_7 hS hc
          rw [hF2 100 _ (c1h_n (by omega))]
          exact (hA c hc).2.1 (by omega) j hj
        · by_cases e : c = k
          · rw [e] at hh ⊢; exact hq hh
          · obtain ⟨g, g1, g2⟩ := (hA c hc).2.2 (by omega) hh
            have := oN_7 hS hc
            exact ⟨g, g1, fun j hj => (hF2 100 _ (c1h_n (by omega))).trans (g2 j hj)⟩
      · rw [(hA k c1).2.1 (Nat.le_refl k) j hj]
        split <;> rfl
theorem h_sortWays {M : Mem} (hI : INVs M s np pd) (hW : WYm M s (sG s 2)) {K : Mem → LMem → Prop} (kk : ∀ M', Fr cScr M M' → WYs M' s 1 → K M' L) : P_X10_sortWays M L K := by
  have h5 := hI.1.2.2.2.2.1
  unfold P_X10_sortWays
  exact hl_so2 hI hW kk 100000 0 M (by omega) (by omega) (Fr.rf _ _) (fun c hc => ⟨(hW c hc).2.1, fun _ => (hW c hc).2.2, fun h => absurd h (Nat.not_lt_zero c)⟩)
end SRT
