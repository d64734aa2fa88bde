/-! ===== rests: there is one, and it stays itself ===== -/
theorem Sub.sb {p : Int} {W : Nat} {U : Vc → Prop} (h : Sub p W U) {x y : Vc} (hx : U x) (hc : cg p W x y) : U y := h.2.2.2 x y hc hx
/-- every such set of rows has an echelon -/
theorem ech_ex {p W : Nat} {U : Vc → Prop} (hp : isP p) (hp2 : p < 40000) (hU : Sub (p : Int) W U) : ∃ Rw : Nat → Vc, EchU (p : Int) W (LdU (p : Int) W U) Rw U := by
  have hp0 : (0 : Int) < (p : Int) := by have := hp.1; omega
  have h1 : ∀ c, ∃ r : Vc, LdU (p : Int) W U c → U r ∧ (∀ j, j < c → (p : Int) ∣ r j) ∧ (p : Int) ∣ r c - 1 := by
    intro c
    by_cases hL : LdU (p : Int) W U c
    · obtain ⟨hc, x, hx, hz, hn⟩ := hL
      have hr : 0 < x c % (p : Int) ∧ x c % (p : Int) < (p : Int) := ⟨by
        have a1 := Int.emod_nonneg (x c) (show (p : Int) ≠ 0 by omega)
        have a2 : x c % (p : Int) ≠ 0 := fun e => hn (emz.mp e)
        omega, Int.emod_lt_of_pos _ hp0⟩
      have hi := inv_ok hp hp2 hr
      generalize inv (p : Int) (x c % (p : Int)) = i at hi
      refine ⟨fun j => i * x j, fun _ => ⟨hU.2.2.1 i x hx, fun j hj => dvm i (hz j hj), ?_⟩⟩
      have a3 : cq (p : Int) (i * x c) (i * (x c % (p : Int))) := (cq.em.mpr (Int.emod_emod_of_dvd _ (Int.dvd_refl _)).symm).mu i
      exact a3.tr hi
    · exact ⟨fun _ => 0, fun h => absurd h hL⟩
  obtain ⟨Rw, hR⟩ := Classical.axiomOfChoice h1
  refine ⟨Rw, ⟨fun l hl hk => ⟨(hR l hk).2.2, (hR l hk).2.1⟩, fun x => ⟨fun hx => ?_, fun hx => spn_le hU (fun y hy => by
    obtain ⟨l, hl, hk, e⟩ := hy
    rw [e]
    exact (hR l hk).1) hx⟩⟩⟩
  have hS := spn_sub (p := (p : Int)) (W := W) (A := rws W (LdU (p : Int) W U) Rw)
  have key : ∀ c, c ≤ W → ∃ y, Spn (p : Int) W (rws W (LdU (p : Int) W U) Rw) y ∧ ∀ j, j < c → (p : Int) ∣ x j - y j := by
    intro c
    induction c with
    | zero => exact fun _ => ⟨fun _ => 0, hS.1, fun j hj => absurd hj (Nat.not_lt_zero _)⟩
    | succ c ih =>
      intro hc
      obtain ⟨y, hy, hz⟩ := ih (by omega)
      have yU : U y := spn_le hU (fun y hy => by
        obtain ⟨l, hl, hk, e⟩ := hy
        rw [e]
        exact (hR l hk).1) hy
      by_cases hd : (p : Int) ∣ x c - y c
      · exact ⟨y, hy, fun j hj => by
          by_cases e : j = c
          · rw [e]; exact hd
          · exact hz j (by omega)⟩
      · have hk : LdU (p : Int) W U c := ⟨by omega, fun j => x j - y j, hU.sub hx yU, hz, hd⟩
        obtain ⟨r1, r2, r3⟩ := hR c hk
        refine ⟨fun j => y j + (x c - y c) * Rw c j, hS.2.1 _ _ hy (hS.2.2.1 _ _ (spn_in ⟨c, by omega, hk, rfl⟩)), fun j hj => ?_⟩
        show (p : Int) ∣ x j - (y j + (x c - y c) * Rw c j)
        by_cases e : j = c
        · rw [e]
          have := dvm (x c - y c) r3
          rw [Int.mul_sub, Int.mul_one] at this
          obtain ⟨q, hq⟩ := this
          exact ⟨-q, by rw [Int.mul_neg, ← hq]; omega⟩
        · have a1 := hz j (by omega)
          have a2 := dvm (x c - y c) (r2 j (by omega))
          have := Int.dvd_sub a1 a2
          rw [show x j - (y j + (x c - y c) * Rw c j) = x j - y j - (x c - y c) * Rw c j by omega]
          exact this
  obtain ⟨y, hy, hz⟩ := key W (Nat.le_refl _)
  exact hS.2.2.2 y x (fun c hc => (emq.mpr (hz c hc)).symm) hy
/-- every one has a rest, in numbers below p -/
theorem rst_ex {p W : Nat} {U : Vc → Prop} (hp : isP p) (hp2 : p < 40000) (hU : Sub (p : Int) W U) (x : Vc) : ∃ z : Vc, RstU (p : Int) W (LdU (p : Int) W U) U x z ∧ ∀ c, 0 ≤ z c ∧ z c < (p : Int) := by
  have hp0 : (0 : Int) < (p : Int) := by have := hp.1; omega
  obtain ⟨Rw, hE⟩ := ech_ex hp hp2 hU
  have hr : ∀ l, l < W → LdU (p : Int) W U l → U (Rw l) := fun l hl hk => (hE.2 _).mpr (spn_in ⟨l, hl, hk, rfl⟩)
  have key : ∀ c, c ≤ W → ∃ y : Vc, U (fun j => x j - y j) ∧ ∀ j, j < c → LdU (p : Int) W U j → (p : Int) ∣ y j := by
    intro c
    induction c with
    | zero => exact fun _ => ⟨x, sub_of_zero hU (fun c _ => Int.sub_self _), fun j hj => absurd hj (Nat.not_lt_zero _)⟩
    | succ c ih =>
      intro hc
      obtain ⟨y, hy, hz⟩ := ih (by omega)
      by_cases hk : LdU (p : Int) W U c
      · have r := hE.1 c (by omega) hk
        refine ⟨fun j => y j - y c * Rw c j, ?_, fun j hj hjk => ?_⟩
        · have := hU.2.1 _ _ hy (hU.2.2.1 (y c) _ (hr c (by omega) hk))
          exact hU.sb this (fun j _ => by
            show (x j - y j + y c * Rw c j) % _ = (x j - (y j - y c * Rw c j)) % _
            congr 1
            omega)
        · show (p : Int) ∣ y j - y c * Rw c j
          by_cases e : j = c
          · rw [e]
            have := dvm (y c) r.1
            rw [Int.mul_sub, Int.mul_one] at this
            obtain ⟨q, hq⟩ := this
            exact ⟨-q, by rw [Int.mul_neg, ← hq]; omega⟩
          · exact Int.dvd_sub (hz j (by omega) hjk) (dvm (y c) (r.2 j (by omega)))
      · exact ⟨y, hy, fun j hj hjk => by
          by_cases e : j = c
          · rw [e] at hjk; exact absurd hjk hk
          · exact hz j (by omega) hjk⟩
  obtain ⟨y, hy, hz⟩ := key W (Nat.le_refl _)
  refine ⟨fun j => y j % (p : Int), ⟨hU.sb hy (fun j _ => ?_), fun c hc hk => ?_⟩, fun c => ⟨Int.emod_nonneg _ (by omega), Int.emod_lt_of_pos _ hp0⟩⟩
  · exact cq.em.mp (cq.rf.su (cq.em.mpr (Int.emod_emod_of_dvd _ (Int.dvd_refl _)).symm))
  · exact emz.mp (by rw [Int.emod_emod_of_dvd _ (Int.dvd_refl _)]; exact emz.mpr (hz c hc hk))
theorem cf_restL {M : List Int} {z : Vc} (hi : Inc M) {j : Nat} (hj : j < M.length) : ∀ c, c ≤ M.length → cf (restL M z c) (M.getD j 0) = if j < c then z j else 0
  | 0, _ => by rw [if_neg (Nat.not_lt_zero _)]; rfl
  | c + 1, hc => by
    rw [restL, cf_app, cf_restL hi hj c (by omega)]
    by_cases hz : z c = 0
    · rw [if_pos hz]
      show _ + 0 = _
      by_cases e : j = c
      · rw [if_neg (by omega), if_pos (by omega), e, hz]; rfl
      · by_cases h2 : j < c
        · rw [if_pos h2, if_pos (by omega)]; exact Int.add_zero _
        · rw [if_neg h2, if_neg (by omega)]; rfl
    · rw [if_neg hz]
      show _ + ((if M.getD c 0 = M.getD j 0 then z c else 0) + 0) = _
      by_cases e : j = c
      · rw [if_neg (by omega), if_pos (by rw [e]), if_pos (by omega), e]; omega
      · have hne : ¬ M.getD c 0 = M.getD j 0 := fun q => e (inc_eq hi hj (by omega) q.symm)
        rw [if_neg hne]
        by_cases h2 : j < c
        · rw [if_pos h2, if_pos (by omega)]; omega
        · rw [if_neg h2, if_neg (by omega)]; rfl
theorem restL_0 {M : List Int} {z : Vc} : ∀ {c : Nat}, (∀ j, j < c → z j = 0) → restL M z c = []
  | 0, _ => rfl
  | c + 1, h => by rw [restL, restL_0 (fun j hj => h j (by omega)), if_pos (h c (by omega))]; rfl
