/-! ===== X5.mix: f + num mono g ===== -/
def fits (cap : Nat) (L : List Tm) : Prop := L.length ≤ cap ∧ ∀ t ∈ L, ¬ hi t.1
section MIX
variable {G : Gl} {S : Sh} {R : MR} {a b d x5 cap capb capd : Nat} {f g L : List Tm} {p num mono : Int} {Q : Sh → MI → MR → Int → Prop} {I0 : MI}
/-- what a run of mix stands on -/
def mixI (S : Sh) (R : MR) (a b d x5 cap capb capd : Nat) (f g : List Tm) (p num mono : Int) : Prop :=
  PolyS S R a cap ∧ PolyS S R b capb ∧ PolyS S R d capd ∧ apt b a ∧ apt d a ∧ (x5 ≠ a ∧ x5 ≠ a + 1 ∧ x5 ≠ a + 2) ∧ cap ≤ 100000 ∧ (f.length ≤ capb ∧ g.length ≤ capd ∧ capb ≤ 100000 ∧ capd ≤ 100000) ∧ (0 ≤ num ∧ num < p) ∧ (0 ≤ mono ∧ mono < 500000000) ∧
  (∀ t ∈ f, okm t.1 ∧ 0 ≤ t.2 ∧ t.2 < p) ∧ (∀ t ∈ g, okm t.1 ∧ okm (t.1 + (mono - 262143)) ∧ 0 ≤ t.2 ∧ t.2 < p)
theorem mix_loop (h : mixI S R a b d x5 cap capb capd f g p num mono)
    (h1 : ∀ I', off3 I0 I' a → fits cap L → Has I' a L → Q S I' R 1) (h0 : ∀ I', off3 I0 I' a → ¬ fits cap L → Q S I' R 0) :
    ∀ (n i j : Nat) (out : List Tm) (I : MI) (tn : Int), f.length - i + (g.length - j) = n → (n : Int) ≤ tn → tn < 1000000 → i ≤ f.length → j ≤ g.length → off3 I0 I a → Has I a out → Has I b f → Has I d g → NumS S I x5 p → out.length ≤ cap → (∀ t ∈ out, ¬ hi t.1) →
      out ++ mg p num (mono - 262143) (f.drop i) (g.drop j) = L → LX5_mix_23 G a b num mono d x5 (i : Int) (j : Int) tn S I R Q := by
  obtain ⟨pa, pb, pd, ab, ad, xa, hcap, hlen, hnum, hmono, hf, hg⟩ := h
  intro n
  induction n using Nat.strongRecOn with
  | _ n ih =>
    intro i j out I tn hn htn htn2 hi1 hj1 hoff hout hbf hdg hN hol hoh hL
    have step : ∀ (i' j' : Nat) (m s l r : Int), f.length - i' + (g.length - j') < n → i' ≤ f.length → j' ≤ g.length → min l r = m → okm m → 0 ≤ s ∧ s < p → out ++ cons0 s m (mg p num (mono - 262143) (f.drop i') (g.drop j')) = L → LX5_mix_168 G a b num mono d x5 (i' : Int) (j' : Int) tn l r s S I R Q := by
      intro i' j' m s l r hlt hi' hj' hmin hm hs hL'
      refine bX5_mix_168 ⟨fun c => ?_, fun c => ?_⟩
      · rw [w32_id (by omega)]
        have e : cons0 s m (mg p num (mono - 262143) (f.drop i') (g.drop j')) = mg p num (mono - 262143) (f.drop i') (g.drop j') := if_pos c
        rw [e] at hL'
        exact ih _ hlt i' j' out I (tn + -1) rfl (by omega) (by omega) hi' hj' hoff hout hbf hdg hN hol hoh hL'
      · have e : cons0 s m (mg p num (mono - 262143) (f.drop i') (g.drop j')) = (m, s) :: mg p num (mono - 262143) (f.drop i') (g.drop j') := if_neg c
        rw [e] at hL'
        refine ⟨pa.1, ?_⟩
        rw [hmin]
        refine append_spec pa hout hm hcap (fun I' ho hlt2 hnh hhas => ?_) (fun hbad => ?_)
        · refine br_t (by decide) ?_
          rw [w32_id (by omega)]
          refine ih _ hlt i' j' (out ++ [(m, s)]) I' (tn + -1) rfl (by omega) (by omega) hi' hj' (hoff.tr ho) hhas (hbf.off ho ab) (hdg.off ho ad) ⟨hN.1, by rw [ho x5 xa.1 xa.2.1 xa.2.2]; exact hN.2.1, hN.2.2⟩ (by rw [List.length_append]; exact hlt2) (fun t ht => ?_) (by rw [List.append_assoc]; exact hL')
          rcases List.mem_append.mp ht with ht | ht
          · exact hoh t ht
          · rcases List.mem_singleton.mp ht with rfl
            exact hnh
        · refine br_f (by decide) (h0 I hoff (fun hfit => ?_))
          rcases hbad with hbad | hbad
          · have := hfit.1
            rw [← hL', List.length_append, List.length_cons] at this
            omega
          · exact hfit.2 (m, s) (by rw [← hL']; simp) hbad
    obtain ⟨t0, r0, r1, t1, t2, l1, l2⟩ := id pa
    obtain ⟨bt0, br0, br1, bt1, bt2, bl1, bl2⟩ := id pb
    obtain ⟨dt0, dr0, dr1, dt1, dt2, dl1, dl2⟩ := id pd
    have hp0 : 0 < p := by have := hN.2.2; omega
    have emr : ∀ z : Int, 0 ≤ z % p ∧ z % p < p := fun z => ⟨Int.emod_nonneg _ (by omega), Int.emod_lt_of_pos _ hp0⟩
    by_cases hdone : n = 0
    · have hfit : fits cap L := by
        rw [List.drop_eq_nil_of_le (by omega), List.drop_eq_nil_of_le (by omega), mg, List.append_nil] at hL
        rw [← hL]; exact ⟨hol, hoh⟩
      have hhas : Has I a L := by
        rw [List.drop_eq_nil_of_le (by omega), List.drop_eq_nil_of_le (by omega), mg, List.append_nil] at hL
        rw [← hL]; exact hout
      have q1 := h1 I hoff hfit hhas
      refine bX5_mix_23 ⟨fun _ => q1, fun _ => ⟨bt0, ?_⟩⟩
      rw [hbf.1, hdg.1]
      exact br_f (by omega) ⟨dt0, br_t (by omega) q1⟩
    · have enter : LX5_mix_47 G a b num mono d x5 (i : Int) (j : Int) tn S I R Q → LX5_mix_23 G a b num mono d x5 (i : Int) (j : Int) tn S I R Q := fun k => by
        refine bX5_mix_23 (br_f (by omega) ⟨bt0, ?_⟩)
        rw [hbf.1, hdg.1]
        refine ⟨fun _ => k, fun c => ⟨dt0, br_f (by omega) k⟩⟩
      refine enter ?_
      refine bX5_mix_47 ⟨bt0, ?_⟩
      rw [hbf.1, br0, bt1, bl1]
      by_cases hif : i < f.length
      · have hfi := hbf.at hif
        have hfo := hf _ (List.getElem_mem hif)
        have hfd : f.drop i = f[i] :: f.drop (i + 1) := List.drop_eq_getElem_cons hif
        refine br_f (by omega) ⟨rfl, ⟨by omega, by omega⟩, ?_⟩
        rw [show Int.toNat (i : Int) = i by omega, hfi.1]
        refine bX5_mix_68 ⟨dt0, ?_⟩
        rw [hdg.1, dr0, dt1, dl1]
        by_cases hjg : j < g.length
        · have hgj := hdg.at hjg
          have hgo := hg _ (List.getElem_mem hjg)
          have hgd : g.drop j = g[j] :: g.drop (j + 1) := List.drop_eq_getElem_cons hjg
          refine br_f (by omega) ⟨rfl, ⟨by omega, by omega⟩, ?_⟩
          rw [show Int.toNat (j : Int) = j by omega, hgj.1, vtimes ⟨hgo.1.1, hgo.1.2.1⟩ hmono]
          rw [hfd, hgd, mg] at hL
          refine bX5_mix_97 ⟨fun c => ?_, fun c => ⟨bt0, ?_⟩⟩
          · -- the right one is first
            rw [if_neg (by omega), if_pos (by omega)] at hL
            refine bX5_mix_130 (br_f (by omega) ⟨dt0, ?_⟩)
            rw [hdg.1, dr1, dt2, dl2]
            refine br_f (by omega) ⟨rfl, ⟨by omega, by omega⟩, hN.1, p4pt hN, ?_⟩
            rw [show Int.toNat (j : Int) = j by omega, hgj.2, v4pt hN ⟨by omega, by omega⟩ hnum hgo.2.2, add1 (by omega)]
            rw [← hfd] at hL
            exact step i (j + 1) (g[j].1 + (mono - 262143)) _ _ _ (by omega) hi1 (by omega) (by omega) hgo.2.1 (emr _) hL
          · rw [hbf.1, br1, bt2, bl2]
            refine br_f (by omega) ⟨rfl, ⟨by omega, by omega⟩, ?_⟩
            rw [show Int.toNat (i : Int) = i by omega, hfi.2, add1 (by omega)]
            refine bX5_mix_130 ⟨fun c2 => ?_, fun c2 => ⟨dt0, ?_⟩⟩
            · rw [if_pos (by omega)] at hL
              rw [← hgd] at hL
              exact step (i + 1) j f[i].1 _ _ _ (by omega) (by omega) hj1 (by omega) hfo.1 hfo.2 hL
            · rw [if_neg (by omega), if_neg (by omega)] at hL
              rw [hdg.1, dr1, dt2, dl2]
              refine br_f (by omega) ⟨rfl, ⟨by omega, by omega⟩, hN.1, p4pt hN, ?_⟩
              rw [show Int.toNat (j : Int) = j by omega, hgj.2, v4pt hN hfo.2 hnum hgo.2.2, add1 (by omega)]
              exact step (i + 1) (j + 1) f[i].1 _ _ _ (by omega) (by omega) (by omega) (by omega) hfo.1 (emr _) hL
        · have hgn : g.drop j = [] := List.drop_eq_nil_of_le (by omega)
          refine br_t (by omega) ?_
          rw [hfd, hgn, mg, ← hgn] at hL
          have hb : f[i].1 < 500000000 := hfo.1.2.1
          refine bX5_mix_97 (br_f (by omega) ⟨bt0, ?_⟩)
          rw [hbf.1, br1, bt2, bl2]
          refine br_f (by omega) ⟨rfl, ⟨by omega, by omega⟩, ?_⟩
          rw [show Int.toNat (i : Int) = i by omega, hfi.2, add1 (by omega)]
          refine bX5_mix_130 (br_t (by omega) ?_)
          exact step (i + 1) j f[i].1 _ _ _ (by omega) (by omega) hj1 (by omega) hfo.1 hfo.2 hL
      · have hfn : f.drop i = [] := List.drop_eq_nil_of_le (by omega)
        have hjg : j < g.length := by omega
        have hgj := hdg.at hjg
        have hgo := hg _ (List.getElem_mem hjg)
        have hgd : g.drop j = g[j] :: g.drop (j + 1) := List.drop_eq_getElem_cons hjg
        refine br_t (by omega) ?_
        refine bX5_mix_68 ⟨dt0, ?_⟩
        rw [hdg.1, dr0, dt1, dl1]
        refine br_f (by omega) ⟨rfl, ⟨by omega, by omega⟩, ?_⟩
        rw [show Int.toNat (j : Int) = j by omega, hgj.1, vtimes ⟨hgo.1.1, hgo.1.2.1⟩ hmono]
        rw [hfn, hgd, mg, ← hfn] at hL
        have hb : g[j].1 + (mono - 262143) < 500000000 := hgo.2.1.2.1
        refine bX5_mix_97 (br_t (by omega) ?_)
        refine bX5_mix_130 (br_f (by omega) ⟨dt0, ?_⟩)
        rw [hdg.1, dr1, dt2, dl2]
        refine br_f (by omega) ⟨rfl, ⟨by omega, by omega⟩, hN.1, p4pt hN, ?_⟩
        rw [show Int.toNat (j : Int) = j by omega, hgj.2, v4pt hN ⟨by omega, by omega⟩ hnum hgo.2.2, add1 (by omega)]
        exact step i (j + 1) (g[j].1 + (mono - 262143)) _ _ _ (by omega) hi1 (by omega) (by omega) hgo.2.1 (emr _) hL
theorem mix_spec (h : mixI S R a b d x5 cap capb capd f g p num mono) (hbf : Has I0 b f) (hdg : Has I0 d g) (hN : NumS S I0 x5 p)
    (h1 : ∀ I', off3 I0 I' a → fits cap (mg p num (mono - 262143) f g) → Has I' a (mg p num (mono - 262143) f g) → Q S I' R 1) (h0 : ∀ I', off3 I0 I' a → ¬ fits cap (mg p num (mono - 262143) f g) → Q S I' R 0) : CI G MX5_mix [vR a, vR b, vI num, vI mono, vR d, vR x5] S I0 R Q := by
  obtain ⟨pa, pb, pd, ab, ad, xa, hcap, hlen, hnum, hmono, hf, hg⟩ := id h
  refine bX5_mix ⟨pa.1, ?_⟩
  intro I2 e2
  have ho : off3 I0 I2 a := off3.u e2 (by omega)
  have hb2 := hbf.off ho ab
  have hd2 := hdg.off ho ad
  refine ⟨pb.1, pd.1, ?_⟩
  rw [hb2.1, hd2.1, w32_id (by omega)]
  exact mix_loop h h1 h0 (f.length + g.length) 0 0 [] I2 _ (by omega) (by omega) (by omega) (by omega) (by omega) ho ⟨by rw [u_s e2]; rfl, fun i t ht => by simp at ht⟩ hb2 hd2 ⟨hN.1, by rw [ho x5 xa.1 xa.2.1 xa.2.2]; exact hN.2.1, hN.2.2⟩ (by simp) (fun t ht => by cases ht) (by simp)
end MIX

