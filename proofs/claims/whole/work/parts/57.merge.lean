/-! states that go to an act: class side -/
def m_chg (T : mTr) (o s : mSn) : Bool := anyN (fun j => decide (m_join T (o.2.2 j) (s.2.2 j) ≠ o.2.2 j)) s.2.1 || anyN (fun x => decide (m_join T (o.1 x) (s.1 x) ≠ o.1 x)) 8
def m_jn (T : mTr) (o s : mSn) : mSn := (fun x => m_join T (o.1 x) (s.1 x), s.2.1, fun j => m_join T (o.2.2 j) (s.2.2 j))
def m_bad (T : mTr) (o s : mSn) : Bool := anyN (fun j => decide (m_join T (o.2.2 j) (s.2.2 j) = 0)) s.2.1
abbrev mC : Type := (Nat → Bool) × (Nat → Bool) × (Nat → mSn)
def m_arr (T : mTr) (n : Nat) (chk : Bool) (at_ : Nat) (s : mSn) (C : mC) : Nat × mC :=
  if ¬ at_ < n then (5, C) else if (chk && m_unm s) = true then (6, C) else if C.1 at_ = false then (0, nup C.1 at_ true, nup C.2.1 at_ true, nup C.2.2 at_ s)
  else if (C.2.2 at_).2.1 ≠ s.2.1 then (4, C) else if m_bad T (C.2.2 at_) s = true then (2, C) else (0, C.1, nup C.2.1 at_ (C.2.1 at_ || m_chg T (C.2.2 at_) s), nup C.2.2 at_ (m_jn T (C.2.2 at_) s))
/-- only the act's flags 3, 4 and its state have changed -/
def fq (q : Nat) (I I' : zI) : Prop := (∀ b, (b < q ∨ q + 4 ≤ b) → I' b = I b) ∧ ∀ k, k ≠ 3 → k ≠ 4 → I' q k = I q k
theorem fq.rf {q : Nat} {I : zI} : fq q I I := ⟨fun _ _ => rfl, fun _ _ _ => rfl⟩
theorem fq.trans {q : Nat} {I I1 I2 : zI} (h : fq q I I1) (g : fq q I1 I2) : fq q I I2 := ⟨fun b hb => (g.1 b hb).trans (h.1 b hb), fun k h3 h4 => (g.2 k h3 h4).trans (h.2 k h3 h4)⟩
theorem fq.of {q : Nat} {I I' : zI} (h : fr (q + 1) 3 I I') : fq q I I' := ⟨fun b hb => h b (by omega), fun k _ _ => by rw [h q (by omega)]⟩
theorem fq.up {q k : Nat} {I I' : zI} {x : Int32} (h : fq q I I') (hk : k = 3 ∨ k = 4) : fq q I (z_up I' q k x) := ⟨fun b hb => by rw [z_up_off (by omega)]; exact h.1 b hb, fun j h3 h4 => by rw [z_up_ne (Or.inr (by omega))]; exact h.2 j h3 h4⟩
theorem fq.fr {q : Nat} {I I' : zI} (h : fq q I I') : fr q 4 I I' := h.1
section CM
variable {F : Nat} {S : zS} {t cm q a : Nat} {T : mTr} {o s : mSn}
theorem mg_pl (hcm : S.1 cm 0 = some t) (hb : cOK S (q + 1)) (ha : cOK S a) (hda : a + 3 ≤ q ∨ q + 4 ≤ a) (hdt : t + 3 ≤ q ∨ q + 4 ≤ t) (hF : 20 ≤ F) (h : Nat) (st : Nat → Nat) (d : Bool) : ∀ (m i : Nat) (J : zI), i ≤ 8 → 8 < i + m → cT S J t T → cSn J a s → cSn J (q + 1) (fun x => if x < i then m_join T (o.1 x) (s.1 x) else o.1 x, h, st) → J q 4 = b2i (d || anyN (fun x => decide (m_join T (o.1 x) (s.1 x) ≠ o.1 x)) i) →
    ∃ I', z_X2_merge_102 F S m cm q a (q + 1) (nI i) J = some (0, I') ∧ cSn I' (q + 1) (fun x => m_join T (o.1 x) (s.1 x), h, st) ∧ I' q 4 = b2i (d || anyN (fun x => decide (m_join T (o.1 x) (s.1 x) ≠ o.1 x)) 8) ∧ I' q 3 = J q 3 ∧ fq q J I' := by
  intro m
  induction m with
  | zero => intro i J h1 h2; omega
  | succ m ih =>
    intro i J h1 h2 hT hs hJ hdu
    show ∃ I', z_X2_merge_102B F S (z_X2_merge_102 F S m) cm q a (q + 1) (nI i) J = some (0, I') ∧ _
    unfold z_X2_merge_102B
    rw [nl8]
    by_cases hi : i < 8
    · have hb1 : J (q + 1 + 1) i = nI (if i < i then m_join T (o.1 i) (s.1 i) else o.1 i) := (hJ.1 i hi).1
      have hb2 : (if i < i then m_join T (o.1 i) (s.1 i) else o.1 i) < 200 := (hJ.1 i hi).2
      rw [if_neg (by omega)] at hb1 hb2
      rw [if_pos ((nI_ltI (by omega) (by omega)).mpr hi), ob_mk (s_inPlace hb hi), hb1, ob_mk hcm, ob_mk (s_inPlace ha hi), (hs.1 i hi).1, ob_mk (t_join hF hT hb2 (hs.1 i hi).2)]
      have hjl := m_join_lt hT.2.2.2.2.2.1 hb2 (hs.1 i hi).2
      have key : ∀ (v : Bool), v = (d || anyN (fun x => decide (m_join T (o.1 x) (s.1 x) ≠ o.1 x)) (i + 1)) → ∃ I', z_X2_merge_154 F S (z_X2_merge_102 F S m) cm q a (q + 1) (nI i) (nI (m_join T (o.1 i) (s.1 i))) q (b2i v) J = some (0, I') ∧ cSn I' (q + 1) (fun x => m_join T (o.1 x) (s.1 x), h, st) ∧ I' q 4 = b2i (d || anyN (fun x => decide (m_join T (o.1 x) (s.1 x) ≠ o.1 x)) 8) ∧ I' q 3 = J q 3 ∧ fq q J I' := by
        intro v hv
        unfold z_X2_merge_154
        rw [if_pos (b2i_01 v), ob_mk (s_setPlace hb hi _), nI_1]
        have f1 : fq q J (z_up (z_up J q 4 (b2i v)) (q + 1 + 1) i (nI (m_join T (o.1 i) (s.1 i)))) := (fq.rf.up (Or.inr rfl)).trans (fq.of (fr.rf.up (by omega) (by omega)))
        obtain ⟨I', g1, g2, g3, g4, g5⟩ := ih (i + 1) (z_up (z_up J q 4 (b2i v)) (q + 1 + 1) i (nI (m_join T (o.1 i) (s.1 i)))) (by omega) (by omega) (hT.fr f1.fr hdt) (hs.fr f1.fr hda) ⟨fun x hx => by
          show _ = nI (if x < i + 1 then m_join T (o.1 x) (s.1 x) else o.1 x) ∧ (if x < i + 1 then m_join T (o.1 x) (s.1 x) else o.1 x) < 200
          by_cases hxi : x = i
          · subst hxi; rw [z_up_at, if_pos (by omega)]; exact ⟨rfl, hjl⟩
          · rw [z_up_ne (Or.inr hxi), z_up_ne (Or.inl (by omega))]
            have hx2 : J (q + 1 + 1) x = nI (if x < i then m_join T (o.1 x) (s.1 x) else o.1 x) ∧ (if x < i then m_join T (o.1 x) (s.1 x) else o.1 x) < 200 := hJ.1 x hx
            have e : (x < i + 1) = (x < i) := by apply propext; omega
            simp only [e]; exact hx2, by
          rw [z_up_ne (Or.inl (by omega)), z_up_ne (Or.inl (by omega))]; exact hJ.2.1, hJ.2.2.1, fun j hj => by
          rw [z_up_ne (Or.inl (by omega)), z_up_ne (Or.inl (by omega))]; exact hJ.2.2.2 j hj⟩ (by rw [z_up_ne (Or.inl (by omega)), z_up_at, hv])
        refine ⟨I', g1, g2, g3, ?_, f1.trans g5⟩
        rw [g4, z_up_ne (Or.inl (by omega)), z_up_ne (Or.inr (by omega))]
      have ex : anyN (fun x => decide (m_join T (o.1 x) (s.1 x) ≠ o.1 x)) (i + 1) = (anyN (fun x => decide (m_join T (o.1 x) (s.1 x) ≠ o.1 x)) i || decide (m_join T (o.1 i) (s.1 i) ≠ o.1 i)) := rfl
      by_cases hd0 : (d || anyN (fun x => decide (m_join T (o.1 x) (s.1 x) ≠ o.1 x)) i) = false
      · rw [if_pos (by rw [hdu, hd0]; rfl)]
        by_cases he : m_join T (o.1 i) (s.1 i) = o.1 i
        · rw [if_pos (by rw [he])]
          have := key false (by rw [ex, ← Bool.or_assoc, hd0, decide_eq_false (fun q => q he)]; rfl)
          exact this
        · rw [if_neg (fun q => he ((nI_eq (by omega) (by omega)).mp q))]
          have := key true (by rw [ex, ← Bool.or_assoc, hd0, decide_eq_true he]; rfl)
          exact this
      · have hd1 : (d || anyN (fun x => decide (m_join T (o.1 x) (s.1 x) ≠ o.1 x)) i) = true := by
          cases hv : (d || anyN (fun x => decide (m_join T (o.1 x) (s.1 x) ≠ o.1 x)) i)
          · exact absurd hv hd0
          · rfl
        rw [if_neg (by rw [hdu, hd1]; decide)]
        have := key true (by rw [ex, ← Bool.or_assoc, hd1]; rfl)
        exact this
    · rw [if_neg (fun q => hi ((nI_ltI (by omega) (by omega)).mp q))]
      have hi8 : i = 8 := by omega
      subst hi8
      refine ⟨J, rfl, ⟨fun x hx => ?_, hJ.2⟩, hdu, rfl, fq.rf⟩
      have hx2 : J (q + 1 + 1) x = nI (if x < 8 then m_join T (o.1 x) (s.1 x) else o.1 x) ∧ (if x < 8 then m_join T (o.1 x) (s.1 x) else o.1 x) < 200 := hJ.1 x hx
      rw [if_pos hx] at hx2
      exact hx2
theorem mg_st (hcm : S.1 cm 0 = some t) (hb : cOK S (q + 1)) (ha : cOK S a) (hda : a + 3 ≤ q ∨ q + 4 ≤ a) (hdt : t + 3 ≤ q ∨ q + 4 ≤ t) (hF : 20 ≤ F) (he0 : o.2.1 = s.2.1) (d : Bool) : ∀ (m i : Nat) (J : zI), i ≤ s.2.1 → s.2.1 < i + m → cT S J t T → cSn J a s → cSn J (q + 1) (o.1, s.2.1, fun j => if j < i then m_join T (o.2.2 j) (s.2.2 j) else o.2.2 j) → J q 4 = b2i (d || anyN (fun j => decide (m_join T (o.2.2 j) (s.2.2 j) ≠ o.2.2 j)) i) → (∀ j, j < i → m_join T (o.2.2 j) (s.2.2 j) ≠ 0) →
    ∃ I', z_X2_merge_21 F S m cm q a (q + 1) (nI i) J = some (nI (if m_bad T o s = true then 2 else 0), I') ∧ (m_bad T o s = false → cSn I' (q + 1) (m_jn T o s) ∧ I' q 4 = b2i (d || m_chg T o s) ∧ I' q 3 = J q 3) ∧ fq q J I' := by
  intro m
  induction m with
  | zero => intro i J h1 h2; omega
  | succ m ih =>
    intro i J h1 h2 hT hs hJ hdu hnz
    have h10 := hs.2.2.1
    show ∃ I', z_X2_merge_21B F S (z_X2_merge_21 F S m) cm q a (q + 1) (nI i) J = some (_, I') ∧ _
    unfold z_X2_merge_21B
    rw [hs.2.1]
    by_cases hi : i < s.2.1
    · have e1 := s_onStack (F := F) hb hJ (j := i) hi
      rw [show ((o.1, s.2.1, fun j => if j < i then m_join T (o.2.2 j) (s.2.2 j) else o.2.2 j) : mSn).2.2 i = o.2.2 i from by show (if i < i then m_join T (o.2.2 i) (s.2.2 i) else o.2.2 i) = _; rw [if_neg (by omega)]] at e1
      have hb2 : (if i < i then m_join T (o.2.2 i) (s.2.2 i) else o.2.2 i) < 200 := (hJ.2.2.2 i hi).2
      rw [if_neg (by omega)] at hb2
      rw [if_pos ((nI_ltI (by omega) (by omega)).mpr hi), ob_mk e1, ob_mk hcm, ob_mk (s_onStack ha hs hi), ob_mk (t_join hF hT hb2 (hs.2.2.2 i hi).2)]
      have hjl := m_join_lt hT.2.2.2.2.2.1 hb2 (hs.2.2.2 i hi).2
      by_cases hz : m_join T (o.2.2 i) (s.2.2 i) = 0
      · have hbad : m_bad T o s = true := anyN_iff.mpr ⟨i, hi, decide_eq_true hz⟩
        rw [if_pos (by rw [hz]; rfl), hbad]
        exact ⟨J, rfl, fun g => absurd g (by decide), fq.rf⟩
      · rw [if_neg (fun g => hz ((nI_eq (by omega) (by omega)).mp (g.trans nl0)))]
        have key : ∀ (v : Bool), v = (d || anyN (fun j => decide (m_join T (o.2.2 j) (s.2.2 j) ≠ o.2.2 j)) (i + 1)) → ∃ I', z_X2_merge_82 F S (z_X2_merge_21 F S m) cm q a (q + 1) (nI i) (nI (m_join T (o.2.2 i) (s.2.2 i))) q (b2i v) J = some (nI (if m_bad T o s = true then 2 else 0), I') ∧ (m_bad T o s = false → cSn I' (q + 1) (m_jn T o s) ∧ I' q 4 = b2i (d || m_chg T o s) ∧ I' q 3 = J q 3) ∧ fq q J I' := by
          intro v hv
          unfold z_X2_merge_82
          rw [if_pos (b2i_01 v), ob_mk (s_setStack hb (h := s.2.1) (by rw [z_up_ne (Or.inl (by omega))]; exact hJ.2.1) h10 hi _), nI_1]
          have f1 : fq q J (z_up (z_up J q 4 (b2i v)) (q + 1 + 2) i (nI (m_join T (o.2.2 i) (s.2.2 i)))) := (fq.rf.up (Or.inr rfl)).trans (fq.of (fr.rf.up (by omega) (by omega)))
          obtain ⟨I', g1, g2, g3⟩ := ih (i + 1) (z_up (z_up J q 4 (b2i v)) (q + 1 + 2) i (nI (m_join T (o.2.2 i) (s.2.2 i)))) (by omega) (by omega) (hT.fr f1.fr hdt) (hs.fr f1.fr hda) ⟨fun x hx => by
            rw [z_up_ne (Or.inl (by omega)), z_up_ne (Or.inl (by omega))]; exact hJ.1 x hx, by
            rw [z_up_ne (Or.inl (by omega)), z_up_ne (Or.inl (by omega))]; exact hJ.2.1, h10, fun j hj => by
            show _ = nI (if j < i + 1 then m_join T (o.2.2 j) (s.2.2 j) else o.2.2 j) ∧ (if j < i + 1 then m_join T (o.2.2 j) (s.2.2 j) else o.2.2 j) < 200
            by_cases hji : j = i
            · subst hji; rw [z_up_at, if_pos (by omega)]; exact ⟨rfl, hjl⟩
            · rw [z_up_ne (Or.inr hji), z_up_ne (Or.inl (by omega))]
              have hx2 : J (q + 1 + 2) j = nI (if j < i then m_join T (o.2.2 j) (s.2.2 j) else o.2.2 j) ∧ (if j < i then m_join T (o.2.2 j) (s.2.2 j) else o.2.2 j) < 200 := hJ.2.2.2 j hj
              have e : (j < i + 1) = (j < i) := by apply propext; omega
              simp only [e]; exact hx2⟩ (by rw [z_up_ne (Or.inl (by omega)), z_up_at, hv]) (fun j hj => by
            by_cases hji : j = i
            · subst hji; exact hz
            · exact hnz j (by omega))
          refine ⟨I', g1, fun hg => ?_, f1.trans g3⟩
          obtain ⟨k1, k2, k3⟩ := g2 hg
          refine ⟨k1, k2, ?_⟩
          rw [k3, z_up_ne (Or.inl (by omega)), z_up_ne (Or.inr (by omega))]
        have ex : anyN (fun j => decide (m_join T (o.2.2 j) (s.2.2 j) ≠ o.2.2 j)) (i + 1) = (anyN (fun j => decide (m_join T (o.2.2 j) (s.2.2 j) ≠ o.2.2 j)) i || decide (m_join T (o.2.2 i) (s.2.2 i) ≠ o.2.2 i)) := rfl
        by_cases hd0 : (d || anyN (fun j => decide (m_join T (o.2.2 j) (s.2.2 j) ≠ o.2.2 j)) i) = false
        · rw [if_pos (by rw [hdu, hd0]; rfl)]
          by_cases he : m_join T (o.2.2 i) (s.2.2 i) = o.2.2 i
          · rw [if_pos (by rw [he])]
            have := key false (by rw [ex, ← Bool.or_assoc, hd0, decide_eq_false (fun g => g he)]; rfl)
            exact this
          · rw [if_neg (fun g => he ((nI_eq (by omega) (by omega)).mp g))]
            have := key true (by rw [ex, ← Bool.or_assoc, hd0, decide_eq_true he]; rfl)
            exact this
        · have hd1 : (d || anyN (fun j => decide (m_join T (o.2.2 j) (s.2.2 j) ≠ o.2.2 j)) i) = true := by
            cases hv : (d || anyN (fun j => decide (m_join T (o.2.2 j) (s.2.2 j) ≠ o.2.2 j)) i)
            · exact absurd hv hd0
            · rfl
          rw [if_neg (by rw [hdu, hd1]; decide)]
          have := key true (by rw [ex, ← Bool.or_assoc, hd1]; rfl)
          exact this
    · have hie : i = s.2.1 := by omega
      rw [if_neg (fun g => hi ((nI_ltI (by omega) (by omega)).mp g)), nl0]
      have hbad : m_bad T o s = false := anyN_f.mpr (fun j hj => decide_eq_false (hnz j (by omega)))
      obtain ⟨I', g1, g2, g3, g4, g5⟩ := mg_pl (T := T) (o := o) (s := s) hcm hb ha hda hdt hF s.2.1 (fun j => m_join T (o.2.2 j) (s.2.2 j)) (d || anyN (fun j => decide (m_join T (o.2.2 j) (s.2.2 j) ≠ o.2.2 j)) s.2.1) F 0 J (by omega) (by omega) hT hs ⟨fun x hx => by
        show _ = nI (if x < 0 then m_join T (o.1 x) (s.1 x) else o.1 x) ∧ (if x < 0 then m_join T (o.1 x) (s.1 x) else o.1 x) < 200
        rw [if_neg (by omega)]; exact hJ.1 x hx, hJ.2.1, h10, fun j hj => by
        have hx2 : J (q + 1 + 2) j = nI (if j < i then m_join T (o.2.2 j) (s.2.2 j) else o.2.2 j) ∧ (if j < i then m_join T (o.2.2 j) (s.2.2 j) else o.2.2 j) < 200 := hJ.2.2.2 j hj
        have hj2 : j < s.2.1 := hj
        rw [if_pos (by omega)] at hx2; exact hx2⟩ (by rw [hdu, hie]; show _ = b2i (_ || false); rw [Bool.or_false])
      rw [hbad, if_neg (by decide)]
      refine ⟨I', g1, fun _ => ⟨g2, ?_, g4⟩, g5⟩
      rw [g3, Bool.or_assoc]; rfl
end CM
