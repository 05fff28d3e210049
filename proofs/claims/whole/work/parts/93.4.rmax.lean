/-! the reference: told, shared, maximum -/
theorem m_mx_bd {f : Nat → Nat} {b : Nat} : ∀ n, (∀ p, p < n → f p ≤ b) → m_mx f n ≤ b := by
  intro n
  induction n with
  | zero => intro _; exact Nat.zero_le _
  | succ n ih =>
    intro h
    simp only [m_mx]
    have := ih (fun p hp => h p (by omega))
    have := h n (by omega)
    omega
theorem mEq.sn {I : zI} {a o : Nat} {s s' : mSn} (h : mEq s s') (g : rSn I a o s') : rSn I a o s := ⟨fun x hx => by rw [h.2.1 x hx]; exact g.1 x hx, by rw [h.1]; exact g.2.1, fun j hj => by rw [h.2.2 j hj]; exact g.2.2 j (by rw [← h.1]; exact hj)⟩
/-- what is told of a method, in the reference's rows -/
def rSt (I : zI) (A i : Nat) (T : mTr) (n : Nat) (K : Nat → mAc) (gn : Nat) (G : Nat → mGd) : Prop := i < 8 ∧ n ≤ 40 ∧ (∀ p, p < n → mAok T (K p) ∧ I (A + 7) (40 * i + p) = nI (K p).1 ∧ I (A + 8) (40 * i + p) = (K p).2.1 ∧ I (A + 9) (40 * i + p) = if (K p).1 = 16 then (K p).2.2 else (K p).2.1) ∧ I (A + 6) i = nI n ∧ (I (A + 10) i = nI gn ∧ gn ≤ 4) ∧ ∀ j, j < gn → mGok T (G j) ∧ I (A + 11) (4 * i + j) = nI (G j).1 ∧ I (A + 12) (4 * i + j) = nI (G j).2.1 ∧ I (A + 13) (4 * i + j) = nI (G j).2.2.1 ∧ I (A + 14) (4 * i + j) = nI (G j).2.2.2
section RMX
variable {F : Nat} {S : zS} {I : zI} {A : Nat} {T : mTr} {X : Nat → mM} {f : Nat}
theorem r_told (hF : 50 ≤ F) (hA : rAll S I A T X f) (hX : ∀ j, j < 8 → mSz (X j)) (w : Int32) : z_X9_told F S I A w = some (k_told T X w) := by
  have hL := hA.1
  unfold z_X9_told k_told
  by_cases h0 : w = 0
  · rw [if_pos h0, if_pos h0, hA.2.1.1]
  · rw [if_neg h0, if_neg h0]
    by_cases hneg : w < 0
    · have g : ∀ c : Int32, 0 < c → w < c := fun c hc => Int32.lt_trans hneg hc
      rw [if_pos hneg, if_neg (fun q => q.1 (g 1 (by decide))), if_neg (fun q => q.1 (g 11 (by decide))), if_neg (fun q => q.1 (g 21 (by decide))), if_neg (fun q => q.1 (g 31 (by decide)))]
    · obtain ⟨j, hj, ej⟩ := nI_of hneg
      have hj1 : 1 ≤ j := by
        by_cases g : j = 0
        · rw [g] at ej; exact absurd ej h0
        · omega
      have el : ∀ c : Nat, c < 2 ^ 31 → (w < nI c ↔ j < c) := fun c hc => by rw [ej]; exact nI_ltI hj hc
      have eg : ∀ c : Nat, c < 2 ^ 31 → (nI c < w ↔ c < j) := fun c hc => by rw [ej]; exact nI_ltI hc hj
      have erem : (w - 1) - (w - 1) / 10 * 10 = nI ((j - 1) % 10) := by rw [ej, n_pred hj1, nl10]; exact pk_rem (by omega) (by omega) (by omega)
      rw [if_neg hneg, erem]
      have hm := Nat.mod_lt (j - 1) (show 10 > 0 by omega)
      have hc : w.toNatClampNeg = j := by rw [ej, nc hj]
      by_cases h7 : 7 < (j - 1) % 10
      · rw [if_pos (show (7 : Int32) < nI ((j - 1) % 10) from (nI_ltI (a := 7) (by omega) (by omega)).mpr h7)]
        rw [if_neg (show ¬ (¬ w < 1 ∧ w < 9) from fun q => (by have := (el 9 (by omega)).mp q.2; omega : False))]
        rw [if_neg (show ¬ (¬ w < 11 ∧ w < 19) from fun q => (by have := (el 19 (by omega)).mp q.2; have : ¬ j < 11 := fun g => q.1 ((el 11 (by omega)).mpr g); omega : False))]
        rw [if_neg (show ¬ (¬ w < 21 ∧ w < 29) from fun q => (by have := (el 29 (by omega)).mp q.2; have : ¬ j < 21 := fun g => q.1 ((el 21 (by omega)).mpr g); omega : False))]
        rw [if_neg (show ¬ (¬ w < 31 ∧ w < 39) from fun q => (by have := (el 39 (by omega)).mp q.2; have : ¬ j < 31 := fun g => q.1 ((el 31 (by omega)).mpr g); omega : False))]
      · rw [if_neg (show ¬ (7 : Int32) < nI ((j - 1) % 10) from fun d => h7 ((nI_ltI (a := 7) (by omega) (by omega)).mp d))]
        by_cases h38 : 38 < j
        · rw [if_pos (show (38 : Int32) < w from (eg 38 (by omega)).mpr h38)]
          have n : ∀ c d : Nat, d ≤ 39 → ¬ (¬ w < nI c ∧ w < nI d) := fun c d hd q => by have := (el d (by omega)).mp q.2; omega
          rw [if_neg (show ¬ (¬ w < 1 ∧ w < 9) from n 1 9 (by omega)), if_neg (show ¬ (¬ w < 11 ∧ w < 19) from n 11 19 (by omega)), if_neg (show ¬ (¬ w < 21 ∧ w < 29) from n 21 29 (by omega)), if_neg (show ¬ (¬ w < 31 ∧ w < 39) from n 31 39 (by omega))]
        · rw [if_neg (show ¬ (38 : Int32) < w from fun d => h38 ((eg 38 (by omega)).mp d))]
          by_cases h10 : j < 10
          · have i8 : j - 1 < 8 := by omega
            have e1 : (j - 1) % 10 = j - 1 := by omega
            rw [if_pos (show w < 10 from (el 10 (by omega)).mpr h10), if_pos (show ¬ w < 1 ∧ w < 9 from ⟨fun g => (by have := (el 1 (by omega)).mp g; omega : False), (el 9 (by omega)).mpr (by omega)⟩), e1, ob_mk hL.f6, ixk hL.n6 i8 (by omega), nc (by omega), (hA.2.2.1 _ i8).1.2.2.1, hc]
          · rw [if_neg (show ¬ w < 10 from fun d => h10 ((el 10 (by omega)).mp d)), if_neg (show ¬ (¬ w < 1 ∧ w < 9) from fun q => (by have := (el 9 (by omega)).mp q.2; omega : False))]
            by_cases h20 : j < 20
            · have i8 : j - 11 < 8 := by omega
              have e1 : (j - 1) % 10 = j - 11 := by omega
              rw [if_pos (show w < 20 from (el 20 (by omega)).mpr h20), if_pos (show ¬ w < 11 ∧ w < 19 from ⟨fun g => (by have := (el 11 (by omega)).mp g; omega : False), (el 19 (by omega)).mpr (by omega)⟩), e1, ob_mk hL.f10, ixk hL.n10 i8 (by omega), nc (by omega), (hA.2.2.1 _ i8).1.2.2.2.1, hc]
            · rw [if_neg (show ¬ w < 20 from fun d => h20 ((el 20 (by omega)).mp d)), if_neg (show ¬ (¬ w < 11 ∧ w < 19) from fun q => (by have := (el 19 (by omega)).mp q.2; omega : False))]
              by_cases h30 : j < 30
              · have i8 : j - 21 < 8 := by omega
                have e1 : (j - 1) % 10 = j - 21 := by omega
                rw [if_pos (show w < 30 from (el 30 (by omega)).mpr h30), if_pos (show ¬ w < 21 ∧ w < 29 from ⟨fun g => (by have := (el 21 (by omega)).mp g; omega : False), (el 29 (by omega)).mpr (by omega)⟩), e1, ob_mk hL.f3, ixk hL.n3 i8 (by omega), nc (by omega), (hA.2.2.1 _ i8).1.1, hc]
              · have i8 : j - 31 < 8 := by omega
                have e1 : (j - 1) % 10 = j - 31 := by omega
                have hR := hA.2.2.1 _ i8
                rw [if_neg (show ¬ w < 30 from fun d => h30 ((el 30 (by omega)).mp d)), if_neg (show ¬ (¬ w < 21 ∧ w < 29) from fun q => (by have := (el 29 (by omega)).mp q.2; omega : False)), if_pos (show ¬ w < 31 ∧ w < 39 from ⟨fun g => (by have := (el 31 (by omega)).mp g; omega : False), (el 39 (by omega)).mpr (by omega)⟩), e1, ob_mk hL.f15, ixk hL.n15 i8 (by omega), nc (by omega), hR.1.2.2.2.2, hc]
                cases hk : xkn (X (j - 31))
                · rw [if_pos (show b2i false = 0 from rfl), if_neg (show ¬ false = true by decide)]
                · rw [if_neg (show ¬ b2i true = 0 by decide), if_pos rfl, ob_mk (show z_X9_frameCount F S I A (nI (j - 31)) = some _ from r_fc_lp hL i8 (hX _ i8).2.1 hR.1.2.2.1 (fun p hp => (hR.2.2.2.2 hk p hp).2.2.1) F (xn (X (j - 31))) 0 (by omega) (by have := (hX _ i8).2.1; omega))]
theorem r_sh108 (hL : rL S A) {i n gn : Nat} {K : Nat → mAc} {G : Nat → mGd} (hW : rSt I A i T n K gn G) {k42 : Nat → Int32 → Int32 → Int32 → Int32 → Option Int32} {p c t : Nat} (hp : p < n) (ht : t < 40) {rc g0 : Bool} (hrc : I (A + 16) (40 * i + p) = b2i rc) : ∀ (fuel m j : Nat), j + m = gn → m < fuel → z_X9_shared_108 F S I k42 fuel A (nI i) (nI t) (nI c) (nI p) (nI (40 * i + p)) (b2i (g0 || anyN (fun y => m_hld G y p && decide ((G y).2.2.1 = t)) j)) (nI (4 * i + j)) = k42 A (nI i) (nI t) (nI (c + if (rc && (g0 || anyN (fun y => m_hld G y p && decide ((G y).2.2.1 = t)) gn)) = true then 1 else 0)) (nI (p + 1)) := by
  have hW0 := hW
  obtain ⟨hi, hn40, hK, e6, ⟨e10, hgn⟩, hG⟩ := hW
  intro fuel
  induction fuel with
  | zero => intro m j h1 h2; omega
  | succ fuel ih =>
    intro m j h1 h2
    show z_X9_shared_108B F S I k42 (z_X9_shared_108 F S I k42 fuel) A (nI i) (nI t) (nI c) (nI p) (nI (40 * i + p)) _ (nI (4 * i + j)) = _
    unfold z_X9_shared_108B z_X9_shared_182 z_X9_shared_152
    rw [ob_mk hL.f10, ixk hL.n10 hi (by omega), nc (by omega), e10, nl4, pk_mul, nI_add]
    cases m with
    | zero =>
      have : j = gn := by omega
      subst this
      rw [if_neg (fun d => (by have := (nI_ltI (by omega) (by omega)).mp d; omega : False)), ob_mk hL.f16, ixk hL.n16 (by omega) (by omega), nc (by omega), hrc, nI_1]
      cases rc
      · rw [if_pos (show b2i false = 0 from rfl), Bool.false_and, if_neg (show ¬ false = true by decide), nl0, nI_add]
      · rw [if_neg (show ¬ b2i true = 0 by decide), Bool.true_and]
        cases (g0 || anyN (fun y => m_hld G y p && decide ((G y).2.2.1 = t)) j)
        · rw [if_pos (show b2i false = 0 from rfl), if_neg (show ¬ false = true by decide), nl0, nI_add]
        · rw [if_neg (show ¬ b2i true = 0 by decide), if_pos rfl, nI_1]
    | succ m =>
      obtain ⟨gok, q1, q2, q3, q4⟩ := hG j (by omega)
      obtain ⟨o1, o2, o3, o4⟩ := gok
      have key := ih m (j + 1) (by omega) (by omega)
      have e : (g0 || anyN (fun y => m_hld G y p && decide ((G y).2.2.1 = t)) (j + 1)) = ((g0 || anyN (fun y => m_hld G y p && decide ((G y).2.2.1 = t)) j) || (m_hld G j p && decide ((G j).2.2.1 = t))) := by
        show (g0 || (anyN _ j || _)) = _
        rw [Bool.or_assoc]
      rw [e] at key
      rw [if_pos ((nI_ltI (by omega) (by omega)).mpr (by omega)), ob_mk (r_holds hL (by omega) (by omega) q1 q2 (by omega) (by omega)), b01, nI_1, ob_mk hL.f13, ixk hL.n13 (by omega) (by omega), nc (by omega), q3]
      by_cases hh : (G j).1 ≤ p ∧ p < (G j).2.1
      · have hb : m_hld G j p = true := decide_eq_true hh
        rw [hb, Bool.true_and] at key
        rw [if_pos hh]
        by_cases he : (G j).2.2.1 = t
        · rw [decide_eq_true he] at key
          rw [if_pos (by rw [he]), show (1 : Int32) = b2i true from rfl, b2i_or]
          exact key
        · rw [decide_eq_false he] at key
          rw [if_neg (nI_ne (by omega) (by omega) he), show (0 : Int32) = b2i false from rfl, b2i_or]
          exact key
      · have hb : m_hld G j p = false := decide_eq_false hh
        rw [hb, Bool.false_and] at key
        rw [if_neg hh, show (0 : Int32) = b2i false from rfl, b2i_or]
        exact key
theorem r_sh42 (hF : 50 ≤ F) (hL : rL S A) {i n gn : Nat} {K : Nat → mAc} {G : Nat → mGd} (hW : rSt I A i T n K gn G) {t : Nat} (ht : t < 40) {rc : Nat → Bool} (hrc : ∀ p, p < n → I (A + 16) (40 * i + p) = b2i (rc p)) : ∀ (fuel m p : Nat), p + m = n → m < fuel → z_X9_shared_42 F S I fuel A (nI i) (nI t) (nI (m_ct (fun q => m_lead K gn G rc q t) p)) (nI p) = some (nI (m_ct (fun q => m_lead K gn G rc q t) n)) := by
  have hW0 := hW
  obtain ⟨hi, hn40, hK, e6, ⟨e10, hgn⟩, hG⟩ := hW
  intro fuel
  induction fuel with
  | zero => intro m p h1 h2; omega
  | succ fuel ih =>
    intro m p h1 h2
    show z_X9_shared_42B F S I (z_X9_shared_42 F S I fuel) A (nI i) (nI t) _ (nI p) = _
    unfold z_X9_shared_42B
    rw [ob_mk hL.f6, ixk hL.n6 hi (by omega), nc (by omega), e6]
    cases m with
    | zero =>
      rw [if_neg (fun d => (by have := (nI_ltI (by omega) (by omega)).mp d; omega : False)), show p = n by omega]
    | succ m =>
      have hp : p < n := by omega
      obtain ⟨ok, k7, k8, k9⟩ := hK p hp
      rw [if_pos ((nI_ltI (by omega) (by omega)).mpr (by omega)), ob_mk hL.f7, nl40, pk_mul, nI_add, ixk hL.n7 (by omega) (by omega), nc (by omega), k7, ob_mk (r_jumps ok.1), ob_mk hL.f8, ixc hL.n8 (by omega) (by omega), ob_mk hL.f9, ixc hL.n9 (by omega) (by omega)]
      have go : ∀ g0, g0 = m_gon (K p) t → z_X9_shared_101 F S I (z_X9_shared_42 F S I fuel) A (nI i) (nI t) (nI (m_ct (fun q => m_lead K gn G rc q t) p)) (nI p) (nI (40 * i + p)) (b2i g0) = some (nI (m_ct (fun q => m_lead K gn G rc q t) n)) := fun g0 hg0 => by
        unfold z_X9_shared_101
        have key := r_sh108 (F := F) (k42 := z_X9_shared_42 F S I fuel) (c := m_ct (fun q => m_lead K gn G rc q t) p) (g0 := g0) hL hW0 hp ht (hrc p hp) F gn 0 (by omega) (by omega)
        have e0 : (g0 || anyN (fun y => m_hld G y p && decide ((G y).2.2.1 = t)) 0) = g0 := by show (g0 || false) = g0; rw [Bool.or_false]
        rw [e0, Nat.add_zero] at key
        rw [nl4, pk_mul, key]
        have el : m_ct (fun q => m_lead K gn G rc q t) (p + 1) = m_ct (fun q => m_lead K gn G rc q t) p + (if (rc p && (g0 || anyN (fun y => m_hld G y p && decide ((G y).2.2.1 = t)) gn)) = true then 1 else 0) := by rw [hg0]; rfl
        rw [← el]
        exact ih m (p + 1) (by omega) (by omega)
      cases hj : m_jmp (K p).1
      · have hne := of_decide_eq_false hj
        have e0 : m_tn (K p) = 0 := by unfold m_tn; rw [if_neg (by omega), if_neg (by omega)]
        rw [if_pos (show b2i false = 0 from rfl)]
        exact go false (by unfold m_gon; rw [e0]; exact (decide_eq_false (by omega)).symm)
      · have hne := of_decide_eq_true hj
        obtain ⟨a, ha, ea, eb⟩ := ok.2.2.2 (by omega)
        have ta : m_ta (K p) = a := by unfold m_ta; rw [ea, nc (by omega)]
        rw [if_neg (show ¬ b2i true = 0 by decide), k8, ea]
        have go2 : ∀ b, b < 40 → a ≤ b → m_tn (K p) = b + 1 - a → I (A + 9) (40 * i + p) = nI b → ob (z_X9_in F S I (nI t) (nI a) (I (A + 9) (40 * i + p))) (fun q10 => if q10 = 0 then z_X9_shared_101 F S I (z_X9_shared_42 F S I fuel) A (nI i) (nI t) (nI (m_ct (fun q => m_lead K gn G rc q t) p)) (nI p) (nI (40 * i + p)) 0 else z_X9_shared_101 F S I (z_X9_shared_42 F S I fuel) A (nI i) (nI t) (nI (m_ct (fun q => m_lead K gn G rc q t) p)) (nI p) (nI (40 * i + p)) 1) = some (nI (m_ct (fun q => m_lead K gn G rc q t) n)) := fun b hb hab tn e9 => by
          rw [e9, ob_mk (r_in _ _ _), b01]
          by_cases c : a ≤ t ∧ t ≤ b
          · rw [if_pos (show ¬ nI t < nI a ∧ ¬ nI b < nI t from ⟨fun d => (by have := (nI_ltI (by omega) (by omega)).mp d; omega : False), fun d => (by have := (nI_ltI (by omega) (by omega)).mp d; omega : False)⟩)]
            exact go true (by unfold m_gon; rw [ta, tn]; exact (decide_eq_true (by omega)).symm)
          · rw [if_neg (show ¬ (¬ nI t < nI a ∧ ¬ nI b < nI t) from fun d => c ⟨Nat.le_of_not_lt (fun g => d.1 ((nI_ltI (by omega) (by omega)).mpr g)), Nat.le_of_not_lt (fun g => d.2 ((nI_ltI (by omega) (by omega)).mpr g))⟩)]
            exact go false (by unfold m_gon; rw [ta, tn]; exact (decide_eq_false (by omega)).symm)
        by_cases h16 : (K p).1 = 16
        · obtain ⟨b, hb, hab, eb⟩ := eb h16
          have tn : m_tn (K p) = b + 1 - a := by unfold m_tn; rw [if_pos h16, eb, ea, nc (by omega), nc (by omega)]
          rw [if_pos h16, eb] at k9
          exact go2 b hb hab tn k9
        · have h145 : (K p).1 = 14 ∨ (K p).1 = 15 := by
            rcases hne with h | h | h
            · exact Or.inl h
            · exact Or.inr h
            · exact absurd h h16
          have tn : m_tn (K p) = 1 := by unfold m_tn; rw [if_neg h16, if_pos h145]
          rw [if_neg h16, ea] at k9
          exact go2 a ha (by omega) (by rw [tn]; omega) k9
theorem r_shared (hF : 50 ≤ F) (hA : rAll S I A T X f) (hX : ∀ j, j < 8 → mSz (X j)) (hM : ∀ j, j < 8 → mMs T (X j)) (a p : Int32) : z_X9_shared F S I A a p = some (k_shared X a p) := by
  have hL := hA.1
  unfold z_X9_shared k_shared
  rw [ob_mk (r_isM_c a)]
  refine ix_cases a 8 (by omega) (fun h e => ?_) (fun i hi ea e => ?_)
  · rw [e, oy_n, oy_n, if_pos rfl]
  · have hR := hA.2.2.1 i hi
    obtain ⟨z1, z2, z3, z4, z5⟩ := hX i hi
    rw [e, oy_s, oy_s, if_neg (show ¬ (1 : Int32) = 0 by decide), ea, ob_mk hL.f6, ixk hL.n6 hi (by omega), nc (by omega), hR.1.2.2.1, ob_mk (r_inIx p (by omega))]
    refine ix_cases p (xn (X i)) (by omega) (fun h e => ?_) (fun j hj ep e => ?_)
    · rw [e, oy_n, oy_n, if_pos rfl]
    · rw [e, oy_s, oy_s, if_neg (show ¬ (1 : Int32) = 0 by decide), ob_mk hL.f15, ixc hL.n15 hi (by omega), hR.1.2.2.2.2]
      cases hk : xkn (X i)
      · rw [if_pos (show b2i false = 0 from rfl), if_neg (show ¬ false = true by decide)]
      · rw [if_neg (show ¬ b2i true = 0 by decide), if_pos rfl, ep]
        obtain ⟨m1, m2, m3, m4, m5, m6⟩ := hM i hi
        exact r_sh42 hF hL (T := T) ⟨hi, m1, fun q hq => ⟨m5 q hq, hR.2.2.1 q hq⟩, hR.1.2.2.1, ⟨hR.1.2.2.2.1, m2⟩, fun q hq => ⟨m6 q hq, hR.2.2.2.1 q hq⟩⟩ (by omega) (fun q hq => (hR.2.2.2.2 hk q hq).1) F (xn (X i)) 0 (by omega) (by omega)
end RMX
