/-! THE LAW, 7: a rope is what it should be -/
def suH (F : Nat → Nat → Nat) (L : List (Nat × Nat)) (u : Nat) : Nat := match phs L u with
  | some p => F u p
  | none => 0
def suL (F : Nat → Nat → Nat) : List (Nat × Nat) → Nat
  | [] => 0
  | q :: L => F q.1 q.2 + suL F L
theorem sum9_one {f f' : Nat → Nat} {a : Nat} (h : ∀ u, ¬ u = a → f u = f' u) (h0 : f' a = 0) : ∀ N, sum9 f N = sum9 f' N + (if a < N then f a else 0) := by
  intro N
  induction N with
  | zero => rfl
  | succ N ih =>
    show sum9 f N + f N = sum9 f' N + f' N + _
    rw [ih]
    by_cases e : N = a
    · subst e
      rw [if_neg (Nat.lt_irrefl _), if_pos (Nat.lt_succ_self _), h0]
    · rw [h N e]
      by_cases h1 : a < N
      · rw [if_pos h1, if_pos (by omega)]; omega
      · rw [if_neg h1, if_neg (by omega)]; omega
theorem phs_cons {q : Nat × Nat} {L : List (Nat × Nat)} {u : Nat} : phs (q :: L) u = if q.1 = u then some q.2 else phs L u := by
  unfold phs
  rw [List.find?_cons]
  by_cases h : q.1 = u
  · simp [h]
  · simp [h]
theorem suH_all {F : Nat → Nat → Nat} {N : Nat} : ∀ {L : List (Nat × Nat)}, (L.map Prod.fst).Nodup → (∀ q ∈ L, q.1 < N) → sum9 (suH F L) N = suL F L := by
  intro L
  induction L with
  | nil =>
    intro _ _
    have : ∀ n, sum9 (suH F []) n = 0 := by
      intro n
      induction n with
      | zero => rfl
      | succ n ih => show sum9 (suH F []) n + suH F [] n = 0; rw [ih]; rfl
    exact this N
  | cons q L ih =>
    intro hn hN
    rw [List.map_cons, List.nodup_cons] at hn
    have i1 := ih hn.2 (fun q' h => hN q' (List.mem_cons_of_mem _ h))
    have h0 : phs L q.1 = none := phs_none.mpr (fun q' h e => hn.1 (List.mem_map.mpr ⟨q', h, e⟩))
    have e1 := sum9_one (f := suH F (q :: L)) (f' := suH F L) (a := q.1) (fun u hu => by
      unfold suH
      rw [phs_cons, if_neg (fun e => hu e.symm)]) (by unfold suH; rw [h0]) N
    rw [e1, i1, if_pos (hN q List.mem_cons_self)]
    have e2 : suH F (q :: L) q.1 = F q.1 q.2 := by
      unfold suH
      rw [phs_cons, if_pos rfl]
    rw [e2]
    exact Nat.add_comm _ _
theorem suL_tak {g : Nat → Nat} {len : Nat} : ∀ L, suL (fun u p => stp9 len p (g u)) L = takL g len L := by
  intro L
  induction L with
  | nil => rfl
  | cons q L ih => simp only [suL, takL, ih]
theorem suL_one : ∀ L, suL (fun _ _ => 1) L = L.length := by
  intro L
  induction L with
  | nil => rfl
  | cons q L ih => simp only [suL, ih, List.length_cons]; omega
/-- the places in the order of laying, as bits -/
def ordN (L : List (Nat × Nat)) : Nat → Nat
  | 0 => 0
  | u + 1 => ordN L u ||| (match ixo L u with | some k => 2 ^ k | none => 0)
theorem ordN_bit {L : List (Nat × Nat)} (n k : Nat) : (ordN L n).testBit k = true ↔ ∃ u, u < n ∧ ixo L u = some k := by
  induction n with
  | zero =>
    constructor
    · intro h; simp [ordN] at h
    · rintro ⟨u, h, _⟩; omega
  | succ n ih =>
    show (ordN L n ||| _).testBit k = true ↔ _
    rw [Nat.testBit_or, Bool.or_eq_true, ih]
    constructor
    · rintro (⟨u, h1, h2⟩ | h)
      · exact ⟨u, by omega, h2⟩
      · cases hx : ixo L n with
        | none => rw [hx] at h; simp at h
        | some j =>
          rw [hx] at h
          dsimp only at h
          rw [Nat.testBit_two_pow] at h
          have h9 : j = k := of_decide_eq_true h
          exact ⟨n, by omega, by rw [hx, h9]⟩
    · rintro ⟨u, h1, h2⟩
      by_cases e : u = n
      · subst e
        refine Or.inr ?_
        rw [h2]
        dsimp only
        rw [Nat.testBit_two_pow]
        exact decide_eq_true rfl
      · exact Or.inl ⟨u, by omega, h2⟩
theorem ordN_all {g : Nat → Nat} {len : Nat} {L : List (Nat × Nat)} (W : wfR g len L) : ordN L 8 = 2 ^ L.length - 1 := by
  refine Nat.eq_of_testBit_eq (fun k => ?_)
  rw [Nat.testBit_two_pow_sub_one]
  rw [Bool.eq_iff_iff, ordN_bit, decide_eq_true_iff]
  constructor
  · rintro ⟨u, -, h⟩
    obtain ⟨p, hp⟩ := ixo_some h
    exact (List.getElem?_eq_some_iff.mp hp).1
  · intro h
    have h1 : L[k]? = some (L[k].1, L[k].2) := List.getElem?_eq_getElem h
    exact ⟨L[k].1, (W.2.2.1 _ (List.getElem_mem h)).1, ixo_of W h1⟩
theorem ordN_lt {g : Nat → Nat} {len : Nat} {L : List (Nat × Nat)} (W : wfR g len L) : ∀ n, ordN L n < 2 ^ 8 := by
  intro n
  induction n with
  | zero => exact Nat.two_pow_pos 8
  | succ n ih =>
    refine Nat.or_lt_two_pow ih ?_
    cases h : ixo L n with
    | none => exact Nat.two_pow_pos 8
    | some k =>
      obtain ⟨p, hp⟩ := ixo_some h
      have h1 := (List.getElem?_eq_some_iff.mp hp).1
      have h2 := W.le8
      exact Nat.pow_lt_pow_right (by omega) (by omega)
theorem or_all : ∀ a : Fin 256, ∀ k : Fin 8, nI a ||| ((1 : Int32) <<< (nI k &&& 31)) = nI ((a : Nat) ||| 2 ^ (k : Nat)) := by decide +kernel
theorem shl_all : ∀ n : Fin 9, ((1 : Int32) <<< (nI n &&& 31)) - (1 : Int32) = nI (2 ^ (n : Nat) - 1) := by decide +kernel
theorem hol9_cnt {P : Nat → Bool} : ∀ n, hol9 P n ≤ cnt9 P n := by
  intro n
  induction n with
  | zero => exact Nat.le_refl _
  | succ n ih =>
    simp only [hol9, cnt9]
    split <;> omega
theorem mho9_cnt {P : Nat → Bool} : ∀ n, mho9 P n ≤ cnt9 P n := by
  intro n
  induction n with
  | zero => exact Nat.le_refl _
  | succ n ih =>
    have h1 := hol9_cnt (P := P) (n + 1)
    have h2 : cnt9 P n ≤ cnt9 P (n + 1) := by simp only [cnt9]; omega
    simp only [mho9]
    omega
theorem per_dvd {g : Nat → Nat} {L : List (Nat × Nat)} : ∀ m, m ∣ L.foldl (fun m q => Nat.lcm m (g q.1)) m ∧ ∀ q ∈ L, g q.1 ∣ L.foldl (fun m q => Nat.lcm m (g q.1)) m := by
  induction L with
  | nil => exact fun m => ⟨Nat.dvd_refl _, fun q hq => nomatch hq⟩
  | cons a L ih =>
    intro m
    obtain ⟨i1, i2⟩ := ih (Nat.lcm m (g a.1))
    rw [List.foldl_cons]
    refine ⟨Nat.dvd_trans (Nat.dvd_lcm_left _ _) i1, fun q hq => ?_⟩
    rcases List.mem_cons.mp hq with e | e
    · rw [e]; exact Nat.dvd_trans (Nat.dvd_lcm_right _ _) i1
    · exact i2 q e
theorem cnt9_0 {P : Nat → Bool} : ∀ {n : Nat}, (∀ j, j < n → P j = false) → cnt9 P n = 0 := by
  intro n
  induction n with
  | zero => intro _; rfl
  | succ n ih =>
    intro h
    simp only [cnt9]
    rw [ih (fun j hj => h j (by omega)), h n (by omega)]
    rfl
theorem cnt9_pos {P : Nat → Bool} {n k : Nat} (hk : k < n) (h : P k = true) : 0 < cnt9 P n := by
  induction n with
  | zero => omega
  | succ n ih =>
    simp only [cnt9]
    by_cases e : k = n
    · rw [e] at h; rw [if_pos h]; omega
    · have := ih (by omega); omega
section Law7
variable {h : PH} {x : Nat} {A : AAt}
set_option maxHeartbeats 4000000 in
theorem L_isRope (W : wfA A) (H : repC h x A) {i : Nat} (hi : i < A.1.2.1.length) : ∃ h', f_L_isRope h x (nI i) = some (1, h') ∧ repC h' x A := by
  have hR := W.1.2.1
  have hg := W.1.1
  have WR := W.1.2.2 _ (atR_mem hi)
  have l1 := WR.1.1
  have h60 := WR.1.2
  have le8 := WR.le8
  obtain ⟨g, hgd⟩ : ∃ g, g = A.1.1 := ⟨_, rfl⟩
  obtain ⟨len, hlen⟩ : ∃ n, n = (atR A.1.2.1 i).1 := ⟨_, rfl⟩
  obtain ⟨L, hL⟩ : ∃ n, n = (atR A.1.2.1 i).2 := ⟨_, rfl⟩
  have e0 := V_rope0 W H hi
  have e1 := V_rope1 W H hi
  have e2 := V_rope2 W H hi
  have e3 := V_rope3 W H hi
  have e4 := V_rope4 W H hi
  have e5 := V_rope5 W H hi
  have eg := V_great W H hi
  have hu0 : ∀ u, u < 8 → okL9 (f_X5_hueOf h x (nI i) (nI u) (0 : Int32)) = some (hnA g len L u 0) := fun u hu => by rw [hgd, hlen, hL]; exact V_hue0 W H hi hu
  have hu1 : ∀ u, u < 8 → okL9 (f_X5_hueOf h x (nI i) (nI u) (1 : Int32)) = some (hnA g len L u 1) := fun u hu => by rw [hgd, hlen, hL]; exact V_hue1 W H hi hu
  have hu2 : ∀ u, u < 8 → okL9 (f_X5_hueOf h x (nI i) (nI u) (2 : Int32)) = some (hnA g len L u 2) := fun u hu => by rw [hgd, hlen, hL]; exact V_hue2 W H hi hu
  have hu3 : ∀ u, u < 8 → okL9 (f_X5_hueOf h x (nI i) (nI u) (3 : Int32)) = some (hnA g len L u 3) := fun u hu => by rw [hgd, hlen, hL]; exact V_hue3 W H hi hu
  have hga : ∀ u, u < 8 → okL9 (f_X5_gapOf h x (nI u)) = some (nI (g u)) := fun u hu => by rw [hgd]; exact V_gapOf W H hu
  have hpl : ∀ p, p < len → okL9 (f_X5_place h x (nI i) (nI p)) = some (oI (col g L p)) := fun p hp => by
    have q := V_place W H hi (p := p) (by rw [← hlen]; exact hp)
    rw [hgd, hL]; exact q
  have hph : ∀ u, u < 8 → okL9 (f_X5_phases h x (nI i) (nI u) (0 : Int32)) = some (nI (cnt9 (fun p => decide (whyA g len L u p = 0)) (g u))) := fun u hu => by
    rw [hgd, hlen, hL]
    exact V_phases W H hi hu (w := 0) (by omega)
  have hap : ∀ u, u < 8 → f_L_arePhases h x (nI i) (nI u) = some 1 := fun u hu => L_arePhases W H hi hu
  rw [← hgd, ← hlen, ← hL] at WR
  rw [← hlen] at e0 l1 h60
  rw [← hL] at e1 le8
  rw [← hgd, ← hL] at e5 eg
  rw [← hgd, ← hlen, ← hL] at e2 e3 e4
  rw [← hgd] at hg
  clear hgd hlen hL
  have one0 : ¬ (1 : Int32) = 0 := by decide
  have m1 : ((-1) : Int32) < 0 := by decide
  have pl : perA g L ≤ 232792560 := Nat.le_of_dvd (by omega) (perA_dvd hg _ 1 (Nat.one_dvd _))
  have hb : ∀ u, 0 ≤ u → u < 0 + 8 → f_L_isRope_L29 h x (nI i) (nI len) (nI (perA g L)) ((fun u => (nI (sum9 (suH (fun u p => stp9 len p (g u)) L) u), nI (sum9 (suH (fun _ _ => 1) L) u), nI (ordN L u), (1 : Int32), nI u)) u) = some (.inl ((fun u => (nI (sum9 (suH (fun u p => stp9 len p (g u)) L) u), nI (sum9 (suH (fun _ _ => 1) L) u), nI (ordN L u), (1 : Int32), nI u)) (u + 1))) := by
    intro u _ hu
    have hu : u < 8 := by omega
    have hgu := hg u
    have b1 : ¬ (8 : Int32) ≤ nI u := nI_ge (b := 8) hu (by omega)
    have s1 : sum9 (suH (fun u p => stp9 len p (g u)) L) (u + 1) = sum9 (suH (fun u p => stp9 len p (g u)) L) u + suH (fun u p => stp9 len p (g u)) L u := rfl
    have s2 : sum9 (suH (fun _ _ => 1) L) (u + 1) = sum9 (suH (fun _ _ => 1) L) u + suH (fun _ _ => 1) L u := rfl
    have s3 : ordN L (u + 1) = ordN L u ||| (match ixo L u with | some k => 2 ^ k | none => 0) := rfl
    cases hp : phs L u with
    | none =>
      have r1 := hu0 u hu
      rw [hn_no hp] at r1
      have r2 := hu1 u hu
      rw [hn_no hp] at r2
      have t1 : suH (fun u p => stp9 len p (g u)) L u = 0 := by unfold suH; rw [hp]
      have t2 : suH (fun _ _ => 1) L u = 0 := by unfold suH; rw [hp]
      have s1 : sum9 (suH (fun u p => stp9 len p (g u)) L) (u + 1) = sum9 (suH (fun u p => stp9 len p (g u)) L) u := s1.trans (congrArg (_ + ·) t1)
      have s2 : sum9 (suH (fun _ _ => 1) L) (u + 1) = sum9 (suH (fun _ _ => 1) L) u := s2.trans (congrArg (_ + ·) t2)
      rw [ixo_none.mpr hp] at s3
      have s3 : ordN L (u + 1) = ordN L u := by rw [s3]; exact Nat.or_zero _
      simp only [f_L_isRope_L29, if_neg b1, if_neg one0, r1, bs9, hga u hu, r2, if_pos m1, f_L_isRope_J209, hap u hu, f_L_isRope_J243, f_L_isRope_J248, nI_1, s1, s2, s3]
    | some p =>
      have hq := phs_mem hp
      obtain ⟨-, p1, p2⟩ := WR.2.2.1 _ hq
      have p1 : p < len := p1
      have p2 : p < g u := p2
      obtain ⟨k, hk⟩ : ∃ k, ixo L u = some k := by
        cases hx : ixo L u with
        | none => rw [ixo_none.mp hx] at hp; cases hp
        | some k => exact ⟨k, rfl⟩
      have hk8 : k < 8 := by
        obtain ⟨p9, h9⟩ := ixo_some hk
        have := (List.getElem?_eq_some_iff.mp h9).1
        omega
      have r1 := hu0 u hu
      rw [hn_0 hp] at r1
      have r2 := hu1 u hu
      rw [hn_1 hp] at r2
      have r3 := hu2 u hu
      rw [hn_2 hp, lst_stp p1 (by omega)] at r3
      have r4 := hu3 u hu
      rw [hn_3 hp, hk] at r4
      have r4 : okL9 (f_X5_hueOf h x (nI i) (nI u) (3 : Int32)) = some (nI k) := r4
      have r5 := hph u hu
      rw [cnt9_0 (fun j _ => decide_eq_false (by rw [why_y hp]; omega))] at r5
      have r5 : okL9 (f_X5_phases h x (nI i) (nI u) (0 : Int32)) = some 0 := r5
      have sp : 1 ≤ stp9 len p (g u) := by rw [stp_pos p1 (show 0 < g u by omega)]; exact Nat.succ_pos _
      have dv : g u ∣ perA g L := (per_dvd 1).2 (u, p) hq
      have t1 : suH (fun u p => stp9 len p (g u)) L u = stp9 len p (g u) := by unfold suH; rw [hp]
      have t2 : suH (fun _ _ => 1) L u = 1 := by unfold suH; rw [hp]
      rw [t1] at s1
      rw [t2] at s2
      rw [hk] at s3
      have s3 : ordN L (u + 1) = ordN L u ||| 2 ^ k := s3
      have c1 : ¬ nI p < 0 := nI_pos (by omega)
      have c2 : ¬ nI (g u) ≤ nI p := nI_ge p2 (by omega)
      have c3 : ¬ nI len ≤ nI p := nI_ge p1 (by omega)
      have c4 : ¬ nI (g u) = 0 := nI_ne0 (by omega) (by omega)
      have d1 := dueL p1 h60 (show 0 < g u by omega) hgu.2
      have d2 : nI p + (nI (stp9 len p (g u)) - (1 : Int32)) * nI (g u) = nI (p + (stp9 len p (g u) - 1) * g u) := by
        rw [← n1_e, nI_sub (show 1 ≤ stp9 len p (g u) by omega), nI_mul, nI_add]
      have d3 : nI (perA g L) - nI (perA g L) / nI (g u) * nI (g u) = 0 := by
        rw [nI_rem (by omega) (by omega) (by omega), Nat.mod_eq_zero_of_dvd dv]
        rfl
      have hs60 : stp9 len p (g u) ≤ len := stp9_le (by omega)
      -- its places
      have hb2 : ∀ j, 0 ≤ j → j < 0 + stp9 len p (g u) → f_L_isRope_L143 h x (nI i) (nI len) (nI (sum9 (suH (fun u p => stp9 len p (g u)) L) u)) (nI (sum9 (suH (fun _ _ => 1) L) u)) (nI (ordN L u)) (nI (perA g L)) (nI u) (nI p) (nI (g u)) (nI (stp9 len p (g u))) ((fun j => ((1 : Int32), nI j)) j) = some (.inl ((fun j => ((1 : Int32), nI j)) (j + 1))) := by
        intro j _ hj
        have hj : j < stp9 len p (g u) := by omega
        have q1 : ¬ nI (stp9 len p (g u)) ≤ nI j := nI_ge hj (by omega)
        have q2 : p + j * g u < len := (stp9_lt (by omega)).mp hj
        have q3 := hpl _ q2
        rw [WR.col_of hq q2 (tkb_iff.mpr ⟨j, rfl⟩)] at q3
        have q3 : okL9 (f_X5_place h x (nI i) (nI (p + j * g u))) = some (nI u) := q3
        have q4 : nI p + nI j * nI (g u) = nI (p + j * g u) := by rw [nI_mul, nI_add]
        simp only [f_L_isRope_L143, if_neg q1, if_neg one0, q4, q3, bs9, not_true_eq_false, if_false, f_L_isRope_J178, nI_1]
      have he2 : f_L_isRope_L143 h x (nI i) (nI len) (nI (sum9 (suH (fun u p => stp9 len p (g u)) L) u)) (nI (sum9 (suH (fun _ _ => 1) L) u)) (nI (ordN L u)) (nI (perA g L)) (nI u) (nI p) (nI (g u)) (nI (stp9 len p (g u))) ((fun j => ((1 : Int32), nI j)) (0 + stp9 len p (g u))) = some (.inr (1 : Int32)) := by
        have q1 : nI (stp9 len p (g u)) ≤ nI (stp9 len p (g u)) := nI_le (Nat.le_refl _) (by omega)
        simp only [Nat.zero_add, f_L_isRope_L143, if_pos q1]
      have hw2 := lpn_run (fun j => ((1 : Int32), nI j)) _ (stp9 len p (g u)) 0 LF hb2 he2 (by unfold LF; omega)
      have hw2 : lpn (f_L_isRope_L143 h x (nI i) (nI len) (nI (sum9 (suH (fun u p => stp9 len p (g u)) L) u)) (nI (sum9 (suH (fun _ _ => 1) L) u)) (nI (ordN L u)) (nI (perA g L)) (nI u) (nI p) (nI (g u)) (nI (stp9 len p (g u)))) LF ((1 : Int32), (0 : Int32)) = some (1 : Int32) := hw2
      have d4 := or_all ⟨ordN L u, ordN_lt WR u⟩ ⟨k, hk8⟩
      have d4 : nI (ordN L u) ||| ((1 : Int32) <<< (nI k &&& 31)) = nI (ordN L u ||| 2 ^ k) := d4
      simp only [f_L_isRope_L29, if_neg b1, if_neg one0, r1, bs9, hga u hu, r2, if_neg c1, if_neg c2, if_neg c3, if_pos c4, d1, not_true_eq_false, if_false, r3, d2, d3, f_L_isRope_J138, hw2, f_L_isRope_J186, r4, f_L_isRope_J209, r5, f_L_isRope_J243, f_L_isRope_J248, nI_add, nI_1, s1, s2, s3, d4]
  have he : f_L_isRope_L29 h x (nI i) (nI len) (nI (perA g L)) ((fun u => (nI (sum9 (suH (fun u p => stp9 len p (g u)) L) u), nI (sum9 (suH (fun _ _ => 1) L) u), nI (ordN L u), (1 : Int32), nI u)) (0 + 8)) = some (.inr (nI (takL g len L), nI L.length, nI (2 ^ L.length - 1), (1 : Int32))) := by
    have b1 : (8 : Int32) ≤ nI 8 := Int32.le_refl _
    have q1 := suH_all (F := fun u p => stp9 len p (g u)) (N := 8) WR.2.1 (fun q hq => (WR.2.2.1 q hq).1)
    have q2 := suH_all (F := fun _ _ => 1) (N := 8) WR.2.1 (fun q hq => (WR.2.2.1 q hq).1)
    rw [suL_tak] at q1
    rw [suL_one] at q2
    simp only [Nat.zero_add, f_L_isRope_L29, if_pos b1, q1, q2, ordN_all WR]
  have hw := lpn_run (fun u => (nI (sum9 (suH (fun u p => stp9 len p (g u)) L) u), nI (sum9 (suH (fun _ _ => 1) L) u), nI (ordN L u), (1 : Int32), nI u)) _ 8 0 LF hb he (by unfold LF; omega)
  have hw : lpn (f_L_isRope_L29 h x (nI i) (nI len) (nI (perA g L))) LF ((0 : Int32), (0 : Int32), (0 : Int32), (1 : Int32), (0 : Int32)) = some (nI (takL g len L), nI L.length, nI (2 ^ L.length - 1), (1 : Int32)) := hw
  have ht := hol_tak hg WR
  have d5 : ((1 : Int32) <<< (nI L.length &&& 31)) - (1 : Int32) = nI (2 ^ L.length - 1) := shl_all ⟨L.length, by omega⟩
  have d6 : nI len - nI (takL g len L) = nI (holL g len L) := by
    rw [nI_sub (by omega)]
    congr 1
    omega
  have cl := clash_len WR
  have cl2 := clash_le g L
  have c6 : ¬ nI (clashA g L) < nI len := nI_nlt cl (by omega)
  have mh : mho9 (fun j => decide (col g L j = none)) len ≤ holL g len L := mho9_cnt len
  have c7 : ¬ nI (holL g len L) < nI (mho9 (fun j => decide (col g L j = none)) len) := nI_nlt mh (by omega)
  obtain ⟨h', j1, j2⟩ := K_joining W H hi hi
  have j3 : rjR A.1.1 A.1.2.1 i i = 1 := if_pos rfl
  rw [j3] at j1
  have j1 : okW (f_X5_joining h x (nI i) (nI i)) = some ((1 : Int32), h') := j1
  have last : f_L_isRope_J349 h x (nI i) (nI len) (nI L.length) (nI (perA g L)) (1 : Int32) = some (1, h') := by
    by_cases hl0 : L.length = 0
    · have L0 : L = [] := List.length_eq_zero_iff.mp hl0
      have c8 : ¬ (0 : Int32) < nI L.length := by rw [hl0]; decide
      have c9 : nI (perA g L) = (1 : Int32) := by rw [L0]; rfl
      simp only [f_L_isRope_J349, if_neg one0, eg, bs9, if_neg c6, e4, e2, if_neg c7, if_neg c8, c9, not_true_eq_false, if_false, f_L_isRope_J391, j1, f_L_isRope_J406, z01_1, if_true]
    · have c8 : (0 : Int32) < nI L.length := Int32.not_le.mp (nI_nle (by omega) (by omega))
      simp only [f_L_isRope_J349, if_neg one0, eg, bs9, if_neg c6, e4, e2, if_neg c7, if_pos c8, not_true_eq_false, if_false, f_L_isRope_J391, j1, f_L_isRope_J406, z01_1, if_true]
  refine ⟨h', ?_, j2⟩
  cases hf : fst9 (fun j => decide (col g L j = none)) 0 len with
  | none =>
    have hz : holL g len L = 0 := cnt9_0 (fun j hj => fst9_none hf j (Nat.zero_le _) (by omega))
    have c9 : nI (takL g len L) = nI len := by congr 1; omega
    rw [hf] at e3
    have e3 : okL9 (f_X5_ropeOf h x (nI i) (3 : Int32)) = some (-1) := e3
    have c11 : ¬ ¬ nI (takL g len L) = nI len := fun q => q c9
    simp only [f_L_isRope, e0, e5, bs9, hw, f_L_isRope_J256, e3, if_neg one0, e1, not_true_eq_false, if_false, d5, e2, d6, f_L_isRope_J314, if_neg c11, f_L_isRope_J324, if_true, f_L_isRope_J344]
    exact last
  | some k =>
    obtain ⟨-, k2, k3, -⟩ := fst9_some hf
    have k2 : k < len := by omega
    have hz : 0 < holL g len L := cnt9_pos k2 k3
    have c9 : ¬ nI (takL g len L) = nI len := fun q => by
      have := nI_same (a := takL g len L) (b := len) (by omega) (by omega) q
      omega
    rw [hf] at e3
    have e3 : okL9 (f_X5_ropeOf h x (nI i) (3 : Int32)) = some (nI k) := e3
    have c10 : ¬ nI k = -1 := nI_ne_m1 (by omega)
    have e6 := hpl k k2
    rw [of_decide_eq_true k3] at e6
    have e6 : okL9 (f_X5_place h x (nI i) (nI k)) = some (-1) := e6
    simp only [f_L_isRope, e0, e5, bs9, hw, f_L_isRope_J256, e3, if_neg one0, e1, not_true_eq_false, if_false, d5, e2, d6, if_pos c10, f_L_isRope_J314, if_pos c9, f_L_isRope_J324, if_neg c10, e6, f_L_isRope_J344]
    exact last
end Law7
