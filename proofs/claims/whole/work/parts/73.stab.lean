-- PURE: the days as the reference goes through them
def LB (σ : zSS) (d : Nat) : Prop := ∀ k, (∀ c, σ.1 k = some c → c ≤ d) ∧ (∀ c, σ.2.1 k = some c → c ≤ d)
theorem st_1 {T : zT2} {σ : zSS} {d k : Nat} (hk : k < T 0 0) (h : LB σ d) : stn T σ k d = 1 ↔ onS T σ d k = true := by
  obtain ⟨h1, h2⟩ := h k
  unfold stn onS
  by_cases c : d < T 3 k
  · have c2 : ¬ T 3 k ≤ d := by omega
    simp [c, c2]
  · have c2 : T 3 k ≤ d := by omega
    cases e1 : σ.1 k with
    | none =>
      cases e2 : σ.2.1 k with
      | none => simp [c, c2, hk, sto]
      | some s =>
        have := h2 s e2
        have q : ¬ d < s := by omega
        simp [c, sto, q]
    | some x =>
      have := h1 x e1
      have q : ¬ d < x := by omega
      by_cases i : inn T σ k d = true
      · simp [c, q, i]
      · simp [c, q, i]
theorem st_2 {T : zT2} {σ : zSS} {d k : Nat} (h : ∀ c, σ.1 k = some c → T 3 k ≤ c) : stn T σ k d = 2 ↔ inn T σ k d = true := by
  unfold stn
  by_cases c : d < T 3 k
  · simp only [c, if_true]
    constructor
    · intro q; omega
    · intro q
      unfold inn at q
      cases e1 : σ.1 k with
      | none => rw [e1] at q; cases q
      | some x =>
        rw [e1] at q
        have := h x e1
        simp at q
        omega
  · simp only [c, if_false]
    cases e1 : σ.1 k with
    | none =>
      have : inn T σ k d = false := by unfold inn; rw [e1]
      rw [this]
      unfold sto
      constructor
      · intro q
        exfalso
        cases e2 : σ.2.1 k with
        | none => rw [e2] at q; simp at q
        | some s =>
          rw [e2] at q
          by_cases e3 : d < s <;> simp [e3] at q
      · intro q; cases q
    | some x =>
      by_cases q : d < x
      · have : inn T σ k d = false := by unfold inn; rw [e1]; simp; omega
        simp only [q, if_true, this]
        unfold sto
        constructor
        · intro q
          exfalso
          cases e2 : σ.2.1 k with
          | none => rw [e2] at q; simp at q
          | some s =>
            rw [e2] at q
            by_cases e3 : d < s <;> simp [e3] at q
        · intro q; cases q
      · simp only [q, if_false]
        by_cases i : inn T σ k d = true
        · simp [i]
        · simp [i]
theorem stn_lt {T : zT2} {σ : zSS} {d k : Nat} : stn T σ k d < 5 := by
  unfold stn sto
  split
  · omega
  · split <;> (repeat' split) <;> omega
/-- later days leave an earlier one alone -/
theorem stab1 {T : zT2} (hw : wT T) {d k : Nat} : ∀ n, stn T (sim T (d + 1 + n)) k d = stn T (sim T (d + 1)) k d ∧ inn T (sim T (d + 1 + n)) k d = inn T (sim T (d + 1)) k d ∧ (inn T (sim T (d + 1)) k d = true → (sim T (d + 1 + n)).2.2 k = (sim T (d + 1)).2.2 k)
  | 0 => ⟨rfl, rfl, fun _ => rfl⟩
  | n + 1 => by
    obtain ⟨h1, h2, h3⟩ := stab1 hw (d := d) (k := k) n
    rw [← h1, ← h2]
    generalize he : d + 1 + n = e at h1 h2 h3 ⊢
    have he2 : d + 1 + (n + 1) = e + 1 := by omega
    rw [he2]
    obtain ⟨x, y⟩ := dayAll T e k
    obtain ⟨i1, i2, i3, i4⟩ := sim_I2 hw e k
    have hsto : sto ((sim T (e + 1)).2.1 k) d = sto ((sim T e).2.1 k) d := by
      rcases y with y | ⟨y1, y2, y3⟩
      · rw [y]
      · rw [y1, y3]; show (if d < e then 1 else 4) = 1; rw [if_pos (by omega)]
    rcases x with ⟨x1, x2⟩ | ⟨x1, x2, x3, x4⟩
    · refine ⟨?_, ?_, fun q => ?_⟩
      · unfold stn inn; rw [x1, hsto]
      · unfold inn; rw [x1]
      · rw [x2]; exact h3 (by rw [← h2]; exact q)
    · have hb : ∀ c, (sim T e).1 k = some c → T 3 k ≤ c ∧ c < e := fun c hc => ⟨(i1 c hc).2, (i1 c hc).1⟩
      by_cases q : d < T 3 k
      · have n1 : inn T (sim T e) k d = false := by
          unfold inn
          cases e1 : (sim T e).1 k with
          | none => rfl
          | some c => have := hb c e1; simp; omega
        have n2 : inn T (sim T (e + 1)) k d = false := by
          unfold inn; rw [x3]; simp; omega
        refine ⟨?_, by rw [n1, n2], fun q2 => ?_⟩
        · unfold stn; rw [if_pos q, if_pos q]
        · rw [n1] at q2; cases q2
      · have hn : (sim T e).1 k = none := by
          rcases x1 with x1 | x1
          · exact x1
          · omega
        have n1 : inn T (sim T e) k d = false := by unfold inn; rw [hn]
        have n2 : inn T (sim T (e + 1)) k d = false := by
          unfold inn; rw [x3]; simp; omega
        refine ⟨?_, by rw [n1, n2], fun q2 => ?_⟩
        · unfold stn; rw [if_neg q, if_neg q, x3, hn]
          show (if d < e then _ else _) = _
          rw [if_pos (by omega)]; exact hsto
        · rw [n1] at q2; cases q2
theorem stab {T : zT2} (hw : wT T) {d : Nat} (hd : d < 24) (k : Nat) : stn T (sim T 24) k d = stn T (sim T (d + 1)) k d ∧ inn T (sim T 24) k d = inn T (sim T (d + 1)) k d ∧ (inn T (sim T (d + 1)) k d = true → (sim T 24).2.2 k = (sim T (d + 1)).2.2 k) := by
  have := stab1 hw (d := d) (k := k) (23 - d)
  rw [show d + 1 + (23 - d) = 24 by omega] at this
  exact this
theorem stab_w {T : zT2} (hw : wT T) {d : Nat} (hd : d < 24) : ∀ n, wsum T (sim T 24) d n = wsum T (sim T (d + 1)) d n
  | 0 => rfl
  | n + 1 => by
    obtain ⟨-, h2, h3⟩ := stab hw hd n
    unfold wsum
    rw [h2, stab_w hw hd n]
    by_cases c : inn T (sim T (d + 1)) n d = true
    · rw [if_pos c, if_pos c, h3 c]
    · rw [if_neg c, if_neg c]
/-- who waits has not waited too long -/
theorem sim_wait {T : zT2} (hw : wT T) : ∀ d k, k < T 0 0 → T 3 k < d → (sim T d).1 k = none → (sim T d).2.1 k = none → d - T 3 k < T 2 k
  | 0, k, _, h, _, _ => by omega
  | d + 1, k, hk, h, h1, h2 => by
    have e : sim T (d + 1) = dayD T d (dayC T d (dayB T d (dayA T d (sim T d)))) := rfl
    rw [e] at h1 h2
    generalize dayC T d (dayB T d (dayA T d (sim T d))) = σc at h1 h2
    obtain ⟨d1, d2, d3⟩ := stD T d σc k
    rcases d3 with ⟨d3, d4⟩ | ⟨-, -, d3⟩
    · rw [d1] at h1
      rw [d3] at h2
      have : onS T σc d k = true := by
        unfold onS
        rw [h1, h2]
        have q : T 3 k ≤ d := by omega
        simp [hk, q]
      have h5 : ¬ T 2 k ≤ d - T 3 k + 1 := fun q => d4 ⟨this, q⟩
      omega
    · rw [d3] at h2; cases h2
/-- in, or sent on: not both -/
theorem sim_ex (T : zT2) : ∀ d k, (sim T d).1 k = none ∨ (sim T d).2.1 k = none
  | 0, k => Or.inl rfl
  | d + 1, k => by
    have e : sim T (d + 1) = dayD T d (dayC T d (dayB T d (dayA T d (sim T d)))) := rfl
    rw [e]
    have ih := sim_ex T d k
    have hI1 := sim_I1 T d k
    obtain ⟨a1, a2⟩ := stA T d (sim T d) k
    generalize dayA T d (sim T d) = σa at a1 a2 ⊢
    have iha : σa.1 k = none ∨ σa.2.1 k = none := by
      rw [a1]
      rcases a2 with ⟨-, a2, -⟩ | ⟨a2, -, -⟩
      · rw [a2]; exact ih
      · exact Or.inr (hI1 (by omega)).2.1
    obtain ⟨b1, b2, b3⟩ := stB T d σa k
    generalize dayB T d σa = σb at b1 b2 b3 ⊢
    have ihb : σb.1 k = none ∨ σb.2.1 k = none := by
      rw [b1]
      rcases b3 with b3 | ⟨b3, -, -⟩
      · rw [b3]; exact iha
      · exact Or.inl (onS_lt b3).2.2.1
    obtain ⟨c1, c2⟩ := stC T d σb k
    generalize dayC T d σb = σc at c1 c2 ⊢
    have ihc : σc.1 k = none ∨ σc.2.1 k = none := by
      rw [c1]
      rcases c2 with ⟨c2, -⟩ | ⟨m, -, c2, -⟩
      · rw [c2]; exact ihb
      · exact Or.inr (onS_lt (best_on c2).2.1).2.2.2
    obtain ⟨d1, d2, d3⟩ := stD T d σc k
    rw [d1]
    rcases d3 with ⟨d3, -⟩ | ⟨d3, -⟩
    · rw [d3]; exact ihc
    · exact Or.inl (onS_lt d3).2.2.1
theorem sent_4 {T : zT2} (hw : wT T) (k : Nat) (hk : k < T 0 0) : stn T (sim T 24) k 23 = 4 ↔ ((sim T 24).2.1 k).isSome = true := by
  obtain ⟨i1, i2, i3, i4⟩ := sim_I2 hw 24 k
  have h3 := (hw.2.2.1 k hk).2.2.2.1
  have hx := sim_ex T 24 k
  unfold stn
  rw [if_neg (by omega)]
  cases e1 : (sim T 24).1 k with
  | none =>
    cases e2 : (sim T 24).2.1 k with
    | none => simp [sto]
    | some s =>
      have := i2 s e2
      have q : ¬ 23 < s := by omega
      simp [sto, q]
  | some c =>
    have := i1 c e1
    rcases hx with q | q
    · rw [q] at e1; cases e1
    · have q2 : ¬ 23 < c := by omega
      rw [q]
      by_cases i : inn T (sim T 24) k 23 = true
      · simp [q2, i]
      · simp [q2, i]
theorem best_add {p p' : Nat → Bool} {f f' : Nat → Nat} {b d : Nat} (hp : ∀ k, p' k = (p k || decide (k = b))) (hb : p b = false) (hf : ∀ k, p k = true → f' k = f k ∧ f k < d) (hfb : f' b = d) : ∀ n, bestBy p' f' n = match bestBy p f n with
    | some w => some w
    | none => if b < n then some b else none
  | 0 => rfl
  | n + 1 => by
    have ih := best_add hp hb hf hfb n
    by_cases c : p n = true
    · have c' : p' n = true := by rw [hp, c]; rfl
      obtain ⟨f1, f2⟩ := hf n c
      cases e : bestBy p f n with
      | none =>
        rw [e] at ih
        rw [best_1 c e]
        by_cases q : b < n
        · have ih : bestBy p' f' n = some b := ih.trans (if_pos q)
          rw [best_2 c' ih (by omega)]
        · have ih : bestBy p' f' n = none := ih.trans (if_neg q)
          rw [best_1 c' ih]
      | some w =>
        rw [e] at ih
        have ih : bestBy p' f' n = some w := ih
        obtain ⟨w1, w2⟩ := bestBy_lt e
        obtain ⟨f3, f4⟩ := hf w w2
        by_cases q : f n < f w
        · rw [best_2 c e q, best_2 c' ih (by omega)]
        · rw [best_3 c e q, best_3 c' ih (by omega)]
    · have c : p n = false := by simpa using c
      rw [best_no c]
      by_cases q : n = b
      · subst q
        have c' : p' n = true := by rw [hp]; simp
        cases e : bestBy p f n with
        | none =>
          rw [e] at ih
          have ih : bestBy p' f' n = none := ih.trans (if_neg (by omega))
          rw [best_1 c' ih]
          exact (if_pos (by omega)).symm
        | some w =>
          rw [e] at ih
          have ih : bestBy p' f' n = some w := ih
          obtain ⟨w1, w2⟩ := bestBy_lt e
          obtain ⟨f3, f4⟩ := hf w w2
          rw [best_3 c' ih (by omega)]
      · have c' : p' n = false := by rw [hp, c]; simp [q]
        rw [best_no c', ih]
        cases e : bestBy p f n with
        | none =>
          by_cases q2 : b < n
          · exact (if_pos q2).trans (if_pos (by omega)).symm
          · exact (if_neg q2).trans (if_neg (by omega)).symm
        | some w => rfl
theorem best_congr {p p' : Nat → Bool} {f f' : Nat → Nat} : ∀ n, (∀ k, k < n → p' k = p k ∧ (p k = true → f' k = f k)) → bestBy p' f' n = bestBy p f n
  | 0, _ => rfl
  | n + 1, h => by
    have ih := best_congr n (fun k hk => h k (by omega))
    obtain ⟨h1, h2⟩ := h n (by omega)
    unfold bestBy
    rw [h1, ih]
    by_cases c : p n = true
    · rw [if_pos c, if_pos c, h2 c]
      cases e : bestBy p f n with
      | none => rfl
      | some b =>
        obtain ⟨w1, w2⟩ := bestBy_lt e
        show (if f n < f' b then some n else some b) = (if f n < f b then some n else some b)
        rw [(h b (by omega)).2 w2]
    · rw [if_neg c, if_neg c]
/-- who was first by the door: one day more -/
theorem fd_step {T : zT2} (hw : wT T) (d : Nat) (hd : d < 24) : fdS T (sim T (d + 1)) = match fdS T (sim T d) with
    | some w => some w
    | none => match doorS T d with
      | none => none
      | some _ => bestS T (dayB T d (dayA T d (sim T d))) d := by
  have e : sim T (d + 1) = dayD T d (dayC T d (dayB T d (dayA T d (sim T d)))) := rfl
  rw [e]
  have hI := sim_I2 hw d
  have hI1 := sim_I1 T d
  -- the gales of the day change nothing by the door
  have hA : ∀ k, k < T 0 0 → (((dayB T d (dayA T d (sim T d))).1 k).isSome && !decide (T 1 k = 2)) = (((sim T d).1 k).isSome && !decide (T 1 k = 2)) ∧ (¬ T 1 k = 2 → (dayB T d (dayA T d (sim T d))).1 k = (sim T d).1 k) := by
    intro k hk
    obtain ⟨b1, -, -⟩ := stB T d (dayA T d (sim T d)) k
    rw [b1]
    obtain ⟨-, a2⟩ := stA T d (sim T d) k
    rcases a2 with ⟨-, a2, -⟩ | ⟨a2, -⟩
    · rw [a2]; exact ⟨rfl, fun _ => rfl⟩
    · constructor
      · simp [a2.2]
      · intro q; exact absurd a2.2 q
  have hD : ∀ σ : zSS, (dayD T d σ).1 = σ.1 := fun σ => rfl
  unfold fdS
  rw [hD]
  generalize hσb : dayB T d (dayA T d (sim T d)) = σb at hA ⊢
  have hB : bestBy (fun k => (σb.1 k).isSome && !decide (T 1 k = 2)) (fun k => (σb.1 k).getD 0) (T 0 0) = bestBy (fun k => ((sim T d).1 k).isSome && !decide (T 1 k = 2)) (fun k => ((sim T d).1 k).getD 0) (T 0 0) := by
    refine best_congr _ (fun k hk => ?_)
    obtain ⟨h1, h2⟩ := hA k hk
    refine ⟨h1, fun q => ?_⟩
    have h3 : ¬ T 1 k = 2 := fun q2 => by simp [q2] at q
    show (σb.1 k).getD 0 = _
    rw [h2 h3]
  rw [← hB]
  have hlt : ∀ k, k < T 0 0 → ∀ c, σb.1 k = some c → ¬ T 1 k = 2 → c < d := by
    intro k hk c hc h2
    rw [(hA k hk).2 h2] at hc
    exact ((hI k).1 c hc).1
  cases hm : doorS T d with
  | none =>
    have e2 : dayC T d σb = σb := by unfold dayC; rw [hm]
    rw [e2]
    cases bestBy (fun k => (σb.1 k).isSome && !decide (T 1 k = 2)) (fun k => (σb.1 k).getD 0) (T 0 0) <;> rfl
  | some m =>
    cases hb : bestS T σb d with
    | none =>
      have e2 : dayC T d σb = σb := by unfold dayC; rw [hm, hb]
      rw [e2]
      cases bestBy (fun k => (σb.1 k).isSome && !decide (T 1 k = 2)) (fun k => (σb.1 k).getD 0) (T 0 0) <;> rfl
    | some b =>
      have e2 : dayC T d σb = letS b d (nmS T m b) σb := by unfold dayC; rw [hm, hb]
      obtain ⟨b1, b2, -⟩ := best_on hb
      obtain ⟨-, b3, b4, -⟩ := onS_lt b2
      have hg : ¬ T 1 b = 2 := by
        intro q
        rcases Nat.lt_or_ge (T 3 b) d with q2 | q2
        · -- a gale that has come before is in
          have hgale : ∀ e, T 3 b < e → (sim T e).1 b ≠ none := by
            intro e
            induction e with
            | zero => intro h; omega
            | succ e ih =>
              intro h
              obtain ⟨x, -⟩ := dayAll T e b
              rcases x with ⟨x, -⟩ | ⟨-, -, x, -⟩
              · rcases Nat.lt_or_ge (T 3 b) e with q3 | q3
                · rw [x]; exact ih q3
                · have q4 : T 3 b = e := by omega
                  intro q5
                  have e9 : sim T (e + 1) = dayD T e (dayC T e (dayB T e (dayA T e (sim T e)))) := rfl
                  rw [e9] at q5
                  obtain ⟨-, a2⟩ := stA T e (sim T e) b
                  generalize dayA T e (sim T e) = σa at a2 q5
                  obtain ⟨w1, -, -⟩ := stB T e σa b
                  generalize dayB T e σa = σb2 at w1 q5
                  obtain ⟨-, w2⟩ := stC T e σb2 b
                  have q6 : (dayC T e σb2).1 b = none := q5
                  rcases w2 with ⟨w2, -⟩ | ⟨_, -, -, w2, -⟩
                  · rw [w2, w1] at q6
                    rcases a2 with ⟨a2, -⟩ | ⟨-, a2, -⟩
                    · exact a2 ⟨q4, q⟩
                    · rw [a2] at q6; cases q6
                  · rw [w2] at q6; cases q6
              · rw [x]; intro q5; cases q5
          have h9 := hgale d q2
          obtain ⟨w1, -, -⟩ := stB T d (dayA T d (sim T d)) b
          rw [hσb] at w1
          obtain ⟨-, a2⟩ := stA T d (sim T d) b
          rw [w1] at b4
          rcases a2 with ⟨-, a2, -⟩ | ⟨-, a2, -⟩
          · rw [a2] at b4; exact h9 b4
          · rw [a2] at b4; cases b4
        · have q4 : T 3 b = d := by omega
          obtain ⟨w1, -, -⟩ := stB T d (dayA T d (sim T d)) b
          rw [hσb] at w1
          obtain ⟨-, a2⟩ := stA T d (sim T d) b
          rw [w1] at b4
          rcases a2 with ⟨a2, -⟩ | ⟨-, a2, -⟩
          · exact a2 ⟨q4, q⟩
          · rw [a2] at b4; cases b4
      rw [e2]
      have := best_add (p := fun k => decide (k < T 0 0) && ((σb.1 k).isSome && !decide (T 1 k = 2))) (p' := fun k => decide (k < T 0 0) && (((letS b d (nmS T m b) σb).1 k).isSome && !decide (T 1 k = 2))) (f := fun k => (σb.1 k).getD 0) (f' := fun k => ((letS b d (nmS T m b) σb).1 k).getD 0) (b := b) (d := d) ?_ ?_ ?_ ?_ (T 0 0)
      · have c1 : bestBy (fun k => decide (k < T 0 0) && (((letS b d (nmS T m b) σb).1 k).isSome && !decide (T 1 k = 2))) (fun k => ((letS b d (nmS T m b) σb).1 k).getD 0) (T 0 0) = bestBy (fun k => ((letS b d (nmS T m b) σb).1 k).isSome && !decide (T 1 k = 2)) (fun k => ((letS b d (nmS T m b) σb).1 k).getD 0) (T 0 0) := best_congr _ (fun k hk => ⟨by simp [hk], fun _ => rfl⟩)
        have c2 : bestBy (fun k => decide (k < T 0 0) && ((σb.1 k).isSome && !decide (T 1 k = 2))) (fun k => (σb.1 k).getD 0) (T 0 0) = bestBy (fun k => (σb.1 k).isSome && !decide (T 1 k = 2)) (fun k => (σb.1 k).getD 0) (T 0 0) := best_congr _ (fun k hk => ⟨by simp [hk], fun _ => rfl⟩)
        rw [c1, c2] at this
        rw [this]
        cases bestBy (fun k => (σb.1 k).isSome && !decide (T 1 k = 2)) (fun k => (σb.1 k).getD 0) (T 0 0) with
        | some w => rfl
        | none => exact if_pos b1
      · intro k
        by_cases q : k = b
        · subst q; simp [letS, b1, hg]
        · simp [letS, q]
      · simp [b4]
      · intro k hk
        simp only [Bool.and_eq_true, decide_eq_true_eq, Bool.not_eq_true', decide_eq_false_iff_not] at hk
        obtain ⟨k1, k2, k3⟩ := hk
        have q : ¬ k = b := fun q => by subst q; rw [b4] at k2; cases k2
        refine ⟨by simp [letS, q], ?_⟩
        cases e5 : σb.1 k with
        | none => rw [e5] at k2; cases k2
        | some c => exact hlt k k1 c e5 k3
      · simp [letS]
