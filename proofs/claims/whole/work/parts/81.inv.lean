/-! what is kept between the class's state and the reference's -/
/-- the text -/
def rT (tl : Int32) (tc : Nat → Int32) (ms : Int32) (mt : Nat → Int32) : Prop :=
  ∃ (n : Nat) (ch : Nat → Nat), n ≤ 48 ∧ tl = nI n ∧ ms = nI n ∧ ∀ i, i < n → 33 ≤ ch i ∧ ch i ≤ 126 ∧ tc i = nI (ch i) ∧ mt i = nI (ch i)
/-- the flags and counts of the rules -/
def rU (tt on tf tm mt mo mf mm : Nat → Int32) : Prop := ∀ k, k < 6 → tt k = mt k ∧ on k = mo k ∧ tf k = mf k ∧ tm k = mm k ∧ zb (tt k) ∧ zb (on k) ∧ (tt k = 0 → on k = 0)
/-- a token of a postfix text: 1 a number, 2 a name, 3 an operator, 4 the opposite -/
abbrev zTok : Type := Nat × Nat
/-- an action: its kind, its target, the tokens of its key and of its value -/
abbrev zAct : Type := Nat × Nat × List zTok × List zTok
def zkc (t : zTok) : Nat := if t.1 = 1 then 256 + t.2 else if t.1 = 4 then 126 else t.2
def zxS (a : zAct) : List Nat := if a.1 = 64 then a.2.2.1.map zkc ++ (a.2.2.2.map zkc ++ [65 + a.2.1]) else a.2.2.2.map zkc ++ [if a.1 = 61 then 85 + a.2.1 else a.1]
def zxC : Option (List zTok) → List Nat
  | none => []
  | some T => T.map zkc ++ [47]
/-- steps stand from o on -/
def sE (s : Nat → Int32) : Nat → List Nat → Prop
  | _, [] => True
  | o, x :: L => s o = nI x ∧ sE s (o + 1) L
/-- tokens stand from a on, and an end -/
def mE (c : Nat → Int32) : Nat → List zTok → Prop
  | a, [] => c a = 0
  | a, t :: T => c a = nI t.1 ∧ c (a + 1) = nI t.2 ∧ mE c (a + 2) T
def zNm (c : Nat) : Prop := (97 ≤ c ∧ c ≤ 99) ∨ c = 116 ∨ c = 107 ∨ (117 ≤ c ∧ c ≤ 122)
def zOp (c : Nat) : Prop := c = 60 ∨ c = 62 ∨ c = 61 ∨ c = 43 ∨ c = 45 ∨ c = 42 ∨ c = 58
/-- tokens take a stack of d to one of e -/
def wT : Nat → List zTok → Nat → Prop
  | d, [], e => d = e
  | d, t :: T, e => (t.1 = 1 ∧ t.2 ≤ 999 ∧ wT (d + 1) T e) ∨ (t.1 = 2 ∧ zNm t.2 ∧ wT (d + 1) T e) ∨ (t.1 = 3 ∧ zOp t.2 ∧ 2 ≤ d ∧ wT (d - 1) T e) ∨ (t.1 = 4 ∧ t.2 = 0 ∧ 1 ≤ d ∧ wT d T e)
def mV (c : Nat → Int32) (x : Int32) (T : List zTok) : Prop := ∃ a : Nat, x = nI a ∧ a + 2 * T.length + 2 ≤ 1400 ∧ mE c a T ∧ wT 0 T 1
def zxM (kd tg f1 f2 c : Nat → Int32) (i : Nat) (a : zAct) : Prop :=
  kd i = nI a.1 ∧ mV c (f1 i) a.2.2.2 ∧ ((a.1 = 61 ∧ a.2.1 < 6 ∧ tg i = nI a.2.1) ∨ a.1 = 33 ∨ a.1 = 63 ∨ (a.1 = 64 ∧ a.2.1 < 3 ∧ tg i = nI a.2.1 ∧ mV c (f2 i) a.2.2.1))
def zxL (kd tg f1 f2 c : Nat → Int32) : Nat → List zAct → Prop
  | _, [] => True
  | i, a :: A => zxM kd tg f1 f2 c i a ∧ zxL kd tg f1 f2 c (i + 1) A
def zxN (c : Nat → Int32) (x : Int32) : Option (List zTok) → Prop
  | none => x = -1
  | some T => mV c x T
def mVb (lo hi : Nat) (c : Nat → Int32) (x : Int32) (T : List zTok) : Prop := ∃ a : Nat, x = nI a ∧ lo ≤ a ∧ a + 2 * T.length + 2 ≤ hi ∧ mE c a T ∧ wT 0 T 1
def zxMb (lo hi : Nat) (kd tg f1 f2 c : Nat → Int32) (i : Nat) (a : zAct) : Prop :=
  kd i = nI a.1 ∧ mVb lo hi c (f1 i) a.2.2.2 ∧ ((a.1 = 61 ∧ a.2.1 < 6 ∧ tg i = nI a.2.1) ∨ a.1 = 33 ∨ a.1 = 63 ∨ (a.1 = 64 ∧ a.2.1 < 3 ∧ tg i = nI a.2.1 ∧ mVb lo hi c (f2 i) a.2.2.1))
def zxLb (lo hi : Nat) (kd tg f1 f2 c : Nat → Int32) : Nat → List zAct → Prop
  | _, [] => True
  | i, a :: A => zxMb lo hi kd tg f1 f2 c i a ∧ zxLb lo hi kd tg f1 f2 c (i + 1) A
def zxNb (lo hi : Nat) (c : Nat → Int32) (x : Int32) : Option (List zTok) → Prop
  | none => x = -1
  | some T => mVb lo hi c x T
/-- rule k's program, the same in both -/
def rPk (len site exit cond : Int32) (steps : Nat → Int32) (ms mc ma : Int32) (kd tg f1 f2 c : Nat → Int32) (k : Nat) : Prop :=
  ∃ (s : Nat) (C : Option (List zTok)) (A : List zAct), s < 8 ∧ site = nI s ∧ zb exit ∧ ms = nI (s + if exit = 0 then 0 else 8) ∧
    cond = (if C.isSome then 1 else 0) ∧ (zxC C ++ A.flatMap zxS).length ≤ 48 ∧ len = nI (zxC C ++ A.flatMap zxS).length ∧ sE steps 0 (zxC C ++ A.flatMap zxS) ∧
    zxNb (200 * k) (200 * k + 200) c mc C ∧ ma = nI A.length ∧ zxLb (200 * k) (200 * k + 200) kd tg f1 f2 c (48 * k) A
def rP (there len site exit cond : Nat → Int32) (steps : Nat → Nat → Int32) (ms mc ma kd tg f1 f2 c : Nat → Int32) : Prop :=
  ∀ k, k < 6 → ¬ there k = 0 → rPk (len k) (site k) (exit k) (cond k) (steps k) (ms k) (mc k) (ma k) kd tg f1 f2 c k
/-- the time -/
def rM (N : Nat) (t m : Int32) : Prop := ∃ n : Nat, n ≤ 100 * N ∧ t = nI n ∧ m = nI n
/-- the variables -/
def rV (v g w : Nat → UInt64) : Prop := (∀ j, j < 3 → v j = g j ∧ zg (g j)) ∧ ∀ j, j < 12 → v (3 + j) = w j ∧ zg (w j)
/-- a gatherer -/
def rG1 (B g : Nat) (sz : Int32) (ks : Nat → Int32) (le gr su : Nat → UInt64) (vs bs : Nat → Int32) (mks mk mc mb : Nat → Int32) (ms ml mg : Nat → UInt64) : Prop :=
  ∃ z : Nat, z ≤ 4 ∧ sz = nI z ∧ mks g = nI z ∧
    (∀ r, r < z → ks r = mk (4 * g + r) ∧ su r = ms (4 * g + r) ∧ le r = ml (4 * g + r) ∧ gr r = mg (4 * g + r) ∧ (∃ c : Nat, 1 ≤ c ∧ c ≤ B ∧ vs r = nI c ∧ mc (4 * g + r) = nI c) ∧ zg (su r) ∧ ∀ b, b < 8 → bs (8 * r + b) = mb (8 * (4 * g + r) + b)) ∧
    (∀ r, z ≤ r → r < 4 → su r = 0 ∧ vs r = 0 ∧ mc (4 * g + r) = 0 ∧ ∀ b, b < 8 → bs (8 * r + b) = 0 ∧ mb (8 * (4 * g + r) + b) = 0)
def rG (B : Nat) (sz : Nat → Int32) (ks : Nat → Nat → Int32) (le gr su : Nat → Nat → UInt64) (vs bs : Nat → Nat → Int32) (mks mk mc mb : Nat → Int32) (ms ml mg : Nat → UInt64) : Prop :=
  ∀ g, g < 3 → rG1 B g (sz g) (ks g) (le g) (gr g) (su g) (vs g) (bs g) mks mk mc mb ms ml mg
/-- the records -/
def rQ (old sz : Int32) (ring : Nat → UInt64) (mr : Int32) (mq : Nat → UInt64) : Prop :=
  ∃ o z : Nat, o < 6 ∧ z ≤ 6 ∧ old = nI o ∧ sz = nI z ∧ mr = nI z ∧ ∀ i, i < z → ring ((o + i) % 6) = mq i
/-- what runs leave things in -/
def rX (B : Nat) (dr : Int32) (v : Nat → UInt64) (sz : Nat → Int32) (ks : Nat → Nat → Int32) (le gr su : Nat → Nat → UInt64) (vs bs : Nat → Nat → Int32) (old qs lo : Int32) (ring : Nat → UInt64) (mdr : Int32) (g w : Nat → UInt64) (mks mk mc mb : Nat → Int32) (ms ml mg : Nat → UInt64) (mr mlo : Int32) (mq : Nat → UInt64) : Prop :=
  dr = mdr ∧ lo = mlo ∧ rV v g w ∧ rG B sz ks le gr su vs bs mks mk mc mb ms ml mg ∧ rQ old qs ring mr mq
def zI : zInv := fun N t_place t_firings t_text_length t_text_at t_text_characters t_text_draft_length t_text_draft_actions t_text_draft_site t_text_draft_exit t_text_draft_conditional t_text_draft_there t_text_draft_on t_text_draft_failures t_text_draft_meetings t_text_draft_steps t_rules_e_length t_rules_e_actions t_rules_e_site t_rules_e_exit t_rules_e_conditional t_rules_e_there t_rules_e_on t_rules_e_failures t_rules_e_meetings t_rules_e_steps t_runner_time t_runner_dropped t_runner_thread t_runner_handedA t_runner_handedB t_runner_handedC t_runner_top t_runner_over t_runner_failed t_runner_met t_runner_stack t_runner_variables t_runner_gatherers_e_size t_runner_gatherers_e_keys t_runner_gatherers_e_least t_runner_gatherers_e_greatest t_runner_gatherers_e_sums t_runner_gatherers_e_values t_runner_gatherers_e_bins t_runner_records_oldest t_runner_records_size t_runner_records_lost t_runner_records_ring m_newSite m_newCondition m_newActions m_size m_place m_pos m_at m_operators m_recorded m_lost m_dropped m_firings m_time m_thread m_thrown m_failed m_text m_code m_site m_condition m_actions m_kind m_target m_first m_second m_failures m_met m_there m_on m_compared m_globals m_own m_records m_pile m_handed m_keys m_key m_count m_bins m_operator m_starts m_sum m_least m_greatest => t_place = m_place ∧ t_firings = m_firings ∧ rT t_text_length t_text_characters m_size m_text ∧ rU t_rules_e_there t_rules_e_on t_rules_e_failures t_rules_e_meetings m_there m_on m_failures m_met ∧ rP t_rules_e_there t_rules_e_length t_rules_e_site t_rules_e_exit t_rules_e_conditional t_rules_e_steps m_site m_condition m_actions m_kind m_target m_first m_second m_code ∧ rM N t_runner_time m_time ∧ rX (300 * N) t_runner_dropped t_runner_variables t_runner_gatherers_e_size t_runner_gatherers_e_keys t_runner_gatherers_e_least t_runner_gatherers_e_greatest t_runner_gatherers_e_sums t_runner_gatherers_e_values t_runner_gatherers_e_bins t_runner_records_oldest t_runner_records_size t_runner_records_lost t_runner_records_ring m_dropped m_globals m_own m_keys m_key m_count m_bins m_sum m_least m_greatest m_recorded m_lost m_records
