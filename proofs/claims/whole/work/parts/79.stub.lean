-- STUB
def zRel (μC μM : zM) : Prop := True
theorem zRel_0 : zRel zM0C zM0M := trivial
theorem op_type (a1 a2 : Int32) {μC μM : zM} (h : zRel μC μM) : ∃ (r : Int32) (μC1 μM1 : zM), f_X6_type a1 a2 μC = some (r, μC1) ∧ f_X7_type a1 a2 μM = some (r, μM1) ∧ zRel μC1 μM1 := sorry
theorem op_wipe (a1 : Int32) {μC μM : zM} (h : zRel μC μM) : ∃ (r : Int32) (μC1 μM1 : zM), f_X6_wipe a1 μC = some (r, μC1) ∧ f_X7_wipe a1 μM = some (r, μM1) ∧ zRel μC1 μM1 := sorry
theorem op_undo (a1 : Int32) {μC μM : zM} (h : zRel μC μM) : ∃ (r : Int32) (μC1 μM1 : zM), f_X6_undo a1 μC = some (r, μC1) ∧ f_X7_undo a1 μM = some (r, μM1) ∧ zRel μC1 μM1 := sorry
theorem op_fault (a1 : Int32) {μC μM : zM} (h : zRel μC μM) : ∃ (r : Int32) (μC1 μM1 : zM), f_X6_fault a1 μC = some (r, μC1) ∧ f_X7_fault a1 μM = some (r, μM1) ∧ zRel μC1 μM1 := sorry
theorem op_caller (a1 a2 : Int32) {μC μM : zM} (h : zRel μC μM) : ∃ (r : Int32) (μC1 μM1 : zM), f_X6_caller a1 a2 μC = some (r, μC1) ∧ f_X7_caller a1 a2 μM = some (r, μM1) ∧ zRel μC1 μM1 := sorry
theorem op_man (a1 a2 : Int32) {μC μM : zM} (h : zRel μC μM) : ∃ (r : Int32) (μC1 μM1 : zM), f_X6_man a1 a2 μC = some (r, μC1) ∧ f_X7_man a1 a2 μM = some (r, μM1) ∧ zRel μC1 μM1 := sorry
theorem op_card (a1 a2 : Int32) {μC μM : zM} (h : zRel μC μM) : ∃ (r : Int32) (μC1 μM1 : zM), f_X6_card a1 a2 μC = some (r, μC1) ∧ f_X7_card a1 a2 μM = some (r, μM1) ∧ zRel μC1 μM1 := sorry
theorem op_back {μC μM : zM} (h : zRel μC μM) : ∃ (r : Int32) (μC1 μM1 : zM), f_X6_back  μC = some (r, μC1) ∧ f_X7_back  μM = some (r, μM1) ∧ zRel μC1 μM1 := sorry
theorem op_read (a1 : Int32) {μC μM : zM} (h : zRel μC μM) : ∃ (r : Int32) (μC1 μM1 : zM), f_X6_read a1 μC = some (r, μC1) ∧ f_X7_read a1 μM = some (r, μM1) ∧ zRel μC1 μM1 := sorry
theorem op_stands (a1 a2 : Int32) {μC μM : zM} (h : zRel μC μM) : ∃ (r : Int32) (μC1 μM1 : zM), f_X6_stands a1 a2 μC = some (r, μC1) ∧ f_X7_stands a1 a2 μM = some (r, μM1) ∧ zRel μC1 μM1 := sorry
theorem op_name (a1 : Int32) {μC μM : zM} (h : zRel μC μM) : ∃ (r : Int32) (μC1 μM1 : zM), f_X6_name a1 μC = some (r, μC1) ∧ f_X7_name a1 μM = some (r, μM1) ∧ zRel μC1 μM1 := sorry
theorem op_door (a1 a2 : Int32) {μC μM : zM} (h : zRel μC μM) : ∃ (r : Int32) (μC1 μM1 : zM), f_X6_door a1 a2 μC = some (r, μC1) ∧ f_X7_door a1 a2 μM = some (r, μM1) ∧ zRel μC1 μM1 := sorry
theorem op_warmth (a1 : Int32) {μC μM : zM} (h : zRel μC μM) : ∃ (r : Int32) (μC1 μM1 : zM), f_X6_warmth a1 μC = some (r, μC1) ∧ f_X7_warmth a1 μM = some (r, μM1) ∧ zRel μC1 μM1 := sorry
theorem op_coldest {μC μM : zM} (h : zRel μC μM) : ∃ (r : Int32) (μC1 μM1 : zM), f_X6_coldest  μC = some (r, μC1) ∧ f_X7_coldest  μM = some (r, μM1) ∧ zRel μC1 μM1 := sorry
theorem op_first (a1 : Int32) {μC μM : zM} (h : zRel μC μM) : ∃ (r : Int32) (μC1 μM1 : zM), f_X6_first a1 μC = some (r, μC1) ∧ f_X7_first a1 μM = some (r, μM1) ∧ zRel μC1 μM1 := sorry
theorem op_sent {μC μM : zM} (h : zRel μC μM) : ∃ (r : Int32) (μC1 μM1 : zM), f_X6_sent  μC = some (r, μC1) ∧ f_X7_sent  μM = some (r, μM1) ∧ zRel μC1 μM1 := sorry
theorem op_wrong {μC μM : zM} (h : zRel μC μM) : ∃ (r : Int32) (μC1 μM1 : zM), f_X6_wrong  μC = some (r, μC1) ∧ f_X7_wrong  μM = some (r, μM1) ∧ zRel μC1 μM1 := sorry
theorem op_sum {μC μM : zM} (h : zRel μC μM) : ∃ (r : Int32) (μC1 μM1 : zM), f_X6_sum  μC = some (r, μC1) ∧ f_X7_sum  μM = some (r, μM1) ∧ zRel μC1 μM1 := sorry
theorem op_leave (a1 a2 : Int32) {μC μM : zM} (h : zRel μC μM) : ∃ (r : Int32) (μC1 μM1 : zM), f_X6_leave a1 a2 μC = some (r, μC1) ∧ f_X7_leave a1 a2 μM = some (r, μM1) ∧ zRel μC1 μM1 := sorry
theorem op_begin (a1 a2 : Int32) {μC μM : zM} (h : zRel μC μM) : ∃ (r : Int32) (μC1 μM1 : zM), f_X6_begin a1 a2 μC = some (r, μC1) ∧ f_X7_begin a1 a2 μM = some (r, μM1) ∧ zRel μC1 μM1 := sorry
theorem op_patience (a1 : Int32) {μC μM : zM} (h : zRel μC μM) : ∃ (r : Int32) (μC1 μM1 : zM), f_X6_patience a1 μC = some (r, μC1) ∧ f_X7_patience a1 μM = some (r, μM1) ∧ zRel μC1 μM1 := sorry
theorem op_burn (a1 : Int32) {μC μM : zM} (h : zRel μC μM) : ∃ (r : Int32) (μC1 μM1 : zM), f_X6_burn a1 μC = some (r, μC1) ∧ f_X7_burn a1 μM = some (r, μM1) ∧ zRel μC1 μM1 := sorry
theorem op_feel (a1 a2 : Int32) {μC μM : zM} (h : zRel μC μM) : ∃ (r : Int32) (μC1 μM1 : zM), f_X6_feel a1 a2 μC = some (r, μC1) ∧ f_X7_feel a1 a2 μM = some (r, μM1) ∧ zRel μC1 μM1 := sorry
theorem op_forget {μC μM : zM} (h : zRel μC μM) : ∃ (r : Int32) (μC1 μM1 : zM), f_X6_forget  μC = some (r, μC1) ∧ f_X7_forget  μM = some (r, μM1) ∧ zRel μC1 μM1 := sorry
theorem op_never {μC μM : zM} (h : zRel μC μM) : ∃ (r : Int32) (μC1 μM1 : zM), f_X6_never  μC = some (r, μC1) ∧ f_X7_never  μM = some (r, μM1) ∧ zRel μC1 μM1 := sorry
theorem op_was (a1 a2 : Int32) {μC μM : zM} (h : zRel μC μM) : ∃ (r : Int32) (μC1 μM1 : zM), f_X6_was a1 a2 μC = some (r, μC1) ∧ f_X7_was a1 a2 μM = some (r, μM1) ∧ zRel μC1 μM1 := sorry
theorem op_ask (a1 : Int32) {μC μM : zM} (h : zRel μC μM) : ∃ (r : Int32) (μC1 μM1 : zM), f_X6_ask a1 μC = some (r, μC1) ∧ f_X7_ask a1 μM = some (r, μM1) ∧ zRel μC1 μM1 := sorry
theorem op_chance (a1 a2 a3 : Int32) {μC μM : zM} (h : zRel μC μM) : ∃ (r : Int64) (μC1 μM1 : zM), f_X6_chance a1 a2 a3 μC = some (r, μC1) ∧ f_X7_chance a1 a2 a3 μM = some (r, μM1) ∧ zRel μC1 μM1 := sorry
theorem op_years (a1 a2 a3 : Int32) {μC μM : zM} (h : zRel μC μM) : ∃ (r : Int32) (μC1 μM1 : zM), f_X6_years a1 a2 a3 μC = some (r, μC1) ∧ f_X7_years a1 a2 a3 μM = some (r, μM1) ∧ zRel μC1 μM1 := sorry
theorem op_sheet (a1 a2 a3 : Int32) {μC μM : zM} (h : zRel μC μM) : ∃ (r : Int32) (μC1 μM1 : zM), f_X6_sheet a1 a2 a3 μC = some (r, μC1) ∧ f_X7_sheet a1 a2 a3 μM = some (r, μM1) ∧ zRel μC1 μM1 := sorry
theorem op_lose (a1 : Int32) {μC μM : zM} (h : zRel μC μM) : ∃ (r : Int32) (μC1 μM1 : zM), f_X6_lose a1 μC = some (r, μC1) ∧ f_X7_lose a1 μM = some (r, μM1) ∧ zRel μC1 μM1 := sorry
theorem op_put (a1 a2 a3 a4 : Int32) {μC μM : zM} (h : zRel μC μM) : ∃ (r : Int32) (μC1 μM1 : zM), f_X6_put a1 a2 a3 a4 μC = some (r, μC1) ∧ f_X7_put a1 a2 a3 a4 μM = some (r, μM1) ∧ zRel μC1 μM1 := sorry
theorem op_get (a1 a2 a3 : Int32) {μC μM : zM} (h : zRel μC μM) : ∃ (r : Int32) (μC1 μM1 : zM), f_X6_get a1 a2 a3 μC = some (r, μC1) ∧ f_X7_get a1 a2 a3 μM = some (r, μM1) ∧ zRel μC1 μM1 := sorry
theorem op_copy (a1 a2 a3 a4 a5 : Int32) {μC μM : zM} (h : zRel μC μM) : ∃ (r : Int32) (μC1 μM1 : zM), f_X6_copy a1 a2 a3 a4 a5 μC = some (r, μC1) ∧ f_X7_copy a1 a2 a3 a4 a5 μM = some (r, μM1) ∧ zRel μC1 μM1 := sorry
theorem op_write (a1 : Int32) {μC μM : zM} (h : zRel μC μM) : ∃ (r : Int32) (μC1 μM1 : zM), f_X6_write a1 μC = some (r, μC1) ∧ f_X7_write a1 μM = some (r, μM1) ∧ zRel μC1 μM1 := sorry
theorem op_count (a1 : Int32) {μC μM : zM} (h : zRel μC μM) : ∃ (r : Int32) (μC1 μM1 : zM), f_X6_count a1 μC = some (r, μC1) ∧ f_X7_count a1 μM = some (r, μM1) ∧ zRel μC1 μM1 := sorry
theorem op_digest {μC μM : zM} (h : zRel μC μM) : ∃ (r : Int64) (μC1 μM1 : zM), f_X6_digest  μC = some (r, μC1) ∧ f_X7_digest  μM = some (r, μM1) ∧ zRel μC1 μM1 := sorry
