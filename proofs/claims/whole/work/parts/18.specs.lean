/-- 0: row -/
def sp_0 (I : hh_ → Prop) : Prop := ∀ (h : hh_) (a1 : Int32) (a2 : Int32), I h → ∃ (r : Int32) (h1 : hh_) (h2 : hh_), ff_X7_row a1 a2 h = some (r, h1) ∧ ff_X8_row a1 a2 h1 = some (r, h2) ∧ I h2
/-- 1: lay -/
def sp_1 (I : hh_ → Prop) : Prop := ∀ (h : hh_) (a1 : Int32) (a2 : Int32) (a3 : Int32), I h → ∃ (r : Int32) (h1 : hh_) (h2 : hh_), ff_X7_lay a1 a2 a3 h = some (r, h1) ∧ ff_X8_lay a1 a2 a3 h1 = some (r, h2) ∧ I h2
/-- 2: at -/
def sp_2 (I : hh_ → Prop) : Prop := ∀ (h : hh_) (a1 : Int32) (a2 : Int32), I h → ∃ (r : Int32) (h1 : hh_) (h2 : hh_), ff_X7_at a1 a2 h = some (r, h1) ∧ ff_X8_at a1 a2 h1 = some (r, h2) ∧ I h2
/-- 3: tear -/
def sp_3 (I : hh_ → Prop) : Prop := ∀ (h : hh_) (a1 : Int32), I h → ∃ (r : Int32) (h1 : hh_) (h2 : hh_), ff_X7_tear a1 h = some (r, h1) ∧ ff_X8_tear a1 h1 = some (r, h2) ∧ I h2
/-- 4: copy -/
def sp_4 (I : hh_ → Prop) : Prop := ∀ (h : hh_) (a1 : Int32) (a2 : Int32) (a3 : Int32) (a4 : Int32) (a5 : Int32), I h → ∃ (r : Int32) (h1 : hh_) (h2 : hh_), ff_X7_copy a1 a2 a3 a4 a5 h = some (r, h1) ∧ ff_X8_copy a1 a2 a3 a4 a5 h1 = some (r, h2) ∧ I h2
/-- 5: mean -/
def sp_5 (I : hh_ → Prop) : Prop := ∀ (h : hh_) (a1 : Int32), I h → ∃ (r : Int32) (h1 : hh_) (h2 : hh_), ff_X7_mean a1 h = some (r, h1) ∧ ff_X8_mean a1 h1 = some (r, h2) ∧ I h2
/-- 6: text -/
def sp_6 (I : hh_ → Prop) : Prop := ∀ (h : hh_) (a1 : Int32) (a2 : Int32), I h → ∃ (r : Int32) (h1 : hh_) (h2 : hh_), ff_X7_text a1 a2 h = some (r, h1) ∧ ff_X8_text a1 a2 h1 = some (r, h2) ∧ I h2
/-- 7: put -/
def sp_7 (I : hh_ → Prop) : Prop := ∀ (h : hh_) (a1 : Int32) (a2 : Int32) (a3 : Int32), I h → ∃ (r : Int32) (h1 : hh_) (h2 : hh_), ff_X7_put a1 a2 a3 h = some (r, h1) ∧ ff_X8_put a1 a2 a3 h1 = some (r, h2) ∧ I h2
/-- 8: fault -/
def sp_8 (I : hh_ → Prop) : Prop := ∀ (h : hh_) (a1 : Int32), I h → ∃ (r : Int32) (h1 : hh_) (h2 : hh_), ff_X7_fault a1 h = some (r, h1) ∧ ff_X8_fault a1 h1 = some (r, h2) ∧ I h2
/-- 9: office -/
def sp_9 (I : hh_ → Prop) : Prop := ∀ (h : hh_) (a1 : Int32), I h → ∃ (r : Int32) (h1 : hh_) (h2 : hh_), ff_X7_office a1 h = some (r, h1) ∧ ff_X8_office a1 h1 = some (r, h2) ∧ I h2
/-- 10: head -/
def sp_10 (I : hh_ → Prop) : Prop := ∀ (h : hh_) (a1 : Int32) (a2 : Int32), I h → ∃ (r : Int32) (h1 : hh_) (h2 : hh_), ff_X7_head a1 a2 h = some (r, h1) ∧ ff_X8_head a1 a2 h1 = some (r, h2) ∧ I h2
/-- 11: thumb -/
def sp_11 (I : hh_ → Prop) : Prop := ∀ (h : hh_) (a1 : Int32) (a2 : Int32), I h → ∃ (r : Int32) (h1 : hh_) (h2 : hh_), ff_X7_thumb a1 a2 h = some (r, h1) ∧ ff_X8_thumb a1 a2 h1 = some (r, h2) ∧ I h2
/-- 12: post -/
def sp_12 (I : hh_ → Prop) : Prop := ∀ (h : hh_) (a1 : Int32) (a2 : Int32), I h → ∃ (r : Int32) (h1 : hh_) (h2 : hh_), ff_X7_post a1 a2 h = some (r, h1) ∧ ff_X8_post a1 a2 h1 = some (r, h2) ∧ I h2
/-- 13: mark -/
def sp_13 (I : hh_ → Prop) : Prop := ∀ (h : hh_) (a1 : Int32) (a2 : Int32), I h → ∃ (r : Int32) (h1 : hh_) (h2 : hh_), ff_X7_mark a1 a2 h = some (r, h1) ∧ ff_X8_mark a1 a2 h1 = some (r, h2) ∧ I h2
/-- 14: error -/
def sp_14 (I : hh_ → Prop) : Prop := ∀ (h : hh_) (a1 : Int32) (a2 : Int32), I h → ∃ (r : Int32) (h1 : hh_) (h2 : hh_), ff_X7_error a1 a2 h = some (r, h1) ∧ ff_X8_error a1 a2 h1 = some (r, h2) ∧ I h2
/-- 15: pad -/
def sp_15 (I : hh_ → Prop) : Prop := ∀ (h : hh_) (a1 : Int32) (a2 : Int32), I h → ∃ (r : Int32) (h1 : hh_) (h2 : hh_), ff_X7_pad a1 a2 h = some (r, h1) ∧ ff_X8_pad a1 a2 h1 = some (r, h2) ∧ I h2
/-- 16: grow -/
def sp_16 (I : hh_ → Prop) : Prop := ∀ (h : hh_) (a1 : Int32), I h → ∃ (r : Int32) (h1 : hh_) (h2 : hh_), ff_X7_grow a1 h = some (r, h1) ∧ ff_X8_grow a1 h1 = some (r, h2) ∧ I h2
/-- 17: cut -/
def sp_17 (I : hh_ → Prop) : Prop := ∀ (h : hh_) (a1 : Int32) (a2 : Int32), I h → ∃ (r : Int32) (h1 : hh_) (h2 : hh_), ff_X7_cut a1 a2 h = some (r, h1) ∧ ff_X8_cut a1 a2 h1 = some (r, h2) ∧ I h2
/-- 18: undo -/
def sp_18 (I : hh_ → Prop) : Prop := ∀ (h : hh_) (a1 : Int32), I h → ∃ (r : Int32) (h1 : hh_) (h2 : hh_), ff_X7_undo a1 h = some (r, h1) ∧ ff_X8_undo a1 h1 = some (r, h2) ∧ I h2
/-- 19: keep -/
def sp_19 (I : hh_ → Prop) : Prop := ∀ (h : hh_) (a1 : Int32), I h → ∃ (r : Int32) (h1 : hh_) (h2 : hh_), ff_X7_keep a1 h = some (r, h1) ∧ ff_X8_keep a1 h1 = some (r, h2) ∧ I h2
/-- 20: on -/
def sp_20 (I : hh_ → Prop) : Prop := ∀ (h : hh_) (a1 : Int32), I h → ∃ (r : Int32) (h1 : hh_) (h2 : hh_), ff_X7_on a1 h = some (r, h1) ∧ ff_X8_on a1 h1 = some (r, h2) ∧ I h2
/-- 21: reads -/
def sp_21 (I : hh_ → Prop) : Prop := ∀ (h : hh_) (a1 : Int32) (a2 : Int32) (a3 : Int32), I h → ∃ (r : Int32) (h1 : hh_) (h2 : hh_), ff_X7_reads a1 a2 a3 h = some (r, h1) ∧ ff_X8_reads a1 a2 a3 h1 = some (r, h2) ∧ I h2
/-- 22: fits -/
def sp_22 (I : hh_ → Prop) : Prop := ∀ (h : hh_) (a1 : Int32) (a2 : Int32) (a3 : Int32), I h → ∃ (r : Int32) (h1 : hh_) (h2 : hh_), ff_X7_fits a1 a2 a3 h = some (r, h1) ∧ ff_X8_fits a1 a2 a3 h1 = some (r, h2) ∧ I h2
/-- 23: whose -/
def sp_23 (I : hh_ → Prop) : Prop := ∀ (h : hh_) (a1 : Int32) (a2 : Int32), I h → ∃ (r : Int32) (h1 : hh_) (h2 : hh_), ff_X7_whose a1 a2 h = some (r, h1) ∧ ff_X8_whose a1 a2 h1 = some (r, h2) ∧ I h2
/-- 24: who -/
def sp_24 (I : hh_ → Prop) : Prop := ∀ (h : hh_) (a1 : Int32) (a2 : Int32), I h → ∃ (r : Int32) (h1 : hh_) (h2 : hh_), ff_X7_who a1 a2 h = some (r, h1) ∧ ff_X8_who a1 a2 h1 = some (r, h2) ∧ I h2
/-- 25: odds -/
def sp_25 (I : hh_ → Prop) : Prop := ∀ (h : hh_) (a1 : Int32) (a2 : Int32) (a3 : Int32), I h → ∃ (r : Int32) (h1 : hh_) (h2 : hh_), ff_X7_odds a1 a2 a3 h = some (r, h1) ∧ ff_X8_odds a1 a2 a3 h1 = some (r, h2) ∧ I h2
/-- 26: look -/
def sp_26 (I : hh_ → Prop) : Prop := ∀ (h : hh_) (a1 : Int32), I h → ∃ (r : Int32) (h1 : hh_) (h2 : hh_), ff_X7_look a1 h = some (r, h1) ∧ ff_X8_look a1 h1 = some (r, h2) ∧ I h2
/-- 27: alike -/
def sp_27 (I : hh_ → Prop) : Prop := ∀ (h : hh_) (a1 : Int32) (a2 : Int32), I h → ∃ (r : Int32), ff_X7_alike a1 a2 h = some r ∧ ff_X8_alike a1 a2 h = some r ∧ I h
/-- 28: suits -/
def sp_28 (I : hh_ → Prop) : Prop := ∀ (h : hh_) (a1 : Int32) (a2 : Int32) (a3 : Int32), I h → ∃ (r : Int32), ff_X7_suits a1 a2 a3 h = some r ∧ ff_X8_suits a1 a2 a3 h = some r ∧ I h
/-- 29: luck -/
def sp_29 (I : hh_ → Prop) : Prop := ∀ (h : hh_) (a1 : Int32) (a2 : Int32) (a3 : Int32), I h → ∃ (r : Int32) (h1 : hh_) (h2 : hh_), ff_X7_luck a1 a2 a3 h = some (r, h1) ∧ ff_X8_luck a1 a2 a3 h1 = some (r, h2) ∧ I h2
/-- 30: pads -/
def sp_30 (I : hh_ → Prop) : Prop := ∀ (h : hh_) (a1 : Int32) (a2 : Int32) (a3 : Int32) (a4 : Int32), I h → ∃ (r : Int32) (h1 : hh_) (h2 : hh_), ff_X7_pads a1 a2 a3 a4 h = some (r, h1) ∧ ff_X8_pads a1 a2 a3 a4 h1 = some (r, h2) ∧ I h2
/-- 31: all -/
def sp_31 (I : hh_ → Prop) : Prop := ∀ (h : hh_) (a1 : Int32) (a2 : Int32), I h → ∃ (r : Int32) (h2 : hh_), ff_X7_all a1 a2 h = some r ∧ ff_X8_all a1 a2 h = some (r, h2) ∧ I h2
/-- 32: finds -/
def sp_32 (I : hh_ → Prop) : Prop := ∀ (h : hh_) (a1 : Int32) (a2 : Int32) (a3 : Int32), I h → ∃ (r : Int32) (h2 : hh_), ff_X7_finds a1 a2 a3 h = some r ∧ ff_X8_finds a1 a2 a3 h = some (r, h2) ∧ I h2
/-- 33: posts -/
def sp_33 (I : hh_ → Prop) : Prop := ∀ (h : hh_) (a1 : Int32) (a2 : Int32), I h → ∃ (r : Int32) (h1 : hh_) (h2 : hh_), ff_X7_posts a1 a2 h = some (r, h1) ∧ ff_X8_posts a1 a2 h1 = some (r, h2) ∧ I h2
/-- 34: plan -/
def sp_34 (I : hh_ → Prop) : Prop := ∀ (h : hh_) (a1 : Int32) (a2 : Int32), I h → ∃ (r : Int32) (h1 : hh_) (h2 : hh_), ff_X7_plan a1 a2 h = some (r, h1) ∧ ff_X8_plan a1 a2 h1 = some (r, h2) ∧ I h2
/-- 35: plans -/
def sp_35 (I : hh_ → Prop) : Prop := ∀ (h : hh_) (a1 : Int32), I h → ∃ (r : Int32) (h1 : hh_) (h2 : hh_), ff_X7_plans a1 h = some (r, h1) ∧ ff_X8_plans a1 h1 = some (r, h2) ∧ I h2
/-- 36: safest -/
def sp_36 (I : hh_ → Prop) : Prop := ∀ (h : hh_) (a1 : Int32), I h → ∃ (r : Int32) (h1 : hh_) (h2 : hh_), ff_X7_safest a1 h = some (r, h1) ∧ ff_X8_safest a1 h1 = some (r, h2) ∧ I h2
/-- 37: gain -/
def sp_37 (I : hh_ → Prop) : Prop := ∀ (h : hh_) (a1 : Int32) (a2 : Int32), I h → ∃ (r : Int32) (h1 : hh_) (h2 : hh_), ff_X7_gain a1 a2 h = some (r, h1) ∧ ff_X8_gain a1 a2 h1 = some (r, h2) ∧ I h2
/-- 38: learn -/
def sp_38 (I : hh_ → Prop) : Prop := ∀ (h : hh_) (a1 : Int32) (a2 : Int32), I h → ∃ (r : Int32) (h1 : hh_) (h2 : hh_), ff_X7_learn a1 a2 h = some (r, h1) ∧ ff_X8_learn a1 a2 h1 = some (r, h2) ∧ I h2
/-- 39: tells -/
def sp_39 (I : hh_ → Prop) : Prop := ∀ (h : hh_) (a1 : Int32), I h → ∃ (r : Int32) (h1 : hh_) (h2 : hh_), ff_X7_tells a1 h = some (r, h1) ∧ ff_X8_tells a1 h1 = some (r, h2) ∧ I h2
/-- 40: lots -/
def sp_40 (I : hh_ → Prop) : Prop := ∀ (h : hh_) (a1 : Int32) (a2 : Int32) (a3 : Int32), I h → ∃ (r : Int32) (h1 : hh_) (h2 : hh_), ff_X7_lots a1 a2 a3 h = some (r, h1) ∧ ff_X8_lots a1 a2 a3 h1 = some (r, h2) ∧ I h2
/-- 41: asked -/
def sp_41 (I : hh_ → Prop) : Prop := ∀ (h : hh_), I h → ∃ (r : Int32), ff_X7_asked h = r ∧ ff_X8_asked h = r ∧ I h
/-- 42: upper -/
def sp_42 (I : hh_ → Prop) : Prop := ∀ (h : hh_), I h → ∃ (r : Int64), ff_X7_upper h = r ∧ ff_X8_upper h = r ∧ I h
/-- 43: lower -/
def sp_43 (I : hh_ → Prop) : Prop := ∀ (h : hh_), I h → ∃ (r : Int64), ff_X7_lower h = r ∧ ff_X8_lower h = r ∧ I h
/-- 44: count -/
def sp_44 (I : hh_ → Prop) : Prop := ∀ (h : hh_) (a1 : Int32), I h → ∃ (r : Int32), ff_X7_count a1 h = some r ∧ ff_X8_count a1 h = some r ∧ I h
/-- 45: finding -/
def sp_45 (I : hh_ → Prop) : Prop := ∀ (h : hh_), I h → ∃ (r : Int32), ff_X7_finding h = r ∧ ff_X8_finding h = r ∧ I h
/-- 46: findings -/
def sp_46 (I : hh_ → Prop) : Prop := ∀ (h : hh_) (a1 : Int32), I h → ∃ (r : Int32), ff_X7_findings a1 h = some r ∧ ff_X8_findings a1 h = some r ∧ I h
/-- 47: digest -/
def sp_47 (I : hh_ → Prop) : Prop := ∀ (h : hh_), I h → ∃ (r : Int64) (h2 : hh_), ff_X7_digest h = some r ∧ ff_X8_digest h = some (r, h2) ∧ I h2
