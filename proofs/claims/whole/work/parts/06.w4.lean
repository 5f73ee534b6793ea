set_option maxRecDepth 20000 in
theorem gT_law_X6_init : GoodIn lw_tbl (wsX6_init) := goodIn_sub (wsX6_init_tb) (by decide +kernel)
set_option maxRecDepth 20000 in
theorem gT_law_X7_init : GoodIn lw_tbl (wsX7_init) := goodIn_sub (wsX7_init_tb) (by decide +kernel)
set_option maxRecDepth 20000 in
theorem gT_law_X6_name : GoodIn lw_tbl (wsV RL 13 RX6 yX6_name wsX6_name) := goodIn_sub (List.forall_mem_append.mpr ⟨List.forall_mem_cons.mpr ⟨wd_262, List.forall_mem_cons.mpr ⟨wd_263, List.forall_mem_cons.mpr ⟨wd_264, List.forall_mem_cons.mpr ⟨wd_42, fun _ h => absurd h List.not_mem_nil⟩⟩⟩⟩, wsX6_name_tb⟩) (by decide +kernel)
set_option maxRecDepth 20000 in
theorem gT_law_X7_name : GoodIn lw_tbl (wsV RL 17 RX7 yX7_name wsX7_name) := goodIn_sub (List.forall_mem_append.mpr ⟨List.forall_mem_cons.mpr ⟨wd_852, List.forall_mem_cons.mpr ⟨wd_853, List.forall_mem_cons.mpr ⟨wd_854, List.forall_mem_cons.mpr ⟨wd_49, fun _ h => absurd h List.not_mem_nil⟩⟩⟩⟩, wsX7_name_tb⟩) (by decide +kernel)
set_option maxRecDepth 20000 in
theorem gT_law_X6_literal : GoodIn lw_tbl (wsV RL 18 RX6 yX6_literal wsX6_literal) := goodIn_sub (List.forall_mem_append.mpr ⟨List.forall_mem_cons.mpr ⟨wd_290, List.forall_mem_cons.mpr ⟨wd_291, List.forall_mem_cons.mpr ⟨wd_292, List.forall_mem_cons.mpr ⟨wd_42, fun _ h => absurd h List.not_mem_nil⟩⟩⟩⟩, wsX6_literal_tb⟩) (by decide +kernel)
set_option maxRecDepth 20000 in
theorem gT_law_X7_literal : GoodIn lw_tbl (wsV RL 22 RX7 yX7_literal wsX7_literal) := goodIn_sub (List.forall_mem_append.mpr ⟨List.forall_mem_cons.mpr ⟨wd_860, List.forall_mem_cons.mpr ⟨wd_861, List.forall_mem_cons.mpr ⟨wd_862, List.forall_mem_cons.mpr ⟨wd_49, fun _ h => absurd h List.not_mem_nil⟩⟩⟩⟩, wsX7_literal_tb⟩) (by decide +kernel)
set_option maxRecDepth 20000 in
theorem gT_law_X6_clause : GoodIn lw_tbl (wsV RL 23 RX6 yX6_clause wsX6_clause) := goodIn_sub (List.forall_mem_append.mpr ⟨List.forall_mem_cons.mpr ⟨wd_317, List.forall_mem_cons.mpr ⟨wd_318, List.forall_mem_cons.mpr ⟨wd_319, List.forall_mem_cons.mpr ⟨wd_42, fun _ h => absurd h List.not_mem_nil⟩⟩⟩⟩, wsX6_clause_tb⟩) (by decide +kernel)
set_option maxRecDepth 20000 in
theorem gT_law_X7_clause : GoodIn lw_tbl (wsV RL 26 RX7 yX7_clause wsX7_clause) := goodIn_sub (List.forall_mem_append.mpr ⟨List.forall_mem_cons.mpr ⟨wd_868, List.forall_mem_cons.mpr ⟨wd_869, List.forall_mem_cons.mpr ⟨wd_870, List.forall_mem_cons.mpr ⟨wd_49, fun _ h => absurd h List.not_mem_nil⟩⟩⟩⟩, wsX7_clause_tb⟩) (by decide +kernel)
set_option maxRecDepth 20000 in
theorem gT_law_X6_row : GoodIn lw_tbl (wsV RL 27 RX6 yX6_row wsX6_row) := goodIn_sub (List.forall_mem_append.mpr ⟨List.forall_mem_cons.mpr ⟨wd_337, List.forall_mem_cons.mpr ⟨wd_338, List.forall_mem_cons.mpr ⟨wd_339, List.forall_mem_cons.mpr ⟨wd_42, fun _ h => absurd h List.not_mem_nil⟩⟩⟩⟩, wsX6_row_tb⟩) (by decide +kernel)
set_option maxRecDepth 20000 in
theorem gT_law_X7_row : GoodIn lw_tbl (wsV RL 30 RX7 yX7_row wsX7_row) := goodIn_sub (List.forall_mem_append.mpr ⟨List.forall_mem_cons.mpr ⟨wd_876, List.forall_mem_cons.mpr ⟨wd_877, List.forall_mem_cons.mpr ⟨wd_878, List.forall_mem_cons.mpr ⟨wd_49, fun _ h => absurd h List.not_mem_nil⟩⟩⟩⟩, wsX7_row_tb⟩) (by decide +kernel)
set_option maxRecDepth 20000 in
theorem gT_law_X6_weight : GoodIn lw_tbl (wsV RL 31 RX6 yX6_weight wsX6_weight) := goodIn_sub (List.forall_mem_append.mpr ⟨List.forall_mem_cons.mpr ⟨wd_348, List.forall_mem_cons.mpr ⟨wd_349, List.forall_mem_cons.mpr ⟨wd_350, List.forall_mem_cons.mpr ⟨wd_42, fun _ h => absurd h List.not_mem_nil⟩⟩⟩⟩, wsX6_weight_tb⟩) (by decide +kernel)
set_option maxRecDepth 20000 in
theorem gT_law_X7_weight : GoodIn lw_tbl (wsV RL 35 RX7 yX7_weight wsX7_weight) := goodIn_sub (List.forall_mem_append.mpr ⟨List.forall_mem_cons.mpr ⟨wd_880, List.forall_mem_cons.mpr ⟨wd_881, List.forall_mem_cons.mpr ⟨wd_882, List.forall_mem_cons.mpr ⟨wd_49, fun _ h => absurd h List.not_mem_nil⟩⟩⟩⟩, wsX7_weight_tb⟩) (by decide +kernel)
set_option maxRecDepth 20000 in
theorem gT_law_X6_drop : GoodIn lw_tbl (wsV RL 36 RX6 yX6_drop wsX6_drop) := goodIn_sub (List.forall_mem_append.mpr ⟨List.forall_mem_cons.mpr ⟨wd_364, List.forall_mem_cons.mpr ⟨wd_365, List.forall_mem_cons.mpr ⟨wd_366, List.forall_mem_cons.mpr ⟨wd_42, fun _ h => absurd h List.not_mem_nil⟩⟩⟩⟩, wsX6_drop_tb⟩) (by decide +kernel)
set_option maxRecDepth 20000 in
theorem gT_law_X7_drop : GoodIn lw_tbl (wsV RL 39 RX7 yX7_drop wsX7_drop) := goodIn_sub (List.forall_mem_append.mpr ⟨List.forall_mem_cons.mpr ⟨wd_888, List.forall_mem_cons.mpr ⟨wd_889, List.forall_mem_cons.mpr ⟨wd_890, List.forall_mem_cons.mpr ⟨wd_49, fun _ h => absurd h List.not_mem_nil⟩⟩⟩⟩, wsX7_drop_tb⟩) (by decide +kernel)
set_option maxRecDepth 20000 in
theorem gT_law_X6_cost : GoodIn lw_tbl (wsV RL 40 RX6 yX6_cost wsX6_cost) := goodIn_sub (List.forall_mem_append.mpr ⟨List.forall_mem_cons.mpr ⟨wd_384, List.forall_mem_cons.mpr ⟨wd_385, List.forall_mem_cons.mpr ⟨wd_386, List.forall_mem_cons.mpr ⟨wd_42, fun _ h => absurd h List.not_mem_nil⟩⟩⟩⟩, wsX6_cost_tb⟩) (by decide +kernel)
set_option maxRecDepth 20000 in
theorem gT_law_X7_cost : GoodIn lw_tbl (wsV RL 44 RX7 yX7_cost wsX7_cost) := goodIn_sub (List.forall_mem_append.mpr ⟨List.forall_mem_cons.mpr ⟨wd_892, List.forall_mem_cons.mpr ⟨wd_893, List.forall_mem_cons.mpr ⟨wd_894, List.forall_mem_cons.mpr ⟨wd_49, fun _ h => absurd h List.not_mem_nil⟩⟩⟩⟩, wsX7_cost_tb⟩) (by decide +kernel)
set_option maxRecDepth 20000 in
theorem gT_law_X6_clear : GoodIn lw_tbl (wsV RL 45 RX6 yX6_clear wsX6_clear) := goodIn_sub (List.forall_mem_append.mpr ⟨List.forall_mem_cons.mpr ⟨wd_392, List.forall_mem_cons.mpr ⟨wd_393, List.forall_mem_cons.mpr ⟨wd_394, List.forall_mem_cons.mpr ⟨wd_42, fun _ h => absurd h List.not_mem_nil⟩⟩⟩⟩, wsX6_clear_tb⟩) (by decide +kernel)
set_option maxRecDepth 20000 in
theorem gT_law_X7_clear : GoodIn lw_tbl (wsV RL 48 RX7 yX7_clear wsX7_clear) := goodIn_sub (List.forall_mem_append.mpr ⟨List.forall_mem_cons.mpr ⟨wd_896, List.forall_mem_cons.mpr ⟨wd_897, List.forall_mem_cons.mpr ⟨wd_898, List.forall_mem_cons.mpr ⟨wd_49, fun _ h => absurd h List.not_mem_nil⟩⟩⟩⟩, wsX7_clear_tb⟩) (by decide +kernel)
set_option maxRecDepth 20000 in
theorem gT_law_X6_assume : GoodIn lw_tbl (wsV RL 49 RX6 yX6_assume wsX6_assume) := goodIn_sub (List.forall_mem_append.mpr ⟨List.forall_mem_cons.mpr ⟨wd_411, List.forall_mem_cons.mpr ⟨wd_412, List.forall_mem_cons.mpr ⟨wd_413, List.forall_mem_cons.mpr ⟨wd_42, fun _ h => absurd h List.not_mem_nil⟩⟩⟩⟩, wsX6_assume_tb⟩) (by decide +kernel)
set_option maxRecDepth 20000 in
theorem gT_law_X7_assume : GoodIn lw_tbl (wsV RL 52 RX7 yX7_assume wsX7_assume) := goodIn_sub (List.forall_mem_append.mpr ⟨List.forall_mem_cons.mpr ⟨wd_900, List.forall_mem_cons.mpr ⟨wd_901, List.forall_mem_cons.mpr ⟨wd_902, List.forall_mem_cons.mpr ⟨wd_49, fun _ h => absurd h List.not_mem_nil⟩⟩⟩⟩, wsX7_assume_tb⟩) (by decide +kernel)
set_option maxRecDepth 20000 in
theorem gT_law_X6_forget : GoodIn lw_tbl (wsV RL 53 RX6 yX6_forget wsX6_forget) := goodIn_sub (List.forall_mem_append.mpr ⟨List.forall_mem_cons.mpr ⟨wd_415, List.forall_mem_cons.mpr ⟨wd_416, List.forall_mem_cons.mpr ⟨wd_417, List.forall_mem_cons.mpr ⟨wd_42, fun _ h => absurd h List.not_mem_nil⟩⟩⟩⟩, wsX6_forget_tb⟩) (by decide +kernel)
set_option maxRecDepth 20000 in
theorem gT_law_X7_forget : GoodIn lw_tbl (wsV RL 56 RX7 yX7_forget wsX7_forget) := goodIn_sub (List.forall_mem_append.mpr ⟨List.forall_mem_cons.mpr ⟨wd_907, List.forall_mem_cons.mpr ⟨wd_908, List.forall_mem_cons.mpr ⟨wd_909, List.forall_mem_cons.mpr ⟨wd_49, fun _ h => absurd h List.not_mem_nil⟩⟩⟩⟩, wsX7_forget_tb⟩) (by decide +kernel)
set_option maxRecDepth 20000 in
theorem gT_law_X6_conflict : GoodIn lw_tbl (wsV RL 57 RX6 yX6_conflict wsX6_conflict) := goodIn_sub (List.forall_mem_append.mpr ⟨List.forall_mem_cons.mpr ⟨wd_419, List.forall_mem_cons.mpr ⟨wd_420, List.forall_mem_cons.mpr ⟨wd_421, List.forall_mem_cons.mpr ⟨wd_42, fun _ h => absurd h List.not_mem_nil⟩⟩⟩⟩, wsX6_conflict_tb⟩) (by decide +kernel)
set_option maxRecDepth 20000 in
theorem gT_law_X7_conflict : GoodIn lw_tbl (wsV RL 60 RX7 yX7_conflict wsX7_conflict) := goodIn_sub (List.forall_mem_append.mpr ⟨List.forall_mem_cons.mpr ⟨wd_911, List.forall_mem_cons.mpr ⟨wd_912, List.forall_mem_cons.mpr ⟨wd_913, List.forall_mem_cons.mpr ⟨wd_49, fun _ h => absurd h List.not_mem_nil⟩⟩⟩⟩, wsX7_conflict_tb⟩) (by decide +kernel)
set_option maxRecDepth 20000 in
theorem gT_law_X6_known : GoodIn lw_tbl (wsV RL 61 RX6 yX6_known wsX6_known) := goodIn_sub (List.forall_mem_append.mpr ⟨List.forall_mem_cons.mpr ⟨wd_503, List.forall_mem_cons.mpr ⟨wd_504, List.forall_mem_cons.mpr ⟨wd_505, List.forall_mem_cons.mpr ⟨wd_42, fun _ h => absurd h List.not_mem_nil⟩⟩⟩⟩, wsX6_known_tb⟩) (by decide +kernel)
set_option maxRecDepth 20000 in
theorem gT_law_X7_known : GoodIn lw_tbl (wsV RL 64 RX7 yX7_known wsX7_known) := goodIn_sub (List.forall_mem_append.mpr ⟨List.forall_mem_cons.mpr ⟨wd_927, List.forall_mem_cons.mpr ⟨wd_928, List.forall_mem_cons.mpr ⟨wd_929, List.forall_mem_cons.mpr ⟨wd_49, fun _ h => absurd h List.not_mem_nil⟩⟩⟩⟩, wsX7_known_tb⟩) (by decide +kernel)
set_option maxRecDepth 20000 in
theorem gT_law_X6_lemma : GoodIn lw_tbl (wsV RL 65 RX6 yX6_lemma wsX6_lemma) := goodIn_sub (List.forall_mem_append.mpr ⟨List.forall_mem_cons.mpr ⟨wd_518, List.forall_mem_cons.mpr ⟨wd_519, List.forall_mem_cons.mpr ⟨wd_520, List.forall_mem_cons.mpr ⟨wd_42, fun _ h => absurd h List.not_mem_nil⟩⟩⟩⟩, wsX6_lemma_tb⟩) (by decide +kernel)
set_option maxRecDepth 20000 in
theorem gT_law_X7_lemma : GoodIn lw_tbl (wsV RL 68 RX7 yX7_lemma wsX7_lemma) := goodIn_sub (List.forall_mem_append.mpr ⟨List.forall_mem_cons.mpr ⟨wd_931, List.forall_mem_cons.mpr ⟨wd_932, List.forall_mem_cons.mpr ⟨wd_933, List.forall_mem_cons.mpr ⟨wd_49, fun _ h => absurd h List.not_mem_nil⟩⟩⟩⟩, wsX7_lemma_tb⟩) (by decide +kernel)
set_option maxRecDepth 20000 in
theorem gT_law_X6_lemmas : GoodIn lw_tbl (wsV RL 69 RX6 yX6_lemmas wsX6_lemmas) := goodIn_sub (List.forall_mem_append.mpr ⟨List.forall_mem_cons.mpr ⟨wd_527, List.forall_mem_cons.mpr ⟨wd_528, List.forall_mem_cons.mpr ⟨wd_529, List.forall_mem_cons.mpr ⟨wd_42, fun _ h => absurd h List.not_mem_nil⟩⟩⟩⟩, wsX6_lemmas_tb⟩) (by decide +kernel)
set_option maxRecDepth 20000 in
theorem gT_law_X7_lemmas : GoodIn lw_tbl (wsV RL 72 RX7 yX7_lemmas wsX7_lemmas) := goodIn_sub (List.forall_mem_append.mpr ⟨List.forall_mem_cons.mpr ⟨wd_935, List.forall_mem_cons.mpr ⟨wd_936, List.forall_mem_cons.mpr ⟨wd_937, List.forall_mem_cons.mpr ⟨wd_49, fun _ h => absurd h List.not_mem_nil⟩⟩⟩⟩, wsX7_lemmas_tb⟩) (by decide +kernel)
set_option maxRecDepth 20000 in
theorem gT_law_X6_search : GoodIn lw_tbl (wsV RL 73 RX6 yX6_search wsX6_search) := goodIn_sub (List.forall_mem_append.mpr ⟨List.forall_mem_cons.mpr ⟨wd_531, List.forall_mem_cons.mpr ⟨wd_532, List.forall_mem_cons.mpr ⟨wd_533, List.forall_mem_cons.mpr ⟨wd_42, fun _ h => absurd h List.not_mem_nil⟩⟩⟩⟩, wsX6_search_tb⟩) (by decide +kernel)
set_option maxRecDepth 20000 in
theorem gT_law_X7_search : GoodIn lw_tbl (wsV RL 76 RX7 yX7_search wsX7_search) := goodIn_sub (List.forall_mem_append.mpr ⟨List.forall_mem_cons.mpr ⟨wd_939, List.forall_mem_cons.mpr ⟨wd_940, List.forall_mem_cons.mpr ⟨wd_941, List.forall_mem_cons.mpr ⟨wd_49, fun _ h => absurd h List.not_mem_nil⟩⟩⟩⟩, wsX7_search_tb⟩) (by decide +kernel)
set_option maxRecDepth 20000 in
theorem gT_law_X6_value : GoodIn lw_tbl (wsV RL 77 RX6 yX6_value wsX6_value) := goodIn_sub (List.forall_mem_append.mpr ⟨List.forall_mem_cons.mpr ⟨wd_583, List.forall_mem_cons.mpr ⟨wd_584, List.forall_mem_cons.mpr ⟨wd_585, List.forall_mem_cons.mpr ⟨wd_42, fun _ h => absurd h List.not_mem_nil⟩⟩⟩⟩, wsX6_value_tb⟩) (by decide +kernel)
set_option maxRecDepth 20000 in
theorem gT_law_X7_value : GoodIn lw_tbl (wsV RL 80 RX7 yX7_value wsX7_value) := goodIn_sub (List.forall_mem_append.mpr ⟨List.forall_mem_cons.mpr ⟨wd_955, List.forall_mem_cons.mpr ⟨wd_956, List.forall_mem_cons.mpr ⟨wd_957, List.forall_mem_cons.mpr ⟨wd_49, fun _ h => absurd h List.not_mem_nil⟩⟩⟩⟩, wsX7_value_tb⟩) (by decide +kernel)
set_option maxRecDepth 20000 in
theorem gT_law_X6_told : GoodIn lw_tbl (wsV RL 81 RX6 yX6_told wsX6_told) := goodIn_sub (List.forall_mem_append.mpr ⟨List.forall_mem_cons.mpr ⟨wd_591, List.forall_mem_cons.mpr ⟨wd_592, List.forall_mem_cons.mpr ⟨wd_593, List.forall_mem_cons.mpr ⟨wd_42, fun _ h => absurd h List.not_mem_nil⟩⟩⟩⟩, wsX6_told_tb⟩) (by decide +kernel)
set_option maxRecDepth 20000 in
theorem gT_law_X7_told : GoodIn lw_tbl (wsV RL 84 RX7 yX7_told wsX7_told) := goodIn_sub (List.forall_mem_append.mpr ⟨List.forall_mem_cons.mpr ⟨wd_976, List.forall_mem_cons.mpr ⟨wd_977, List.forall_mem_cons.mpr ⟨wd_978, List.forall_mem_cons.mpr ⟨wd_49, fun _ h => absurd h List.not_mem_nil⟩⟩⟩⟩, wsX7_told_tb⟩) (by decide +kernel)
set_option maxRecDepth 20000 in
theorem gT_law_X6_learned : GoodIn lw_tbl (wsV RL 85 RX6 yX6_learned wsX6_learned) := goodIn_sub (List.forall_mem_append.mpr ⟨List.forall_mem_cons.mpr ⟨wd_608, List.forall_mem_cons.mpr ⟨wd_609, List.forall_mem_cons.mpr ⟨wd_610, List.forall_mem_cons.mpr ⟨wd_42, fun _ h => absurd h List.not_mem_nil⟩⟩⟩⟩, wsX6_learned_tb⟩) (by decide +kernel)
set_option maxRecDepth 20000 in
theorem gT_law_X7_learned : GoodIn lw_tbl (wsV RL 88 RX7 yX7_learned wsX7_learned) := goodIn_sub (List.forall_mem_append.mpr ⟨List.forall_mem_cons.mpr ⟨wd_980, List.forall_mem_cons.mpr ⟨wd_981, List.forall_mem_cons.mpr ⟨wd_982, List.forall_mem_cons.mpr ⟨wd_49, fun _ h => absurd h List.not_mem_nil⟩⟩⟩⟩, wsX7_learned_tb⟩) (by decide +kernel)
set_option maxRecDepth 20000 in
theorem gT_law_X6_count : GoodIn lw_tbl (wsV RL 89 RX6 yX6_count wsX6_count) := goodIn_sub (List.forall_mem_append.mpr ⟨List.forall_mem_cons.mpr ⟨wd_623, List.forall_mem_cons.mpr ⟨wd_624, List.forall_mem_cons.mpr ⟨wd_625, List.forall_mem_cons.mpr ⟨wd_42, fun _ h => absurd h List.not_mem_nil⟩⟩⟩⟩, wsX6_count_tb⟩) (by decide +kernel)
set_option maxRecDepth 20000 in
theorem gT_law_X7_count : GoodIn lw_tbl (wsV RL 92 RX7 yX7_count wsX7_count) := goodIn_sub (List.forall_mem_append.mpr ⟨List.forall_mem_cons.mpr ⟨wd_984, List.forall_mem_cons.mpr ⟨wd_985, List.forall_mem_cons.mpr ⟨wd_986, List.forall_mem_cons.mpr ⟨wd_49, fun _ h => absurd h List.not_mem_nil⟩⟩⟩⟩, wsX7_count_tb⟩) (by decide +kernel)
set_option maxRecDepth 20000 in
theorem gT_law_X6_fixed : GoodIn lw_tbl (wsV RL 93 RX6 yX6_fixed wsX6_fixed) := goodIn_sub (List.forall_mem_append.mpr ⟨List.forall_mem_cons.mpr ⟨wd_690, List.forall_mem_cons.mpr ⟨wd_691, List.forall_mem_cons.mpr ⟨wd_692, List.forall_mem_cons.mpr ⟨wd_42, fun _ h => absurd h List.not_mem_nil⟩⟩⟩⟩, wsX6_fixed_tb⟩) (by decide +kernel)
set_option maxRecDepth 20000 in
theorem gT_law_X7_fixed : GoodIn lw_tbl (wsV RL 96 RX7 yX7_fixed wsX7_fixed) := goodIn_sub (List.forall_mem_append.mpr ⟨List.forall_mem_cons.mpr ⟨wd_988, List.forall_mem_cons.mpr ⟨wd_989, List.forall_mem_cons.mpr ⟨wd_990, List.forall_mem_cons.mpr ⟨wd_49, fun _ h => absurd h List.not_mem_nil⟩⟩⟩⟩, wsX7_fixed_tb⟩) (by decide +kernel)
set_option maxRecDepth 20000 in
theorem gT_law_X6_best : GoodIn lw_tbl (wsV RL 97 RX6 yX6_best wsX6_best) := goodIn_sub (List.forall_mem_append.mpr ⟨List.forall_mem_cons.mpr ⟨wd_702, List.forall_mem_cons.mpr ⟨wd_703, List.forall_mem_cons.mpr ⟨wd_704, List.forall_mem_cons.mpr ⟨wd_42, fun _ h => absurd h List.not_mem_nil⟩⟩⟩⟩, wsX6_best_tb⟩) (by decide +kernel)
set_option maxRecDepth 20000 in
theorem gT_law_X7_best : GoodIn lw_tbl (wsV RL 100 RX7 yX7_best wsX7_best) := goodIn_sub (List.forall_mem_append.mpr ⟨List.forall_mem_cons.mpr ⟨wd_992, List.forall_mem_cons.mpr ⟨wd_993, List.forall_mem_cons.mpr ⟨wd_994, List.forall_mem_cons.mpr ⟨wd_49, fun _ h => absurd h List.not_mem_nil⟩⟩⟩⟩, wsX7_best_tb⟩) (by decide +kernel)
set_option maxRecDepth 20000 in
theorem gT_law_X6_bestValue : GoodIn lw_tbl (wsV RL 101 RX6 yX6_bestValue wsX6_bestValue) := goodIn_sub (List.forall_mem_append.mpr ⟨List.forall_mem_cons.mpr ⟨wd_710, List.forall_mem_cons.mpr ⟨wd_711, List.forall_mem_cons.mpr ⟨wd_712, List.forall_mem_cons.mpr ⟨wd_42, fun _ h => absurd h List.not_mem_nil⟩⟩⟩⟩, wsX6_bestValue_tb⟩) (by decide +kernel)
set_option maxRecDepth 20000 in
theorem gT_law_X7_bestValue : GoodIn lw_tbl (wsV RL 104 RX7 yX7_bestValue wsX7_bestValue) := goodIn_sub (List.forall_mem_append.mpr ⟨List.forall_mem_cons.mpr ⟨wd_996, List.forall_mem_cons.mpr ⟨wd_997, List.forall_mem_cons.mpr ⟨wd_998, List.forall_mem_cons.mpr ⟨wd_49, fun _ h => absurd h List.not_mem_nil⟩⟩⟩⟩, wsX7_bestValue_tb⟩) (by decide +kernel)
set_option maxRecDepth 20000 in
theorem gT_law_X6_core : GoodIn lw_tbl (wsV RL 105 RX6 yX6_core wsX6_core) := goodIn_sub (List.forall_mem_append.mpr ⟨List.forall_mem_cons.mpr ⟨wd_718, List.forall_mem_cons.mpr ⟨wd_719, List.forall_mem_cons.mpr ⟨wd_720, List.forall_mem_cons.mpr ⟨wd_42, fun _ h => absurd h List.not_mem_nil⟩⟩⟩⟩, wsX6_core_tb⟩) (by decide +kernel)
set_option maxRecDepth 20000 in
theorem gT_law_X7_core : GoodIn lw_tbl (wsV RL 108 RX7 yX7_core wsX7_core) := goodIn_sub (List.forall_mem_append.mpr ⟨List.forall_mem_cons.mpr ⟨wd_1000, List.forall_mem_cons.mpr ⟨wd_1001, List.forall_mem_cons.mpr ⟨wd_1002, List.forall_mem_cons.mpr ⟨wd_49, fun _ h => absurd h List.not_mem_nil⟩⟩⟩⟩, wsX7_core_tb⟩) (by decide +kernel)
