/-! ===== the law, case by case ===== -/
theorem wK19 : Cond.constantLong RL 19 4294967295 ∈ fx_tb := fx_tb_in (List.mem_of_getElem? (i := 1883) (by decide +kernel)) (by decide +kernel)
theorem wL_21 : Cond.methodLink RL 21 yX11_feed ∈ fx_tb := fx_tb_in (List.mem_of_getElem? (i := 446) (by decide +kernel)) (by decide +kernel)
theorem wI_X11_feed : Cond.instanceMethod yX11_feed ∈ fx_tb := fx_tb_in (List.mem_of_getElem? (i := 447) (by decide +kernel)) (by decide +kernel)
theorem wS_X11_feed : Cond.selects RX11 yX11_feed yX11_feed ∈ fx_tb := fx_tb_in (List.mem_of_getElem? (i := 448) (by decide +kernel)) (by decide +kernel)
theorem wC_X11_feed : Cond.code yX11_feed cX11_feed 7 (some .int) ∈ fx_tb := fx_tb_in (List.mem_of_getElem? (i := 449) (by decide +kernel)) (by decide +kernel)
theorem wL_25 : Cond.methodLink RL 25 yX12_feed ∈ fx_tb := fx_tb_in (List.mem_of_getElem? (i := 1430) (by decide +kernel)) (by decide +kernel)
theorem wI_X12_feed : Cond.instanceMethod yX12_feed ∈ fx_tb := fx_tb_in (List.mem_of_getElem? (i := 1431) (by decide +kernel)) (by decide +kernel)
theorem wS_X12_feed : Cond.selects RX12 yX12_feed yX12_feed ∈ fx_tb := fx_tb_in (List.mem_of_getElem? (i := 1432) (by decide +kernel)) (by decide +kernel)
theorem wC_X12_feed : Cond.code yX12_feed cX12_feed 11 (some .int) ∈ fx_tb := fx_tb_in (List.mem_of_getElem? (i := 1433) (by decide +kernel)) (by decide +kernel)
theorem wL_26 : Cond.methodLink RL 26 yX11_republic ∈ fx_tb := fx_tb_in (List.mem_of_getElem? (i := 459) (by decide +kernel)) (by decide +kernel)
theorem wI_X11_republic : Cond.instanceMethod yX11_republic ∈ fx_tb := fx_tb_in (List.mem_of_getElem? (i := 460) (by decide +kernel)) (by decide +kernel)
theorem wS_X11_republic : Cond.selects RX11 yX11_republic yX11_republic ∈ fx_tb := fx_tb_in (List.mem_of_getElem? (i := 461) (by decide +kernel)) (by decide +kernel)
theorem wC_X11_republic : Cond.code yX11_republic cX11_republic 2 (some .int) ∈ fx_tb := fx_tb_in (List.mem_of_getElem? (i := 462) (by decide +kernel)) (by decide +kernel)
theorem wL_30 : Cond.methodLink RL 30 yX12_republic ∈ fx_tb := fx_tb_in (List.mem_of_getElem? (i := 1435) (by decide +kernel)) (by decide +kernel)
theorem wI_X12_republic : Cond.instanceMethod yX12_republic ∈ fx_tb := fx_tb_in (List.mem_of_getElem? (i := 1436) (by decide +kernel)) (by decide +kernel)
theorem wS_X12_republic : Cond.selects RX12 yX12_republic yX12_republic ∈ fx_tb := fx_tb_in (List.mem_of_getElem? (i := 1437) (by decide +kernel)) (by decide +kernel)
theorem wC_X12_republic : Cond.code yX12_republic cX12_republic 2 (some .int) ∈ fx_tb := fx_tb_in (List.mem_of_getElem? (i := 1438) (by decide +kernel)) (by decide +kernel)
theorem wL_31 : Cond.methodLink RL 31 yX11_term ∈ fx_tb := fx_tb_in (List.mem_of_getElem? (i := 777) (by decide +kernel)) (by decide +kernel)
theorem wI_X11_term : Cond.instanceMethod yX11_term ∈ fx_tb := fx_tb_in (List.mem_of_getElem? (i := 778) (by decide +kernel)) (by decide +kernel)
theorem wS_X11_term : Cond.selects RX11 yX11_term yX11_term ∈ fx_tb := fx_tb_in (List.mem_of_getElem? (i := 779) (by decide +kernel)) (by decide +kernel)
theorem wC_X11_term : Cond.code yX11_term cX11_term 3 (some .int) ∈ fx_tb := fx_tb_in (List.mem_of_getElem? (i := 780) (by decide +kernel)) (by decide +kernel)
theorem wL_34 : Cond.methodLink RL 34 yX12_term ∈ fx_tb := fx_tb_in (List.mem_of_getElem? (i := 1579) (by decide +kernel)) (by decide +kernel)
theorem wI_X12_term : Cond.instanceMethod yX12_term ∈ fx_tb := fx_tb_in (List.mem_of_getElem? (i := 1580) (by decide +kernel)) (by decide +kernel)
theorem wS_X12_term : Cond.selects RX12 yX12_term yX12_term ∈ fx_tb := fx_tb_in (List.mem_of_getElem? (i := 1581) (by decide +kernel)) (by decide +kernel)
theorem wC_X12_term : Cond.code yX12_term cX12_term 1 (some .int) ∈ fx_tb := fx_tb_in (List.mem_of_getElem? (i := 1582) (by decide +kernel)) (by decide +kernel)
theorem wL_35 : Cond.methodLink RL 35 yX11_ware ∈ fx_tb := fx_tb_in (List.mem_of_getElem? (i := 807) (by decide +kernel)) (by decide +kernel)
theorem wI_X11_ware : Cond.instanceMethod yX11_ware ∈ fx_tb := fx_tb_in (List.mem_of_getElem? (i := 808) (by decide +kernel)) (by decide +kernel)
theorem wS_X11_ware : Cond.selects RX11 yX11_ware yX11_ware ∈ fx_tb := fx_tb_in (List.mem_of_getElem? (i := 809) (by decide +kernel)) (by decide +kernel)
theorem wC_X11_ware : Cond.code yX11_ware cX11_ware 3 (some .int) ∈ fx_tb := fx_tb_in (List.mem_of_getElem? (i := 810) (by decide +kernel)) (by decide +kernel)
theorem wL_39 : Cond.methodLink RL 39 yX12_ware ∈ fx_tb := fx_tb_in (List.mem_of_getElem? (i := 1591) (by decide +kernel)) (by decide +kernel)
theorem wI_X12_ware : Cond.instanceMethod yX12_ware ∈ fx_tb := fx_tb_in (List.mem_of_getElem? (i := 1592) (by decide +kernel)) (by decide +kernel)
theorem wS_X12_ware : Cond.selects RX12 yX12_ware yX12_ware ∈ fx_tb := fx_tb_in (List.mem_of_getElem? (i := 1593) (by decide +kernel)) (by decide +kernel)
theorem wC_X12_ware : Cond.code yX12_ware cX12_ware 3 (some .int) ∈ fx_tb := fx_tb_in (List.mem_of_getElem? (i := 1594) (by decide +kernel)) (by decide +kernel)
theorem wL_40 : Cond.methodLink RL 40 yX11_party ∈ fx_tb := fx_tb_in (List.mem_of_getElem? (i := 828) (by decide +kernel)) (by decide +kernel)
theorem wI_X11_party : Cond.instanceMethod yX11_party ∈ fx_tb := fx_tb_in (List.mem_of_getElem? (i := 829) (by decide +kernel)) (by decide +kernel)
theorem wS_X11_party : Cond.selects RX11 yX11_party yX11_party ∈ fx_tb := fx_tb_in (List.mem_of_getElem? (i := 830) (by decide +kernel)) (by decide +kernel)
theorem wC_X11_party : Cond.code yX11_party cX11_party 3 (some .int) ∈ fx_tb := fx_tb_in (List.mem_of_getElem? (i := 831) (by decide +kernel)) (by decide +kernel)
theorem wL_43 : Cond.methodLink RL 43 yX12_party ∈ fx_tb := fx_tb_in (List.mem_of_getElem? (i := 1623) (by decide +kernel)) (by decide +kernel)
theorem wI_X12_party : Cond.instanceMethod yX12_party ∈ fx_tb := fx_tb_in (List.mem_of_getElem? (i := 1624) (by decide +kernel)) (by decide +kernel)
theorem wS_X12_party : Cond.selects RX12 yX12_party yX12_party ∈ fx_tb := fx_tb_in (List.mem_of_getElem? (i := 1625) (by decide +kernel)) (by decide +kernel)
theorem wC_X12_party : Cond.code yX12_party cX12_party 3 (some .int) ∈ fx_tb := fx_tb_in (List.mem_of_getElem? (i := 1626) (by decide +kernel)) (by decide +kernel)
theorem wL_44 : Cond.methodLink RL 44 yX11_work ∈ fx_tb := fx_tb_in (List.mem_of_getElem? (i := 833) (by decide +kernel)) (by decide +kernel)
theorem wI_X11_work : Cond.instanceMethod yX11_work ∈ fx_tb := fx_tb_in (List.mem_of_getElem? (i := 834) (by decide +kernel)) (by decide +kernel)
theorem wS_X11_work : Cond.selects RX11 yX11_work yX11_work ∈ fx_tb := fx_tb_in (List.mem_of_getElem? (i := 835) (by decide +kernel)) (by decide +kernel)
theorem wC_X11_work : Cond.code yX11_work cX11_work 3 (some .int) ∈ fx_tb := fx_tb_in (List.mem_of_getElem? (i := 836) (by decide +kernel)) (by decide +kernel)
theorem wL_47 : Cond.methodLink RL 47 yX12_work ∈ fx_tb := fx_tb_in (List.mem_of_getElem? (i := 1631) (by decide +kernel)) (by decide +kernel)
theorem wI_X12_work : Cond.instanceMethod yX12_work ∈ fx_tb := fx_tb_in (List.mem_of_getElem? (i := 1632) (by decide +kernel)) (by decide +kernel)
theorem wS_X12_work : Cond.selects RX12 yX12_work yX12_work ∈ fx_tb := fx_tb_in (List.mem_of_getElem? (i := 1633) (by decide +kernel)) (by decide +kernel)
theorem wC_X12_work : Cond.code yX12_work cX12_work 3 (some .int) ∈ fx_tb := fx_tb_in (List.mem_of_getElem? (i := 1634) (by decide +kernel)) (by decide +kernel)
theorem wL_48 : Cond.methodLink RL 48 yX11_stop ∈ fx_tb := fx_tb_in (List.mem_of_getElem? (i := 859) (by decide +kernel)) (by decide +kernel)
theorem wI_X11_stop : Cond.instanceMethod yX11_stop ∈ fx_tb := fx_tb_in (List.mem_of_getElem? (i := 860) (by decide +kernel)) (by decide +kernel)
theorem wS_X11_stop : Cond.selects RX11 yX11_stop yX11_stop ∈ fx_tb := fx_tb_in (List.mem_of_getElem? (i := 861) (by decide +kernel)) (by decide +kernel)
theorem wC_X11_stop : Cond.code yX11_stop cX11_stop 3 (some .int) ∈ fx_tb := fx_tb_in (List.mem_of_getElem? (i := 862) (by decide +kernel)) (by decide +kernel)
theorem wL_51 : Cond.methodLink RL 51 yX12_stop ∈ fx_tb := fx_tb_in (List.mem_of_getElem? (i := 1647) (by decide +kernel)) (by decide +kernel)
theorem wI_X12_stop : Cond.instanceMethod yX12_stop ∈ fx_tb := fx_tb_in (List.mem_of_getElem? (i := 1648) (by decide +kernel)) (by decide +kernel)
theorem wS_X12_stop : Cond.selects RX12 yX12_stop yX12_stop ∈ fx_tb := fx_tb_in (List.mem_of_getElem? (i := 1649) (by decide +kernel)) (by decide +kernel)
theorem wC_X12_stop : Cond.code yX12_stop cX12_stop 3 (some .int) ∈ fx_tb := fx_tb_in (List.mem_of_getElem? (i := 1650) (by decide +kernel)) (by decide +kernel)
theorem wL_52 : Cond.methodLink RL 52 yX11_join ∈ fx_tb := fx_tb_in (List.mem_of_getElem? (i := 867) (by decide +kernel)) (by decide +kernel)
theorem wI_X11_join : Cond.instanceMethod yX11_join ∈ fx_tb := fx_tb_in (List.mem_of_getElem? (i := 868) (by decide +kernel)) (by decide +kernel)
theorem wS_X11_join : Cond.selects RX11 yX11_join yX11_join ∈ fx_tb := fx_tb_in (List.mem_of_getElem? (i := 869) (by decide +kernel)) (by decide +kernel)
theorem wC_X11_join : Cond.code yX11_join cX11_join 3 (some .boolean) ∈ fx_tb := fx_tb_in (List.mem_of_getElem? (i := 870) (by decide +kernel)) (by decide +kernel)
theorem wL_56 : Cond.methodLink RL 56 yX12_join ∈ fx_tb := fx_tb_in (List.mem_of_getElem? (i := 1651) (by decide +kernel)) (by decide +kernel)
theorem wI_X12_join : Cond.instanceMethod yX12_join ∈ fx_tb := fx_tb_in (List.mem_of_getElem? (i := 1652) (by decide +kernel)) (by decide +kernel)
theorem wS_X12_join : Cond.selects RX12 yX12_join yX12_join ∈ fx_tb := fx_tb_in (List.mem_of_getElem? (i := 1653) (by decide +kernel)) (by decide +kernel)
theorem wC_X12_join : Cond.code yX12_join cX12_join 3 (some .boolean) ∈ fx_tb := fx_tb_in (List.mem_of_getElem? (i := 1654) (by decide +kernel)) (by decide +kernel)
theorem wL_57 : Cond.methodLink RL 57 yX11_lend ∈ fx_tb := fx_tb_in (List.mem_of_getElem? (i := 888) (by decide +kernel)) (by decide +kernel)
theorem wI_X11_lend : Cond.instanceMethod yX11_lend ∈ fx_tb := fx_tb_in (List.mem_of_getElem? (i := 889) (by decide +kernel)) (by decide +kernel)
theorem wS_X11_lend : Cond.selects RX11 yX11_lend yX11_lend ∈ fx_tb := fx_tb_in (List.mem_of_getElem? (i := 890) (by decide +kernel)) (by decide +kernel)
theorem wC_X11_lend : Cond.code yX11_lend cX11_lend 4 (some .boolean) ∈ fx_tb := fx_tb_in (List.mem_of_getElem? (i := 891) (by decide +kernel)) (by decide +kernel)
theorem wL_61 : Cond.methodLink RL 61 yX12_lend ∈ fx_tb := fx_tb_in (List.mem_of_getElem? (i := 1667) (by decide +kernel)) (by decide +kernel)
theorem wI_X12_lend : Cond.instanceMethod yX12_lend ∈ fx_tb := fx_tb_in (List.mem_of_getElem? (i := 1668) (by decide +kernel)) (by decide +kernel)
theorem wS_X12_lend : Cond.selects RX12 yX12_lend yX12_lend ∈ fx_tb := fx_tb_in (List.mem_of_getElem? (i := 1669) (by decide +kernel)) (by decide +kernel)
theorem wC_X12_lend : Cond.code yX12_lend cX12_lend 4 (some .boolean) ∈ fx_tb := fx_tb_in (List.mem_of_getElem? (i := 1670) (by decide +kernel)) (by decide +kernel)
theorem wL_62 : Cond.methodLink RL 62 yX11_week ∈ fx_tb := fx_tb_in (List.mem_of_getElem? (i := 900) (by decide +kernel)) (by decide +kernel)
theorem wI_X11_week : Cond.instanceMethod yX11_week ∈ fx_tb := fx_tb_in (List.mem_of_getElem? (i := 901) (by decide +kernel)) (by decide +kernel)
theorem wS_X11_week : Cond.selects RX11 yX11_week yX11_week ∈ fx_tb := fx_tb_in (List.mem_of_getElem? (i := 902) (by decide +kernel)) (by decide +kernel)
theorem wC_X11_week : Cond.code yX11_week cX11_week 1 (some .int) ∈ fx_tb := fx_tb_in (List.mem_of_getElem? (i := 903) (by decide +kernel)) (by decide +kernel)
theorem wL_65 : Cond.methodLink RL 65 yX12_week ∈ fx_tb := fx_tb_in (List.mem_of_getElem? (i := 1679) (by decide +kernel)) (by decide +kernel)
theorem wI_X12_week : Cond.instanceMethod yX12_week ∈ fx_tb := fx_tb_in (List.mem_of_getElem? (i := 1680) (by decide +kernel)) (by decide +kernel)
theorem wS_X12_week : Cond.selects RX12 yX12_week yX12_week ∈ fx_tb := fx_tb_in (List.mem_of_getElem? (i := 1681) (by decide +kernel)) (by decide +kernel)
theorem wC_X12_week : Cond.code yX12_week cX12_week 1 (some .int) ∈ fx_tb := fx_tb_in (List.mem_of_getElem? (i := 1682) (by decide +kernel)) (by decide +kernel)
theorem wL_66 : Cond.methodLink RL 66 yX11_undo ∈ fx_tb := fx_tb_in (List.mem_of_getElem? (i := 929) (by decide +kernel)) (by decide +kernel)
theorem wI_X11_undo : Cond.instanceMethod yX11_undo ∈ fx_tb := fx_tb_in (List.mem_of_getElem? (i := 930) (by decide +kernel)) (by decide +kernel)
theorem wS_X11_undo : Cond.selects RX11 yX11_undo yX11_undo ∈ fx_tb := fx_tb_in (List.mem_of_getElem? (i := 931) (by decide +kernel)) (by decide +kernel)
theorem wC_X11_undo : Cond.code yX11_undo cX11_undo 1 (some .boolean) ∈ fx_tb := fx_tb_in (List.mem_of_getElem? (i := 932) (by decide +kernel)) (by decide +kernel)
theorem wL_70 : Cond.methodLink RL 70 yX12_undo ∈ fx_tb := fx_tb_in (List.mem_of_getElem? (i := 1714) (by decide +kernel)) (by decide +kernel)
theorem wI_X12_undo : Cond.instanceMethod yX12_undo ∈ fx_tb := fx_tb_in (List.mem_of_getElem? (i := 1715) (by decide +kernel)) (by decide +kernel)
theorem wS_X12_undo : Cond.selects RX12 yX12_undo yX12_undo ∈ fx_tb := fx_tb_in (List.mem_of_getElem? (i := 1716) (by decide +kernel)) (by decide +kernel)
theorem wC_X12_undo : Cond.code yX12_undo cX12_undo 1 (some .boolean) ∈ fx_tb := fx_tb_in (List.mem_of_getElem? (i := 1717) (by decide +kernel)) (by decide +kernel)
theorem wL_71 : Cond.methodLink RL 71 yX11_judged ∈ fx_tb := fx_tb_in (List.mem_of_getElem? (i := 933) (by decide +kernel)) (by decide +kernel)
theorem wI_X11_judged : Cond.instanceMethod yX11_judged ∈ fx_tb := fx_tb_in (List.mem_of_getElem? (i := 934) (by decide +kernel)) (by decide +kernel)
theorem wS_X11_judged : Cond.selects RX11 yX11_judged yX11_judged ∈ fx_tb := fx_tb_in (List.mem_of_getElem? (i := 935) (by decide +kernel)) (by decide +kernel)
theorem wC_X11_judged : Cond.code yX11_judged cX11_judged 7 (some .int) ∈ fx_tb := fx_tb_in (List.mem_of_getElem? (i := 936) (by decide +kernel)) (by decide +kernel)
theorem wL_75 : Cond.methodLink RL 75 yX12_judged ∈ fx_tb := fx_tb_in (List.mem_of_getElem? (i := 1718) (by decide +kernel)) (by decide +kernel)
theorem wI_X12_judged : Cond.instanceMethod yX12_judged ∈ fx_tb := fx_tb_in (List.mem_of_getElem? (i := 1719) (by decide +kernel)) (by decide +kernel)
theorem wS_X12_judged : Cond.selects RX12 yX12_judged yX12_judged ∈ fx_tb := fx_tb_in (List.mem_of_getElem? (i := 1720) (by decide +kernel)) (by decide +kernel)
theorem wC_X12_judged : Cond.code yX12_judged cX12_judged 5 (some .int) ∈ fx_tb := fx_tb_in (List.mem_of_getElem? (i := 1721) (by decide +kernel)) (by decide +kernel)
theorem wL_76 : Cond.methodLink RL 76 yX11_when ∈ fx_tb := fx_tb_in (List.mem_of_getElem? (i := 947) (by decide +kernel)) (by decide +kernel)
theorem wI_X11_when : Cond.instanceMethod yX11_when ∈ fx_tb := fx_tb_in (List.mem_of_getElem? (i := 948) (by decide +kernel)) (by decide +kernel)
theorem wS_X11_when : Cond.selects RX11 yX11_when yX11_when ∈ fx_tb := fx_tb_in (List.mem_of_getElem? (i := 949) (by decide +kernel)) (by decide +kernel)
theorem wC_X11_when : Cond.code yX11_when cX11_when 2 (some .int) ∈ fx_tb := fx_tb_in (List.mem_of_getElem? (i := 950) (by decide +kernel)) (by decide +kernel)
theorem wL_79 : Cond.methodLink RL 79 yX12_when ∈ fx_tb := fx_tb_in (List.mem_of_getElem? (i := 1726) (by decide +kernel)) (by decide +kernel)
theorem wI_X12_when : Cond.instanceMethod yX12_when ∈ fx_tb := fx_tb_in (List.mem_of_getElem? (i := 1727) (by decide +kernel)) (by decide +kernel)
theorem wS_X12_when : Cond.selects RX12 yX12_when yX12_when ∈ fx_tb := fx_tb_in (List.mem_of_getElem? (i := 1728) (by decide +kernel)) (by decide +kernel)
theorem wC_X12_when : Cond.code yX12_when cX12_when 3 (some .int) ∈ fx_tb := fx_tb_in (List.mem_of_getElem? (i := 1729) (by decide +kernel)) (by decide +kernel)
theorem wL_80 : Cond.methodLink RL 80 yX11_caught ∈ fx_tb := fx_tb_in (List.mem_of_getElem? (i := 956) (by decide +kernel)) (by decide +kernel)
theorem wI_X11_caught : Cond.instanceMethod yX11_caught ∈ fx_tb := fx_tb_in (List.mem_of_getElem? (i := 957) (by decide +kernel)) (by decide +kernel)
theorem wS_X11_caught : Cond.selects RX11 yX11_caught yX11_caught ∈ fx_tb := fx_tb_in (List.mem_of_getElem? (i := 958) (by decide +kernel)) (by decide +kernel)
theorem wC_X11_caught : Cond.code yX11_caught cX11_caught 6 (some .int) ∈ fx_tb := fx_tb_in (List.mem_of_getElem? (i := 959) (by decide +kernel)) (by decide +kernel)
theorem wL_83 : Cond.methodLink RL 83 yX12_caught ∈ fx_tb := fx_tb_in (List.mem_of_getElem? (i := 1730) (by decide +kernel)) (by decide +kernel)
theorem wI_X12_caught : Cond.instanceMethod yX12_caught ∈ fx_tb := fx_tb_in (List.mem_of_getElem? (i := 1731) (by decide +kernel)) (by decide +kernel)
theorem wS_X12_caught : Cond.selects RX12 yX12_caught yX12_caught ∈ fx_tb := fx_tb_in (List.mem_of_getElem? (i := 1732) (by decide +kernel)) (by decide +kernel)
theorem wC_X12_caught : Cond.code yX12_caught cX12_caught 4 (some .int) ∈ fx_tb := fx_tb_in (List.mem_of_getElem? (i := 1733) (by decide +kernel)) (by decide +kernel)
theorem wL_84 : Cond.methodLink RL 84 yX11_joined ∈ fx_tb := fx_tb_in (List.mem_of_getElem? (i := 960) (by decide +kernel)) (by decide +kernel)
theorem wI_X11_joined : Cond.instanceMethod yX11_joined ∈ fx_tb := fx_tb_in (List.mem_of_getElem? (i := 961) (by decide +kernel)) (by decide +kernel)
theorem wS_X11_joined : Cond.selects RX11 yX11_joined yX11_joined ∈ fx_tb := fx_tb_in (List.mem_of_getElem? (i := 962) (by decide +kernel)) (by decide +kernel)
theorem wC_X11_joined : Cond.code yX11_joined cX11_joined 5 (some .int) ∈ fx_tb := fx_tb_in (List.mem_of_getElem? (i := 963) (by decide +kernel)) (by decide +kernel)
theorem wL_87 : Cond.methodLink RL 87 yX12_joined ∈ fx_tb := fx_tb_in (List.mem_of_getElem? (i := 1734) (by decide +kernel)) (by decide +kernel)
theorem wI_X12_joined : Cond.instanceMethod yX12_joined ∈ fx_tb := fx_tb_in (List.mem_of_getElem? (i := 1735) (by decide +kernel)) (by decide +kernel)
theorem wS_X12_joined : Cond.selects RX12 yX12_joined yX12_joined ∈ fx_tb := fx_tb_in (List.mem_of_getElem? (i := 1736) (by decide +kernel)) (by decide +kernel)
theorem wC_X12_joined : Cond.code yX12_joined cX12_joined 4 (some .int) ∈ fx_tb := fx_tb_in (List.mem_of_getElem? (i := 1737) (by decide +kernel)) (by decide +kernel)
theorem wL_88 : Cond.methodLink RL 88 yX11_fines ∈ fx_tb := fx_tb_in (List.mem_of_getElem? (i := 966) (by decide +kernel)) (by decide +kernel)
theorem wI_X11_fines : Cond.instanceMethod yX11_fines ∈ fx_tb := fx_tb_in (List.mem_of_getElem? (i := 967) (by decide +kernel)) (by decide +kernel)
theorem wS_X11_fines : Cond.selects RX11 yX11_fines yX11_fines ∈ fx_tb := fx_tb_in (List.mem_of_getElem? (i := 968) (by decide +kernel)) (by decide +kernel)
theorem wC_X11_fines : Cond.code yX11_fines cX11_fines 4 (some .int) ∈ fx_tb := fx_tb_in (List.mem_of_getElem? (i := 969) (by decide +kernel)) (by decide +kernel)
theorem wL_91 : Cond.methodLink RL 91 yX12_fines ∈ fx_tb := fx_tb_in (List.mem_of_getElem? (i := 1738) (by decide +kernel)) (by decide +kernel)
theorem wI_X12_fines : Cond.instanceMethod yX12_fines ∈ fx_tb := fx_tb_in (List.mem_of_getElem? (i := 1739) (by decide +kernel)) (by decide +kernel)
theorem wS_X12_fines : Cond.selects RX12 yX12_fines yX12_fines ∈ fx_tb := fx_tb_in (List.mem_of_getElem? (i := 1740) (by decide +kernel)) (by decide +kernel)
theorem wC_X12_fines : Cond.code yX12_fines cX12_fines 4 (some .int) ∈ fx_tb := fx_tb_in (List.mem_of_getElem? (i := 1741) (by decide +kernel)) (by decide +kernel)
theorem wL_92 : Cond.methodLink RL 92 yX11_round ∈ fx_tb := fx_tb_in (List.mem_of_getElem? (i := 970) (by decide +kernel)) (by decide +kernel)
theorem wI_X11_round : Cond.instanceMethod yX11_round ∈ fx_tb := fx_tb_in (List.mem_of_getElem? (i := 971) (by decide +kernel)) (by decide +kernel)
theorem wS_X11_round : Cond.selects RX11 yX11_round yX11_round ∈ fx_tb := fx_tb_in (List.mem_of_getElem? (i := 972) (by decide +kernel)) (by decide +kernel)
theorem wC_X11_round : Cond.code yX11_round cX11_round 4 (some .int) ∈ fx_tb := fx_tb_in (List.mem_of_getElem? (i := 973) (by decide +kernel)) (by decide +kernel)
theorem wL_95 : Cond.methodLink RL 95 yX12_round ∈ fx_tb := fx_tb_in (List.mem_of_getElem? (i := 1742) (by decide +kernel)) (by decide +kernel)
theorem wI_X12_round : Cond.instanceMethod yX12_round ∈ fx_tb := fx_tb_in (List.mem_of_getElem? (i := 1743) (by decide +kernel)) (by decide +kernel)
theorem wS_X12_round : Cond.selects RX12 yX12_round yX12_round ∈ fx_tb := fx_tb_in (List.mem_of_getElem? (i := 1744) (by decide +kernel)) (by decide +kernel)
theorem wC_X12_round : Cond.code yX12_round cX12_round 4 (some .int) ∈ fx_tb := fx_tb_in (List.mem_of_getElem? (i := 1745) (by decide +kernel)) (by decide +kernel)
theorem wL_96 : Cond.methodLink RL 96 yX11_most ∈ fx_tb := fx_tb_in (List.mem_of_getElem? (i := 974) (by decide +kernel)) (by decide +kernel)
theorem wI_X11_most : Cond.instanceMethod yX11_most ∈ fx_tb := fx_tb_in (List.mem_of_getElem? (i := 975) (by decide +kernel)) (by decide +kernel)
theorem wS_X11_most : Cond.selects RX11 yX11_most yX11_most ∈ fx_tb := fx_tb_in (List.mem_of_getElem? (i := 976) (by decide +kernel)) (by decide +kernel)
theorem wC_X11_most : Cond.code yX11_most cX11_most 7 (some .int) ∈ fx_tb := fx_tb_in (List.mem_of_getElem? (i := 977) (by decide +kernel)) (by decide +kernel)
theorem wL_99 : Cond.methodLink RL 99 yX12_most ∈ fx_tb := fx_tb_in (List.mem_of_getElem? (i := 1746) (by decide +kernel)) (by decide +kernel)
theorem wI_X12_most : Cond.instanceMethod yX12_most ∈ fx_tb := fx_tb_in (List.mem_of_getElem? (i := 1747) (by decide +kernel)) (by decide +kernel)
theorem wS_X12_most : Cond.selects RX12 yX12_most yX12_most ∈ fx_tb := fx_tb_in (List.mem_of_getElem? (i := 1748) (by decide +kernel)) (by decide +kernel)
theorem wC_X12_most : Cond.code yX12_most cX12_most 6 (some .int) ∈ fx_tb := fx_tb_in (List.mem_of_getElem? (i := 1749) (by decide +kernel)) (by decide +kernel)
theorem wL_100 : Cond.methodLink RL 100 yX11_ways ∈ fx_tb := fx_tb_in (List.mem_of_getElem? (i := 996) (by decide +kernel)) (by decide +kernel)
theorem wI_X11_ways : Cond.instanceMethod yX11_ways ∈ fx_tb := fx_tb_in (List.mem_of_getElem? (i := 997) (by decide +kernel)) (by decide +kernel)
theorem wS_X11_ways : Cond.selects RX11 yX11_ways yX11_ways ∈ fx_tb := fx_tb_in (List.mem_of_getElem? (i := 998) (by decide +kernel)) (by decide +kernel)
theorem wC_X11_ways : Cond.code yX11_ways cX11_ways 2 (some .int) ∈ fx_tb := fx_tb_in (List.mem_of_getElem? (i := 999) (by decide +kernel)) (by decide +kernel)
theorem wL_103 : Cond.methodLink RL 103 yX12_ways ∈ fx_tb := fx_tb_in (List.mem_of_getElem? (i := 1761) (by decide +kernel)) (by decide +kernel)
theorem wI_X12_ways : Cond.instanceMethod yX12_ways ∈ fx_tb := fx_tb_in (List.mem_of_getElem? (i := 1762) (by decide +kernel)) (by decide +kernel)
theorem wS_X12_ways : Cond.selects RX12 yX12_ways yX12_ways ∈ fx_tb := fx_tb_in (List.mem_of_getElem? (i := 1763) (by decide +kernel)) (by decide +kernel)
theorem wC_X12_ways : Cond.code yX12_ways cX12_ways 4 (some .int) ∈ fx_tb := fx_tb_in (List.mem_of_getElem? (i := 1764) (by decide +kernel)) (by decide +kernel)
theorem wL_104 : Cond.methodLink RL 104 yX11_pivot ∈ fx_tb := fx_tb_in (List.mem_of_getElem? (i := 1008) (by decide +kernel)) (by decide +kernel)
theorem wI_X11_pivot : Cond.instanceMethod yX11_pivot ∈ fx_tb := fx_tb_in (List.mem_of_getElem? (i := 1009) (by decide +kernel)) (by decide +kernel)
theorem wS_X11_pivot : Cond.selects RX11 yX11_pivot yX11_pivot ∈ fx_tb := fx_tb_in (List.mem_of_getElem? (i := 1010) (by decide +kernel)) (by decide +kernel)
theorem wC_X11_pivot : Cond.code yX11_pivot cX11_pivot 2 (some .int) ∈ fx_tb := fx_tb_in (List.mem_of_getElem? (i := 1011) (by decide +kernel)) (by decide +kernel)
theorem wL_107 : Cond.methodLink RL 107 yX12_pivot ∈ fx_tb := fx_tb_in (List.mem_of_getElem? (i := 1765) (by decide +kernel)) (by decide +kernel)
theorem wI_X12_pivot : Cond.instanceMethod yX12_pivot ∈ fx_tb := fx_tb_in (List.mem_of_getElem? (i := 1766) (by decide +kernel)) (by decide +kernel)
theorem wS_X12_pivot : Cond.selects RX12 yX12_pivot yX12_pivot ∈ fx_tb := fx_tb_in (List.mem_of_getElem? (i := 1767) (by decide +kernel)) (by decide +kernel)
theorem wC_X12_pivot : Cond.code yX12_pivot cX12_pivot 2 (some .int) ∈ fx_tb := fx_tb_in (List.mem_of_getElem? (i := 1768) (by decide +kernel)) (by decide +kernel)
theorem wL_108 : Cond.methodLink RL 108 yX11_power ∈ fx_tb := fx_tb_in (List.mem_of_getElem? (i := 1020) (by decide +kernel)) (by decide +kernel)
theorem wI_X11_power : Cond.instanceMethod yX11_power ∈ fx_tb := fx_tb_in (List.mem_of_getElem? (i := 1021) (by decide +kernel)) (by decide +kernel)
theorem wS_X11_power : Cond.selects RX11 yX11_power yX11_power ∈ fx_tb := fx_tb_in (List.mem_of_getElem? (i := 1022) (by decide +kernel)) (by decide +kernel)
theorem wC_X11_power : Cond.code yX11_power cX11_power 4 (some .int) ∈ fx_tb := fx_tb_in (List.mem_of_getElem? (i := 1023) (by decide +kernel)) (by decide +kernel)
theorem wL_111 : Cond.methodLink RL 111 yX12_power ∈ fx_tb := fx_tb_in (List.mem_of_getElem? (i := 1777) (by decide +kernel)) (by decide +kernel)
theorem wI_X12_power : Cond.instanceMethod yX12_power ∈ fx_tb := fx_tb_in (List.mem_of_getElem? (i := 1778) (by decide +kernel)) (by decide +kernel)
theorem wS_X12_power : Cond.selects RX12 yX12_power yX12_power ∈ fx_tb := fx_tb_in (List.mem_of_getElem? (i := 1779) (by decide +kernel)) (by decide +kernel)
theorem wC_X12_power : Cond.code yX12_power cX12_power 4 (some .int) ∈ fx_tb := fx_tb_in (List.mem_of_getElem? (i := 1780) (by decide +kernel)) (by decide +kernel)
theorem wL_112 : Cond.methodLink RL 112 yX11_core ∈ fx_tb := fx_tb_in (List.mem_of_getElem? (i := 1025) (by decide +kernel)) (by decide +kernel)
theorem wI_X11_core : Cond.instanceMethod yX11_core ∈ fx_tb := fx_tb_in (List.mem_of_getElem? (i := 1026) (by decide +kernel)) (by decide +kernel)
theorem wS_X11_core : Cond.selects RX11 yX11_core yX11_core ∈ fx_tb := fx_tb_in (List.mem_of_getElem? (i := 1027) (by decide +kernel)) (by decide +kernel)
theorem wC_X11_core : Cond.code yX11_core cX11_core 1 (some .int) ∈ fx_tb := fx_tb_in (List.mem_of_getElem? (i := 1028) (by decide +kernel)) (by decide +kernel)
theorem wL_115 : Cond.methodLink RL 115 yX12_core ∈ fx_tb := fx_tb_in (List.mem_of_getElem? (i := 1782) (by decide +kernel)) (by decide +kernel)
theorem wI_X12_core : Cond.instanceMethod yX12_core ∈ fx_tb := fx_tb_in (List.mem_of_getElem? (i := 1783) (by decide +kernel)) (by decide +kernel)
theorem wS_X12_core : Cond.selects RX12 yX12_core yX12_core ∈ fx_tb := fx_tb_in (List.mem_of_getElem? (i := 1784) (by decide +kernel)) (by decide +kernel)
theorem wC_X12_core : Cond.code yX12_core cX12_core 4 (some .int) ∈ fx_tb := fx_tb_in (List.mem_of_getElem? (i := 1785) (by decide +kernel)) (by decide +kernel)
theorem wL_116 : Cond.methodLink RL 116 yX11_lean ∈ fx_tb := fx_tb_in (List.mem_of_getElem? (i := 1033) (by decide +kernel)) (by decide +kernel)
theorem wI_X11_lean : Cond.instanceMethod yX11_lean ∈ fx_tb := fx_tb_in (List.mem_of_getElem? (i := 1034) (by decide +kernel)) (by decide +kernel)
theorem wS_X11_lean : Cond.selects RX11 yX11_lean yX11_lean ∈ fx_tb := fx_tb_in (List.mem_of_getElem? (i := 1035) (by decide +kernel)) (by decide +kernel)
theorem wC_X11_lean : Cond.code yX11_lean cX11_lean 1 (some .int) ∈ fx_tb := fx_tb_in (List.mem_of_getElem? (i := 1036) (by decide +kernel)) (by decide +kernel)
theorem wL_119 : Cond.methodLink RL 119 yX12_lean ∈ fx_tb := fx_tb_in (List.mem_of_getElem? (i := 1786) (by decide +kernel)) (by decide +kernel)
theorem wI_X12_lean : Cond.instanceMethod yX12_lean ∈ fx_tb := fx_tb_in (List.mem_of_getElem? (i := 1787) (by decide +kernel)) (by decide +kernel)
theorem wS_X12_lean : Cond.selects RX12 yX12_lean yX12_lean ∈ fx_tb := fx_tb_in (List.mem_of_getElem? (i := 1788) (by decide +kernel)) (by decide +kernel)
theorem wC_X12_lean : Cond.code yX12_lean cX12_lean 3 (some .int) ∈ fx_tb := fx_tb_in (List.mem_of_getElem? (i := 1789) (by decide +kernel)) (by decide +kernel)
theorem wL_120 : Cond.methodLink RL 120 yX11_shift ∈ fx_tb := fx_tb_in (List.mem_of_getElem? (i := 1042) (by decide +kernel)) (by decide +kernel)
theorem wI_X11_shift : Cond.instanceMethod yX11_shift ∈ fx_tb := fx_tb_in (List.mem_of_getElem? (i := 1043) (by decide +kernel)) (by decide +kernel)
theorem wS_X11_shift : Cond.selects RX11 yX11_shift yX11_shift ∈ fx_tb := fx_tb_in (List.mem_of_getElem? (i := 1044) (by decide +kernel)) (by decide +kernel)
theorem wC_X11_shift : Cond.code yX11_shift cX11_shift 6 (some .int) ∈ fx_tb := fx_tb_in (List.mem_of_getElem? (i := 1045) (by decide +kernel)) (by decide +kernel)
theorem wL_123 : Cond.methodLink RL 123 yX12_shift ∈ fx_tb := fx_tb_in (List.mem_of_getElem? (i := 1790) (by decide +kernel)) (by decide +kernel)
theorem wI_X12_shift : Cond.instanceMethod yX12_shift ∈ fx_tb := fx_tb_in (List.mem_of_getElem? (i := 1791) (by decide +kernel)) (by decide +kernel)
theorem wS_X12_shift : Cond.selects RX12 yX12_shift yX12_shift ∈ fx_tb := fx_tb_in (List.mem_of_getElem? (i := 1792) (by decide +kernel)) (by decide +kernel)
theorem wC_X12_shift : Cond.code yX12_shift cX12_shift 7 (some .int) ∈ fx_tb := fx_tb_in (List.mem_of_getElem? (i := 1793) (by decide +kernel)) (by decide +kernel)
theorem wL_124 : Cond.methodLink RL 124 yX11_rival ∈ fx_tb := fx_tb_in (List.mem_of_getElem? (i := 1052) (by decide +kernel)) (by decide +kernel)
theorem wI_X11_rival : Cond.instanceMethod yX11_rival ∈ fx_tb := fx_tb_in (List.mem_of_getElem? (i := 1053) (by decide +kernel)) (by decide +kernel)
theorem wS_X11_rival : Cond.selects RX11 yX11_rival yX11_rival ∈ fx_tb := fx_tb_in (List.mem_of_getElem? (i := 1054) (by decide +kernel)) (by decide +kernel)
theorem wC_X11_rival : Cond.code yX11_rival cX11_rival 6 (some .int) ∈ fx_tb := fx_tb_in (List.mem_of_getElem? (i := 1055) (by decide +kernel)) (by decide +kernel)
theorem wL_127 : Cond.methodLink RL 127 yX12_rival ∈ fx_tb := fx_tb_in (List.mem_of_getElem? (i := 1798) (by decide +kernel)) (by decide +kernel)
theorem wI_X12_rival : Cond.instanceMethod yX12_rival ∈ fx_tb := fx_tb_in (List.mem_of_getElem? (i := 1799) (by decide +kernel)) (by decide +kernel)
theorem wS_X12_rival : Cond.selects RX12 yX12_rival yX12_rival ∈ fx_tb := fx_tb_in (List.mem_of_getElem? (i := 1800) (by decide +kernel)) (by decide +kernel)
theorem wC_X12_rival : Cond.code yX12_rival cX12_rival 4 (some .int) ∈ fx_tb := fx_tb_in (List.mem_of_getElem? (i := 1801) (by decide +kernel)) (by decide +kernel)
theorem wL_128 : Cond.methodLink RL 128 yX11_friends ∈ fx_tb := fx_tb_in (List.mem_of_getElem? (i := 1061) (by decide +kernel)) (by decide +kernel)
theorem wI_X11_friends : Cond.instanceMethod yX11_friends ∈ fx_tb := fx_tb_in (List.mem_of_getElem? (i := 1062) (by decide +kernel)) (by decide +kernel)
theorem wS_X11_friends : Cond.selects RX11 yX11_friends yX11_friends ∈ fx_tb := fx_tb_in (List.mem_of_getElem? (i := 1063) (by decide +kernel)) (by decide +kernel)
theorem wC_X11_friends : Cond.code yX11_friends cX11_friends 4 (some .int) ∈ fx_tb := fx_tb_in (List.mem_of_getElem? (i := 1064) (by decide +kernel)) (by decide +kernel)
theorem wL_131 : Cond.methodLink RL 131 yX12_friends ∈ fx_tb := fx_tb_in (List.mem_of_getElem? (i := 1806) (by decide +kernel)) (by decide +kernel)
theorem wI_X12_friends : Cond.instanceMethod yX12_friends ∈ fx_tb := fx_tb_in (List.mem_of_getElem? (i := 1807) (by decide +kernel)) (by decide +kernel)
theorem wS_X12_friends : Cond.selects RX12 yX12_friends yX12_friends ∈ fx_tb := fx_tb_in (List.mem_of_getElem? (i := 1808) (by decide +kernel)) (by decide +kernel)
theorem wC_X12_friends : Cond.code yX12_friends cX12_friends 4 (some .int) ∈ fx_tb := fx_tb_in (List.mem_of_getElem? (i := 1809) (by decide +kernel)) (by decide +kernel)
theorem wL_132 : Cond.methodLink RL 132 yX11_bloc ∈ fx_tb := fx_tb_in (List.mem_of_getElem? (i := 1065) (by decide +kernel)) (by decide +kernel)
theorem wI_X11_bloc : Cond.instanceMethod yX11_bloc ∈ fx_tb := fx_tb_in (List.mem_of_getElem? (i := 1066) (by decide +kernel)) (by decide +kernel)
theorem wS_X11_bloc : Cond.selects RX11 yX11_bloc yX11_bloc ∈ fx_tb := fx_tb_in (List.mem_of_getElem? (i := 1067) (by decide +kernel)) (by decide +kernel)
theorem wC_X11_bloc : Cond.code yX11_bloc cX11_bloc 4 (some .int) ∈ fx_tb := fx_tb_in (List.mem_of_getElem? (i := 1068) (by decide +kernel)) (by decide +kernel)
theorem wL_135 : Cond.methodLink RL 135 yX12_bloc ∈ fx_tb := fx_tb_in (List.mem_of_getElem? (i := 1810) (by decide +kernel)) (by decide +kernel)
theorem wI_X12_bloc : Cond.instanceMethod yX12_bloc ∈ fx_tb := fx_tb_in (List.mem_of_getElem? (i := 1811) (by decide +kernel)) (by decide +kernel)
theorem wS_X12_bloc : Cond.selects RX12 yX12_bloc yX12_bloc ∈ fx_tb := fx_tb_in (List.mem_of_getElem? (i := 1812) (by decide +kernel)) (by decide +kernel)
theorem wC_X12_bloc : Cond.code yX12_bloc cX12_bloc 2 (some .int) ∈ fx_tb := fx_tb_in (List.mem_of_getElem? (i := 1813) (by decide +kernel)) (by decide +kernel)
theorem wL_136 : Cond.methodLink RL 136 yX11_orphans ∈ fx_tb := fx_tb_in (List.mem_of_getElem? (i := 1070) (by decide +kernel)) (by decide +kernel)
theorem wI_X11_orphans : Cond.instanceMethod yX11_orphans ∈ fx_tb := fx_tb_in (List.mem_of_getElem? (i := 1071) (by decide +kernel)) (by decide +kernel)
theorem wS_X11_orphans : Cond.selects RX11 yX11_orphans yX11_orphans ∈ fx_tb := fx_tb_in (List.mem_of_getElem? (i := 1072) (by decide +kernel)) (by decide +kernel)
theorem wC_X11_orphans : Cond.code yX11_orphans cX11_orphans 3 (some .int) ∈ fx_tb := fx_tb_in (List.mem_of_getElem? (i := 1073) (by decide +kernel)) (by decide +kernel)
theorem wL_139 : Cond.methodLink RL 139 yX12_orphans ∈ fx_tb := fx_tb_in (List.mem_of_getElem? (i := 1814) (by decide +kernel)) (by decide +kernel)
theorem wI_X12_orphans : Cond.instanceMethod yX12_orphans ∈ fx_tb := fx_tb_in (List.mem_of_getElem? (i := 1815) (by decide +kernel)) (by decide +kernel)
theorem wS_X12_orphans : Cond.selects RX12 yX12_orphans yX12_orphans ∈ fx_tb := fx_tb_in (List.mem_of_getElem? (i := 1816) (by decide +kernel)) (by decide +kernel)
theorem wC_X12_orphans : Cond.code yX12_orphans cX12_orphans 3 (some .int) ∈ fx_tb := fx_tb_in (List.mem_of_getElem? (i := 1817) (by decide +kernel)) (by decide +kernel)
theorem wL_140 : Cond.methodLink RL 140 yX11_say ∈ fx_tb := fx_tb_in (List.mem_of_getElem? (i := 1074) (by decide +kernel)) (by decide +kernel)
theorem wI_X11_say : Cond.instanceMethod yX11_say ∈ fx_tb := fx_tb_in (List.mem_of_getElem? (i := 1075) (by decide +kernel)) (by decide +kernel)
theorem wS_X11_say : Cond.selects RX11 yX11_say yX11_say ∈ fx_tb := fx_tb_in (List.mem_of_getElem? (i := 1076) (by decide +kernel)) (by decide +kernel)
theorem wC_X11_say : Cond.code yX11_say cX11_say 3 (some .boolean) ∈ fx_tb := fx_tb_in (List.mem_of_getElem? (i := 1077) (by decide +kernel)) (by decide +kernel)
theorem wL_144 : Cond.methodLink RL 144 yX12_say ∈ fx_tb := fx_tb_in (List.mem_of_getElem? (i := 1818) (by decide +kernel)) (by decide +kernel)
theorem wI_X12_say : Cond.instanceMethod yX12_say ∈ fx_tb := fx_tb_in (List.mem_of_getElem? (i := 1819) (by decide +kernel)) (by decide +kernel)
theorem wS_X12_say : Cond.selects RX12 yX12_say yX12_say ∈ fx_tb := fx_tb_in (List.mem_of_getElem? (i := 1820) (by decide +kernel)) (by decide +kernel)
theorem wC_X12_say : Cond.code yX12_say cX12_say 3 (some .boolean) ∈ fx_tb := fx_tb_in (List.mem_of_getElem? (i := 1821) (by decide +kernel)) (by decide +kernel)
theorem wL_145 : Cond.methodLink RL 145 yX11_wholes ∈ fx_tb := fx_tb_in (List.mem_of_getElem? (i := 1082) (by decide +kernel)) (by decide +kernel)
theorem wI_X11_wholes : Cond.instanceMethod yX11_wholes ∈ fx_tb := fx_tb_in (List.mem_of_getElem? (i := 1083) (by decide +kernel)) (by decide +kernel)
theorem wS_X11_wholes : Cond.selects RX11 yX11_wholes yX11_wholes ∈ fx_tb := fx_tb_in (List.mem_of_getElem? (i := 1084) (by decide +kernel)) (by decide +kernel)
theorem wC_X11_wholes : Cond.code yX11_wholes cX11_wholes 6 (some .int) ∈ fx_tb := fx_tb_in (List.mem_of_getElem? (i := 1085) (by decide +kernel)) (by decide +kernel)
theorem wL_148 : Cond.methodLink RL 148 yX12_wholes ∈ fx_tb := fx_tb_in (List.mem_of_getElem? (i := 1822) (by decide +kernel)) (by decide +kernel)
theorem wI_X12_wholes : Cond.instanceMethod yX12_wholes ∈ fx_tb := fx_tb_in (List.mem_of_getElem? (i := 1823) (by decide +kernel)) (by decide +kernel)
theorem wS_X12_wholes : Cond.selects RX12 yX12_wholes yX12_wholes ∈ fx_tb := fx_tb_in (List.mem_of_getElem? (i := 1824) (by decide +kernel)) (by decide +kernel)
theorem wC_X12_wholes : Cond.code yX12_wholes cX12_wholes 6 (some .int) ∈ fx_tb := fx_tb_in (List.mem_of_getElem? (i := 1825) (by decide +kernel)) (by decide +kernel)
theorem wL_149 : Cond.methodLink RL 149 yX11_ask ∈ fx_tb := fx_tb_in (List.mem_of_getElem? (i := 1098) (by decide +kernel)) (by decide +kernel)
theorem wI_X11_ask : Cond.instanceMethod yX11_ask ∈ fx_tb := fx_tb_in (List.mem_of_getElem? (i := 1099) (by decide +kernel)) (by decide +kernel)
theorem wS_X11_ask : Cond.selects RX11 yX11_ask yX11_ask ∈ fx_tb := fx_tb_in (List.mem_of_getElem? (i := 1100) (by decide +kernel)) (by decide +kernel)
theorem wC_X11_ask : Cond.code yX11_ask cX11_ask 1 (some .int) ∈ fx_tb := fx_tb_in (List.mem_of_getElem? (i := 1101) (by decide +kernel)) (by decide +kernel)
theorem wL_152 : Cond.methodLink RL 152 yX12_ask ∈ fx_tb := fx_tb_in (List.mem_of_getElem? (i := 1834) (by decide +kernel)) (by decide +kernel)
theorem wI_X12_ask : Cond.instanceMethod yX12_ask ∈ fx_tb := fx_tb_in (List.mem_of_getElem? (i := 1835) (by decide +kernel)) (by decide +kernel)
theorem wS_X12_ask : Cond.selects RX12 yX12_ask yX12_ask ∈ fx_tb := fx_tb_in (List.mem_of_getElem? (i := 1836) (by decide +kernel)) (by decide +kernel)
theorem wC_X12_ask : Cond.code yX12_ask cX12_ask 7 (some .int) ∈ fx_tb := fx_tb_in (List.mem_of_getElem? (i := 1837) (by decide +kernel)) (by decide +kernel)
theorem wL_153 : Cond.methodLink RL 153 yX11_chance ∈ fx_tb := fx_tb_in (List.mem_of_getElem? (i := 1112) (by decide +kernel)) (by decide +kernel)
theorem wI_X11_chance : Cond.instanceMethod yX11_chance ∈ fx_tb := fx_tb_in (List.mem_of_getElem? (i := 1113) (by decide +kernel)) (by decide +kernel)
theorem wS_X11_chance : Cond.selects RX11 yX11_chance yX11_chance ∈ fx_tb := fx_tb_in (List.mem_of_getElem? (i := 1114) (by decide +kernel)) (by decide +kernel)
theorem wC_X11_chance : Cond.code yX11_chance cX11_chance 7 (some .int) ∈ fx_tb := fx_tb_in (List.mem_of_getElem? (i := 1115) (by decide +kernel)) (by decide +kernel)
theorem wL_157 : Cond.methodLink RL 157 yX12_chance ∈ fx_tb := fx_tb_in (List.mem_of_getElem? (i := 1839) (by decide +kernel)) (by decide +kernel)
theorem wI_X12_chance : Cond.instanceMethod yX12_chance ∈ fx_tb := fx_tb_in (List.mem_of_getElem? (i := 1840) (by decide +kernel)) (by decide +kernel)
theorem wS_X12_chance : Cond.selects RX12 yX12_chance yX12_chance ∈ fx_tb := fx_tb_in (List.mem_of_getElem? (i := 1841) (by decide +kernel)) (by decide +kernel)
theorem wC_X12_chance : Cond.code yX12_chance cX12_chance 14 (some .int) ∈ fx_tb := fx_tb_in (List.mem_of_getElem? (i := 1842) (by decide +kernel)) (by decide +kernel)
theorem wL_163 : Cond.methodLink RL 163 yX12_rests ∈ fx_tb := fx_tb_in (List.mem_of_getElem? (i := 1844) (by decide +kernel)) (by decide +kernel)
theorem wI_X12_rests : Cond.instanceMethod yX12_rests ∈ fx_tb := fx_tb_in (List.mem_of_getElem? (i := 1845) (by decide +kernel)) (by decide +kernel)
theorem wS_X12_rests : Cond.selects RX12 yX12_rests yX12_rests ∈ fx_tb := fx_tb_in (List.mem_of_getElem? (i := 1846) (by decide +kernel)) (by decide +kernel)
theorem wC_X12_rests : Cond.code yX12_rests cX12_rests 9 (some .int) ∈ fx_tb := fx_tb_in (List.mem_of_getElem? (i := 1847) (by decide +kernel)) (by decide +kernel)
theorem wL_164 : Cond.methodLink RL 164 yX12_thrown ∈ fx_tb := fx_tb_in (List.mem_of_getElem? (i := 1426) (by decide +kernel)) (by decide +kernel)
theorem wI_X12_thrown : Cond.instanceMethod yX12_thrown ∈ fx_tb := fx_tb_in (List.mem_of_getElem? (i := 1427) (by decide +kernel)) (by decide +kernel)
theorem wS_X12_thrown : Cond.selects RX12 yX12_thrown yX12_thrown ∈ fx_tb := fx_tb_in (List.mem_of_getElem? (i := 1428) (by decide +kernel)) (by decide +kernel)
theorem wC_X12_thrown : Cond.code yX12_thrown cX12_thrown 1 (some .int) ∈ fx_tb := fx_tb_in (List.mem_of_getElem? (i := 1429) (by decide +kernel)) (by decide +kernel)
theorem wL_167 : Cond.methodLink RL 167 yX11_terms ∈ fx_tb := fx_tb_in (List.mem_of_getElem? (i := 1120) (by decide +kernel)) (by decide +kernel)
theorem wI_X11_terms : Cond.instanceMethod yX11_terms ∈ fx_tb := fx_tb_in (List.mem_of_getElem? (i := 1121) (by decide +kernel)) (by decide +kernel)
theorem wS_X11_terms : Cond.selects RX11 yX11_terms yX11_terms ∈ fx_tb := fx_tb_in (List.mem_of_getElem? (i := 1122) (by decide +kernel)) (by decide +kernel)
theorem wC_X11_terms : Cond.code yX11_terms cX11_terms 8 (some .int) ∈ fx_tb := fx_tb_in (List.mem_of_getElem? (i := 1123) (by decide +kernel)) (by decide +kernel)
theorem wL_170 : Cond.methodLink RL 170 yX12_terms ∈ fx_tb := fx_tb_in (List.mem_of_getElem? (i := 1851) (by decide +kernel)) (by decide +kernel)
theorem wI_X12_terms : Cond.instanceMethod yX12_terms ∈ fx_tb := fx_tb_in (List.mem_of_getElem? (i := 1852) (by decide +kernel)) (by decide +kernel)
theorem wS_X12_terms : Cond.selects RX12 yX12_terms yX12_terms ∈ fx_tb := fx_tb_in (List.mem_of_getElem? (i := 1853) (by decide +kernel)) (by decide +kernel)
theorem wC_X12_terms : Cond.code yX12_terms cX12_terms 7 (some .int) ∈ fx_tb := fx_tb_in (List.mem_of_getElem? (i := 1854) (by decide +kernel)) (by decide +kernel)
theorem wL_171 : Cond.methodLink RL 171 yX11_mark ∈ fx_tb := fx_tb_in (List.mem_of_getElem? (i := 1142) (by decide +kernel)) (by decide +kernel)
theorem wI_X11_mark : Cond.instanceMethod yX11_mark ∈ fx_tb := fx_tb_in (List.mem_of_getElem? (i := 1143) (by decide +kernel)) (by decide +kernel)
theorem wS_X11_mark : Cond.selects RX11 yX11_mark yX11_mark ∈ fx_tb := fx_tb_in (List.mem_of_getElem? (i := 1144) (by decide +kernel)) (by decide +kernel)
theorem wC_X11_mark : Cond.code yX11_mark cX11_mark 4 (some .boolean) ∈ fx_tb := fx_tb_in (List.mem_of_getElem? (i := 1145) (by decide +kernel)) (by decide +kernel)
theorem wL_174 : Cond.methodLink RL 174 yX12_mark ∈ fx_tb := fx_tb_in (List.mem_of_getElem? (i := 1871) (by decide +kernel)) (by decide +kernel)
theorem wI_X12_mark : Cond.instanceMethod yX12_mark ∈ fx_tb := fx_tb_in (List.mem_of_getElem? (i := 1872) (by decide +kernel)) (by decide +kernel)
theorem wS_X12_mark : Cond.selects RX12 yX12_mark yX12_mark ∈ fx_tb := fx_tb_in (List.mem_of_getElem? (i := 1873) (by decide +kernel)) (by decide +kernel)
theorem wC_X12_mark : Cond.code yX12_mark cX12_mark 5 (some .boolean) ∈ fx_tb := fx_tb_in (List.mem_of_getElem? (i := 1874) (by decide +kernel)) (by decide +kernel)
theorem wL_175 : Cond.methodLink RL 175 yX11_count ∈ fx_tb := fx_tb_in (List.mem_of_getElem? (i := 1163) (by decide +kernel)) (by decide +kernel)
theorem wI_X11_count : Cond.instanceMethod yX11_count ∈ fx_tb := fx_tb_in (List.mem_of_getElem? (i := 1164) (by decide +kernel)) (by decide +kernel)
theorem wS_X11_count : Cond.selects RX11 yX11_count yX11_count ∈ fx_tb := fx_tb_in (List.mem_of_getElem? (i := 1165) (by decide +kernel)) (by decide +kernel)
theorem wC_X11_count : Cond.code yX11_count cX11_count 2 (some .int) ∈ fx_tb := fx_tb_in (List.mem_of_getElem? (i := 1166) (by decide +kernel)) (by decide +kernel)
theorem wL_178 : Cond.methodLink RL 178 yX12_count ∈ fx_tb := fx_tb_in (List.mem_of_getElem? (i := 1879) (by decide +kernel)) (by decide +kernel)
theorem wI_X12_count : Cond.instanceMethod yX12_count ∈ fx_tb := fx_tb_in (List.mem_of_getElem? (i := 1880) (by decide +kernel)) (by decide +kernel)
theorem wS_X12_count : Cond.selects RX12 yX12_count yX12_count ∈ fx_tb := fx_tb_in (List.mem_of_getElem? (i := 1881) (by decide +kernel)) (by decide +kernel)
theorem wC_X12_count : Cond.code yX12_count cX12_count 2 (some .int) ∈ fx_tb := fx_tb_in (List.mem_of_getElem? (i := 1882) (by decide +kernel)) (by decide +kernel)
theorem lg_cmp_self (x : Int64) : lg_cmp x x = 0 := by
  unfold lg_cmp
  simp
section ZLC
variable {p : Program} {l : Launch} {e : Env} {R : Room} {s : State} {m : MethodId} {args : Array Value} {below : List Frame} {meth : Method} {c : Code} {H : Heap} {locs : List Loc} {cells slots : Nat} {Q : State → Prop}
variable {pc : Nat} {ls : Array Slot} {rest : List Value} {D : va_G} {cy : Nat → ClassId} {adx adm ec sa : Nat → Nat} {o b L : Nat} {xs : Nat → Int32} {σx σm : FH} {f : Nat → Int64}
theorem lw_c200 (hfl : l.stackTraces = false) (hC : zl_C p s m args c D cy adx adm ec sa o b L xs) {n : Nat} (hn : n < 600) (hR : Rel n σx σm) (hW : zl_W D cy adx adm o σx σm f H) (hS : va_S (zAL s) s.heap H locs) {i : Int32} (hl : lv_has ls 7 [(4, .int i), (3, .ref o), (2, .ref (adm 0)), (1, .ref (adx 0)), (0, .ref b)]) (hin : ∀ j : Int32, 1 ≤ j → j ≤ 6 → vp_in (i + j) L) (hcs : cells + 1 ≤ room_1.cells ∧ slots + 6 ≤ room_1.slots)
    (nx : ∀ (σx' σm' : FH) (f' : Nat → Int64) (H1 : Heap) (locs1 : List Loc) (ls1 : Array Slot), Rel (n + 1) σx' σm' → zl_W D cy adx adm o σx' σm' f' H1 → va_S (zAL s) s.heap H1 locs1 → lv_has ls1 7 [(4, .int i), (3, .ref o), (2, .ref (adm 0)), (1, .ref (adx 0)), (0, .ref b)] → W p l e room_1 s m args below meth c H1 locs1 (cells + 1) (slots + 6) Q (F0 m 1393 ls1 [])) : W p l e room_1 s m args below meth c H locs cells slots Q (F0 m 200 ls []) := by
  obtain ⟨hx, hb, -, hown, hts, hK, -⟩ := hC.1
  have hX := hC.2.2.2.2.2.2.1
  have hbl := hC.2.2.2.2.2.2.2.1
  have hbA : ¬ zAL s b := Nat.not_le.mpr hbl
  have hc0 : cells ≤ room_1.cells ∧ slots ≤ room_1.slots := ⟨Nat.le_trans (Nat.le_succ _) hcs.1, Nat.le_trans (Nat.le_add_right _ 6) hcs.2⟩
  obtain ⟨v, σx2, σm2, e1, e2, hR2⟩ := op_feed ((((xs (i + 1).toNatClampNeg).toInt64 <<< 32) ||| ((xs (i + 2).toNatClampNeg).toInt64 &&& 4294967295))) ((((xs (i + 3).toNatClampNeg).toInt64 <<< 32) ||| ((xs (i + 4).toNatClampNeg).toInt64 &&& 4294967295))) ((((xs (i + 5).toNatClampNeg).toInt64 <<< 32) ||| ((xs (i + 6).toNatClampNeg).toInt64 &&& 4294967295))) n σx σm hn hR
  refine lv_aload_n hx hb dL_law_200 rfl (lv_at hl 3 rfl) ?_
  refine lv_aload_n hx hb dL_law_201 rfl (lv_at hl 4 rfl) ?_
  refine lv_iload hx hb dL_law_202 (lv_at hl 0 rfl) ?_
  refine lv_iconst (v := 1) hx hb dL_law_204 (by decide) ?_
  refine lv_iadd hx hb dL_law_205 ?_
  refine va_sld hx hb hX hbl hbA hS (hin _ (by decide) (by decide)) dL_law_206 ?_
  refine lv_i2l (v := (xs (i + 1).toNatClampNeg).toInt64) hx hb dL_law_207 rfl ?_
  refine lv_bipush (v := 32) hx hb dL_law_208 (by decide) ?_
  refine lv_lshl (v := ((xs (i + 1).toNatClampNeg).toInt64 <<< 32)) hx hb dL_law_210 rfl ?_
  refine lv_aload_n hx hb dL_law_211 rfl (lv_at hl 4 rfl) ?_
  refine lv_iload hx hb dL_law_212 (lv_at hl 0 rfl) ?_
  refine lv_iconst (v := 2) hx hb dL_law_214 (by decide) ?_
  refine lv_iadd hx hb dL_law_215 ?_
  refine va_sld hx hb hX hbl hbA hS (hin _ (by decide) (by decide)) dL_law_216 ?_
  refine lv_i2l (v := (xs (i + 2).toNatClampNeg).toInt64) hx hb dL_law_217 rfl ?_
  refine lv_ldc2 (own := RL) (v := 4294967295) hx hb hown (hts _ wK19) dL_law_218 ?_
  refine lv_land hx hb dL_law_221 ?_
  refine lv_lor hx hb dL_law_222 ?_
  refine lv_aload_n hx hb dL_law_223 rfl (lv_at hl 4 rfl) ?_
  refine lv_iload hx hb dL_law_224 (lv_at hl 0 rfl) ?_
  refine lv_iconst (v := 3) hx hb dL_law_226 (by decide) ?_
  refine lv_iadd hx hb dL_law_227 ?_
  refine va_sld hx hb hX hbl hbA hS (hin _ (by decide) (by decide)) dL_law_228 ?_
  refine lv_i2l (v := (xs (i + 3).toNatClampNeg).toInt64) hx hb dL_law_229 rfl ?_
  refine lv_bipush (v := 32) hx hb dL_law_230 (by decide) ?_
  refine lv_lshl (v := ((xs (i + 3).toNatClampNeg).toInt64 <<< 32)) hx hb dL_law_232 rfl ?_
  refine lv_aload_n hx hb dL_law_233 rfl (lv_at hl 4 rfl) ?_
  refine lv_iload hx hb dL_law_234 (lv_at hl 0 rfl) ?_
  refine lv_iconst (v := 4) hx hb dL_law_236 (by decide) ?_
  refine lv_iadd hx hb dL_law_237 ?_
  refine va_sld hx hb hX hbl hbA hS (hin _ (by decide) (by decide)) dL_law_238 ?_
  refine lv_i2l (v := (xs (i + 4).toNatClampNeg).toInt64) hx hb dL_law_239 rfl ?_
  refine lv_ldc2 (own := RL) (v := 4294967295) hx hb hown (hts _ wK19) dL_law_240 ?_
  refine lv_land hx hb dL_law_243 ?_
  refine lv_lor hx hb dL_law_244 ?_
  refine lv_aload_n hx hb dL_law_245 rfl (lv_at hl 4 rfl) ?_
  refine lv_iload hx hb dL_law_246 (lv_at hl 0 rfl) ?_
  refine lv_iconst (v := 5) hx hb dL_law_248 (by decide) ?_
  refine lv_iadd hx hb dL_law_249 ?_
  refine va_sld hx hb hX hbl hbA hS (hin _ (by decide) (by decide)) dL_law_250 ?_
  refine lv_i2l (v := (xs (i + 5).toNatClampNeg).toInt64) hx hb dL_law_251 rfl ?_
  refine lv_bipush (v := 32) hx hb dL_law_252 (by decide) ?_
  refine lv_lshl (v := ((xs (i + 5).toNatClampNeg).toInt64 <<< 32)) hx hb dL_law_254 rfl ?_
  refine lv_aload_n hx hb dL_law_255 rfl (lv_at hl 4 rfl) ?_
  refine lv_iload hx hb dL_law_256 (lv_at hl 0 rfl) ?_
  refine lv_bipush (v := 6) hx hb dL_law_258 (by decide) ?_
  refine lv_iadd hx hb dL_law_260 ?_
  refine va_sld hx hb hX hbl hbA hS (hin _ (by decide) (by decide)) dL_law_261 ?_
  refine lv_i2l (v := (xs (i + 6).toNatClampNeg).toInt64) hx hb dL_law_262 rfl ?_
  refine lv_ldc2 (own := RL) (v := 4294967295) hx hb hown (hts _ wK19) dL_law_263 ?_
  refine lv_land hx hb dL_law_266 ?_
  refine lv_lor hx hb dL_law_267 ?_
  refine zl_cx (n := 3) (As := [.long ((((xs (i + 1).toNatClampNeg).toInt64 <<< 32) ||| ((xs (i + 2).toNatClampNeg).toInt64 &&& 4294967295))), .long ((((xs (i + 3).toNatClampNeg).toInt64 <<< 32) ||| ((xs (i + 4).toNatClampNeg).toInt64 &&& 4294967295))), .long ((((xs (i + 5).toNatClampNeg).toInt64 <<< 32) ||| ((xs (i + 6).toNatClampNeg).toInt64 &&& 4294967295)))]) (rest := []) hC hW hS (ctX11_feed l e1) (fx_l4 wL_21 wI_X11_feed wS_X11_feed kN_X11) wC_X11_feed (by decide +kernel) rfl ⟨Nat.le_of_ble_eq_true rfl, Nat.le_of_ble_eq_true rfl⟩ hc0 hl.1 (Nat.le_of_ble_eq_true rfl) rfl dL_law_268 (fun H locs hW hS => ?_)
  refine lv_aload_n hx hb dL_law_271 rfl (lv_at hl 2 rfl) ?_
  refine lv_aload_n hx hb dL_law_272 rfl (lv_at hl 4 rfl) ?_
  refine lv_iload hx hb dL_law_273 (lv_at hl 0 rfl) ?_
  refine lv_iconst (v := 1) hx hb dL_law_275 (by decide) ?_
  refine lv_iadd hx hb dL_law_276 ?_
  refine va_sld hx hb hX hbl hbA hS (hin _ (by decide) (by decide)) dL_law_277 ?_
  refine lv_i2l (v := (xs (i + 1).toNatClampNeg).toInt64) hx hb dL_law_278 rfl ?_
  refine lv_bipush (v := 32) hx hb dL_law_279 (by decide) ?_
  refine lv_lshl (v := ((xs (i + 1).toNatClampNeg).toInt64 <<< 32)) hx hb dL_law_281 rfl ?_
  refine lv_aload_n hx hb dL_law_282 rfl (lv_at hl 4 rfl) ?_
  refine lv_iload hx hb dL_law_283 (lv_at hl 0 rfl) ?_
  refine lv_iconst (v := 2) hx hb dL_law_285 (by decide) ?_
  refine lv_iadd hx hb dL_law_286 ?_
  refine va_sld hx hb hX hbl hbA hS (hin _ (by decide) (by decide)) dL_law_287 ?_
  refine lv_i2l (v := (xs (i + 2).toNatClampNeg).toInt64) hx hb dL_law_288 rfl ?_
  refine lv_ldc2 (own := RL) (v := 4294967295) hx hb hown (hts _ wK19) dL_law_289 ?_
  refine lv_land hx hb dL_law_292 ?_
  refine lv_lor hx hb dL_law_293 ?_
  refine lv_aload_n hx hb dL_law_294 rfl (lv_at hl 4 rfl) ?_
  refine lv_iload hx hb dL_law_295 (lv_at hl 0 rfl) ?_
  refine lv_iconst (v := 3) hx hb dL_law_297 (by decide) ?_
  refine lv_iadd hx hb dL_law_298 ?_
  refine va_sld hx hb hX hbl hbA hS (hin _ (by decide) (by decide)) dL_law_299 ?_
  refine lv_i2l (v := (xs (i + 3).toNatClampNeg).toInt64) hx hb dL_law_300 rfl ?_
  refine lv_bipush (v := 32) hx hb dL_law_301 (by decide) ?_
  refine lv_lshl (v := ((xs (i + 3).toNatClampNeg).toInt64 <<< 32)) hx hb dL_law_303 rfl ?_
  refine lv_aload_n hx hb dL_law_304 rfl (lv_at hl 4 rfl) ?_
  refine lv_iload hx hb dL_law_305 (lv_at hl 0 rfl) ?_
  refine lv_iconst (v := 4) hx hb dL_law_307 (by decide) ?_
  refine lv_iadd hx hb dL_law_308 ?_
  refine va_sld hx hb hX hbl hbA hS (hin _ (by decide) (by decide)) dL_law_309 ?_
  refine lv_i2l (v := (xs (i + 4).toNatClampNeg).toInt64) hx hb dL_law_310 rfl ?_
  refine lv_ldc2 (own := RL) (v := 4294967295) hx hb hown (hts _ wK19) dL_law_311 ?_
  refine lv_land hx hb dL_law_314 ?_
  refine lv_lor hx hb dL_law_315 ?_
  refine lv_aload_n hx hb dL_law_316 rfl (lv_at hl 4 rfl) ?_
  refine lv_iload hx hb dL_law_317 (lv_at hl 0 rfl) ?_
  refine lv_iconst (v := 5) hx hb dL_law_319 (by decide) ?_
  refine lv_iadd hx hb dL_law_320 ?_
  refine va_sld hx hb hX hbl hbA hS (hin _ (by decide) (by decide)) dL_law_321 ?_
  refine lv_i2l (v := (xs (i + 5).toNatClampNeg).toInt64) hx hb dL_law_322 rfl ?_
  refine lv_bipush (v := 32) hx hb dL_law_323 (by decide) ?_
  refine lv_lshl (v := ((xs (i + 5).toNatClampNeg).toInt64 <<< 32)) hx hb dL_law_325 rfl ?_
  refine lv_aload_n hx hb dL_law_326 rfl (lv_at hl 4 rfl) ?_
  refine lv_iload hx hb dL_law_327 (lv_at hl 0 rfl) ?_
  refine lv_bipush (v := 6) hx hb dL_law_329 (by decide) ?_
  refine lv_iadd hx hb dL_law_331 ?_
  refine va_sld hx hb hX hbl hbA hS (hin _ (by decide) (by decide)) dL_law_332 ?_
  refine lv_i2l (v := (xs (i + 6).toNatClampNeg).toInt64) hx hb dL_law_333 rfl ?_
  refine lv_ldc2 (own := RL) (v := 4294967295) hx hb hown (hts _ wK19) dL_law_334 ?_
  refine lv_land hx hb dL_law_337 ?_
  refine lv_lor hx hb dL_law_338 ?_
  refine zl_cm (n := 3) (As := [.long ((((xs (i + 1).toNatClampNeg).toInt64 <<< 32) ||| ((xs (i + 2).toNatClampNeg).toInt64 &&& 4294967295))), .long ((((xs (i + 3).toNatClampNeg).toInt64 <<< 32) ||| ((xs (i + 4).toNatClampNeg).toInt64 &&& 4294967295))), .long ((((xs (i + 5).toNatClampNeg).toInt64 <<< 32) ||| ((xs (i + 6).toNatClampNeg).toInt64 &&& 4294967295)))]) (rest := [.int v]) hC hW hS (ctX12_feed l e2) (fx_l4 wL_25 wI_X12_feed wS_X12_feed kN_X12) wC_X12_feed (by decide +kernel) rfl ⟨Nat.le_of_ble_eq_true rfl, Nat.le_of_ble_eq_true rfl⟩ hc0 hl.1 (Nat.le_of_ble_eq_true rfl) rfl dL_law_339 (fun H locs hW hS => ?_)
  refine lv_icmp_eq (tgt := 1393) hx hb dL_law_342 (by decide) (fun _ => ?_) (fun h => absurd rfl h)
  refine W.widen (Nat.le_succ _) (Nat.le_add_right _ 6) ?_
  exact nx _ _ _ _ _ _ hR2 hW hS hl

theorem lw_c347 (hfl : l.stackTraces = false) (hC : zl_C p s m args c D cy adx adm ec sa o b L xs) {n : Nat} (hn : n < 600) (hR : Rel n σx σm) (hW : zl_W D cy adx adm o σx σm f H) (hS : va_S (zAL s) s.heap H locs) {i : Int32} (hl : lv_has ls 7 [(4, .int i), (3, .ref o), (2, .ref (adm 0)), (1, .ref (adx 0)), (0, .ref b)]) (hin : ∀ j : Int32, 1 ≤ j → j ≤ 6 → vp_in (i + j) L) (hcs : cells + 1 ≤ room_1.cells ∧ slots + 6 ≤ room_1.slots)
    (nx : ∀ (σx' σm' : FH) (f' : Nat → Int64) (H1 : Heap) (locs1 : List Loc) (ls1 : Array Slot), Rel (n + 1) σx' σm' → zl_W D cy adx adm o σx' σm' f' H1 → va_S (zAL s) s.heap H1 locs1 → lv_has ls1 7 [(4, .int i), (3, .ref o), (2, .ref (adm 0)), (1, .ref (adx 0)), (0, .ref b)] → W p l e room_1 s m args below meth c H1 locs1 (cells + 1) (slots + 6) Q (F0 m 1393 ls1 [])) : W p l e room_1 s m args below meth c H locs cells slots Q (F0 m 347 ls []) := by
  obtain ⟨hx, hb, -, hown, hts, hK, -⟩ := hC.1
  have hX := hC.2.2.2.2.2.2.1
  have hbl := hC.2.2.2.2.2.2.2.1
  have hbA : ¬ zAL s b := Nat.not_le.mpr hbl
  have hc0 : cells ≤ room_1.cells ∧ slots ≤ room_1.slots := ⟨Nat.le_trans (Nat.le_succ _) hcs.1, Nat.le_trans (Nat.le_add_right _ 6) hcs.2⟩
  obtain ⟨v, σx2, σm2, e1, e2, hR2⟩ := op_republic  n σx σm hn hR
  refine lv_aload_n hx hb dL_law_347 rfl (lv_at hl 3 rfl) ?_
  refine zl_cx (n := 0) (As := []) (rest := []) hC hW hS (ctX11_republic l e1) (fx_l4 wL_26 wI_X11_republic wS_X11_republic kN_X11) wC_X11_republic (by decide +kernel) rfl ⟨Nat.le_of_ble_eq_true rfl, Nat.le_of_ble_eq_true rfl⟩ hc0 hl.1 (Nat.le_of_ble_eq_true rfl) rfl dL_law_348 (fun H locs hW hS => ?_)
  refine lv_aload_n hx hb dL_law_351 rfl (lv_at hl 2 rfl) ?_
  refine zl_cm (n := 0) (As := []) (rest := [.int v]) hC hW hS (ctX12_republic l e2) (fx_l4 wL_30 wI_X12_republic wS_X12_republic kN_X12) wC_X12_republic (by decide +kernel) rfl ⟨Nat.le_of_ble_eq_true rfl, Nat.le_of_ble_eq_true rfl⟩ hc0 hl.1 (Nat.le_of_ble_eq_true rfl) rfl dL_law_352 (fun H locs hW hS => ?_)
  refine lv_icmp_eq (tgt := 1393) hx hb dL_law_355 (by decide) (fun _ => ?_) (fun h => absurd rfl h)
  refine W.widen (Nat.le_succ _) (Nat.le_add_right _ 6) ?_
  exact nx _ _ _ _ _ _ hR2 hW hS hl

theorem lw_c360 (hfl : l.stackTraces = false) (hC : zl_C p s m args c D cy adx adm ec sa o b L xs) {n : Nat} (hn : n < 600) (hR : Rel n σx σm) (hW : zl_W D cy adx adm o σx σm f H) (hS : va_S (zAL s) s.heap H locs) {i : Int32} (hl : lv_has ls 7 [(4, .int i), (3, .ref o), (2, .ref (adm 0)), (1, .ref (adx 0)), (0, .ref b)]) (hin : ∀ j : Int32, 1 ≤ j → j ≤ 6 → vp_in (i + j) L) (hcs : cells + 1 ≤ room_1.cells ∧ slots + 6 ≤ room_1.slots)
    (nx : ∀ (σx' σm' : FH) (f' : Nat → Int64) (H1 : Heap) (locs1 : List Loc) (ls1 : Array Slot), Rel (n + 1) σx' σm' → zl_W D cy adx adm o σx' σm' f' H1 → va_S (zAL s) s.heap H1 locs1 → lv_has ls1 7 [(4, .int i), (3, .ref o), (2, .ref (adm 0)), (1, .ref (adx 0)), (0, .ref b)] → W p l e room_1 s m args below meth c H1 locs1 (cells + 1) (slots + 6) Q (F0 m 1393 ls1 [])) : W p l e room_1 s m args below meth c H locs cells slots Q (F0 m 360 ls []) := by
  obtain ⟨hx, hb, -, hown, hts, hK, -⟩ := hC.1
  have hX := hC.2.2.2.2.2.2.1
  have hbl := hC.2.2.2.2.2.2.2.1
  have hbA : ¬ zAL s b := Nat.not_le.mpr hbl
  have hc0 : cells ≤ room_1.cells ∧ slots ≤ room_1.slots := ⟨Nat.le_trans (Nat.le_succ _) hcs.1, Nat.le_trans (Nat.le_add_right _ 6) hcs.2⟩
  obtain ⟨v, σx2, σm2, e1, e2, hR2⟩ := op_term  n σx σm hn hR
  refine lv_aload_n hx hb dL_law_360 rfl (lv_at hl 3 rfl) ?_
  refine zl_cx (n := 0) (As := []) (rest := []) hC hW hS (ctX11_term l e1) (fx_l4 wL_31 wI_X11_term wS_X11_term kN_X11) wC_X11_term (by decide +kernel) rfl ⟨Nat.le_of_ble_eq_true rfl, Nat.le_of_ble_eq_true rfl⟩ hc0 hl.1 (Nat.le_of_ble_eq_true rfl) rfl dL_law_361 (fun H locs hW hS => ?_)
  refine lv_aload_n hx hb dL_law_364 rfl (lv_at hl 2 rfl) ?_
  refine zl_cm (n := 0) (As := []) (rest := [.int v]) hC hW hS (ctX12_term l e2) (fx_l4 wL_34 wI_X12_term wS_X12_term kN_X12) wC_X12_term (by decide +kernel) rfl ⟨Nat.le_of_ble_eq_true rfl, Nat.le_of_ble_eq_true rfl⟩ hc0 hl.1 (Nat.le_of_ble_eq_true rfl) rfl dL_law_365 (fun H locs hW hS => ?_)
  refine lv_icmp_eq (tgt := 1393) hx hb dL_law_368 (by decide) (fun _ => ?_) (fun h => absurd rfl h)
  refine W.widen (Nat.le_succ _) (Nat.le_add_right _ 6) ?_
  exact nx _ _ _ _ _ _ hR2 hW hS hl

theorem lw_c373 (hfl : l.stackTraces = false) (hC : zl_C p s m args c D cy adx adm ec sa o b L xs) {n : Nat} (hn : n < 600) (hR : Rel n σx σm) (hW : zl_W D cy adx adm o σx σm f H) (hS : va_S (zAL s) s.heap H locs) {i : Int32} (hl : lv_has ls 7 [(4, .int i), (3, .ref o), (2, .ref (adm 0)), (1, .ref (adx 0)), (0, .ref b)]) (hin : ∀ j : Int32, 1 ≤ j → j ≤ 6 → vp_in (i + j) L) (hcs : cells + 1 ≤ room_1.cells ∧ slots + 6 ≤ room_1.slots)
    (nx : ∀ (σx' σm' : FH) (f' : Nat → Int64) (H1 : Heap) (locs1 : List Loc) (ls1 : Array Slot), Rel (n + 1) σx' σm' → zl_W D cy adx adm o σx' σm' f' H1 → va_S (zAL s) s.heap H1 locs1 → lv_has ls1 7 [(4, .int i), (3, .ref o), (2, .ref (adm 0)), (1, .ref (adx 0)), (0, .ref b)] → W p l e room_1 s m args below meth c H1 locs1 (cells + 1) (slots + 6) Q (F0 m 1393 ls1 [])) : W p l e room_1 s m args below meth c H locs cells slots Q (F0 m 373 ls []) := by
  obtain ⟨hx, hb, -, hown, hts, hK, -⟩ := hC.1
  have hX := hC.2.2.2.2.2.2.1
  have hbl := hC.2.2.2.2.2.2.2.1
  have hbA : ¬ zAL s b := Nat.not_le.mpr hbl
  have hc0 : cells ≤ room_1.cells ∧ slots ≤ room_1.slots := ⟨Nat.le_trans (Nat.le_succ _) hcs.1, Nat.le_trans (Nat.le_add_right _ 6) hcs.2⟩
  obtain ⟨v, σm2, e1, e2, hR2⟩ := op_ware ((xs (i + 1).toNatClampNeg)) ((xs (i + 2).toNatClampNeg)) n σx σm hn hR
  refine lv_aload_n hx hb dL_law_373 rfl (lv_at hl 3 rfl) ?_
  refine lv_aload_n hx hb dL_law_374 rfl (lv_at hl 4 rfl) ?_
  refine lv_iload hx hb dL_law_375 (lv_at hl 0 rfl) ?_
  refine lv_iconst (v := 1) hx hb dL_law_377 (by decide) ?_
  refine lv_iadd hx hb dL_law_378 ?_
  refine va_sld hx hb hX hbl hbA hS (hin _ (by decide) (by decide)) dL_law_379 ?_
  refine lv_aload_n hx hb dL_law_380 rfl (lv_at hl 4 rfl) ?_
  refine lv_iload hx hb dL_law_381 (lv_at hl 0 rfl) ?_
  refine lv_iconst (v := 2) hx hb dL_law_383 (by decide) ?_
  refine lv_iadd hx hb dL_law_384 ?_
  refine va_sld hx hb hX hbl hbA hS (hin _ (by decide) (by decide)) dL_law_385 ?_
  refine zl_cx (n := 2) (As := [.int ((xs (i + 1).toNatClampNeg)), .int ((xs (i + 2).toNatClampNeg))]) (rest := []) hC hW hS (ctX11_ware l e1) (fx_l4 wL_35 wI_X11_ware wS_X11_ware kN_X11) wC_X11_ware (by decide +kernel) rfl ⟨Nat.le_of_ble_eq_true rfl, Nat.le_of_ble_eq_true rfl⟩ hc0 hl.1 (Nat.le_of_ble_eq_true rfl) rfl dL_law_386 (fun H locs hW hS => ?_)
  refine lv_aload_n hx hb dL_law_389 rfl (lv_at hl 2 rfl) ?_
  refine lv_aload_n hx hb dL_law_390 rfl (lv_at hl 4 rfl) ?_
  refine lv_iload hx hb dL_law_391 (lv_at hl 0 rfl) ?_
  refine lv_iconst (v := 1) hx hb dL_law_393 (by decide) ?_
  refine lv_iadd hx hb dL_law_394 ?_
  refine va_sld hx hb hX hbl hbA hS (hin _ (by decide) (by decide)) dL_law_395 ?_
  refine lv_aload_n hx hb dL_law_396 rfl (lv_at hl 4 rfl) ?_
  refine lv_iload hx hb dL_law_397 (lv_at hl 0 rfl) ?_
  refine lv_iconst (v := 2) hx hb dL_law_399 (by decide) ?_
  refine lv_iadd hx hb dL_law_400 ?_
  refine va_sld hx hb hX hbl hbA hS (hin _ (by decide) (by decide)) dL_law_401 ?_
  refine zl_cm (n := 2) (As := [.int ((xs (i + 1).toNatClampNeg)), .int ((xs (i + 2).toNatClampNeg))]) (rest := [.int v]) hC hW hS (ctX12_ware l e2) (fx_l4 wL_39 wI_X12_ware wS_X12_ware kN_X12) wC_X12_ware (by decide +kernel) rfl ⟨Nat.le_of_ble_eq_true rfl, Nat.le_of_ble_eq_true rfl⟩ hc0 hl.1 (Nat.le_of_ble_eq_true rfl) rfl dL_law_402 (fun H locs hW hS => ?_)
  refine lv_icmp_eq (tgt := 1393) hx hb dL_law_405 (by decide) (fun _ => ?_) (fun h => absurd rfl h)
  refine W.widen (Nat.le_succ _) (Nat.le_add_right _ 6) ?_
  exact nx _ _ _ _ _ _ hR2 hW hS hl

theorem lw_c410 (hfl : l.stackTraces = false) (hC : zl_C p s m args c D cy adx adm ec sa o b L xs) {n : Nat} (hn : n < 600) (hR : Rel n σx σm) (hW : zl_W D cy adx adm o σx σm f H) (hS : va_S (zAL s) s.heap H locs) {i : Int32} (hl : lv_has ls 7 [(4, .int i), (3, .ref o), (2, .ref (adm 0)), (1, .ref (adx 0)), (0, .ref b)]) (hin : ∀ j : Int32, 1 ≤ j → j ≤ 6 → vp_in (i + j) L) (hcs : cells + 1 ≤ room_1.cells ∧ slots + 6 ≤ room_1.slots)
    (nx : ∀ (σx' σm' : FH) (f' : Nat → Int64) (H1 : Heap) (locs1 : List Loc) (ls1 : Array Slot), Rel (n + 1) σx' σm' → zl_W D cy adx adm o σx' σm' f' H1 → va_S (zAL s) s.heap H1 locs1 → lv_has ls1 7 [(4, .int i), (3, .ref o), (2, .ref (adm 0)), (1, .ref (adx 0)), (0, .ref b)] → W p l e room_1 s m args below meth c H1 locs1 (cells + 1) (slots + 6) Q (F0 m 1393 ls1 [])) : W p l e room_1 s m args below meth c H locs cells slots Q (F0 m 410 ls []) := by
  obtain ⟨hx, hb, -, hown, hts, hK, -⟩ := hC.1
  have hX := hC.2.2.2.2.2.2.1
  have hbl := hC.2.2.2.2.2.2.2.1
  have hbA : ¬ zAL s b := Nat.not_le.mpr hbl
  have hc0 : cells ≤ room_1.cells ∧ slots ≤ room_1.slots := ⟨Nat.le_trans (Nat.le_succ _) hcs.1, Nat.le_trans (Nat.le_add_right _ 6) hcs.2⟩
  obtain ⟨v, σm2, e1, e2, hR2⟩ := op_party ((xs (i + 1).toNatClampNeg)) ((xs (i + 2).toNatClampNeg)) n σx σm hn hR
  refine lv_aload_n hx hb dL_law_410 rfl (lv_at hl 3 rfl) ?_
  refine lv_aload_n hx hb dL_law_411 rfl (lv_at hl 4 rfl) ?_
  refine lv_iload hx hb dL_law_412 (lv_at hl 0 rfl) ?_
  refine lv_iconst (v := 1) hx hb dL_law_414 (by decide) ?_
  refine lv_iadd hx hb dL_law_415 ?_
  refine va_sld hx hb hX hbl hbA hS (hin _ (by decide) (by decide)) dL_law_416 ?_
  refine lv_aload_n hx hb dL_law_417 rfl (lv_at hl 4 rfl) ?_
  refine lv_iload hx hb dL_law_418 (lv_at hl 0 rfl) ?_
  refine lv_iconst (v := 2) hx hb dL_law_420 (by decide) ?_
  refine lv_iadd hx hb dL_law_421 ?_
  refine va_sld hx hb hX hbl hbA hS (hin _ (by decide) (by decide)) dL_law_422 ?_
  refine zl_cx (n := 2) (As := [.int ((xs (i + 1).toNatClampNeg)), .int ((xs (i + 2).toNatClampNeg))]) (rest := []) hC hW hS (ctX11_party l e1) (fx_l4 wL_40 wI_X11_party wS_X11_party kN_X11) wC_X11_party (by decide +kernel) rfl ⟨Nat.le_of_ble_eq_true rfl, Nat.le_of_ble_eq_true rfl⟩ hc0 hl.1 (Nat.le_of_ble_eq_true rfl) rfl dL_law_423 (fun H locs hW hS => ?_)
  refine lv_aload_n hx hb dL_law_426 rfl (lv_at hl 2 rfl) ?_
  refine lv_aload_n hx hb dL_law_427 rfl (lv_at hl 4 rfl) ?_
  refine lv_iload hx hb dL_law_428 (lv_at hl 0 rfl) ?_
  refine lv_iconst (v := 1) hx hb dL_law_430 (by decide) ?_
  refine lv_iadd hx hb dL_law_431 ?_
  refine va_sld hx hb hX hbl hbA hS (hin _ (by decide) (by decide)) dL_law_432 ?_
  refine lv_aload_n hx hb dL_law_433 rfl (lv_at hl 4 rfl) ?_
  refine lv_iload hx hb dL_law_434 (lv_at hl 0 rfl) ?_
  refine lv_iconst (v := 2) hx hb dL_law_436 (by decide) ?_
  refine lv_iadd hx hb dL_law_437 ?_
  refine va_sld hx hb hX hbl hbA hS (hin _ (by decide) (by decide)) dL_law_438 ?_
  refine zl_cm (n := 2) (As := [.int ((xs (i + 1).toNatClampNeg)), .int ((xs (i + 2).toNatClampNeg))]) (rest := [.int v]) hC hW hS (ctX12_party l e2) (fx_l4 wL_43 wI_X12_party wS_X12_party kN_X12) wC_X12_party (by decide +kernel) rfl ⟨Nat.le_of_ble_eq_true rfl, Nat.le_of_ble_eq_true rfl⟩ hc0 hl.1 (Nat.le_of_ble_eq_true rfl) rfl dL_law_439 (fun H locs hW hS => ?_)
  refine lv_icmp_eq (tgt := 1393) hx hb dL_law_442 (by decide) (fun _ => ?_) (fun h => absurd rfl h)
  refine W.widen (Nat.le_succ _) (Nat.le_add_right _ 6) ?_
  exact nx _ _ _ _ _ _ hR2 hW hS hl

theorem lw_c447 (hfl : l.stackTraces = false) (hC : zl_C p s m args c D cy adx adm ec sa o b L xs) {n : Nat} (hn : n < 600) (hR : Rel n σx σm) (hW : zl_W D cy adx adm o σx σm f H) (hS : va_S (zAL s) s.heap H locs) {i : Int32} (hl : lv_has ls 7 [(4, .int i), (3, .ref o), (2, .ref (adm 0)), (1, .ref (adx 0)), (0, .ref b)]) (hin : ∀ j : Int32, 1 ≤ j → j ≤ 6 → vp_in (i + j) L) (hcs : cells + 1 ≤ room_1.cells ∧ slots + 6 ≤ room_1.slots)
    (nx : ∀ (σx' σm' : FH) (f' : Nat → Int64) (H1 : Heap) (locs1 : List Loc) (ls1 : Array Slot), Rel (n + 1) σx' σm' → zl_W D cy adx adm o σx' σm' f' H1 → va_S (zAL s) s.heap H1 locs1 → lv_has ls1 7 [(4, .int i), (3, .ref o), (2, .ref (adm 0)), (1, .ref (adx 0)), (0, .ref b)] → W p l e room_1 s m args below meth c H1 locs1 (cells + 1) (slots + 6) Q (F0 m 1393 ls1 [])) : W p l e room_1 s m args below meth c H locs cells slots Q (F0 m 447 ls []) := by
  obtain ⟨hx, hb, -, hown, hts, hK, -⟩ := hC.1
  have hX := hC.2.2.2.2.2.2.1
  have hbl := hC.2.2.2.2.2.2.2.1
  have hbA : ¬ zAL s b := Nat.not_le.mpr hbl
  have hc0 : cells ≤ room_1.cells ∧ slots ≤ room_1.slots := ⟨Nat.le_trans (Nat.le_succ _) hcs.1, Nat.le_trans (Nat.le_add_right _ 6) hcs.2⟩
  obtain ⟨v, σx2, σm2, e1, e2, hR2⟩ := op_work ((xs (i + 1).toNatClampNeg)) ((xs (i + 2).toNatClampNeg)) n σx σm hn hR
  refine lv_aload_n hx hb dL_law_447 rfl (lv_at hl 3 rfl) ?_
  refine lv_aload_n hx hb dL_law_448 rfl (lv_at hl 4 rfl) ?_
  refine lv_iload hx hb dL_law_449 (lv_at hl 0 rfl) ?_
  refine lv_iconst (v := 1) hx hb dL_law_451 (by decide) ?_
  refine lv_iadd hx hb dL_law_452 ?_
  refine va_sld hx hb hX hbl hbA hS (hin _ (by decide) (by decide)) dL_law_453 ?_
  refine lv_aload_n hx hb dL_law_454 rfl (lv_at hl 4 rfl) ?_
  refine lv_iload hx hb dL_law_455 (lv_at hl 0 rfl) ?_
  refine lv_iconst (v := 2) hx hb dL_law_457 (by decide) ?_
  refine lv_iadd hx hb dL_law_458 ?_
  refine va_sld hx hb hX hbl hbA hS (hin _ (by decide) (by decide)) dL_law_459 ?_
  refine zl_cx (n := 2) (As := [.int ((xs (i + 1).toNatClampNeg)), .int ((xs (i + 2).toNatClampNeg))]) (rest := []) hC hW hS (ctX11_work l e1) (fx_l4 wL_44 wI_X11_work wS_X11_work kN_X11) wC_X11_work (by decide +kernel) rfl ⟨Nat.le_of_ble_eq_true rfl, Nat.le_of_ble_eq_true rfl⟩ hc0 hl.1 (Nat.le_of_ble_eq_true rfl) rfl dL_law_460 (fun H locs hW hS => ?_)
  refine lv_aload_n hx hb dL_law_463 rfl (lv_at hl 2 rfl) ?_
  refine lv_aload_n hx hb dL_law_464 rfl (lv_at hl 4 rfl) ?_
  refine lv_iload hx hb dL_law_465 (lv_at hl 0 rfl) ?_
  refine lv_iconst (v := 1) hx hb dL_law_467 (by decide) ?_
  refine lv_iadd hx hb dL_law_468 ?_
  refine va_sld hx hb hX hbl hbA hS (hin _ (by decide) (by decide)) dL_law_469 ?_
  refine lv_aload_n hx hb dL_law_470 rfl (lv_at hl 4 rfl) ?_
  refine lv_iload hx hb dL_law_471 (lv_at hl 0 rfl) ?_
  refine lv_iconst (v := 2) hx hb dL_law_473 (by decide) ?_
  refine lv_iadd hx hb dL_law_474 ?_
  refine va_sld hx hb hX hbl hbA hS (hin _ (by decide) (by decide)) dL_law_475 ?_
  refine zl_cm (n := 2) (As := [.int ((xs (i + 1).toNatClampNeg)), .int ((xs (i + 2).toNatClampNeg))]) (rest := [.int v]) hC hW hS (ctX12_work l e2) (fx_l4 wL_47 wI_X12_work wS_X12_work kN_X12) wC_X12_work (by decide +kernel) rfl ⟨Nat.le_of_ble_eq_true rfl, Nat.le_of_ble_eq_true rfl⟩ hc0 hl.1 (Nat.le_of_ble_eq_true rfl) rfl dL_law_476 (fun H locs hW hS => ?_)
  refine lv_icmp_eq (tgt := 1393) hx hb dL_law_479 (by decide) (fun _ => ?_) (fun h => absurd rfl h)
  refine W.widen (Nat.le_succ _) (Nat.le_add_right _ 6) ?_
  exact nx _ _ _ _ _ _ hR2 hW hS hl

theorem lw_c484 (hfl : l.stackTraces = false) (hC : zl_C p s m args c D cy adx adm ec sa o b L xs) {n : Nat} (hn : n < 600) (hR : Rel n σx σm) (hW : zl_W D cy adx adm o σx σm f H) (hS : va_S (zAL s) s.heap H locs) {i : Int32} (hl : lv_has ls 7 [(4, .int i), (3, .ref o), (2, .ref (adm 0)), (1, .ref (adx 0)), (0, .ref b)]) (hin : ∀ j : Int32, 1 ≤ j → j ≤ 6 → vp_in (i + j) L) (hcs : cells + 1 ≤ room_1.cells ∧ slots + 6 ≤ room_1.slots)
    (nx : ∀ (σx' σm' : FH) (f' : Nat → Int64) (H1 : Heap) (locs1 : List Loc) (ls1 : Array Slot), Rel (n + 1) σx' σm' → zl_W D cy adx adm o σx' σm' f' H1 → va_S (zAL s) s.heap H1 locs1 → lv_has ls1 7 [(4, .int i), (3, .ref o), (2, .ref (adm 0)), (1, .ref (adx 0)), (0, .ref b)] → W p l e room_1 s m args below meth c H1 locs1 (cells + 1) (slots + 6) Q (F0 m 1393 ls1 [])) : W p l e room_1 s m args below meth c H locs cells slots Q (F0 m 484 ls []) := by
  obtain ⟨hx, hb, -, hown, hts, hK, -⟩ := hC.1
  have hX := hC.2.2.2.2.2.2.1
  have hbl := hC.2.2.2.2.2.2.2.1
  have hbA : ¬ zAL s b := Nat.not_le.mpr hbl
  have hc0 : cells ≤ room_1.cells ∧ slots ≤ room_1.slots := ⟨Nat.le_trans (Nat.le_succ _) hcs.1, Nat.le_trans (Nat.le_add_right _ 6) hcs.2⟩
  obtain ⟨v, σx2, σm2, e1, e2, hR2⟩ := op_stop ((xs (i + 1).toNatClampNeg)) ((xs (i + 2).toNatClampNeg)) n σx σm hn hR
  refine lv_aload_n hx hb dL_law_484 rfl (lv_at hl 3 rfl) ?_
  refine lv_aload_n hx hb dL_law_485 rfl (lv_at hl 4 rfl) ?_
  refine lv_iload hx hb dL_law_486 (lv_at hl 0 rfl) ?_
  refine lv_iconst (v := 1) hx hb dL_law_488 (by decide) ?_
  refine lv_iadd hx hb dL_law_489 ?_
  refine va_sld hx hb hX hbl hbA hS (hin _ (by decide) (by decide)) dL_law_490 ?_
  refine lv_aload_n hx hb dL_law_491 rfl (lv_at hl 4 rfl) ?_
  refine lv_iload hx hb dL_law_492 (lv_at hl 0 rfl) ?_
  refine lv_iconst (v := 2) hx hb dL_law_494 (by decide) ?_
  refine lv_iadd hx hb dL_law_495 ?_
  refine va_sld hx hb hX hbl hbA hS (hin _ (by decide) (by decide)) dL_law_496 ?_
  refine zl_cx (n := 2) (As := [.int ((xs (i + 1).toNatClampNeg)), .int ((xs (i + 2).toNatClampNeg))]) (rest := []) hC hW hS (ctX11_stop l e1) (fx_l4 wL_48 wI_X11_stop wS_X11_stop kN_X11) wC_X11_stop (by decide +kernel) rfl ⟨Nat.le_of_ble_eq_true rfl, Nat.le_of_ble_eq_true rfl⟩ hc0 hl.1 (Nat.le_of_ble_eq_true rfl) rfl dL_law_497 (fun H locs hW hS => ?_)
  refine lv_aload_n hx hb dL_law_500 rfl (lv_at hl 2 rfl) ?_
  refine lv_aload_n hx hb dL_law_501 rfl (lv_at hl 4 rfl) ?_
  refine lv_iload hx hb dL_law_502 (lv_at hl 0 rfl) ?_
  refine lv_iconst (v := 1) hx hb dL_law_504 (by decide) ?_
  refine lv_iadd hx hb dL_law_505 ?_
  refine va_sld hx hb hX hbl hbA hS (hin _ (by decide) (by decide)) dL_law_506 ?_
  refine lv_aload_n hx hb dL_law_507 rfl (lv_at hl 4 rfl) ?_
  refine lv_iload hx hb dL_law_508 (lv_at hl 0 rfl) ?_
  refine lv_iconst (v := 2) hx hb dL_law_510 (by decide) ?_
  refine lv_iadd hx hb dL_law_511 ?_
  refine va_sld hx hb hX hbl hbA hS (hin _ (by decide) (by decide)) dL_law_512 ?_
  refine zl_cm (n := 2) (As := [.int ((xs (i + 1).toNatClampNeg)), .int ((xs (i + 2).toNatClampNeg))]) (rest := [.int v]) hC hW hS (ctX12_stop l e2) (fx_l4 wL_51 wI_X12_stop wS_X12_stop kN_X12) wC_X12_stop (by decide +kernel) rfl ⟨Nat.le_of_ble_eq_true rfl, Nat.le_of_ble_eq_true rfl⟩ hc0 hl.1 (Nat.le_of_ble_eq_true rfl) rfl dL_law_513 (fun H locs hW hS => ?_)
  refine lv_icmp_eq (tgt := 1393) hx hb dL_law_516 (by decide) (fun _ => ?_) (fun h => absurd rfl h)
  refine W.widen (Nat.le_succ _) (Nat.le_add_right _ 6) ?_
  exact nx _ _ _ _ _ _ hR2 hW hS hl

theorem lw_c521 (hfl : l.stackTraces = false) (hC : zl_C p s m args c D cy adx adm ec sa o b L xs) {n : Nat} (hn : n < 600) (hR : Rel n σx σm) (hW : zl_W D cy adx adm o σx σm f H) (hS : va_S (zAL s) s.heap H locs) {i : Int32} (hl : lv_has ls 7 [(4, .int i), (3, .ref o), (2, .ref (adm 0)), (1, .ref (adx 0)), (0, .ref b)]) (hin : ∀ j : Int32, 1 ≤ j → j ≤ 6 → vp_in (i + j) L) (hcs : cells + 1 ≤ room_1.cells ∧ slots + 6 ≤ room_1.slots)
    (nx : ∀ (σx' σm' : FH) (f' : Nat → Int64) (H1 : Heap) (locs1 : List Loc) (ls1 : Array Slot), Rel (n + 1) σx' σm' → zl_W D cy adx adm o σx' σm' f' H1 → va_S (zAL s) s.heap H1 locs1 → lv_has ls1 7 [(4, .int i), (3, .ref o), (2, .ref (adm 0)), (1, .ref (adx 0)), (0, .ref b)] → W p l e room_1 s m args below meth c H1 locs1 (cells + 1) (slots + 6) Q (F0 m 1393 ls1 [])) : W p l e room_1 s m args below meth c H locs cells slots Q (F0 m 521 ls []) := by
  obtain ⟨hx, hb, -, hown, hts, hK, -⟩ := hC.1
  have hX := hC.2.2.2.2.2.2.1
  have hbl := hC.2.2.2.2.2.2.2.1
  have hbA : ¬ zAL s b := Nat.not_le.mpr hbl
  have hc0 : cells ≤ room_1.cells ∧ slots ≤ room_1.slots := ⟨Nat.le_trans (Nat.le_succ _) hcs.1, Nat.le_trans (Nat.le_add_right _ 6) hcs.2⟩
  obtain ⟨v, σx2, σm2, e1, e2, hR2⟩ := op_join ((xs (i + 1).toNatClampNeg)) ((xs (i + 2).toNatClampNeg)) n σx σm hn hR
  refine lv_aload_n hx hb dL_law_521 rfl (lv_at hl 3 rfl) ?_
  refine lv_aload_n hx hb dL_law_522 rfl (lv_at hl 4 rfl) ?_
  refine lv_iload hx hb dL_law_523 (lv_at hl 0 rfl) ?_
  refine lv_iconst (v := 1) hx hb dL_law_525 (by decide) ?_
  refine lv_iadd hx hb dL_law_526 ?_
  refine va_sld hx hb hX hbl hbA hS (hin _ (by decide) (by decide)) dL_law_527 ?_
  refine lv_aload_n hx hb dL_law_528 rfl (lv_at hl 4 rfl) ?_
  refine lv_iload hx hb dL_law_529 (lv_at hl 0 rfl) ?_
  refine lv_iconst (v := 2) hx hb dL_law_531 (by decide) ?_
  refine lv_iadd hx hb dL_law_532 ?_
  refine va_sld hx hb hX hbl hbA hS (hin _ (by decide) (by decide)) dL_law_533 ?_
  refine zl_cx (n := 2) (As := [.int ((xs (i + 1).toNatClampNeg)), .int ((xs (i + 2).toNatClampNeg))]) (rest := []) hC hW hS (ctX11_join l e1) (fx_l4 wL_52 wI_X11_join wS_X11_join kN_X11) wC_X11_join (by decide +kernel) rfl ⟨Nat.le_of_ble_eq_true rfl, Nat.le_of_ble_eq_true rfl⟩ hc0 hl.1 (Nat.le_of_ble_eq_true rfl) rfl dL_law_534 (fun H locs hW hS => ?_)
  refine lv_aload_n hx hb dL_law_537 rfl (lv_at hl 2 rfl) ?_
  refine lv_aload_n hx hb dL_law_538 rfl (lv_at hl 4 rfl) ?_
  refine lv_iload hx hb dL_law_539 (lv_at hl 0 rfl) ?_
  refine lv_iconst (v := 1) hx hb dL_law_541 (by decide) ?_
  refine lv_iadd hx hb dL_law_542 ?_
  refine va_sld hx hb hX hbl hbA hS (hin _ (by decide) (by decide)) dL_law_543 ?_
  refine lv_aload_n hx hb dL_law_544 rfl (lv_at hl 4 rfl) ?_
  refine lv_iload hx hb dL_law_545 (lv_at hl 0 rfl) ?_
  refine lv_iconst (v := 2) hx hb dL_law_547 (by decide) ?_
  refine lv_iadd hx hb dL_law_548 ?_
  refine va_sld hx hb hX hbl hbA hS (hin _ (by decide) (by decide)) dL_law_549 ?_
  refine zl_cm (n := 2) (As := [.int ((xs (i + 1).toNatClampNeg)), .int ((xs (i + 2).toNatClampNeg))]) (rest := [.int v]) hC hW hS (ctX12_join l e2) (fx_l4 wL_56 wI_X12_join wS_X12_join kN_X12) wC_X12_join (by decide +kernel) rfl ⟨Nat.le_of_ble_eq_true rfl, Nat.le_of_ble_eq_true rfl⟩ hc0 hl.1 (Nat.le_of_ble_eq_true rfl) rfl dL_law_550 (fun H locs hW hS => ?_)
  refine lv_icmp_eq (tgt := 1393) hx hb dL_law_553 (by decide) (fun _ => ?_) (fun h => absurd rfl h)
  refine W.widen (Nat.le_succ _) (Nat.le_add_right _ 6) ?_
  exact nx _ _ _ _ _ _ hR2 hW hS hl

theorem lw_c558 (hfl : l.stackTraces = false) (hC : zl_C p s m args c D cy adx adm ec sa o b L xs) {n : Nat} (hn : n < 600) (hR : Rel n σx σm) (hW : zl_W D cy adx adm o σx σm f H) (hS : va_S (zAL s) s.heap H locs) {i : Int32} (hl : lv_has ls 7 [(4, .int i), (3, .ref o), (2, .ref (adm 0)), (1, .ref (adx 0)), (0, .ref b)]) (hin : ∀ j : Int32, 1 ≤ j → j ≤ 6 → vp_in (i + j) L) (hcs : cells + 1 ≤ room_1.cells ∧ slots + 6 ≤ room_1.slots)
    (nx : ∀ (σx' σm' : FH) (f' : Nat → Int64) (H1 : Heap) (locs1 : List Loc) (ls1 : Array Slot), Rel (n + 1) σx' σm' → zl_W D cy adx adm o σx' σm' f' H1 → va_S (zAL s) s.heap H1 locs1 → lv_has ls1 7 [(4, .int i), (3, .ref o), (2, .ref (adm 0)), (1, .ref (adx 0)), (0, .ref b)] → W p l e room_1 s m args below meth c H1 locs1 (cells + 1) (slots + 6) Q (F0 m 1393 ls1 [])) : W p l e room_1 s m args below meth c H locs cells slots Q (F0 m 558 ls []) := by
  obtain ⟨hx, hb, -, hown, hts, hK, -⟩ := hC.1
  have hX := hC.2.2.2.2.2.2.1
  have hbl := hC.2.2.2.2.2.2.2.1
  have hbA : ¬ zAL s b := Nat.not_le.mpr hbl
  have hc0 : cells ≤ room_1.cells ∧ slots ≤ room_1.slots := ⟨Nat.le_trans (Nat.le_succ _) hcs.1, Nat.le_trans (Nat.le_add_right _ 6) hcs.2⟩
  obtain ⟨v, σx2, σm2, e1, e2, hR2⟩ := op_lend ((xs (i + 1).toNatClampNeg)) ((xs (i + 2).toNatClampNeg)) ((xs (i + 3).toNatClampNeg)) n σx σm hn hR
  refine lv_aload_n hx hb dL_law_558 rfl (lv_at hl 3 rfl) ?_
  refine lv_aload_n hx hb dL_law_559 rfl (lv_at hl 4 rfl) ?_
  refine lv_iload hx hb dL_law_560 (lv_at hl 0 rfl) ?_
  refine lv_iconst (v := 1) hx hb dL_law_562 (by decide) ?_
  refine lv_iadd hx hb dL_law_563 ?_
  refine va_sld hx hb hX hbl hbA hS (hin _ (by decide) (by decide)) dL_law_564 ?_
  refine lv_aload_n hx hb dL_law_565 rfl (lv_at hl 4 rfl) ?_
  refine lv_iload hx hb dL_law_566 (lv_at hl 0 rfl) ?_
  refine lv_iconst (v := 2) hx hb dL_law_568 (by decide) ?_
  refine lv_iadd hx hb dL_law_569 ?_
  refine va_sld hx hb hX hbl hbA hS (hin _ (by decide) (by decide)) dL_law_570 ?_
  refine lv_aload_n hx hb dL_law_571 rfl (lv_at hl 4 rfl) ?_
  refine lv_iload hx hb dL_law_572 (lv_at hl 0 rfl) ?_
  refine lv_iconst (v := 3) hx hb dL_law_574 (by decide) ?_
  refine lv_iadd hx hb dL_law_575 ?_
  refine va_sld hx hb hX hbl hbA hS (hin _ (by decide) (by decide)) dL_law_576 ?_
  refine zl_cx (n := 3) (As := [.int ((xs (i + 1).toNatClampNeg)), .int ((xs (i + 2).toNatClampNeg)), .int ((xs (i + 3).toNatClampNeg))]) (rest := []) hC hW hS (ctX11_lend l e1) (fx_l4 wL_57 wI_X11_lend wS_X11_lend kN_X11) wC_X11_lend (by decide +kernel) rfl ⟨Nat.le_of_ble_eq_true rfl, Nat.le_of_ble_eq_true rfl⟩ hc0 hl.1 (Nat.le_of_ble_eq_true rfl) rfl dL_law_577 (fun H locs hW hS => ?_)
  refine lv_aload_n hx hb dL_law_580 rfl (lv_at hl 2 rfl) ?_
  refine lv_aload_n hx hb dL_law_581 rfl (lv_at hl 4 rfl) ?_
  refine lv_iload hx hb dL_law_582 (lv_at hl 0 rfl) ?_
  refine lv_iconst (v := 1) hx hb dL_law_584 (by decide) ?_
  refine lv_iadd hx hb dL_law_585 ?_
  refine va_sld hx hb hX hbl hbA hS (hin _ (by decide) (by decide)) dL_law_586 ?_
  refine lv_aload_n hx hb dL_law_587 rfl (lv_at hl 4 rfl) ?_
  refine lv_iload hx hb dL_law_588 (lv_at hl 0 rfl) ?_
  refine lv_iconst (v := 2) hx hb dL_law_590 (by decide) ?_
  refine lv_iadd hx hb dL_law_591 ?_
  refine va_sld hx hb hX hbl hbA hS (hin _ (by decide) (by decide)) dL_law_592 ?_
  refine lv_aload_n hx hb dL_law_593 rfl (lv_at hl 4 rfl) ?_
  refine lv_iload hx hb dL_law_594 (lv_at hl 0 rfl) ?_
  refine lv_iconst (v := 3) hx hb dL_law_596 (by decide) ?_
  refine lv_iadd hx hb dL_law_597 ?_
  refine va_sld hx hb hX hbl hbA hS (hin _ (by decide) (by decide)) dL_law_598 ?_
  refine zl_cm (n := 3) (As := [.int ((xs (i + 1).toNatClampNeg)), .int ((xs (i + 2).toNatClampNeg)), .int ((xs (i + 3).toNatClampNeg))]) (rest := [.int v]) hC hW hS (ctX12_lend l e2) (fx_l4 wL_61 wI_X12_lend wS_X12_lend kN_X12) wC_X12_lend (by decide +kernel) rfl ⟨Nat.le_of_ble_eq_true rfl, Nat.le_of_ble_eq_true rfl⟩ hc0 hl.1 (Nat.le_of_ble_eq_true rfl) rfl dL_law_599 (fun H locs hW hS => ?_)
  refine lv_icmp_eq (tgt := 1393) hx hb dL_law_602 (by decide) (fun _ => ?_) (fun h => absurd rfl h)
  refine W.widen (Nat.le_succ _) (Nat.le_add_right _ 6) ?_
  exact nx _ _ _ _ _ _ hR2 hW hS hl

theorem lw_c607 (hfl : l.stackTraces = false) (hC : zl_C p s m args c D cy adx adm ec sa o b L xs) {n : Nat} (hn : n < 600) (hR : Rel n σx σm) (hW : zl_W D cy adx adm o σx σm f H) (hS : va_S (zAL s) s.heap H locs) {i : Int32} (hl : lv_has ls 7 [(4, .int i), (3, .ref o), (2, .ref (adm 0)), (1, .ref (adx 0)), (0, .ref b)]) (hin : ∀ j : Int32, 1 ≤ j → j ≤ 6 → vp_in (i + j) L) (hcs : cells + 1 ≤ room_1.cells ∧ slots + 6 ≤ room_1.slots)
    (nx : ∀ (σx' σm' : FH) (f' : Nat → Int64) (H1 : Heap) (locs1 : List Loc) (ls1 : Array Slot), Rel (n + 1) σx' σm' → zl_W D cy adx adm o σx' σm' f' H1 → va_S (zAL s) s.heap H1 locs1 → lv_has ls1 7 [(4, .int i), (3, .ref o), (2, .ref (adm 0)), (1, .ref (adx 0)), (0, .ref b)] → W p l e room_1 s m args below meth c H1 locs1 (cells + 1) (slots + 6) Q (F0 m 1393 ls1 [])) : W p l e room_1 s m args below meth c H locs cells slots Q (F0 m 607 ls []) := by
  obtain ⟨hx, hb, -, hown, hts, hK, -⟩ := hC.1
  have hX := hC.2.2.2.2.2.2.1
  have hbl := hC.2.2.2.2.2.2.2.1
  have hbA : ¬ zAL s b := Nat.not_le.mpr hbl
  have hc0 : cells ≤ room_1.cells ∧ slots ≤ room_1.slots := ⟨Nat.le_trans (Nat.le_succ _) hcs.1, Nat.le_trans (Nat.le_add_right _ 6) hcs.2⟩
  obtain ⟨v, σx2, σm2, e1, e2, hR2⟩ := op_week  n σx σm hn hR
  refine lv_aload_n hx hb dL_law_607 rfl (lv_at hl 3 rfl) ?_
  refine zl_cx (n := 0) (As := []) (rest := []) hC hW hS (ctX11_week l e1) (fx_l4 wL_62 wI_X11_week wS_X11_week kN_X11) wC_X11_week (by decide +kernel) rfl ⟨Nat.le_of_ble_eq_true rfl, Nat.le_of_ble_eq_true rfl⟩ hc0 hl.1 (Nat.le_of_ble_eq_true rfl) rfl dL_law_608 (fun H locs hW hS => ?_)
  refine lv_aload_n hx hb dL_law_611 rfl (lv_at hl 2 rfl) ?_
  refine zl_cm (n := 0) (As := []) (rest := [.int v]) hC hW hS (ctX12_week l e2) (fx_l4 wL_65 wI_X12_week wS_X12_week kN_X12) wC_X12_week (by decide +kernel) rfl ⟨Nat.le_of_ble_eq_true rfl, Nat.le_of_ble_eq_true rfl⟩ hc0 hl.1 (Nat.le_of_ble_eq_true rfl) rfl dL_law_612 (fun H locs hW hS => ?_)
  refine lv_icmp_eq (tgt := 1393) hx hb dL_law_615 (by decide) (fun _ => ?_) (fun h => absurd rfl h)
  refine W.widen (Nat.le_succ _) (Nat.le_add_right _ 6) ?_
  exact nx _ _ _ _ _ _ hR2 hW hS hl

theorem lw_c620 (hfl : l.stackTraces = false) (hC : zl_C p s m args c D cy adx adm ec sa o b L xs) {n : Nat} (hn : n < 600) (hR : Rel n σx σm) (hW : zl_W D cy adx adm o σx σm f H) (hS : va_S (zAL s) s.heap H locs) {i : Int32} (hl : lv_has ls 7 [(4, .int i), (3, .ref o), (2, .ref (adm 0)), (1, .ref (adx 0)), (0, .ref b)]) (hin : ∀ j : Int32, 1 ≤ j → j ≤ 6 → vp_in (i + j) L) (hcs : cells + 1 ≤ room_1.cells ∧ slots + 6 ≤ room_1.slots)
    (nx : ∀ (σx' σm' : FH) (f' : Nat → Int64) (H1 : Heap) (locs1 : List Loc) (ls1 : Array Slot), Rel (n + 1) σx' σm' → zl_W D cy adx adm o σx' σm' f' H1 → va_S (zAL s) s.heap H1 locs1 → lv_has ls1 7 [(4, .int i), (3, .ref o), (2, .ref (adm 0)), (1, .ref (adx 0)), (0, .ref b)] → W p l e room_1 s m args below meth c H1 locs1 (cells + 1) (slots + 6) Q (F0 m 1393 ls1 [])) : W p l e room_1 s m args below meth c H locs cells slots Q (F0 m 620 ls []) := by
  obtain ⟨hx, hb, -, hown, hts, hK, -⟩ := hC.1
  have hX := hC.2.2.2.2.2.2.1
  have hbl := hC.2.2.2.2.2.2.2.1
  have hbA : ¬ zAL s b := Nat.not_le.mpr hbl
  have hc0 : cells ≤ room_1.cells ∧ slots ≤ room_1.slots := ⟨Nat.le_trans (Nat.le_succ _) hcs.1, Nat.le_trans (Nat.le_add_right _ 6) hcs.2⟩
  obtain ⟨v, σx2, σm2, e1, e2, hR2⟩ := op_undo  n σx σm hn hR
  refine lv_aload_n hx hb dL_law_620 rfl (lv_at hl 3 rfl) ?_
  refine zl_cx (n := 0) (As := []) (rest := []) hC hW hS (ctX11_undo l e1) (fx_l4 wL_66 wI_X11_undo wS_X11_undo kN_X11) wC_X11_undo (by decide +kernel) rfl ⟨Nat.le_of_ble_eq_true rfl, Nat.le_of_ble_eq_true rfl⟩ hc0 hl.1 (Nat.le_of_ble_eq_true rfl) rfl dL_law_621 (fun H locs hW hS => ?_)
  refine lv_aload_n hx hb dL_law_624 rfl (lv_at hl 2 rfl) ?_
  refine zl_cm (n := 0) (As := []) (rest := [.int v]) hC hW hS (ctX12_undo l e2) (fx_l4 wL_70 wI_X12_undo wS_X12_undo kN_X12) wC_X12_undo (by decide +kernel) rfl ⟨Nat.le_of_ble_eq_true rfl, Nat.le_of_ble_eq_true rfl⟩ hc0 hl.1 (Nat.le_of_ble_eq_true rfl) rfl dL_law_625 (fun H locs hW hS => ?_)
  refine lv_icmp_eq (tgt := 1393) hx hb dL_law_628 (by decide) (fun _ => ?_) (fun h => absurd rfl h)
  refine W.widen (Nat.le_succ _) (Nat.le_add_right _ 6) ?_
  exact nx _ _ _ _ _ _ hR2 hW hS hl

theorem lw_c633 (hfl : l.stackTraces = false) (hC : zl_C p s m args c D cy adx adm ec sa o b L xs) {n : Nat} (hn : n < 600) (hR : Rel n σx σm) (hW : zl_W D cy adx adm o σx σm f H) (hS : va_S (zAL s) s.heap H locs) {i : Int32} (hl : lv_has ls 7 [(4, .int i), (3, .ref o), (2, .ref (adm 0)), (1, .ref (adx 0)), (0, .ref b)]) (hin : ∀ j : Int32, 1 ≤ j → j ≤ 6 → vp_in (i + j) L) (hcs : cells + 1 ≤ room_1.cells ∧ slots + 6 ≤ room_1.slots)
    (nx : ∀ (σx' σm' : FH) (f' : Nat → Int64) (H1 : Heap) (locs1 : List Loc) (ls1 : Array Slot), Rel (n + 1) σx' σm' → zl_W D cy adx adm o σx' σm' f' H1 → va_S (zAL s) s.heap H1 locs1 → lv_has ls1 7 [(4, .int i), (3, .ref o), (2, .ref (adm 0)), (1, .ref (adx 0)), (0, .ref b)] → W p l e room_1 s m args below meth c H1 locs1 (cells + 1) (slots + 6) Q (F0 m 1393 ls1 [])) : W p l e room_1 s m args below meth c H locs cells slots Q (F0 m 633 ls []) := by
  obtain ⟨hx, hb, -, hown, hts, hK, -⟩ := hC.1
  have hX := hC.2.2.2.2.2.2.1
  have hbl := hC.2.2.2.2.2.2.2.1
  have hbA : ¬ zAL s b := Nat.not_le.mpr hbl
  have hc0 : cells ≤ room_1.cells ∧ slots ≤ room_1.slots := ⟨Nat.le_trans (Nat.le_succ _) hcs.1, Nat.le_trans (Nat.le_add_right _ 6) hcs.2⟩
  obtain ⟨v, σx2, σm2, e1, e2, hR2⟩ := op_judged ((xs (i + 1).toNatClampNeg)) n σx σm hn hR
  refine lv_aload_n hx hb dL_law_633 rfl (lv_at hl 3 rfl) ?_
  refine lv_aload_n hx hb dL_law_634 rfl (lv_at hl 4 rfl) ?_
  refine lv_iload hx hb dL_law_635 (lv_at hl 0 rfl) ?_
  refine lv_iconst (v := 1) hx hb dL_law_637 (by decide) ?_
  refine lv_iadd hx hb dL_law_638 ?_
  refine va_sld hx hb hX hbl hbA hS (hin _ (by decide) (by decide)) dL_law_639 ?_
  refine zl_cx (n := 1) (As := [.int ((xs (i + 1).toNatClampNeg))]) (rest := []) hC hW hS (ctX11_judged l e1) (fx_l4 wL_71 wI_X11_judged wS_X11_judged kN_X11) wC_X11_judged (by decide +kernel) rfl ⟨Nat.le_of_ble_eq_true rfl, Nat.le_of_ble_eq_true rfl⟩ hc0 hl.1 (Nat.le_of_ble_eq_true rfl) rfl dL_law_640 (fun H locs hW hS => ?_)
  refine lv_aload_n hx hb dL_law_643 rfl (lv_at hl 2 rfl) ?_
  refine lv_aload_n hx hb dL_law_644 rfl (lv_at hl 4 rfl) ?_
  refine lv_iload hx hb dL_law_645 (lv_at hl 0 rfl) ?_
  refine lv_iconst (v := 1) hx hb dL_law_647 (by decide) ?_
  refine lv_iadd hx hb dL_law_648 ?_
  refine va_sld hx hb hX hbl hbA hS (hin _ (by decide) (by decide)) dL_law_649 ?_
  refine zl_cm (n := 1) (As := [.int ((xs (i + 1).toNatClampNeg))]) (rest := [.int v]) hC hW hS (ctX12_judged l e2) (fx_l4 wL_75 wI_X12_judged wS_X12_judged kN_X12) wC_X12_judged (by decide +kernel) rfl ⟨Nat.le_of_ble_eq_true rfl, Nat.le_of_ble_eq_true rfl⟩ hc0 hl.1 (Nat.le_of_ble_eq_true rfl) rfl dL_law_650 (fun H locs hW hS => ?_)
  refine lv_icmp_eq (tgt := 1393) hx hb dL_law_653 (by decide) (fun _ => ?_) (fun h => absurd rfl h)
  refine W.widen (Nat.le_succ _) (Nat.le_add_right _ 6) ?_
  exact nx _ _ _ _ _ _ hR2 hW hS hl

theorem lw_c658 (hfl : l.stackTraces = false) (hC : zl_C p s m args c D cy adx adm ec sa o b L xs) {n : Nat} (hn : n < 600) (hR : Rel n σx σm) (hW : zl_W D cy adx adm o σx σm f H) (hS : va_S (zAL s) s.heap H locs) {i : Int32} (hl : lv_has ls 7 [(4, .int i), (3, .ref o), (2, .ref (adm 0)), (1, .ref (adx 0)), (0, .ref b)]) (hin : ∀ j : Int32, 1 ≤ j → j ≤ 6 → vp_in (i + j) L) (hcs : cells + 1 ≤ room_1.cells ∧ slots + 6 ≤ room_1.slots)
    (nx : ∀ (σx' σm' : FH) (f' : Nat → Int64) (H1 : Heap) (locs1 : List Loc) (ls1 : Array Slot), Rel (n + 1) σx' σm' → zl_W D cy adx adm o σx' σm' f' H1 → va_S (zAL s) s.heap H1 locs1 → lv_has ls1 7 [(4, .int i), (3, .ref o), (2, .ref (adm 0)), (1, .ref (adx 0)), (0, .ref b)] → W p l e room_1 s m args below meth c H1 locs1 (cells + 1) (slots + 6) Q (F0 m 1393 ls1 [])) : W p l e room_1 s m args below meth c H locs cells slots Q (F0 m 658 ls []) := by
  obtain ⟨hx, hb, -, hown, hts, hK, -⟩ := hC.1
  have hX := hC.2.2.2.2.2.2.1
  have hbl := hC.2.2.2.2.2.2.2.1
  have hbA : ¬ zAL s b := Nat.not_le.mpr hbl
  have hc0 : cells ≤ room_1.cells ∧ slots ≤ room_1.slots := ⟨Nat.le_trans (Nat.le_succ _) hcs.1, Nat.le_trans (Nat.le_add_right _ 6) hcs.2⟩
  obtain ⟨v, σx2, σm2, e1, e2, hR2⟩ := op_when ((xs (i + 1).toNatClampNeg)) n σx σm hn hR
  refine lv_aload_n hx hb dL_law_658 rfl (lv_at hl 3 rfl) ?_
  refine lv_aload_n hx hb dL_law_659 rfl (lv_at hl 4 rfl) ?_
  refine lv_iload hx hb dL_law_660 (lv_at hl 0 rfl) ?_
  refine lv_iconst (v := 1) hx hb dL_law_662 (by decide) ?_
  refine lv_iadd hx hb dL_law_663 ?_
  refine va_sld hx hb hX hbl hbA hS (hin _ (by decide) (by decide)) dL_law_664 ?_
  refine zl_cx (n := 1) (As := [.int ((xs (i + 1).toNatClampNeg))]) (rest := []) hC hW hS (ctX11_when l e1) (fx_l4 wL_76 wI_X11_when wS_X11_when kN_X11) wC_X11_when (by decide +kernel) rfl ⟨Nat.le_of_ble_eq_true rfl, Nat.le_of_ble_eq_true rfl⟩ hc0 hl.1 (Nat.le_of_ble_eq_true rfl) rfl dL_law_665 (fun H locs hW hS => ?_)
  refine lv_aload_n hx hb dL_law_668 rfl (lv_at hl 2 rfl) ?_
  refine lv_aload_n hx hb dL_law_669 rfl (lv_at hl 4 rfl) ?_
  refine lv_iload hx hb dL_law_670 (lv_at hl 0 rfl) ?_
  refine lv_iconst (v := 1) hx hb dL_law_672 (by decide) ?_
  refine lv_iadd hx hb dL_law_673 ?_
  refine va_sld hx hb hX hbl hbA hS (hin _ (by decide) (by decide)) dL_law_674 ?_
  refine zl_cm (n := 1) (As := [.int ((xs (i + 1).toNatClampNeg))]) (rest := [.int v]) hC hW hS (ctX12_when l e2) (fx_l4 wL_79 wI_X12_when wS_X12_when kN_X12) wC_X12_when (by decide +kernel) rfl ⟨Nat.le_of_ble_eq_true rfl, Nat.le_of_ble_eq_true rfl⟩ hc0 hl.1 (Nat.le_of_ble_eq_true rfl) rfl dL_law_675 (fun H locs hW hS => ?_)
  refine lv_icmp_eq (tgt := 1393) hx hb dL_law_678 (by decide) (fun _ => ?_) (fun h => absurd rfl h)
  refine W.widen (Nat.le_succ _) (Nat.le_add_right _ 6) ?_
  exact nx _ _ _ _ _ _ hR2 hW hS hl

theorem lw_c683 (hfl : l.stackTraces = false) (hC : zl_C p s m args c D cy adx adm ec sa o b L xs) {n : Nat} (hn : n < 600) (hR : Rel n σx σm) (hW : zl_W D cy adx adm o σx σm f H) (hS : va_S (zAL s) s.heap H locs) {i : Int32} (hl : lv_has ls 7 [(4, .int i), (3, .ref o), (2, .ref (adm 0)), (1, .ref (adx 0)), (0, .ref b)]) (hin : ∀ j : Int32, 1 ≤ j → j ≤ 6 → vp_in (i + j) L) (hcs : cells + 1 ≤ room_1.cells ∧ slots + 6 ≤ room_1.slots)
    (nx : ∀ (σx' σm' : FH) (f' : Nat → Int64) (H1 : Heap) (locs1 : List Loc) (ls1 : Array Slot), Rel (n + 1) σx' σm' → zl_W D cy adx adm o σx' σm' f' H1 → va_S (zAL s) s.heap H1 locs1 → lv_has ls1 7 [(4, .int i), (3, .ref o), (2, .ref (adm 0)), (1, .ref (adx 0)), (0, .ref b)] → W p l e room_1 s m args below meth c H1 locs1 (cells + 1) (slots + 6) Q (F0 m 1393 ls1 [])) : W p l e room_1 s m args below meth c H locs cells slots Q (F0 m 683 ls []) := by
  obtain ⟨hx, hb, -, hown, hts, hK, -⟩ := hC.1
  have hX := hC.2.2.2.2.2.2.1
  have hbl := hC.2.2.2.2.2.2.2.1
  have hbA : ¬ zAL s b := Nat.not_le.mpr hbl
  have hc0 : cells ≤ room_1.cells ∧ slots ≤ room_1.slots := ⟨Nat.le_trans (Nat.le_succ _) hcs.1, Nat.le_trans (Nat.le_add_right _ 6) hcs.2⟩
  obtain ⟨v, σx2, σm2, e1, e2, hR2⟩ := op_caught ((xs (i + 1).toNatClampNeg)) n σx σm hn hR
  refine lv_aload_n hx hb dL_law_683 rfl (lv_at hl 3 rfl) ?_
  refine lv_aload_n hx hb dL_law_684 rfl (lv_at hl 4 rfl) ?_
  refine lv_iload hx hb dL_law_685 (lv_at hl 0 rfl) ?_
  refine lv_iconst (v := 1) hx hb dL_law_687 (by decide) ?_
  refine lv_iadd hx hb dL_law_688 ?_
  refine va_sld hx hb hX hbl hbA hS (hin _ (by decide) (by decide)) dL_law_689 ?_
  refine zl_cx (n := 1) (As := [.int ((xs (i + 1).toNatClampNeg))]) (rest := []) hC hW hS (ctX11_caught l e1) (fx_l4 wL_80 wI_X11_caught wS_X11_caught kN_X11) wC_X11_caught (by decide +kernel) rfl ⟨Nat.le_of_ble_eq_true rfl, Nat.le_of_ble_eq_true rfl⟩ hc0 hl.1 (Nat.le_of_ble_eq_true rfl) rfl dL_law_690 (fun H locs hW hS => ?_)
  refine lv_aload_n hx hb dL_law_693 rfl (lv_at hl 2 rfl) ?_
  refine lv_aload_n hx hb dL_law_694 rfl (lv_at hl 4 rfl) ?_
  refine lv_iload hx hb dL_law_695 (lv_at hl 0 rfl) ?_
  refine lv_iconst (v := 1) hx hb dL_law_697 (by decide) ?_
  refine lv_iadd hx hb dL_law_698 ?_
  refine va_sld hx hb hX hbl hbA hS (hin _ (by decide) (by decide)) dL_law_699 ?_
  refine zl_cm (n := 1) (As := [.int ((xs (i + 1).toNatClampNeg))]) (rest := [.int v]) hC hW hS (ctX12_caught l e2) (fx_l4 wL_83 wI_X12_caught wS_X12_caught kN_X12) wC_X12_caught (by decide +kernel) rfl ⟨Nat.le_of_ble_eq_true rfl, Nat.le_of_ble_eq_true rfl⟩ hc0 hl.1 (Nat.le_of_ble_eq_true rfl) rfl dL_law_700 (fun H locs hW hS => ?_)
  refine lv_icmp_eq (tgt := 1393) hx hb dL_law_703 (by decide) (fun _ => ?_) (fun h => absurd rfl h)
  refine W.widen (Nat.le_succ _) (Nat.le_add_right _ 6) ?_
  exact nx _ _ _ _ _ _ hR2 hW hS hl

theorem lw_c708 (hfl : l.stackTraces = false) (hC : zl_C p s m args c D cy adx adm ec sa o b L xs) {n : Nat} (hn : n < 600) (hR : Rel n σx σm) (hW : zl_W D cy adx adm o σx σm f H) (hS : va_S (zAL s) s.heap H locs) {i : Int32} (hl : lv_has ls 7 [(4, .int i), (3, .ref o), (2, .ref (adm 0)), (1, .ref (adx 0)), (0, .ref b)]) (hin : ∀ j : Int32, 1 ≤ j → j ≤ 6 → vp_in (i + j) L) (hcs : cells + 1 ≤ room_1.cells ∧ slots + 6 ≤ room_1.slots)
    (nx : ∀ (σx' σm' : FH) (f' : Nat → Int64) (H1 : Heap) (locs1 : List Loc) (ls1 : Array Slot), Rel (n + 1) σx' σm' → zl_W D cy adx adm o σx' σm' f' H1 → va_S (zAL s) s.heap H1 locs1 → lv_has ls1 7 [(4, .int i), (3, .ref o), (2, .ref (adm 0)), (1, .ref (adx 0)), (0, .ref b)] → W p l e room_1 s m args below meth c H1 locs1 (cells + 1) (slots + 6) Q (F0 m 1393 ls1 [])) : W p l e room_1 s m args below meth c H locs cells slots Q (F0 m 708 ls []) := by
  obtain ⟨hx, hb, -, hown, hts, hK, -⟩ := hC.1
  have hX := hC.2.2.2.2.2.2.1
  have hbl := hC.2.2.2.2.2.2.2.1
  have hbA : ¬ zAL s b := Nat.not_le.mpr hbl
  have hc0 : cells ≤ room_1.cells ∧ slots ≤ room_1.slots := ⟨Nat.le_trans (Nat.le_succ _) hcs.1, Nat.le_trans (Nat.le_add_right _ 6) hcs.2⟩
  obtain ⟨v, σx2, σm2, e1, e2, hR2⟩ := op_joined ((xs (i + 1).toNatClampNeg)) ((xs (i + 2).toNatClampNeg)) n σx σm hn hR
  refine lv_aload_n hx hb dL_law_708 rfl (lv_at hl 3 rfl) ?_
  refine lv_aload_n hx hb dL_law_709 rfl (lv_at hl 4 rfl) ?_
  refine lv_iload hx hb dL_law_710 (lv_at hl 0 rfl) ?_
  refine lv_iconst (v := 1) hx hb dL_law_712 (by decide) ?_
  refine lv_iadd hx hb dL_law_713 ?_
  refine va_sld hx hb hX hbl hbA hS (hin _ (by decide) (by decide)) dL_law_714 ?_
  refine lv_aload_n hx hb dL_law_715 rfl (lv_at hl 4 rfl) ?_
  refine lv_iload hx hb dL_law_716 (lv_at hl 0 rfl) ?_
  refine lv_iconst (v := 2) hx hb dL_law_718 (by decide) ?_
  refine lv_iadd hx hb dL_law_719 ?_
  refine va_sld hx hb hX hbl hbA hS (hin _ (by decide) (by decide)) dL_law_720 ?_
  refine zl_cx (n := 2) (As := [.int ((xs (i + 1).toNatClampNeg)), .int ((xs (i + 2).toNatClampNeg))]) (rest := []) hC hW hS (ctX11_joined l e1) (fx_l4 wL_84 wI_X11_joined wS_X11_joined kN_X11) wC_X11_joined (by decide +kernel) rfl ⟨Nat.le_of_ble_eq_true rfl, Nat.le_of_ble_eq_true rfl⟩ hc0 hl.1 (Nat.le_of_ble_eq_true rfl) rfl dL_law_721 (fun H locs hW hS => ?_)
  refine lv_aload_n hx hb dL_law_724 rfl (lv_at hl 2 rfl) ?_
  refine lv_aload_n hx hb dL_law_725 rfl (lv_at hl 4 rfl) ?_
  refine lv_iload hx hb dL_law_726 (lv_at hl 0 rfl) ?_
  refine lv_iconst (v := 1) hx hb dL_law_728 (by decide) ?_
  refine lv_iadd hx hb dL_law_729 ?_
  refine va_sld hx hb hX hbl hbA hS (hin _ (by decide) (by decide)) dL_law_730 ?_
  refine lv_aload_n hx hb dL_law_731 rfl (lv_at hl 4 rfl) ?_
  refine lv_iload hx hb dL_law_732 (lv_at hl 0 rfl) ?_
  refine lv_iconst (v := 2) hx hb dL_law_734 (by decide) ?_
  refine lv_iadd hx hb dL_law_735 ?_
  refine va_sld hx hb hX hbl hbA hS (hin _ (by decide) (by decide)) dL_law_736 ?_
  refine zl_cm (n := 2) (As := [.int ((xs (i + 1).toNatClampNeg)), .int ((xs (i + 2).toNatClampNeg))]) (rest := [.int v]) hC hW hS (ctX12_joined l e2) (fx_l4 wL_87 wI_X12_joined wS_X12_joined kN_X12) wC_X12_joined (by decide +kernel) rfl ⟨Nat.le_of_ble_eq_true rfl, Nat.le_of_ble_eq_true rfl⟩ hc0 hl.1 (Nat.le_of_ble_eq_true rfl) rfl dL_law_737 (fun H locs hW hS => ?_)
  refine lv_icmp_eq (tgt := 1393) hx hb dL_law_740 (by decide) (fun _ => ?_) (fun h => absurd rfl h)
  refine W.widen (Nat.le_succ _) (Nat.le_add_right _ 6) ?_
  exact nx _ _ _ _ _ _ hR2 hW hS hl

theorem lw_c745 (hfl : l.stackTraces = false) (hC : zl_C p s m args c D cy adx adm ec sa o b L xs) {n : Nat} (hn : n < 600) (hR : Rel n σx σm) (hW : zl_W D cy adx adm o σx σm f H) (hS : va_S (zAL s) s.heap H locs) {i : Int32} (hl : lv_has ls 7 [(4, .int i), (3, .ref o), (2, .ref (adm 0)), (1, .ref (adx 0)), (0, .ref b)]) (hin : ∀ j : Int32, 1 ≤ j → j ≤ 6 → vp_in (i + j) L) (hcs : cells + 1 ≤ room_1.cells ∧ slots + 6 ≤ room_1.slots)
    (nx : ∀ (σx' σm' : FH) (f' : Nat → Int64) (H1 : Heap) (locs1 : List Loc) (ls1 : Array Slot), Rel (n + 1) σx' σm' → zl_W D cy adx adm o σx' σm' f' H1 → va_S (zAL s) s.heap H1 locs1 → lv_has ls1 7 [(4, .int i), (3, .ref o), (2, .ref (adm 0)), (1, .ref (adx 0)), (0, .ref b)] → W p l e room_1 s m args below meth c H1 locs1 (cells + 1) (slots + 6) Q (F0 m 1393 ls1 [])) : W p l e room_1 s m args below meth c H locs cells slots Q (F0 m 745 ls []) := by
  obtain ⟨hx, hb, -, hown, hts, hK, -⟩ := hC.1
  have hX := hC.2.2.2.2.2.2.1
  have hbl := hC.2.2.2.2.2.2.2.1
  have hbA : ¬ zAL s b := Nat.not_le.mpr hbl
  have hc0 : cells ≤ room_1.cells ∧ slots ≤ room_1.slots := ⟨Nat.le_trans (Nat.le_succ _) hcs.1, Nat.le_trans (Nat.le_add_right _ 6) hcs.2⟩
  obtain ⟨v, σx2, σm2, e1, e2, hR2⟩ := op_fines ((xs (i + 1).toNatClampNeg)) n σx σm hn hR
  refine lv_aload_n hx hb dL_law_745 rfl (lv_at hl 3 rfl) ?_
  refine lv_aload_n hx hb dL_law_746 rfl (lv_at hl 4 rfl) ?_
  refine lv_iload hx hb dL_law_747 (lv_at hl 0 rfl) ?_
  refine lv_iconst (v := 1) hx hb dL_law_749 (by decide) ?_
  refine lv_iadd hx hb dL_law_750 ?_
  refine va_sld hx hb hX hbl hbA hS (hin _ (by decide) (by decide)) dL_law_751 ?_
  refine zl_cx (n := 1) (As := [.int ((xs (i + 1).toNatClampNeg))]) (rest := []) hC hW hS (ctX11_fines l e1) (fx_l4 wL_88 wI_X11_fines wS_X11_fines kN_X11) wC_X11_fines (by decide +kernel) rfl ⟨Nat.le_of_ble_eq_true rfl, Nat.le_of_ble_eq_true rfl⟩ hc0 hl.1 (Nat.le_of_ble_eq_true rfl) rfl dL_law_752 (fun H locs hW hS => ?_)
  refine lv_aload_n hx hb dL_law_755 rfl (lv_at hl 2 rfl) ?_
  refine lv_aload_n hx hb dL_law_756 rfl (lv_at hl 4 rfl) ?_
  refine lv_iload hx hb dL_law_757 (lv_at hl 0 rfl) ?_
  refine lv_iconst (v := 1) hx hb dL_law_759 (by decide) ?_
  refine lv_iadd hx hb dL_law_760 ?_
  refine va_sld hx hb hX hbl hbA hS (hin _ (by decide) (by decide)) dL_law_761 ?_
  refine zl_cm (n := 1) (As := [.int ((xs (i + 1).toNatClampNeg))]) (rest := [.int v]) hC hW hS (ctX12_fines l e2) (fx_l4 wL_91 wI_X12_fines wS_X12_fines kN_X12) wC_X12_fines (by decide +kernel) rfl ⟨Nat.le_of_ble_eq_true rfl, Nat.le_of_ble_eq_true rfl⟩ hc0 hl.1 (Nat.le_of_ble_eq_true rfl) rfl dL_law_762 (fun H locs hW hS => ?_)
  refine lv_icmp_eq (tgt := 1393) hx hb dL_law_765 (by decide) (fun _ => ?_) (fun h => absurd rfl h)
  refine W.widen (Nat.le_succ _) (Nat.le_add_right _ 6) ?_
  exact nx _ _ _ _ _ _ hR2 hW hS hl

theorem lw_c770 (hfl : l.stackTraces = false) (hC : zl_C p s m args c D cy adx adm ec sa o b L xs) {n : Nat} (hn : n < 600) (hR : Rel n σx σm) (hW : zl_W D cy adx adm o σx σm f H) (hS : va_S (zAL s) s.heap H locs) {i : Int32} (hl : lv_has ls 7 [(4, .int i), (3, .ref o), (2, .ref (adm 0)), (1, .ref (adx 0)), (0, .ref b)]) (hin : ∀ j : Int32, 1 ≤ j → j ≤ 6 → vp_in (i + j) L) (hcs : cells + 1 ≤ room_1.cells ∧ slots + 6 ≤ room_1.slots)
    (nx : ∀ (σx' σm' : FH) (f' : Nat → Int64) (H1 : Heap) (locs1 : List Loc) (ls1 : Array Slot), Rel (n + 1) σx' σm' → zl_W D cy adx adm o σx' σm' f' H1 → va_S (zAL s) s.heap H1 locs1 → lv_has ls1 7 [(4, .int i), (3, .ref o), (2, .ref (adm 0)), (1, .ref (adx 0)), (0, .ref b)] → W p l e room_1 s m args below meth c H1 locs1 (cells + 1) (slots + 6) Q (F0 m 1393 ls1 [])) : W p l e room_1 s m args below meth c H locs cells slots Q (F0 m 770 ls []) := by
  obtain ⟨hx, hb, -, hown, hts, hK, -⟩ := hC.1
  have hX := hC.2.2.2.2.2.2.1
  have hbl := hC.2.2.2.2.2.2.2.1
  have hbA : ¬ zAL s b := Nat.not_le.mpr hbl
  have hc0 : cells ≤ room_1.cells ∧ slots ≤ room_1.slots := ⟨Nat.le_trans (Nat.le_succ _) hcs.1, Nat.le_trans (Nat.le_add_right _ 6) hcs.2⟩
  obtain ⟨v, σm2, e1, e2, hR2⟩ := op_round  n σx σm hn hR
  refine lv_aload_n hx hb dL_law_770 rfl (lv_at hl 3 rfl) ?_
  refine zl_cx (n := 0) (As := []) (rest := []) hC hW hS (ctX11_round l e1) (fx_l4 wL_92 wI_X11_round wS_X11_round kN_X11) wC_X11_round (by decide +kernel) rfl ⟨Nat.le_of_ble_eq_true rfl, Nat.le_of_ble_eq_true rfl⟩ hc0 hl.1 (Nat.le_of_ble_eq_true rfl) rfl dL_law_771 (fun H locs hW hS => ?_)
  refine lv_aload_n hx hb dL_law_774 rfl (lv_at hl 2 rfl) ?_
  refine zl_cm (n := 0) (As := []) (rest := [.int v]) hC hW hS (ctX12_round l e2) (fx_l4 wL_95 wI_X12_round wS_X12_round kN_X12) wC_X12_round (by decide +kernel) rfl ⟨Nat.le_of_ble_eq_true rfl, Nat.le_of_ble_eq_true rfl⟩ hc0 hl.1 (Nat.le_of_ble_eq_true rfl) rfl dL_law_775 (fun H locs hW hS => ?_)
  refine lv_icmp_eq (tgt := 1393) hx hb dL_law_778 (by decide) (fun _ => ?_) (fun h => absurd rfl h)
  refine W.widen (Nat.le_succ _) (Nat.le_add_right _ 6) ?_
  exact nx _ _ _ _ _ _ hR2 hW hS hl

theorem lw_c783 (hfl : l.stackTraces = false) (hC : zl_C p s m args c D cy adx adm ec sa o b L xs) {n : Nat} (hn : n < 600) (hR : Rel n σx σm) (hW : zl_W D cy adx adm o σx σm f H) (hS : va_S (zAL s) s.heap H locs) {i : Int32} (hl : lv_has ls 7 [(4, .int i), (3, .ref o), (2, .ref (adm 0)), (1, .ref (adx 0)), (0, .ref b)]) (hin : ∀ j : Int32, 1 ≤ j → j ≤ 6 → vp_in (i + j) L) (hcs : cells + 1 ≤ room_1.cells ∧ slots + 6 ≤ room_1.slots)
    (nx : ∀ (σx' σm' : FH) (f' : Nat → Int64) (H1 : Heap) (locs1 : List Loc) (ls1 : Array Slot), Rel (n + 1) σx' σm' → zl_W D cy adx adm o σx' σm' f' H1 → va_S (zAL s) s.heap H1 locs1 → lv_has ls1 7 [(4, .int i), (3, .ref o), (2, .ref (adm 0)), (1, .ref (adx 0)), (0, .ref b)] → W p l e room_1 s m args below meth c H1 locs1 (cells + 1) (slots + 6) Q (F0 m 1393 ls1 [])) : W p l e room_1 s m args below meth c H locs cells slots Q (F0 m 783 ls []) := by
  obtain ⟨hx, hb, -, hown, hts, hK, -⟩ := hC.1
  have hX := hC.2.2.2.2.2.2.1
  have hbl := hC.2.2.2.2.2.2.2.1
  have hbA : ¬ zAL s b := Nat.not_le.mpr hbl
  have hc0 : cells ≤ room_1.cells ∧ slots ≤ room_1.slots := ⟨Nat.le_trans (Nat.le_succ _) hcs.1, Nat.le_trans (Nat.le_add_right _ 6) hcs.2⟩
  obtain ⟨v, σm2, e1, e2, hR2⟩ := op_most ((xs (i + 1).toNatClampNeg)) ((xs (i + 2).toNatClampNeg)) n σx σm hn hR
  refine lv_aload_n hx hb dL_law_783 rfl (lv_at hl 3 rfl) ?_
  refine lv_aload_n hx hb dL_law_784 rfl (lv_at hl 4 rfl) ?_
  refine lv_iload hx hb dL_law_785 (lv_at hl 0 rfl) ?_
  refine lv_iconst (v := 1) hx hb dL_law_787 (by decide) ?_
  refine lv_iadd hx hb dL_law_788 ?_
  refine va_sld hx hb hX hbl hbA hS (hin _ (by decide) (by decide)) dL_law_789 ?_
  refine lv_aload_n hx hb dL_law_790 rfl (lv_at hl 4 rfl) ?_
  refine lv_iload hx hb dL_law_791 (lv_at hl 0 rfl) ?_
  refine lv_iconst (v := 2) hx hb dL_law_793 (by decide) ?_
  refine lv_iadd hx hb dL_law_794 ?_
  refine va_sld hx hb hX hbl hbA hS (hin _ (by decide) (by decide)) dL_law_795 ?_
  refine zl_cx (n := 2) (As := [.int ((xs (i + 1).toNatClampNeg)), .int ((xs (i + 2).toNatClampNeg))]) (rest := []) hC hW hS (ctX11_most l e1) (fx_l4 wL_96 wI_X11_most wS_X11_most kN_X11) wC_X11_most (by decide +kernel) rfl ⟨Nat.le_of_ble_eq_true rfl, Nat.le_of_ble_eq_true rfl⟩ hc0 hl.1 (Nat.le_of_ble_eq_true rfl) rfl dL_law_796 (fun H locs hW hS => ?_)
  refine lv_aload_n hx hb dL_law_799 rfl (lv_at hl 2 rfl) ?_
  refine lv_aload_n hx hb dL_law_800 rfl (lv_at hl 4 rfl) ?_
  refine lv_iload hx hb dL_law_801 (lv_at hl 0 rfl) ?_
  refine lv_iconst (v := 1) hx hb dL_law_803 (by decide) ?_
  refine lv_iadd hx hb dL_law_804 ?_
  refine va_sld hx hb hX hbl hbA hS (hin _ (by decide) (by decide)) dL_law_805 ?_
  refine lv_aload_n hx hb dL_law_806 rfl (lv_at hl 4 rfl) ?_
  refine lv_iload hx hb dL_law_807 (lv_at hl 0 rfl) ?_
  refine lv_iconst (v := 2) hx hb dL_law_809 (by decide) ?_
  refine lv_iadd hx hb dL_law_810 ?_
  refine va_sld hx hb hX hbl hbA hS (hin _ (by decide) (by decide)) dL_law_811 ?_
  refine zl_cm (n := 2) (As := [.int ((xs (i + 1).toNatClampNeg)), .int ((xs (i + 2).toNatClampNeg))]) (rest := [.int v]) hC hW hS (ctX12_most l e2) (fx_l4 wL_99 wI_X12_most wS_X12_most kN_X12) wC_X12_most (by decide +kernel) rfl ⟨Nat.le_of_ble_eq_true rfl, Nat.le_of_ble_eq_true rfl⟩ hc0 hl.1 (Nat.le_of_ble_eq_true rfl) rfl dL_law_812 (fun H locs hW hS => ?_)
  refine lv_icmp_eq (tgt := 1393) hx hb dL_law_815 (by decide) (fun _ => ?_) (fun h => absurd rfl h)
  refine W.widen (Nat.le_succ _) (Nat.le_add_right _ 6) ?_
  exact nx _ _ _ _ _ _ hR2 hW hS hl

theorem lw_c820 (hfl : l.stackTraces = false) (hC : zl_C p s m args c D cy adx adm ec sa o b L xs) {n : Nat} (hn : n < 600) (hR : Rel n σx σm) (hW : zl_W D cy adx adm o σx σm f H) (hS : va_S (zAL s) s.heap H locs) {i : Int32} (hl : lv_has ls 7 [(4, .int i), (3, .ref o), (2, .ref (adm 0)), (1, .ref (adx 0)), (0, .ref b)]) (hin : ∀ j : Int32, 1 ≤ j → j ≤ 6 → vp_in (i + j) L) (hcs : cells + 1 ≤ room_1.cells ∧ slots + 6 ≤ room_1.slots)
    (nx : ∀ (σx' σm' : FH) (f' : Nat → Int64) (H1 : Heap) (locs1 : List Loc) (ls1 : Array Slot), Rel (n + 1) σx' σm' → zl_W D cy adx adm o σx' σm' f' H1 → va_S (zAL s) s.heap H1 locs1 → lv_has ls1 7 [(4, .int i), (3, .ref o), (2, .ref (adm 0)), (1, .ref (adx 0)), (0, .ref b)] → W p l e room_1 s m args below meth c H1 locs1 (cells + 1) (slots + 6) Q (F0 m 1393 ls1 [])) : W p l e room_1 s m args below meth c H locs cells slots Q (F0 m 820 ls []) := by
  obtain ⟨hx, hb, -, hown, hts, hK, -⟩ := hC.1
  have hX := hC.2.2.2.2.2.2.1
  have hbl := hC.2.2.2.2.2.2.2.1
  have hbA : ¬ zAL s b := Nat.not_le.mpr hbl
  have hc0 : cells ≤ room_1.cells ∧ slots ≤ room_1.slots := ⟨Nat.le_trans (Nat.le_succ _) hcs.1, Nat.le_trans (Nat.le_add_right _ 6) hcs.2⟩
  obtain ⟨v, σx2, σm2, e1, e2, hR2⟩ := op_ways ((xs (i + 1).toNatClampNeg)) n σx σm hn hR
  refine lv_aload_n hx hb dL_law_820 rfl (lv_at hl 3 rfl) ?_
  refine lv_aload_n hx hb dL_law_821 rfl (lv_at hl 4 rfl) ?_
  refine lv_iload hx hb dL_law_822 (lv_at hl 0 rfl) ?_
  refine lv_iconst (v := 1) hx hb dL_law_824 (by decide) ?_
  refine lv_iadd hx hb dL_law_825 ?_
  refine va_sld hx hb hX hbl hbA hS (hin _ (by decide) (by decide)) dL_law_826 ?_
  refine zl_cx (n := 1) (As := [.int ((xs (i + 1).toNatClampNeg))]) (rest := []) hC hW hS (ctX11_ways l e1) (fx_l4 wL_100 wI_X11_ways wS_X11_ways kN_X11) wC_X11_ways (by decide +kernel) rfl ⟨Nat.le_of_ble_eq_true rfl, Nat.le_of_ble_eq_true rfl⟩ hc0 hl.1 (Nat.le_of_ble_eq_true rfl) rfl dL_law_827 (fun H locs hW hS => ?_)
  refine lv_aload_n hx hb dL_law_830 rfl (lv_at hl 2 rfl) ?_
  refine lv_aload_n hx hb dL_law_831 rfl (lv_at hl 4 rfl) ?_
  refine lv_iload hx hb dL_law_832 (lv_at hl 0 rfl) ?_
  refine lv_iconst (v := 1) hx hb dL_law_834 (by decide) ?_
  refine lv_iadd hx hb dL_law_835 ?_
  refine va_sld hx hb hX hbl hbA hS (hin _ (by decide) (by decide)) dL_law_836 ?_
  refine zl_cm (n := 1) (As := [.int ((xs (i + 1).toNatClampNeg))]) (rest := [.int v]) hC hW hS (ctX12_ways l e2) (fx_l4 wL_103 wI_X12_ways wS_X12_ways kN_X12) wC_X12_ways (by decide +kernel) rfl ⟨Nat.le_of_ble_eq_true rfl, Nat.le_of_ble_eq_true rfl⟩ hc0 hl.1 (Nat.le_of_ble_eq_true rfl) rfl dL_law_837 (fun H locs hW hS => ?_)
  refine lv_icmp_eq (tgt := 1393) hx hb dL_law_840 (by decide) (fun _ => ?_) (fun h => absurd rfl h)
  refine W.widen (Nat.le_succ _) (Nat.le_add_right _ 6) ?_
  exact nx _ _ _ _ _ _ hR2 hW hS hl

theorem lw_c845 (hfl : l.stackTraces = false) (hC : zl_C p s m args c D cy adx adm ec sa o b L xs) {n : Nat} (hn : n < 600) (hR : Rel n σx σm) (hW : zl_W D cy adx adm o σx σm f H) (hS : va_S (zAL s) s.heap H locs) {i : Int32} (hl : lv_has ls 7 [(4, .int i), (3, .ref o), (2, .ref (adm 0)), (1, .ref (adx 0)), (0, .ref b)]) (hin : ∀ j : Int32, 1 ≤ j → j ≤ 6 → vp_in (i + j) L) (hcs : cells + 1 ≤ room_1.cells ∧ slots + 6 ≤ room_1.slots)
    (nx : ∀ (σx' σm' : FH) (f' : Nat → Int64) (H1 : Heap) (locs1 : List Loc) (ls1 : Array Slot), Rel (n + 1) σx' σm' → zl_W D cy adx adm o σx' σm' f' H1 → va_S (zAL s) s.heap H1 locs1 → lv_has ls1 7 [(4, .int i), (3, .ref o), (2, .ref (adm 0)), (1, .ref (adx 0)), (0, .ref b)] → W p l e room_1 s m args below meth c H1 locs1 (cells + 1) (slots + 6) Q (F0 m 1393 ls1 [])) : W p l e room_1 s m args below meth c H locs cells slots Q (F0 m 845 ls []) := by
  obtain ⟨hx, hb, -, hown, hts, hK, -⟩ := hC.1
  have hX := hC.2.2.2.2.2.2.1
  have hbl := hC.2.2.2.2.2.2.2.1
  have hbA : ¬ zAL s b := Nat.not_le.mpr hbl
  have hc0 : cells ≤ room_1.cells ∧ slots ≤ room_1.slots := ⟨Nat.le_trans (Nat.le_succ _) hcs.1, Nat.le_trans (Nat.le_add_right _ 6) hcs.2⟩
  obtain ⟨v, σx2, σm2, e1, e2, hR2⟩ := op_pivot ((xs (i + 1).toNatClampNeg)) n σx σm hn hR
  refine lv_aload_n hx hb dL_law_845 rfl (lv_at hl 3 rfl) ?_
  refine lv_aload_n hx hb dL_law_846 rfl (lv_at hl 4 rfl) ?_
  refine lv_iload hx hb dL_law_847 (lv_at hl 0 rfl) ?_
  refine lv_iconst (v := 1) hx hb dL_law_849 (by decide) ?_
  refine lv_iadd hx hb dL_law_850 ?_
  refine va_sld hx hb hX hbl hbA hS (hin _ (by decide) (by decide)) dL_law_851 ?_
  refine zl_cx (n := 1) (As := [.int ((xs (i + 1).toNatClampNeg))]) (rest := []) hC hW hS (ctX11_pivot l e1) (fx_l4 wL_104 wI_X11_pivot wS_X11_pivot kN_X11) wC_X11_pivot (by decide +kernel) rfl ⟨Nat.le_of_ble_eq_true rfl, Nat.le_of_ble_eq_true rfl⟩ hc0 hl.1 (Nat.le_of_ble_eq_true rfl) rfl dL_law_852 (fun H locs hW hS => ?_)
  refine lv_aload_n hx hb dL_law_855 rfl (lv_at hl 2 rfl) ?_
  refine lv_aload_n hx hb dL_law_856 rfl (lv_at hl 4 rfl) ?_
  refine lv_iload hx hb dL_law_857 (lv_at hl 0 rfl) ?_
  refine lv_iconst (v := 1) hx hb dL_law_859 (by decide) ?_
  refine lv_iadd hx hb dL_law_860 ?_
  refine va_sld hx hb hX hbl hbA hS (hin _ (by decide) (by decide)) dL_law_861 ?_
  refine zl_cm (n := 1) (As := [.int ((xs (i + 1).toNatClampNeg))]) (rest := [.int v]) hC hW hS (ctX12_pivot l e2) (fx_l4 wL_107 wI_X12_pivot wS_X12_pivot kN_X12) wC_X12_pivot (by decide +kernel) rfl ⟨Nat.le_of_ble_eq_true rfl, Nat.le_of_ble_eq_true rfl⟩ hc0 hl.1 (Nat.le_of_ble_eq_true rfl) rfl dL_law_862 (fun H locs hW hS => ?_)
  refine lv_icmp_eq (tgt := 1393) hx hb dL_law_865 (by decide) (fun _ => ?_) (fun h => absurd rfl h)
  refine W.widen (Nat.le_succ _) (Nat.le_add_right _ 6) ?_
  exact nx _ _ _ _ _ _ hR2 hW hS hl

theorem lw_c870 (hfl : l.stackTraces = false) (hC : zl_C p s m args c D cy adx adm ec sa o b L xs) {n : Nat} (hn : n < 600) (hR : Rel n σx σm) (hW : zl_W D cy adx adm o σx σm f H) (hS : va_S (zAL s) s.heap H locs) {i : Int32} (hl : lv_has ls 7 [(4, .int i), (3, .ref o), (2, .ref (adm 0)), (1, .ref (adx 0)), (0, .ref b)]) (hin : ∀ j : Int32, 1 ≤ j → j ≤ 6 → vp_in (i + j) L) (hcs : cells + 1 ≤ room_1.cells ∧ slots + 6 ≤ room_1.slots)
    (nx : ∀ (σx' σm' : FH) (f' : Nat → Int64) (H1 : Heap) (locs1 : List Loc) (ls1 : Array Slot), Rel (n + 1) σx' σm' → zl_W D cy adx adm o σx' σm' f' H1 → va_S (zAL s) s.heap H1 locs1 → lv_has ls1 7 [(4, .int i), (3, .ref o), (2, .ref (adm 0)), (1, .ref (adx 0)), (0, .ref b)] → W p l e room_1 s m args below meth c H1 locs1 (cells + 1) (slots + 6) Q (F0 m 1393 ls1 [])) : W p l e room_1 s m args below meth c H locs cells slots Q (F0 m 870 ls []) := by
  obtain ⟨hx, hb, -, hown, hts, hK, -⟩ := hC.1
  have hX := hC.2.2.2.2.2.2.1
  have hbl := hC.2.2.2.2.2.2.2.1
  have hbA : ¬ zAL s b := Nat.not_le.mpr hbl
  have hc0 : cells ≤ room_1.cells ∧ slots ≤ room_1.slots := ⟨Nat.le_trans (Nat.le_succ _) hcs.1, Nat.le_trans (Nat.le_add_right _ 6) hcs.2⟩
  obtain ⟨v, σx2, σm2, e1, e2, hR2⟩ := op_power ((xs (i + 1).toNatClampNeg)) n σx σm hn hR
  refine lv_aload_n hx hb dL_law_870 rfl (lv_at hl 3 rfl) ?_
  refine lv_aload_n hx hb dL_law_871 rfl (lv_at hl 4 rfl) ?_
  refine lv_iload hx hb dL_law_872 (lv_at hl 0 rfl) ?_
  refine lv_iconst (v := 1) hx hb dL_law_874 (by decide) ?_
  refine lv_iadd hx hb dL_law_875 ?_
  refine va_sld hx hb hX hbl hbA hS (hin _ (by decide) (by decide)) dL_law_876 ?_
  refine zl_cx (n := 1) (As := [.int ((xs (i + 1).toNatClampNeg))]) (rest := []) hC hW hS (ctX11_power l e1) (fx_l4 wL_108 wI_X11_power wS_X11_power kN_X11) wC_X11_power (by decide +kernel) rfl ⟨Nat.le_of_ble_eq_true rfl, Nat.le_of_ble_eq_true rfl⟩ hc0 hl.1 (Nat.le_of_ble_eq_true rfl) rfl dL_law_877 (fun H locs hW hS => ?_)
  refine lv_aload_n hx hb dL_law_880 rfl (lv_at hl 2 rfl) ?_
  refine lv_aload_n hx hb dL_law_881 rfl (lv_at hl 4 rfl) ?_
  refine lv_iload hx hb dL_law_882 (lv_at hl 0 rfl) ?_
  refine lv_iconst (v := 1) hx hb dL_law_884 (by decide) ?_
  refine lv_iadd hx hb dL_law_885 ?_
  refine va_sld hx hb hX hbl hbA hS (hin _ (by decide) (by decide)) dL_law_886 ?_
  refine zl_cm (n := 1) (As := [.int ((xs (i + 1).toNatClampNeg))]) (rest := [.int v]) hC hW hS (ctX12_power l e2) (fx_l4 wL_111 wI_X12_power wS_X12_power kN_X12) wC_X12_power (by decide +kernel) rfl ⟨Nat.le_of_ble_eq_true rfl, Nat.le_of_ble_eq_true rfl⟩ hc0 hl.1 (Nat.le_of_ble_eq_true rfl) rfl dL_law_887 (fun H locs hW hS => ?_)
  refine lv_icmp_eq (tgt := 1393) hx hb dL_law_890 (by decide) (fun _ => ?_) (fun h => absurd rfl h)
  refine W.widen (Nat.le_succ _) (Nat.le_add_right _ 6) ?_
  exact nx _ _ _ _ _ _ hR2 hW hS hl

theorem lw_c895 (hfl : l.stackTraces = false) (hC : zl_C p s m args c D cy adx adm ec sa o b L xs) {n : Nat} (hn : n < 600) (hR : Rel n σx σm) (hW : zl_W D cy adx adm o σx σm f H) (hS : va_S (zAL s) s.heap H locs) {i : Int32} (hl : lv_has ls 7 [(4, .int i), (3, .ref o), (2, .ref (adm 0)), (1, .ref (adx 0)), (0, .ref b)]) (hin : ∀ j : Int32, 1 ≤ j → j ≤ 6 → vp_in (i + j) L) (hcs : cells + 1 ≤ room_1.cells ∧ slots + 6 ≤ room_1.slots)
    (nx : ∀ (σx' σm' : FH) (f' : Nat → Int64) (H1 : Heap) (locs1 : List Loc) (ls1 : Array Slot), Rel (n + 1) σx' σm' → zl_W D cy adx adm o σx' σm' f' H1 → va_S (zAL s) s.heap H1 locs1 → lv_has ls1 7 [(4, .int i), (3, .ref o), (2, .ref (adm 0)), (1, .ref (adx 0)), (0, .ref b)] → W p l e room_1 s m args below meth c H1 locs1 (cells + 1) (slots + 6) Q (F0 m 1393 ls1 [])) : W p l e room_1 s m args below meth c H locs cells slots Q (F0 m 895 ls []) := by
  obtain ⟨hx, hb, -, hown, hts, hK, -⟩ := hC.1
  have hX := hC.2.2.2.2.2.2.1
  have hbl := hC.2.2.2.2.2.2.2.1
  have hbA : ¬ zAL s b := Nat.not_le.mpr hbl
  have hc0 : cells ≤ room_1.cells ∧ slots ≤ room_1.slots := ⟨Nat.le_trans (Nat.le_succ _) hcs.1, Nat.le_trans (Nat.le_add_right _ 6) hcs.2⟩
  obtain ⟨v, σx2, σm2, e1, e2, hR2⟩ := op_core  n σx σm hn hR
  refine lv_aload_n hx hb dL_law_895 rfl (lv_at hl 3 rfl) ?_
  refine zl_cx (n := 0) (As := []) (rest := []) hC hW hS (ctX11_core l e1) (fx_l4 wL_112 wI_X11_core wS_X11_core kN_X11) wC_X11_core (by decide +kernel) rfl ⟨Nat.le_of_ble_eq_true rfl, Nat.le_of_ble_eq_true rfl⟩ hc0 hl.1 (Nat.le_of_ble_eq_true rfl) rfl dL_law_896 (fun H locs hW hS => ?_)
  refine lv_aload_n hx hb dL_law_899 rfl (lv_at hl 2 rfl) ?_
  refine zl_cm (n := 0) (As := []) (rest := [.int v]) hC hW hS (ctX12_core l e2) (fx_l4 wL_115 wI_X12_core wS_X12_core kN_X12) wC_X12_core (by decide +kernel) rfl ⟨Nat.le_of_ble_eq_true rfl, Nat.le_of_ble_eq_true rfl⟩ hc0 hl.1 (Nat.le_of_ble_eq_true rfl) rfl dL_law_900 (fun H locs hW hS => ?_)
  refine lv_icmp_eq (tgt := 1393) hx hb dL_law_903 (by decide) (fun _ => ?_) (fun h => absurd rfl h)
  refine W.widen (Nat.le_succ _) (Nat.le_add_right _ 6) ?_
  exact nx _ _ _ _ _ _ hR2 hW hS hl

theorem lw_c908 (hfl : l.stackTraces = false) (hC : zl_C p s m args c D cy adx adm ec sa o b L xs) {n : Nat} (hn : n < 600) (hR : Rel n σx σm) (hW : zl_W D cy adx adm o σx σm f H) (hS : va_S (zAL s) s.heap H locs) {i : Int32} (hl : lv_has ls 7 [(4, .int i), (3, .ref o), (2, .ref (adm 0)), (1, .ref (adx 0)), (0, .ref b)]) (hin : ∀ j : Int32, 1 ≤ j → j ≤ 6 → vp_in (i + j) L) (hcs : cells + 1 ≤ room_1.cells ∧ slots + 6 ≤ room_1.slots)
    (nx : ∀ (σx' σm' : FH) (f' : Nat → Int64) (H1 : Heap) (locs1 : List Loc) (ls1 : Array Slot), Rel (n + 1) σx' σm' → zl_W D cy adx adm o σx' σm' f' H1 → va_S (zAL s) s.heap H1 locs1 → lv_has ls1 7 [(4, .int i), (3, .ref o), (2, .ref (adm 0)), (1, .ref (adx 0)), (0, .ref b)] → W p l e room_1 s m args below meth c H1 locs1 (cells + 1) (slots + 6) Q (F0 m 1393 ls1 [])) : W p l e room_1 s m args below meth c H locs cells slots Q (F0 m 908 ls []) := by
  obtain ⟨hx, hb, -, hown, hts, hK, -⟩ := hC.1
  have hX := hC.2.2.2.2.2.2.1
  have hbl := hC.2.2.2.2.2.2.2.1
  have hbA : ¬ zAL s b := Nat.not_le.mpr hbl
  have hc0 : cells ≤ room_1.cells ∧ slots ≤ room_1.slots := ⟨Nat.le_trans (Nat.le_succ _) hcs.1, Nat.le_trans (Nat.le_add_right _ 6) hcs.2⟩
  obtain ⟨v, σx2, σm2, e1, e2, hR2⟩ := op_lean  n σx σm hn hR
  refine lv_aload_n hx hb dL_law_908 rfl (lv_at hl 3 rfl) ?_
  refine zl_cx (n := 0) (As := []) (rest := []) hC hW hS (ctX11_lean l e1) (fx_l4 wL_116 wI_X11_lean wS_X11_lean kN_X11) wC_X11_lean (by decide +kernel) rfl ⟨Nat.le_of_ble_eq_true rfl, Nat.le_of_ble_eq_true rfl⟩ hc0 hl.1 (Nat.le_of_ble_eq_true rfl) rfl dL_law_909 (fun H locs hW hS => ?_)
  refine lv_aload_n hx hb dL_law_912 rfl (lv_at hl 2 rfl) ?_
  refine zl_cm (n := 0) (As := []) (rest := [.int v]) hC hW hS (ctX12_lean l e2) (fx_l4 wL_119 wI_X12_lean wS_X12_lean kN_X12) wC_X12_lean (by decide +kernel) rfl ⟨Nat.le_of_ble_eq_true rfl, Nat.le_of_ble_eq_true rfl⟩ hc0 hl.1 (Nat.le_of_ble_eq_true rfl) rfl dL_law_913 (fun H locs hW hS => ?_)
  refine lv_icmp_eq (tgt := 1393) hx hb dL_law_916 (by decide) (fun _ => ?_) (fun h => absurd rfl h)
  refine W.widen (Nat.le_succ _) (Nat.le_add_right _ 6) ?_
  exact nx _ _ _ _ _ _ hR2 hW hS hl

theorem lw_c921 (hfl : l.stackTraces = false) (hC : zl_C p s m args c D cy adx adm ec sa o b L xs) {n : Nat} (hn : n < 600) (hR : Rel n σx σm) (hW : zl_W D cy adx adm o σx σm f H) (hS : va_S (zAL s) s.heap H locs) {i : Int32} (hl : lv_has ls 7 [(4, .int i), (3, .ref o), (2, .ref (adm 0)), (1, .ref (adx 0)), (0, .ref b)]) (hin : ∀ j : Int32, 1 ≤ j → j ≤ 6 → vp_in (i + j) L) (hcs : cells + 1 ≤ room_1.cells ∧ slots + 6 ≤ room_1.slots)
    (nx : ∀ (σx' σm' : FH) (f' : Nat → Int64) (H1 : Heap) (locs1 : List Loc) (ls1 : Array Slot), Rel (n + 1) σx' σm' → zl_W D cy adx adm o σx' σm' f' H1 → va_S (zAL s) s.heap H1 locs1 → lv_has ls1 7 [(4, .int i), (3, .ref o), (2, .ref (adm 0)), (1, .ref (adx 0)), (0, .ref b)] → W p l e room_1 s m args below meth c H1 locs1 (cells + 1) (slots + 6) Q (F0 m 1393 ls1 [])) : W p l e room_1 s m args below meth c H locs cells slots Q (F0 m 921 ls []) := by
  obtain ⟨hx, hb, -, hown, hts, hK, -⟩ := hC.1
  have hX := hC.2.2.2.2.2.2.1
  have hbl := hC.2.2.2.2.2.2.2.1
  have hbA : ¬ zAL s b := Nat.not_le.mpr hbl
  have hc0 : cells ≤ room_1.cells ∧ slots ≤ room_1.slots := ⟨Nat.le_trans (Nat.le_succ _) hcs.1, Nat.le_trans (Nat.le_add_right _ 6) hcs.2⟩
  obtain ⟨v, σm2, e1, e2, hR2⟩ := op_shift ((xs (i + 1).toNatClampNeg)) ((xs (i + 2).toNatClampNeg)) n σx σm hn hR
  refine lv_aload_n hx hb dL_law_921 rfl (lv_at hl 3 rfl) ?_
  refine lv_aload_n hx hb dL_law_922 rfl (lv_at hl 4 rfl) ?_
  refine lv_iload hx hb dL_law_923 (lv_at hl 0 rfl) ?_
  refine lv_iconst (v := 1) hx hb dL_law_925 (by decide) ?_
  refine lv_iadd hx hb dL_law_926 ?_
  refine va_sld hx hb hX hbl hbA hS (hin _ (by decide) (by decide)) dL_law_927 ?_
  refine lv_aload_n hx hb dL_law_928 rfl (lv_at hl 4 rfl) ?_
  refine lv_iload hx hb dL_law_929 (lv_at hl 0 rfl) ?_
  refine lv_iconst (v := 2) hx hb dL_law_931 (by decide) ?_
  refine lv_iadd hx hb dL_law_932 ?_
  refine va_sld hx hb hX hbl hbA hS (hin _ (by decide) (by decide)) dL_law_933 ?_
  refine zl_cx (n := 2) (As := [.int ((xs (i + 1).toNatClampNeg)), .int ((xs (i + 2).toNatClampNeg))]) (rest := []) hC hW hS (ctX11_shift l e1) (fx_l4 wL_120 wI_X11_shift wS_X11_shift kN_X11) wC_X11_shift (by decide +kernel) rfl ⟨Nat.le_of_ble_eq_true rfl, Nat.le_of_ble_eq_true rfl⟩ hc0 hl.1 (Nat.le_of_ble_eq_true rfl) rfl dL_law_934 (fun H locs hW hS => ?_)
  refine lv_aload_n hx hb dL_law_937 rfl (lv_at hl 2 rfl) ?_
  refine lv_aload_n hx hb dL_law_938 rfl (lv_at hl 4 rfl) ?_
  refine lv_iload hx hb dL_law_939 (lv_at hl 0 rfl) ?_
  refine lv_iconst (v := 1) hx hb dL_law_941 (by decide) ?_
  refine lv_iadd hx hb dL_law_942 ?_
  refine va_sld hx hb hX hbl hbA hS (hin _ (by decide) (by decide)) dL_law_943 ?_
  refine lv_aload_n hx hb dL_law_944 rfl (lv_at hl 4 rfl) ?_
  refine lv_iload hx hb dL_law_945 (lv_at hl 0 rfl) ?_
  refine lv_iconst (v := 2) hx hb dL_law_947 (by decide) ?_
  refine lv_iadd hx hb dL_law_948 ?_
  refine va_sld hx hb hX hbl hbA hS (hin _ (by decide) (by decide)) dL_law_949 ?_
  refine zl_cm (n := 2) (As := [.int ((xs (i + 1).toNatClampNeg)), .int ((xs (i + 2).toNatClampNeg))]) (rest := [.int v]) hC hW hS (ctX12_shift l e2) (fx_l4 wL_123 wI_X12_shift wS_X12_shift kN_X12) wC_X12_shift (by decide +kernel) rfl ⟨Nat.le_of_ble_eq_true rfl, Nat.le_of_ble_eq_true rfl⟩ hc0 hl.1 (Nat.le_of_ble_eq_true rfl) rfl dL_law_950 (fun H locs hW hS => ?_)
  refine lv_icmp_eq (tgt := 1393) hx hb dL_law_953 (by decide) (fun _ => ?_) (fun h => absurd rfl h)
  refine W.widen (Nat.le_succ _) (Nat.le_add_right _ 6) ?_
  exact nx _ _ _ _ _ _ hR2 hW hS hl

theorem lw_c958 (hfl : l.stackTraces = false) (hC : zl_C p s m args c D cy adx adm ec sa o b L xs) {n : Nat} (hn : n < 600) (hR : Rel n σx σm) (hW : zl_W D cy adx adm o σx σm f H) (hS : va_S (zAL s) s.heap H locs) {i : Int32} (hl : lv_has ls 7 [(4, .int i), (3, .ref o), (2, .ref (adm 0)), (1, .ref (adx 0)), (0, .ref b)]) (hin : ∀ j : Int32, 1 ≤ j → j ≤ 6 → vp_in (i + j) L) (hcs : cells + 1 ≤ room_1.cells ∧ slots + 6 ≤ room_1.slots)
    (nx : ∀ (σx' σm' : FH) (f' : Nat → Int64) (H1 : Heap) (locs1 : List Loc) (ls1 : Array Slot), Rel (n + 1) σx' σm' → zl_W D cy adx adm o σx' σm' f' H1 → va_S (zAL s) s.heap H1 locs1 → lv_has ls1 7 [(4, .int i), (3, .ref o), (2, .ref (adm 0)), (1, .ref (adx 0)), (0, .ref b)] → W p l e room_1 s m args below meth c H1 locs1 (cells + 1) (slots + 6) Q (F0 m 1393 ls1 [])) : W p l e room_1 s m args below meth c H locs cells slots Q (F0 m 958 ls []) := by
  obtain ⟨hx, hb, -, hown, hts, hK, -⟩ := hC.1
  have hX := hC.2.2.2.2.2.2.1
  have hbl := hC.2.2.2.2.2.2.2.1
  have hbA : ¬ zAL s b := Nat.not_le.mpr hbl
  have hc0 : cells ≤ room_1.cells ∧ slots ≤ room_1.slots := ⟨Nat.le_trans (Nat.le_succ _) hcs.1, Nat.le_trans (Nat.le_add_right _ 6) hcs.2⟩
  obtain ⟨v, σm2, e1, e2, hR2⟩ := op_rival ((xs (i + 1).toNatClampNeg)) n σx σm hn hR
  refine lv_aload_n hx hb dL_law_958 rfl (lv_at hl 3 rfl) ?_
  refine lv_aload_n hx hb dL_law_959 rfl (lv_at hl 4 rfl) ?_
  refine lv_iload hx hb dL_law_960 (lv_at hl 0 rfl) ?_
  refine lv_iconst (v := 1) hx hb dL_law_962 (by decide) ?_
  refine lv_iadd hx hb dL_law_963 ?_
  refine va_sld hx hb hX hbl hbA hS (hin _ (by decide) (by decide)) dL_law_964 ?_
  refine zl_cx (n := 1) (As := [.int ((xs (i + 1).toNatClampNeg))]) (rest := []) hC hW hS (ctX11_rival l e1) (fx_l4 wL_124 wI_X11_rival wS_X11_rival kN_X11) wC_X11_rival (by decide +kernel) rfl ⟨Nat.le_of_ble_eq_true rfl, Nat.le_of_ble_eq_true rfl⟩ hc0 hl.1 (Nat.le_of_ble_eq_true rfl) rfl dL_law_965 (fun H locs hW hS => ?_)
  refine lv_aload_n hx hb dL_law_968 rfl (lv_at hl 2 rfl) ?_
  refine lv_aload_n hx hb dL_law_969 rfl (lv_at hl 4 rfl) ?_
  refine lv_iload hx hb dL_law_970 (lv_at hl 0 rfl) ?_
  refine lv_iconst (v := 1) hx hb dL_law_972 (by decide) ?_
  refine lv_iadd hx hb dL_law_973 ?_
  refine va_sld hx hb hX hbl hbA hS (hin _ (by decide) (by decide)) dL_law_974 ?_
  refine zl_cm (n := 1) (As := [.int ((xs (i + 1).toNatClampNeg))]) (rest := [.int v]) hC hW hS (ctX12_rival l e2) (fx_l4 wL_127 wI_X12_rival wS_X12_rival kN_X12) wC_X12_rival (by decide +kernel) rfl ⟨Nat.le_of_ble_eq_true rfl, Nat.le_of_ble_eq_true rfl⟩ hc0 hl.1 (Nat.le_of_ble_eq_true rfl) rfl dL_law_975 (fun H locs hW hS => ?_)
  refine lv_icmp_eq (tgt := 1393) hx hb dL_law_978 (by decide) (fun _ => ?_) (fun h => absurd rfl h)
  refine W.widen (Nat.le_succ _) (Nat.le_add_right _ 6) ?_
  exact nx _ _ _ _ _ _ hR2 hW hS hl

theorem lw_c983 (hfl : l.stackTraces = false) (hC : zl_C p s m args c D cy adx adm ec sa o b L xs) {n : Nat} (hn : n < 600) (hR : Rel n σx σm) (hW : zl_W D cy adx adm o σx σm f H) (hS : va_S (zAL s) s.heap H locs) {i : Int32} (hl : lv_has ls 7 [(4, .int i), (3, .ref o), (2, .ref (adm 0)), (1, .ref (adx 0)), (0, .ref b)]) (hin : ∀ j : Int32, 1 ≤ j → j ≤ 6 → vp_in (i + j) L) (hcs : cells + 1 ≤ room_1.cells ∧ slots + 6 ≤ room_1.slots)
    (nx : ∀ (σx' σm' : FH) (f' : Nat → Int64) (H1 : Heap) (locs1 : List Loc) (ls1 : Array Slot), Rel (n + 1) σx' σm' → zl_W D cy adx adm o σx' σm' f' H1 → va_S (zAL s) s.heap H1 locs1 → lv_has ls1 7 [(4, .int i), (3, .ref o), (2, .ref (adm 0)), (1, .ref (adx 0)), (0, .ref b)] → W p l e room_1 s m args below meth c H1 locs1 (cells + 1) (slots + 6) Q (F0 m 1393 ls1 [])) : W p l e room_1 s m args below meth c H locs cells slots Q (F0 m 983 ls []) := by
  obtain ⟨hx, hb, -, hown, hts, hK, -⟩ := hC.1
  have hX := hC.2.2.2.2.2.2.1
  have hbl := hC.2.2.2.2.2.2.2.1
  have hbA : ¬ zAL s b := Nat.not_le.mpr hbl
  have hc0 : cells ≤ room_1.cells ∧ slots ≤ room_1.slots := ⟨Nat.le_trans (Nat.le_succ _) hcs.1, Nat.le_trans (Nat.le_add_right _ 6) hcs.2⟩
  obtain ⟨v, σm2, e1, e2, hR2⟩ := op_friends  n σx σm hn hR
  refine lv_aload_n hx hb dL_law_983 rfl (lv_at hl 3 rfl) ?_
  refine zl_cx (n := 0) (As := []) (rest := []) hC hW hS (ctX11_friends l e1) (fx_l4 wL_128 wI_X11_friends wS_X11_friends kN_X11) wC_X11_friends (by decide +kernel) rfl ⟨Nat.le_of_ble_eq_true rfl, Nat.le_of_ble_eq_true rfl⟩ hc0 hl.1 (Nat.le_of_ble_eq_true rfl) rfl dL_law_984 (fun H locs hW hS => ?_)
  refine lv_aload_n hx hb dL_law_987 rfl (lv_at hl 2 rfl) ?_
  refine zl_cm (n := 0) (As := []) (rest := [.int v]) hC hW hS (ctX12_friends l e2) (fx_l4 wL_131 wI_X12_friends wS_X12_friends kN_X12) wC_X12_friends (by decide +kernel) rfl ⟨Nat.le_of_ble_eq_true rfl, Nat.le_of_ble_eq_true rfl⟩ hc0 hl.1 (Nat.le_of_ble_eq_true rfl) rfl dL_law_988 (fun H locs hW hS => ?_)
  refine lv_icmp_eq (tgt := 1393) hx hb dL_law_991 (by decide) (fun _ => ?_) (fun h => absurd rfl h)
  refine W.widen (Nat.le_succ _) (Nat.le_add_right _ 6) ?_
  exact nx _ _ _ _ _ _ hR2 hW hS hl

theorem lw_c996 (hfl : l.stackTraces = false) (hC : zl_C p s m args c D cy adx adm ec sa o b L xs) {n : Nat} (hn : n < 600) (hR : Rel n σx σm) (hW : zl_W D cy adx adm o σx σm f H) (hS : va_S (zAL s) s.heap H locs) {i : Int32} (hl : lv_has ls 7 [(4, .int i), (3, .ref o), (2, .ref (adm 0)), (1, .ref (adx 0)), (0, .ref b)]) (hin : ∀ j : Int32, 1 ≤ j → j ≤ 6 → vp_in (i + j) L) (hcs : cells + 1 ≤ room_1.cells ∧ slots + 6 ≤ room_1.slots)
    (nx : ∀ (σx' σm' : FH) (f' : Nat → Int64) (H1 : Heap) (locs1 : List Loc) (ls1 : Array Slot), Rel (n + 1) σx' σm' → zl_W D cy adx adm o σx' σm' f' H1 → va_S (zAL s) s.heap H1 locs1 → lv_has ls1 7 [(4, .int i), (3, .ref o), (2, .ref (adm 0)), (1, .ref (adx 0)), (0, .ref b)] → W p l e room_1 s m args below meth c H1 locs1 (cells + 1) (slots + 6) Q (F0 m 1393 ls1 [])) : W p l e room_1 s m args below meth c H locs cells slots Q (F0 m 996 ls []) := by
  obtain ⟨hx, hb, -, hown, hts, hK, -⟩ := hC.1
  have hX := hC.2.2.2.2.2.2.1
  have hbl := hC.2.2.2.2.2.2.2.1
  have hbA : ¬ zAL s b := Nat.not_le.mpr hbl
  have hc0 : cells ≤ room_1.cells ∧ slots ≤ room_1.slots := ⟨Nat.le_trans (Nat.le_succ _) hcs.1, Nat.le_trans (Nat.le_add_right _ 6) hcs.2⟩
  obtain ⟨v, σm2, e1, e2, hR2⟩ := op_bloc ((xs (i + 1).toNatClampNeg)) n σx σm hn hR
  refine lv_aload_n hx hb dL_law_996 rfl (lv_at hl 3 rfl) ?_
  refine lv_aload_n hx hb dL_law_997 rfl (lv_at hl 4 rfl) ?_
  refine lv_iload hx hb dL_law_998 (lv_at hl 0 rfl) ?_
  refine lv_iconst (v := 1) hx hb dL_law_1000 (by decide) ?_
  refine lv_iadd hx hb dL_law_1001 ?_
  refine va_sld hx hb hX hbl hbA hS (hin _ (by decide) (by decide)) dL_law_1002 ?_
  refine zl_cx (n := 1) (As := [.int ((xs (i + 1).toNatClampNeg))]) (rest := []) hC hW hS (ctX11_bloc l e1) (fx_l4 wL_132 wI_X11_bloc wS_X11_bloc kN_X11) wC_X11_bloc (by decide +kernel) rfl ⟨Nat.le_of_ble_eq_true rfl, Nat.le_of_ble_eq_true rfl⟩ hc0 hl.1 (Nat.le_of_ble_eq_true rfl) rfl dL_law_1003 (fun H locs hW hS => ?_)
  refine lv_aload_n hx hb dL_law_1006 rfl (lv_at hl 2 rfl) ?_
  refine lv_aload_n hx hb dL_law_1007 rfl (lv_at hl 4 rfl) ?_
  refine lv_iload hx hb dL_law_1008 (lv_at hl 0 rfl) ?_
  refine lv_iconst (v := 1) hx hb dL_law_1010 (by decide) ?_
  refine lv_iadd hx hb dL_law_1011 ?_
  refine va_sld hx hb hX hbl hbA hS (hin _ (by decide) (by decide)) dL_law_1012 ?_
  refine zl_cm (n := 1) (As := [.int ((xs (i + 1).toNatClampNeg))]) (rest := [.int v]) hC hW hS (ctX12_bloc l e2) (fx_l4 wL_135 wI_X12_bloc wS_X12_bloc kN_X12) wC_X12_bloc (by decide +kernel) rfl ⟨Nat.le_of_ble_eq_true rfl, Nat.le_of_ble_eq_true rfl⟩ hc0 hl.1 (Nat.le_of_ble_eq_true rfl) rfl dL_law_1013 (fun H locs hW hS => ?_)
  refine lv_icmp_eq (tgt := 1393) hx hb dL_law_1016 (by decide) (fun _ => ?_) (fun h => absurd rfl h)
  refine W.widen (Nat.le_succ _) (Nat.le_add_right _ 6) ?_
  exact nx _ _ _ _ _ _ hR2 hW hS hl

theorem lw_c1021 (hfl : l.stackTraces = false) (hC : zl_C p s m args c D cy adx adm ec sa o b L xs) {n : Nat} (hn : n < 600) (hR : Rel n σx σm) (hW : zl_W D cy adx adm o σx σm f H) (hS : va_S (zAL s) s.heap H locs) {i : Int32} (hl : lv_has ls 7 [(4, .int i), (3, .ref o), (2, .ref (adm 0)), (1, .ref (adx 0)), (0, .ref b)]) (hin : ∀ j : Int32, 1 ≤ j → j ≤ 6 → vp_in (i + j) L) (hcs : cells + 1 ≤ room_1.cells ∧ slots + 6 ≤ room_1.slots)
    (nx : ∀ (σx' σm' : FH) (f' : Nat → Int64) (H1 : Heap) (locs1 : List Loc) (ls1 : Array Slot), Rel (n + 1) σx' σm' → zl_W D cy adx adm o σx' σm' f' H1 → va_S (zAL s) s.heap H1 locs1 → lv_has ls1 7 [(4, .int i), (3, .ref o), (2, .ref (adm 0)), (1, .ref (adx 0)), (0, .ref b)] → W p l e room_1 s m args below meth c H1 locs1 (cells + 1) (slots + 6) Q (F0 m 1393 ls1 [])) : W p l e room_1 s m args below meth c H locs cells slots Q (F0 m 1021 ls []) := by
  obtain ⟨hx, hb, -, hown, hts, hK, -⟩ := hC.1
  have hX := hC.2.2.2.2.2.2.1
  have hbl := hC.2.2.2.2.2.2.2.1
  have hbA : ¬ zAL s b := Nat.not_le.mpr hbl
  have hc0 : cells ≤ room_1.cells ∧ slots ≤ room_1.slots := ⟨Nat.le_trans (Nat.le_succ _) hcs.1, Nat.le_trans (Nat.le_add_right _ 6) hcs.2⟩
  obtain ⟨v, σm2, e1, e2, hR2⟩ := op_orphans  n σx σm hn hR
  refine lv_aload_n hx hb dL_law_1021 rfl (lv_at hl 3 rfl) ?_
  refine zl_cx (n := 0) (As := []) (rest := []) hC hW hS (ctX11_orphans l e1) (fx_l4 wL_136 wI_X11_orphans wS_X11_orphans kN_X11) wC_X11_orphans (by decide +kernel) rfl ⟨Nat.le_of_ble_eq_true rfl, Nat.le_of_ble_eq_true rfl⟩ hc0 hl.1 (Nat.le_of_ble_eq_true rfl) rfl dL_law_1022 (fun H locs hW hS => ?_)
  refine lv_aload_n hx hb dL_law_1025 rfl (lv_at hl 2 rfl) ?_
  refine zl_cm (n := 0) (As := []) (rest := [.int v]) hC hW hS (ctX12_orphans l e2) (fx_l4 wL_139 wI_X12_orphans wS_X12_orphans kN_X12) wC_X12_orphans (by decide +kernel) rfl ⟨Nat.le_of_ble_eq_true rfl, Nat.le_of_ble_eq_true rfl⟩ hc0 hl.1 (Nat.le_of_ble_eq_true rfl) rfl dL_law_1026 (fun H locs hW hS => ?_)
  refine lv_icmp_eq (tgt := 1393) hx hb dL_law_1029 (by decide) (fun _ => ?_) (fun h => absurd rfl h)
  refine W.widen (Nat.le_succ _) (Nat.le_add_right _ 6) ?_
  exact nx _ _ _ _ _ _ hR2 hW hS hl

theorem lw_c1034 (hfl : l.stackTraces = false) (hC : zl_C p s m args c D cy adx adm ec sa o b L xs) {n : Nat} (hn : n < 600) (hR : Rel n σx σm) (hW : zl_W D cy adx adm o σx σm f H) (hS : va_S (zAL s) s.heap H locs) {i : Int32} (hl : lv_has ls 7 [(4, .int i), (3, .ref o), (2, .ref (adm 0)), (1, .ref (adx 0)), (0, .ref b)]) (hin : ∀ j : Int32, 1 ≤ j → j ≤ 6 → vp_in (i + j) L) (hcs : cells + 1 ≤ room_1.cells ∧ slots + 6 ≤ room_1.slots)
    (nx : ∀ (σx' σm' : FH) (f' : Nat → Int64) (H1 : Heap) (locs1 : List Loc) (ls1 : Array Slot), Rel (n + 1) σx' σm' → zl_W D cy adx adm o σx' σm' f' H1 → va_S (zAL s) s.heap H1 locs1 → lv_has ls1 7 [(4, .int i), (3, .ref o), (2, .ref (adm 0)), (1, .ref (adx 0)), (0, .ref b)] → W p l e room_1 s m args below meth c H1 locs1 (cells + 1) (slots + 6) Q (F0 m 1393 ls1 [])) : W p l e room_1 s m args below meth c H locs cells slots Q (F0 m 1034 ls []) := by
  obtain ⟨hx, hb, -, hown, hts, hK, -⟩ := hC.1
  have hX := hC.2.2.2.2.2.2.1
  have hbl := hC.2.2.2.2.2.2.2.1
  have hbA : ¬ zAL s b := Nat.not_le.mpr hbl
  have hc0 : cells ≤ room_1.cells ∧ slots ≤ room_1.slots := ⟨Nat.le_trans (Nat.le_succ _) hcs.1, Nat.le_trans (Nat.le_add_right _ 6) hcs.2⟩
  by_cases c1 : (xs (i + 2).toNatClampNeg) = 0
  · obtain ⟨v, σx2, σm2, e1, e2, hR2⟩ := op_say ((xs (i + 1).toNatClampNeg)) (f := 0) (by decide) n σx σm hn hR
    have e1 : fX11_say ((xs (i + 1).toNatClampNeg)) 0 σx = some (v, σx2) := e1
    have e2 : fX12_say ((xs (i + 1).toNatClampNeg)) 0 σm = some (v, σm2) := e2
    refine lv_aload_n hx hb dL_law_1034 rfl (lv_at hl 3 rfl) ?_
    refine lv_aload_n hx hb dL_law_1035 rfl (lv_at hl 4 rfl) ?_
    refine lv_iload hx hb dL_law_1036 (lv_at hl 0 rfl) ?_
    refine lv_iconst (v := 1) hx hb dL_law_1038 (by decide) ?_
    refine lv_iadd hx hb dL_law_1039 ?_
    refine va_sld hx hb hX hbl hbA hS (hin _ (by decide) (by decide)) dL_law_1040 ?_
    refine lv_aload_n hx hb dL_law_1041 rfl (lv_at hl 4 rfl) ?_
    refine lv_iload hx hb dL_law_1042 (lv_at hl 0 rfl) ?_
    refine lv_iconst (v := 2) hx hb dL_law_1044 (by decide) ?_
    refine lv_iadd hx hb dL_law_1045 ?_
    refine va_sld hx hb hX hbl hbA hS (hin _ (by decide) (by decide)) dL_law_1046 ?_
    refine lv_if_eq (tgt := 1054) hx hb dL_law_1047 (by decide) (fun _ => ?_) (fun h => absurd c1 h)
    refine lv_iconst (v := 0) hx hb dL_law_1054 (by decide) ?_
    refine zl_cx (n := 2) (As := [.int ((xs (i + 1).toNatClampNeg)), .int 0]) (rest := []) hC hW hS (ctX11_say l e1) (fx_l4 wL_140 wI_X11_say wS_X11_say kN_X11) wC_X11_say (by decide +kernel) rfl ⟨Nat.le_of_ble_eq_true rfl, Nat.le_of_ble_eq_true rfl⟩ hc0 hl.1 (Nat.le_of_ble_eq_true rfl) rfl dL_law_1055 (fun H locs hW hS => ?_)
    refine lv_aload_n hx hb dL_law_1058 rfl (lv_at hl 2 rfl) ?_
    refine lv_aload_n hx hb dL_law_1059 rfl (lv_at hl 4 rfl) ?_
    refine lv_iload hx hb dL_law_1060 (lv_at hl 0 rfl) ?_
    refine lv_iconst (v := 1) hx hb dL_law_1062 (by decide) ?_
    refine lv_iadd hx hb dL_law_1063 ?_
    refine va_sld hx hb hX hbl hbA hS (hin _ (by decide) (by decide)) dL_law_1064 ?_
    refine lv_aload_n hx hb dL_law_1065 rfl (lv_at hl 4 rfl) ?_
    refine lv_iload hx hb dL_law_1066 (lv_at hl 0 rfl) ?_
    refine lv_iconst (v := 2) hx hb dL_law_1068 (by decide) ?_
    refine lv_iadd hx hb dL_law_1069 ?_
    refine va_sld hx hb hX hbl hbA hS (hin _ (by decide) (by decide)) dL_law_1070 ?_
    refine lv_if_eq (tgt := 1078) hx hb dL_law_1071 (by decide) (fun _ => ?_) (fun h => absurd c1 h)
    refine lv_iconst (v := 0) hx hb dL_law_1078 (by decide) ?_
    refine zl_cm (n := 2) (As := [.int ((xs (i + 1).toNatClampNeg)), .int 0]) (rest := [.int v]) hC hW hS (ctX12_say l e2) (fx_l4 wL_144 wI_X12_say wS_X12_say kN_X12) wC_X12_say (by decide +kernel) rfl ⟨Nat.le_of_ble_eq_true rfl, Nat.le_of_ble_eq_true rfl⟩ hc0 hl.1 (Nat.le_of_ble_eq_true rfl) rfl dL_law_1079 (fun H locs hW hS => ?_)
    refine lv_icmp_eq (tgt := 1393) hx hb dL_law_1082 (by decide) (fun _ => ?_) (fun h => absurd rfl h)
    refine W.widen (Nat.le_succ _) (Nat.le_add_right _ 6) ?_
    exact nx _ _ _ _ _ _ hR2 hW hS hl
  · obtain ⟨v, σx2, σm2, e1, e2, hR2⟩ := op_say ((xs (i + 1).toNatClampNeg)) (f := 1) (by decide) n σx σm hn hR
    have e1 : fX11_say ((xs (i + 1).toNatClampNeg)) 1 σx = some (v, σx2) := e1
    have e2 : fX12_say ((xs (i + 1).toNatClampNeg)) 1 σm = some (v, σm2) := e2
    refine lv_aload_n hx hb dL_law_1034 rfl (lv_at hl 3 rfl) ?_
    refine lv_aload_n hx hb dL_law_1035 rfl (lv_at hl 4 rfl) ?_
    refine lv_iload hx hb dL_law_1036 (lv_at hl 0 rfl) ?_
    refine lv_iconst (v := 1) hx hb dL_law_1038 (by decide) ?_
    refine lv_iadd hx hb dL_law_1039 ?_
    refine va_sld hx hb hX hbl hbA hS (hin _ (by decide) (by decide)) dL_law_1040 ?_
    refine lv_aload_n hx hb dL_law_1041 rfl (lv_at hl 4 rfl) ?_
    refine lv_iload hx hb dL_law_1042 (lv_at hl 0 rfl) ?_
    refine lv_iconst (v := 2) hx hb dL_law_1044 (by decide) ?_
    refine lv_iadd hx hb dL_law_1045 ?_
    refine va_sld hx hb hX hbl hbA hS (hin _ (by decide) (by decide)) dL_law_1046 ?_
    refine lv_if_eq (tgt := 1054) hx hb dL_law_1047 (by decide) (fun h => absurd h c1) (fun _ => ?_)
    refine lv_iconst (v := 1) hx hb dL_law_1050 (by decide) ?_
    refine lv_goto (tgt := 1055) hx hb dL_law_1051 (by decide) ?_
    refine zl_cx (n := 2) (As := [.int ((xs (i + 1).toNatClampNeg)), .int 1]) (rest := []) hC hW hS (ctX11_say l e1) (fx_l4 wL_140 wI_X11_say wS_X11_say kN_X11) wC_X11_say (by decide +kernel) rfl ⟨Nat.le_of_ble_eq_true rfl, Nat.le_of_ble_eq_true rfl⟩ hc0 hl.1 (Nat.le_of_ble_eq_true rfl) rfl dL_law_1055 (fun H locs hW hS => ?_)
    refine lv_aload_n hx hb dL_law_1058 rfl (lv_at hl 2 rfl) ?_
    refine lv_aload_n hx hb dL_law_1059 rfl (lv_at hl 4 rfl) ?_
    refine lv_iload hx hb dL_law_1060 (lv_at hl 0 rfl) ?_
    refine lv_iconst (v := 1) hx hb dL_law_1062 (by decide) ?_
    refine lv_iadd hx hb dL_law_1063 ?_
    refine va_sld hx hb hX hbl hbA hS (hin _ (by decide) (by decide)) dL_law_1064 ?_
    refine lv_aload_n hx hb dL_law_1065 rfl (lv_at hl 4 rfl) ?_
    refine lv_iload hx hb dL_law_1066 (lv_at hl 0 rfl) ?_
    refine lv_iconst (v := 2) hx hb dL_law_1068 (by decide) ?_
    refine lv_iadd hx hb dL_law_1069 ?_
    refine va_sld hx hb hX hbl hbA hS (hin _ (by decide) (by decide)) dL_law_1070 ?_
    refine lv_if_eq (tgt := 1078) hx hb dL_law_1071 (by decide) (fun h => absurd h c1) (fun _ => ?_)
    refine lv_iconst (v := 1) hx hb dL_law_1074 (by decide) ?_
    refine lv_goto (tgt := 1079) hx hb dL_law_1075 (by decide) ?_
    refine zl_cm (n := 2) (As := [.int ((xs (i + 1).toNatClampNeg)), .int 1]) (rest := [.int v]) hC hW hS (ctX12_say l e2) (fx_l4 wL_144 wI_X12_say wS_X12_say kN_X12) wC_X12_say (by decide +kernel) rfl ⟨Nat.le_of_ble_eq_true rfl, Nat.le_of_ble_eq_true rfl⟩ hc0 hl.1 (Nat.le_of_ble_eq_true rfl) rfl dL_law_1079 (fun H locs hW hS => ?_)
    refine lv_icmp_eq (tgt := 1393) hx hb dL_law_1082 (by decide) (fun _ => ?_) (fun h => absurd rfl h)
    refine W.widen (Nat.le_succ _) (Nat.le_add_right _ 6) ?_
    exact nx _ _ _ _ _ _ hR2 hW hS hl

theorem lw_c1087 (hfl : l.stackTraces = false) (hC : zl_C p s m args c D cy adx adm ec sa o b L xs) {n : Nat} (hn : n < 600) (hR : Rel n σx σm) (hW : zl_W D cy adx adm o σx σm f H) (hS : va_S (zAL s) s.heap H locs) {i : Int32} (hl : lv_has ls 7 [(4, .int i), (3, .ref o), (2, .ref (adm 0)), (1, .ref (adx 0)), (0, .ref b)]) (hin : ∀ j : Int32, 1 ≤ j → j ≤ 6 → vp_in (i + j) L) (hcs : cells + 1 ≤ room_1.cells ∧ slots + 6 ≤ room_1.slots)
    (nx : ∀ (σx' σm' : FH) (f' : Nat → Int64) (H1 : Heap) (locs1 : List Loc) (ls1 : Array Slot), Rel (n + 1) σx' σm' → zl_W D cy adx adm o σx' σm' f' H1 → va_S (zAL s) s.heap H1 locs1 → lv_has ls1 7 [(4, .int i), (3, .ref o), (2, .ref (adm 0)), (1, .ref (adx 0)), (0, .ref b)] → W p l e room_1 s m args below meth c H1 locs1 (cells + 1) (slots + 6) Q (F0 m 1393 ls1 [])) : W p l e room_1 s m args below meth c H locs cells slots Q (F0 m 1087 ls []) := by
  obtain ⟨hx, hb, -, hown, hts, hK, -⟩ := hC.1
  have hX := hC.2.2.2.2.2.2.1
  have hbl := hC.2.2.2.2.2.2.2.1
  have hbA : ¬ zAL s b := Nat.not_le.mpr hbl
  have hc0 : cells ≤ room_1.cells ∧ slots ≤ room_1.slots := ⟨Nat.le_trans (Nat.le_succ _) hcs.1, Nat.le_trans (Nat.le_add_right _ 6) hcs.2⟩
  obtain ⟨v, σx2, σm2, e1, e2, hR2⟩ := op_wholes ((xs (i + 1).toNatClampNeg)) n σx σm hn hR
  refine lv_aload_n hx hb dL_law_1087 rfl (lv_at hl 3 rfl) ?_
  refine lv_aload_n hx hb dL_law_1088 rfl (lv_at hl 4 rfl) ?_
  refine lv_iload hx hb dL_law_1089 (lv_at hl 0 rfl) ?_
  refine lv_iconst (v := 1) hx hb dL_law_1091 (by decide) ?_
  refine lv_iadd hx hb dL_law_1092 ?_
  refine va_sld hx hb hX hbl hbA hS (hin _ (by decide) (by decide)) dL_law_1093 ?_
  refine zl_cx (n := 1) (As := [.int ((xs (i + 1).toNatClampNeg))]) (rest := []) hC hW hS (ctX11_wholes l e1) (fx_l4 wL_145 wI_X11_wholes wS_X11_wholes kN_X11) wC_X11_wholes (by decide +kernel) rfl ⟨Nat.le_of_ble_eq_true rfl, Nat.le_of_ble_eq_true rfl⟩ hc0 hl.1 (Nat.le_of_ble_eq_true rfl) rfl dL_law_1094 (fun H locs hW hS => ?_)
  refine lv_aload_n hx hb dL_law_1097 rfl (lv_at hl 2 rfl) ?_
  refine lv_aload_n hx hb dL_law_1098 rfl (lv_at hl 4 rfl) ?_
  refine lv_iload hx hb dL_law_1099 (lv_at hl 0 rfl) ?_
  refine lv_iconst (v := 1) hx hb dL_law_1101 (by decide) ?_
  refine lv_iadd hx hb dL_law_1102 ?_
  refine va_sld hx hb hX hbl hbA hS (hin _ (by decide) (by decide)) dL_law_1103 ?_
  refine zl_cm (n := 1) (As := [.int ((xs (i + 1).toNatClampNeg))]) (rest := [.int v]) hC hW hS (ctX12_wholes l e2) (fx_l4 wL_148 wI_X12_wholes wS_X12_wholes kN_X12) wC_X12_wholes (by decide +kernel) rfl ⟨Nat.le_of_ble_eq_true rfl, Nat.le_of_ble_eq_true rfl⟩ hc0 hl.1 (Nat.le_of_ble_eq_true rfl) rfl dL_law_1104 (fun H locs hW hS => ?_)
  refine lv_icmp_eq (tgt := 1393) hx hb dL_law_1107 (by decide) (fun _ => ?_) (fun h => absurd rfl h)
  refine W.widen (Nat.le_succ _) (Nat.le_add_right _ 6) ?_
  exact nx _ _ _ _ _ _ hR2 hW hS hl

theorem lw_c1112 (hfl : l.stackTraces = false) (hC : zl_C p s m args c D cy adx adm ec sa o b L xs) {n : Nat} (hn : n < 600) (hR : Rel n σx σm) (hW : zl_W D cy adx adm o σx σm f H) (hS : va_S (zAL s) s.heap H locs) {i : Int32} (hl : lv_has ls 7 [(4, .int i), (3, .ref o), (2, .ref (adm 0)), (1, .ref (adx 0)), (0, .ref b)]) (hin : ∀ j : Int32, 1 ≤ j → j ≤ 6 → vp_in (i + j) L) (hcs : cells + 1 ≤ room_1.cells ∧ slots + 6 ≤ room_1.slots)
    (nx : ∀ (σx' σm' : FH) (f' : Nat → Int64) (H1 : Heap) (locs1 : List Loc) (ls1 : Array Slot), Rel (n + 1) σx' σm' → zl_W D cy adx adm o σx' σm' f' H1 → va_S (zAL s) s.heap H1 locs1 → lv_has ls1 7 [(4, .int i), (3, .ref o), (2, .ref (adm 0)), (1, .ref (adx 0)), (0, .ref b)] → W p l e room_1 s m args below meth c H1 locs1 (cells + 1) (slots + 6) Q (F0 m 1393 ls1 [])) : W p l e room_1 s m args below meth c H locs cells slots Q (F0 m 1112 ls []) := by
  obtain ⟨hx, hb, -, hown, hts, hK, -⟩ := hC.1
  have hX := hC.2.2.2.2.2.2.1
  have hbl := hC.2.2.2.2.2.2.2.1
  have hbA : ¬ zAL s b := Nat.not_le.mpr hbl
  have hc0 : cells ≤ room_1.cells ∧ slots ≤ room_1.slots := ⟨Nat.le_trans (Nat.le_succ _) hcs.1, Nat.le_trans (Nat.le_add_right _ 6) hcs.2⟩
  obtain ⟨v, σx2, σm2, e1, e2, hR2⟩ := op_ask  n σx σm hn hR
  refine lv_aload_n hx hb dL_law_1112 rfl (lv_at hl 3 rfl) ?_
  refine zl_cx (n := 0) (As := []) (rest := []) hC hW hS (ctX11_ask l e1) (fx_l4 wL_149 wI_X11_ask wS_X11_ask kN_X11) wC_X11_ask (by decide +kernel) rfl ⟨Nat.le_of_ble_eq_true rfl, Nat.le_of_ble_eq_true rfl⟩ hc0 hl.1 (Nat.le_of_ble_eq_true rfl) rfl dL_law_1113 (fun H locs hW hS => ?_)
  refine lv_aload_n hx hb dL_law_1116 rfl (lv_at hl 2 rfl) ?_
  refine zl_cm (n := 0) (As := []) (rest := [.int v]) hC hW hS (ctX12_ask l e2) (fx_l4 wL_152 wI_X12_ask wS_X12_ask kN_X12) wC_X12_ask (by decide +kernel) rfl ⟨Nat.le_of_ble_eq_true rfl, Nat.le_of_ble_eq_true rfl⟩ hc0 hl.1 (Nat.le_of_ble_eq_true rfl) rfl dL_law_1117 (fun H locs hW hS => ?_)
  refine lv_icmp_eq (tgt := 1393) hx hb dL_law_1120 (by decide) (fun _ => ?_) (fun h => absurd rfl h)
  refine W.widen (Nat.le_succ _) (Nat.le_add_right _ 6) ?_
  exact nx _ _ _ _ _ _ hR2 hW hS hl

theorem lw_c1125 (hfl : l.stackTraces = false) (hC : zl_C p s m args c D cy adx adm ec sa o b L xs) {n : Nat} (hn : n < 600) (hR : Rel n σx σm) (hW : zl_W D cy adx adm o σx σm f H) (hS : va_S (zAL s) s.heap H locs) {i : Int32} (hl : lv_has ls 7 [(4, .int i), (3, .ref o), (2, .ref (adm 0)), (1, .ref (adx 0)), (0, .ref b)]) (hin : ∀ j : Int32, 1 ≤ j → j ≤ 6 → vp_in (i + j) L) (hcs : cells + 1 ≤ room_1.cells ∧ slots + 6 ≤ room_1.slots)
    (nx : ∀ (σx' σm' : FH) (f' : Nat → Int64) (H1 : Heap) (locs1 : List Loc) (ls1 : Array Slot), Rel (n + 1) σx' σm' → zl_W D cy adx adm o σx' σm' f' H1 → va_S (zAL s) s.heap H1 locs1 → lv_has ls1 7 [(4, .int i), (3, .ref o), (2, .ref (adm 0)), (1, .ref (adx 0)), (0, .ref b)] → W p l e room_1 s m args below meth c H1 locs1 (cells + 1) (slots + 6) Q (F0 m 1393 ls1 [])) : W p l e room_1 s m args below meth c H locs cells slots Q (F0 m 1125 ls []) := by
  obtain ⟨hx, hb, -, hown, hts, hK, -⟩ := hC.1
  have hX := hC.2.2.2.2.2.2.1
  have hbl := hC.2.2.2.2.2.2.2.1
  have hbA : ¬ zAL s b := Nat.not_le.mpr hbl
  have hc0 : cells ≤ room_1.cells ∧ slots ≤ room_1.slots := ⟨Nat.le_trans (Nat.le_succ _) hcs.1, Nat.le_trans (Nat.le_add_right _ 6) hcs.2⟩
  obtain ⟨v, σx2, σm2, e1, e2, hR2⟩ := op_chance ((xs (i + 1).toNatClampNeg)) ((xs (i + 2).toNatClampNeg)) ((xs (i + 3).toNatClampNeg)) n σx σm hn hR
  refine lv_aload_n hx hb dL_law_1125 rfl (lv_at hl 3 rfl) ?_
  refine lv_aload_n hx hb dL_law_1126 rfl (lv_at hl 4 rfl) ?_
  refine lv_iload hx hb dL_law_1127 (lv_at hl 0 rfl) ?_
  refine lv_iconst (v := 1) hx hb dL_law_1129 (by decide) ?_
  refine lv_iadd hx hb dL_law_1130 ?_
  refine va_sld hx hb hX hbl hbA hS (hin _ (by decide) (by decide)) dL_law_1131 ?_
  refine lv_aload_n hx hb dL_law_1132 rfl (lv_at hl 4 rfl) ?_
  refine lv_iload hx hb dL_law_1133 (lv_at hl 0 rfl) ?_
  refine lv_iconst (v := 2) hx hb dL_law_1135 (by decide) ?_
  refine lv_iadd hx hb dL_law_1136 ?_
  refine va_sld hx hb hX hbl hbA hS (hin _ (by decide) (by decide)) dL_law_1137 ?_
  refine lv_aload_n hx hb dL_law_1138 rfl (lv_at hl 4 rfl) ?_
  refine lv_iload hx hb dL_law_1139 (lv_at hl 0 rfl) ?_
  refine lv_iconst (v := 3) hx hb dL_law_1141 (by decide) ?_
  refine lv_iadd hx hb dL_law_1142 ?_
  refine va_sld hx hb hX hbl hbA hS (hin _ (by decide) (by decide)) dL_law_1143 ?_
  refine zl_cx (n := 3) (As := [.int ((xs (i + 1).toNatClampNeg)), .int ((xs (i + 2).toNatClampNeg)), .int ((xs (i + 3).toNatClampNeg))]) (rest := []) hC hW hS (ctX11_chance l e1) (fx_l4 wL_153 wI_X11_chance wS_X11_chance kN_X11) wC_X11_chance (by decide +kernel) rfl ⟨Nat.le_of_ble_eq_true rfl, Nat.le_of_ble_eq_true rfl⟩ hc0 hl.1 (Nat.le_of_ble_eq_true rfl) rfl dL_law_1144 (fun H locs hW hS => ?_)
  refine lv_aload_n hx hb dL_law_1147 rfl (lv_at hl 2 rfl) ?_
  refine lv_aload_n hx hb dL_law_1148 rfl (lv_at hl 4 rfl) ?_
  refine lv_iload hx hb dL_law_1149 (lv_at hl 0 rfl) ?_
  refine lv_iconst (v := 1) hx hb dL_law_1151 (by decide) ?_
  refine lv_iadd hx hb dL_law_1152 ?_
  refine va_sld hx hb hX hbl hbA hS (hin _ (by decide) (by decide)) dL_law_1153 ?_
  refine lv_aload_n hx hb dL_law_1154 rfl (lv_at hl 4 rfl) ?_
  refine lv_iload hx hb dL_law_1155 (lv_at hl 0 rfl) ?_
  refine lv_iconst (v := 2) hx hb dL_law_1157 (by decide) ?_
  refine lv_iadd hx hb dL_law_1158 ?_
  refine va_sld hx hb hX hbl hbA hS (hin _ (by decide) (by decide)) dL_law_1159 ?_
  refine lv_aload_n hx hb dL_law_1160 rfl (lv_at hl 4 rfl) ?_
  refine lv_iload hx hb dL_law_1161 (lv_at hl 0 rfl) ?_
  refine lv_iconst (v := 3) hx hb dL_law_1163 (by decide) ?_
  refine lv_iadd hx hb dL_law_1164 ?_
  refine va_sld hx hb hX hbl hbA hS (hin _ (by decide) (by decide)) dL_law_1165 ?_
  refine zl_cm (n := 3) (As := [.int ((xs (i + 1).toNatClampNeg)), .int ((xs (i + 2).toNatClampNeg)), .int ((xs (i + 3).toNatClampNeg))]) (rest := [.int v]) hC hW hS (ctX12_chance l e2) (fx_l4 wL_157 wI_X12_chance wS_X12_chance kN_X12) wC_X12_chance (by decide +kernel) rfl ⟨Nat.le_of_ble_eq_true rfl, Nat.le_of_ble_eq_true rfl⟩ hc0 hl.1 (Nat.le_of_ble_eq_true rfl) rfl dL_law_1166 (fun H locs hW hS => ?_)
  refine lv_icmp_eq (tgt := 1393) hx hb dL_law_1169 (by decide) (fun _ => ?_) (fun h => absurd rfl h)
  refine W.widen (Nat.le_succ _) (Nat.le_add_right _ 6) ?_
  exact nx _ _ _ _ _ _ hR2 hW hS hl

theorem lw_c1174 (hfl : l.stackTraces = false) (hC : zl_C p s m args c D cy adx adm ec sa o b L xs) {n : Nat} (hn : n < 600) (hR : Rel n σx σm) (hW : zl_W D cy adx adm o σx σm f H) (hS : va_S (zAL s) s.heap H locs) {i : Int32} (hl : lv_has ls 7 [(4, .int i), (3, .ref o), (2, .ref (adm 0)), (1, .ref (adx 0)), (0, .ref b)]) (hin : ∀ j : Int32, 1 ≤ j → j ≤ 6 → vp_in (i + j) L) (hcs : cells + 1 ≤ room_1.cells ∧ slots + 6 ≤ room_1.slots)
    (nx : ∀ (σx' σm' : FH) (f' : Nat → Int64) (H1 : Heap) (locs1 : List Loc) (ls1 : Array Slot), Rel (n + 1) σx' σm' → zl_W D cy adx adm o σx' σm' f' H1 → va_S (zAL s) s.heap H1 locs1 → lv_has ls1 7 [(4, .int i), (3, .ref o), (2, .ref (adm 0)), (1, .ref (adx 0)), (0, .ref b)] → W p l e room_1 s m args below meth c H1 locs1 (cells + 1) (slots + 6) Q (F0 m 1393 ls1 [])) : W p l e room_1 s m args below meth c H locs cells slots Q (F0 m 1174 ls []) := by
  obtain ⟨hx, hb, -, hown, hts, hK, -⟩ := hC.1
  have hX := hC.2.2.2.2.2.2.1
  have hbl := hC.2.2.2.2.2.2.2.1
  have hbA : ¬ zAL s b := Nat.not_le.mpr hbl
  have hc0 : cells ≤ room_1.cells ∧ slots ≤ room_1.slots := ⟨Nat.le_trans (Nat.le_succ _) hcs.1, Nat.le_trans (Nat.le_add_right _ 6) hcs.2⟩
  obtain ⟨r, σm2, g1, g2, g3, g4⟩ := op_rests (xs (i + 1).toNatClampNeg) (xs (i + 2).toNatClampNeg) (xs (i + 3).toNatClampNeg) (xs (i + 4).toNatClampNeg) hR
  refine lv_aload_n hx hb dL_law_1174 rfl (lv_at hl 3 rfl) ?_
  refine lv_aload_n hx hb dL_law_1175 rfl (lv_at hl 4 rfl) ?_
  refine lv_iload hx hb dL_law_1176 (lv_at hl 0 rfl) ?_
  refine lv_iconst (v := 1) hx hb dL_law_1178 (by decide) ?_
  refine lv_iadd hx hb dL_law_1179 ?_
  refine va_sld hx hb hX hbl hbA hS (hin _ (by decide) (by decide)) dL_law_1180 ?_
  refine lv_aload_n hx hb dL_law_1181 rfl (lv_at hl 4 rfl) ?_
  refine lv_iload hx hb dL_law_1182 (lv_at hl 0 rfl) ?_
  refine lv_iconst (v := 2) hx hb dL_law_1184 (by decide) ?_
  refine lv_iadd hx hb dL_law_1185 ?_
  refine va_sld hx hb hX hbl hbA hS (hin _ (by decide) (by decide)) dL_law_1186 ?_
  refine lv_aload_n hx hb dL_law_1187 rfl (lv_at hl 4 rfl) ?_
  refine lv_iload hx hb dL_law_1188 (lv_at hl 0 rfl) ?_
  refine lv_iconst (v := 3) hx hb dL_law_1190 (by decide) ?_
  refine lv_iadd hx hb dL_law_1191 ?_
  refine va_sld hx hb hX hbl hbA hS (hin _ (by decide) (by decide)) dL_law_1192 ?_
  refine lv_aload_n hx hb dL_law_1193 rfl (lv_at hl 4 rfl) ?_
  refine lv_iload hx hb dL_law_1194 (lv_at hl 0 rfl) ?_
  refine lv_iconst (v := 4) hx hb dL_law_1196 (by decide) ?_
  refine lv_iadd hx hb dL_law_1197 ?_
  refine va_sld hx hb hX hbl hbA hS (hin _ (by decide) (by decide)) dL_law_1198 ?_
  refine lv_aload_n hx hb dL_law_1199 rfl (lv_at hl 1 rfl) ?_
  refine zl_cr hfl hC hW hS ⟨Nat.le_of_ble_eq_true rfl, Nat.le_of_ble_eq_true rfl⟩ hcs hl.1 dL_law_1200 (fun H locs f1 hW hf1 hS => ?_)
  generalize hz : zres (xs (i + 1).toNatClampNeg) (xs (i + 2).toNatClampNeg) (xs (i + 3).toNatClampNeg) (xs (i + 4).toNatClampNeg) = zz at *
  refine lv_istore (lv' := [(5, .int (if zz = none then 1 else 0)), (4, .int i), (3, .ref o), (2, .ref (adm 0)), (1, .ref (adx 0)), (0, .ref b)]) hx hb dL_law_1203 hl (by decide) rfl (fun ls hl => ?_)
  refine lv_aload_n hx hb dL_law_1205 rfl (lv_at hl 3 rfl) ?_
  refine lv_aload_n hx hb dL_law_1206 rfl (lv_at hl 5 rfl) ?_
  refine lv_iload hx hb dL_law_1207 (lv_at hl 1 rfl) ?_
  refine lv_iconst (v := 1) hx hb dL_law_1209 (by decide) ?_
  refine lv_iadd hx hb dL_law_1210 ?_
  refine va_sld hx hb hX hbl hbA hS (hin _ (by decide) (by decide)) dL_law_1211 ?_
  refine lv_aload_n hx hb dL_law_1212 rfl (lv_at hl 5 rfl) ?_
  refine lv_iload hx hb dL_law_1213 (lv_at hl 1 rfl) ?_
  refine lv_iconst (v := 2) hx hb dL_law_1215 (by decide) ?_
  refine lv_iadd hx hb dL_law_1216 ?_
  refine va_sld hx hb hX hbl hbA hS (hin _ (by decide) (by decide)) dL_law_1217 ?_
  refine lv_aload_n hx hb dL_law_1218 rfl (lv_at hl 5 rfl) ?_
  refine lv_iload hx hb dL_law_1219 (lv_at hl 1 rfl) ?_
  refine lv_iconst (v := 3) hx hb dL_law_1221 (by decide) ?_
  refine lv_iadd hx hb dL_law_1222 ?_
  refine va_sld hx hb hX hbl hbA hS (hin _ (by decide) (by decide)) dL_law_1223 ?_
  refine lv_aload_n hx hb dL_law_1224 rfl (lv_at hl 5 rfl) ?_
  refine lv_iload hx hb dL_law_1225 (lv_at hl 1 rfl) ?_
  refine lv_iconst (v := 4) hx hb dL_law_1227 (by decide) ?_
  refine lv_iadd hx hb dL_law_1228 ?_
  refine va_sld hx hb hX hbl hbA hS (hin _ (by decide) (by decide)) dL_law_1229 ?_
  refine zl_cm (n := 4) (As := [.int (xs (i + 1).toNatClampNeg), .int (xs (i + 2).toNatClampNeg), .int (xs (i + 3).toNatClampNeg), .int (xs (i + 4).toNatClampNeg)]) (rest := []) hC hW hS (ctX12_rests l g1) (fx_l4 wL_163 wI_X12_rests wS_X12_rests kN_X12) wC_X12_rests (by decide +kernel) rfl ⟨Nat.le_of_ble_eq_true rfl, Nat.le_of_ble_eq_true rfl⟩ hcs hl.1 (Nat.le_of_ble_eq_true rfl) rfl dL_law_1230 (fun H locs hW hS => ?_)
  refine lv_istore (lv' := [(6, .int r), (5, .int (if zz = none then 1 else 0)), (4, .int i), (3, .ref o), (2, .ref (adm 0)), (1, .ref (adx 0)), (0, .ref b)]) hx hb dL_law_1233 hl (by decide) rfl (fun ls hl => ?_)
  refine lv_aload_n hx hb dL_law_1235 rfl (lv_at hl 4 rfl) ?_
  refine zl_cm (n := 0) (As := []) (rest := []) hC hW hS (ctX12_thrown l (show fX12_thrown σm2 = some (if zz = none then 1 else 0) from congrArg some g3)) (fx_l4 wL_164 wI_X12_thrown wS_X12_thrown kN_X12) wC_X12_thrown (by decide +kernel) rfl ⟨Nat.le_of_ble_eq_true rfl, Nat.le_of_ble_eq_true rfl⟩ hcs hl.1 (Nat.le_of_ble_eq_true rfl) rfl dL_law_1236 (fun H locs hW hS => ?_)
  refine lv_iload hx hb dL_law_1239 (lv_at hl 1 rfl) ?_
  refine lv_icmp_eq (tgt := 1246) hx hb dL_law_1241 (by decide) (fun _ => ?_) (fun h => absurd rfl h)
  have fin : W p l e room_1 s m args below meth c H locs (cells + 1) (slots + 6) Q (F0 m 1263 ls []) := by
    refine lv_goto (tgt := 1393) hx hb dL_law_1263 (by decide) ?_
    exact nx _ _ _ _ _ _ (Rel_up g2 (Nat.le_succ n)) hW hS (lv_sub hl [2, 3, 4, 5, 6] rfl)
  refine lv_iload hx hb dL_law_1246 (lv_at hl 1 rfl) ?_
  refine lv_if_ne (tgt := 1263) hx hb dL_law_1248 (by decide) (fun _ => fin) (fun c1 => ?_)
  refine lv_aload_n hx hb dL_law_1251 rfl (lv_at hl 3 rfl) ?_
  refine lv_iconst (v := 0) hx hb dL_law_1252 (by decide) ?_
  refine va_lald hx hb hK (vz_one hW.2.2) 0 1 rfl rfl (show ¬ ((0 : Int32) < 0 ∨ 1 ≤ Int32.toNatClampNeg 0) by decide) dL_law_1253 ?_
  refine lv_iload hx hb dL_law_1254 (lv_at hl 0 rfl) ?_
  refine lv_i2l (v := r.toInt64) hx hb dL_law_1256 rfl ?_
  refine W.lcmp hx hb dL_law_1257 ?_
  refine lv_if_eq (tgt := 1263) hx hb dL_law_1258 (by decide) (fun _ => fin) (fun c2 => absurd ?_ c2)
  cases zz with
  | none => exact absurd c1 (by decide)
  | some v =>
    have h1 := hf1 v rfl
    have h2 := g4 v rfl
    rw [show Int32.toNatClampNeg 0 = 0 from by decide, h1, h2]
    exact lg_cmp_self _

theorem lw_c1266 (hfl : l.stackTraces = false) (hC : zl_C p s m args c D cy adx adm ec sa o b L xs) {n : Nat} (hn : n < 600) (hR : Rel n σx σm) (hW : zl_W D cy adx adm o σx σm f H) (hS : va_S (zAL s) s.heap H locs) {i : Int32} (hl : lv_has ls 7 [(4, .int i), (3, .ref o), (2, .ref (adm 0)), (1, .ref (adx 0)), (0, .ref b)]) (hin : ∀ j : Int32, 1 ≤ j → j ≤ 6 → vp_in (i + j) L) (hcs : cells + 1 ≤ room_1.cells ∧ slots + 6 ≤ room_1.slots)
    (nx : ∀ (σx' σm' : FH) (f' : Nat → Int64) (H1 : Heap) (locs1 : List Loc) (ls1 : Array Slot), Rel (n + 1) σx' σm' → zl_W D cy adx adm o σx' σm' f' H1 → va_S (zAL s) s.heap H1 locs1 → lv_has ls1 7 [(4, .int i), (3, .ref o), (2, .ref (adm 0)), (1, .ref (adx 0)), (0, .ref b)] → W p l e room_1 s m args below meth c H1 locs1 (cells + 1) (slots + 6) Q (F0 m 1393 ls1 [])) : W p l e room_1 s m args below meth c H locs cells slots Q (F0 m 1266 ls []) := by
  obtain ⟨hx, hb, -, hown, hts, hK, -⟩ := hC.1
  have hX := hC.2.2.2.2.2.2.1
  have hbl := hC.2.2.2.2.2.2.2.1
  have hbA : ¬ zAL s b := Nat.not_le.mpr hbl
  have hc0 : cells ≤ room_1.cells ∧ slots ≤ room_1.slots := ⟨Nat.le_trans (Nat.le_succ _) hcs.1, Nat.le_trans (Nat.le_add_right _ 6) hcs.2⟩
  obtain ⟨v, σx2, σm2, e1, e2, hR2⟩ := op_terms ((xs (i + 1).toNatClampNeg)) ((xs (i + 2).toNatClampNeg)) ((xs (i + 3).toNatClampNeg)) n σx σm hn hR
  refine lv_aload_n hx hb dL_law_1266 rfl (lv_at hl 3 rfl) ?_
  refine lv_aload_n hx hb dL_law_1267 rfl (lv_at hl 4 rfl) ?_
  refine lv_iload hx hb dL_law_1268 (lv_at hl 0 rfl) ?_
  refine lv_iconst (v := 1) hx hb dL_law_1270 (by decide) ?_
  refine lv_iadd hx hb dL_law_1271 ?_
  refine va_sld hx hb hX hbl hbA hS (hin _ (by decide) (by decide)) dL_law_1272 ?_
  refine lv_aload_n hx hb dL_law_1273 rfl (lv_at hl 4 rfl) ?_
  refine lv_iload hx hb dL_law_1274 (lv_at hl 0 rfl) ?_
  refine lv_iconst (v := 2) hx hb dL_law_1276 (by decide) ?_
  refine lv_iadd hx hb dL_law_1277 ?_
  refine va_sld hx hb hX hbl hbA hS (hin _ (by decide) (by decide)) dL_law_1278 ?_
  refine lv_aload_n hx hb dL_law_1279 rfl (lv_at hl 4 rfl) ?_
  refine lv_iload hx hb dL_law_1280 (lv_at hl 0 rfl) ?_
  refine lv_iconst (v := 3) hx hb dL_law_1282 (by decide) ?_
  refine lv_iadd hx hb dL_law_1283 ?_
  refine va_sld hx hb hX hbl hbA hS (hin _ (by decide) (by decide)) dL_law_1284 ?_
  refine zl_cx (n := 3) (As := [.int ((xs (i + 1).toNatClampNeg)), .int ((xs (i + 2).toNatClampNeg)), .int ((xs (i + 3).toNatClampNeg))]) (rest := []) hC hW hS (ctX11_terms l e1) (fx_l4 wL_167 wI_X11_terms wS_X11_terms kN_X11) wC_X11_terms (by decide +kernel) rfl ⟨Nat.le_of_ble_eq_true rfl, Nat.le_of_ble_eq_true rfl⟩ hc0 hl.1 (Nat.le_of_ble_eq_true rfl) rfl dL_law_1285 (fun H locs hW hS => ?_)
  refine lv_aload_n hx hb dL_law_1288 rfl (lv_at hl 2 rfl) ?_
  refine lv_aload_n hx hb dL_law_1289 rfl (lv_at hl 4 rfl) ?_
  refine lv_iload hx hb dL_law_1290 (lv_at hl 0 rfl) ?_
  refine lv_iconst (v := 1) hx hb dL_law_1292 (by decide) ?_
  refine lv_iadd hx hb dL_law_1293 ?_
  refine va_sld hx hb hX hbl hbA hS (hin _ (by decide) (by decide)) dL_law_1294 ?_
  refine lv_aload_n hx hb dL_law_1295 rfl (lv_at hl 4 rfl) ?_
  refine lv_iload hx hb dL_law_1296 (lv_at hl 0 rfl) ?_
  refine lv_iconst (v := 2) hx hb dL_law_1298 (by decide) ?_
  refine lv_iadd hx hb dL_law_1299 ?_
  refine va_sld hx hb hX hbl hbA hS (hin _ (by decide) (by decide)) dL_law_1300 ?_
  refine lv_aload_n hx hb dL_law_1301 rfl (lv_at hl 4 rfl) ?_
  refine lv_iload hx hb dL_law_1302 (lv_at hl 0 rfl) ?_
  refine lv_iconst (v := 3) hx hb dL_law_1304 (by decide) ?_
  refine lv_iadd hx hb dL_law_1305 ?_
  refine va_sld hx hb hX hbl hbA hS (hin _ (by decide) (by decide)) dL_law_1306 ?_
  refine zl_cm (n := 3) (As := [.int ((xs (i + 1).toNatClampNeg)), .int ((xs (i + 2).toNatClampNeg)), .int ((xs (i + 3).toNatClampNeg))]) (rest := [.int v]) hC hW hS (ctX12_terms l e2) (fx_l4 wL_170 wI_X12_terms wS_X12_terms kN_X12) wC_X12_terms (by decide +kernel) rfl ⟨Nat.le_of_ble_eq_true rfl, Nat.le_of_ble_eq_true rfl⟩ hc0 hl.1 (Nat.le_of_ble_eq_true rfl) rfl dL_law_1307 (fun H locs hW hS => ?_)
  refine lv_icmp_eq (tgt := 1393) hx hb dL_law_1310 (by decide) (fun _ => ?_) (fun h => absurd rfl h)
  refine W.widen (Nat.le_succ _) (Nat.le_add_right _ 6) ?_
  exact nx _ _ _ _ _ _ hR2 hW hS hl

theorem lw_c1315 (hfl : l.stackTraces = false) (hC : zl_C p s m args c D cy adx adm ec sa o b L xs) {n : Nat} (hn : n < 600) (hR : Rel n σx σm) (hW : zl_W D cy adx adm o σx σm f H) (hS : va_S (zAL s) s.heap H locs) {i : Int32} (hl : lv_has ls 7 [(4, .int i), (3, .ref o), (2, .ref (adm 0)), (1, .ref (adx 0)), (0, .ref b)]) (hin : ∀ j : Int32, 1 ≤ j → j ≤ 6 → vp_in (i + j) L) (hcs : cells + 1 ≤ room_1.cells ∧ slots + 6 ≤ room_1.slots)
    (nx : ∀ (σx' σm' : FH) (f' : Nat → Int64) (H1 : Heap) (locs1 : List Loc) (ls1 : Array Slot), Rel (n + 1) σx' σm' → zl_W D cy adx adm o σx' σm' f' H1 → va_S (zAL s) s.heap H1 locs1 → lv_has ls1 7 [(4, .int i), (3, .ref o), (2, .ref (adm 0)), (1, .ref (adx 0)), (0, .ref b)] → W p l e room_1 s m args below meth c H1 locs1 (cells + 1) (slots + 6) Q (F0 m 1393 ls1 [])) : W p l e room_1 s m args below meth c H locs cells slots Q (F0 m 1315 ls []) := by
  obtain ⟨hx, hb, -, hown, hts, hK, -⟩ := hC.1
  have hX := hC.2.2.2.2.2.2.1
  have hbl := hC.2.2.2.2.2.2.2.1
  have hbA : ¬ zAL s b := Nat.not_le.mpr hbl
  have hc0 : cells ≤ room_1.cells ∧ slots ≤ room_1.slots := ⟨Nat.le_trans (Nat.le_succ _) hcs.1, Nat.le_trans (Nat.le_add_right _ 6) hcs.2⟩
  by_cases c1 : (xs (i + 2).toNatClampNeg) = 0
  · obtain ⟨v, σx2, σm2, e1, e2, hR2⟩ := op_mark ((xs (i + 1).toNatClampNeg)) (f := 0) (by decide) n σx σm hn hR
    have e1 : fX11_mark ((xs (i + 1).toNatClampNeg)) 0 σx = some (v, σx2) := e1
    have e2 : fX12_mark ((xs (i + 1).toNatClampNeg)) 0 σm = some (v, σm2) := e2
    refine lv_aload_n hx hb dL_law_1315 rfl (lv_at hl 3 rfl) ?_
    refine lv_aload_n hx hb dL_law_1316 rfl (lv_at hl 4 rfl) ?_
    refine lv_iload hx hb dL_law_1317 (lv_at hl 0 rfl) ?_
    refine lv_iconst (v := 1) hx hb dL_law_1319 (by decide) ?_
    refine lv_iadd hx hb dL_law_1320 ?_
    refine va_sld hx hb hX hbl hbA hS (hin _ (by decide) (by decide)) dL_law_1321 ?_
    refine lv_aload_n hx hb dL_law_1322 rfl (lv_at hl 4 rfl) ?_
    refine lv_iload hx hb dL_law_1323 (lv_at hl 0 rfl) ?_
    refine lv_iconst (v := 2) hx hb dL_law_1325 (by decide) ?_
    refine lv_iadd hx hb dL_law_1326 ?_
    refine va_sld hx hb hX hbl hbA hS (hin _ (by decide) (by decide)) dL_law_1327 ?_
    refine lv_if_eq (tgt := 1335) hx hb dL_law_1328 (by decide) (fun _ => ?_) (fun h => absurd c1 h)
    refine lv_iconst (v := 0) hx hb dL_law_1335 (by decide) ?_
    refine zl_cx (n := 2) (As := [.int ((xs (i + 1).toNatClampNeg)), .int 0]) (rest := []) hC hW hS (ctX11_mark l e1) (fx_l4 wL_171 wI_X11_mark wS_X11_mark kN_X11) wC_X11_mark (by decide +kernel) rfl ⟨Nat.le_of_ble_eq_true rfl, Nat.le_of_ble_eq_true rfl⟩ hc0 hl.1 (Nat.le_of_ble_eq_true rfl) rfl dL_law_1336 (fun H locs hW hS => ?_)
    refine lv_aload_n hx hb dL_law_1339 rfl (lv_at hl 2 rfl) ?_
    refine lv_aload_n hx hb dL_law_1340 rfl (lv_at hl 4 rfl) ?_
    refine lv_iload hx hb dL_law_1341 (lv_at hl 0 rfl) ?_
    refine lv_iconst (v := 1) hx hb dL_law_1343 (by decide) ?_
    refine lv_iadd hx hb dL_law_1344 ?_
    refine va_sld hx hb hX hbl hbA hS (hin _ (by decide) (by decide)) dL_law_1345 ?_
    refine lv_aload_n hx hb dL_law_1346 rfl (lv_at hl 4 rfl) ?_
    refine lv_iload hx hb dL_law_1347 (lv_at hl 0 rfl) ?_
    refine lv_iconst (v := 2) hx hb dL_law_1349 (by decide) ?_
    refine lv_iadd hx hb dL_law_1350 ?_
    refine va_sld hx hb hX hbl hbA hS (hin _ (by decide) (by decide)) dL_law_1351 ?_
    refine lv_if_eq (tgt := 1359) hx hb dL_law_1352 (by decide) (fun _ => ?_) (fun h => absurd c1 h)
    refine lv_iconst (v := 0) hx hb dL_law_1359 (by decide) ?_
    refine zl_cm (n := 2) (As := [.int ((xs (i + 1).toNatClampNeg)), .int 0]) (rest := [.int v]) hC hW hS (ctX12_mark l e2) (fx_l4 wL_174 wI_X12_mark wS_X12_mark kN_X12) wC_X12_mark (by decide +kernel) rfl ⟨Nat.le_of_ble_eq_true rfl, Nat.le_of_ble_eq_true rfl⟩ hc0 hl.1 (Nat.le_of_ble_eq_true rfl) rfl dL_law_1360 (fun H locs hW hS => ?_)
    refine lv_icmp_eq (tgt := 1393) hx hb dL_law_1363 (by decide) (fun _ => ?_) (fun h => absurd rfl h)
    refine W.widen (Nat.le_succ _) (Nat.le_add_right _ 6) ?_
    exact nx _ _ _ _ _ _ hR2 hW hS hl
  · obtain ⟨v, σx2, σm2, e1, e2, hR2⟩ := op_mark ((xs (i + 1).toNatClampNeg)) (f := 1) (by decide) n σx σm hn hR
    have e1 : fX11_mark ((xs (i + 1).toNatClampNeg)) 1 σx = some (v, σx2) := e1
    have e2 : fX12_mark ((xs (i + 1).toNatClampNeg)) 1 σm = some (v, σm2) := e2
    refine lv_aload_n hx hb dL_law_1315 rfl (lv_at hl 3 rfl) ?_
    refine lv_aload_n hx hb dL_law_1316 rfl (lv_at hl 4 rfl) ?_
    refine lv_iload hx hb dL_law_1317 (lv_at hl 0 rfl) ?_
    refine lv_iconst (v := 1) hx hb dL_law_1319 (by decide) ?_
    refine lv_iadd hx hb dL_law_1320 ?_
    refine va_sld hx hb hX hbl hbA hS (hin _ (by decide) (by decide)) dL_law_1321 ?_
    refine lv_aload_n hx hb dL_law_1322 rfl (lv_at hl 4 rfl) ?_
    refine lv_iload hx hb dL_law_1323 (lv_at hl 0 rfl) ?_
    refine lv_iconst (v := 2) hx hb dL_law_1325 (by decide) ?_
    refine lv_iadd hx hb dL_law_1326 ?_
    refine va_sld hx hb hX hbl hbA hS (hin _ (by decide) (by decide)) dL_law_1327 ?_
    refine lv_if_eq (tgt := 1335) hx hb dL_law_1328 (by decide) (fun h => absurd h c1) (fun _ => ?_)
    refine lv_iconst (v := 1) hx hb dL_law_1331 (by decide) ?_
    refine lv_goto (tgt := 1336) hx hb dL_law_1332 (by decide) ?_
    refine zl_cx (n := 2) (As := [.int ((xs (i + 1).toNatClampNeg)), .int 1]) (rest := []) hC hW hS (ctX11_mark l e1) (fx_l4 wL_171 wI_X11_mark wS_X11_mark kN_X11) wC_X11_mark (by decide +kernel) rfl ⟨Nat.le_of_ble_eq_true rfl, Nat.le_of_ble_eq_true rfl⟩ hc0 hl.1 (Nat.le_of_ble_eq_true rfl) rfl dL_law_1336 (fun H locs hW hS => ?_)
    refine lv_aload_n hx hb dL_law_1339 rfl (lv_at hl 2 rfl) ?_
    refine lv_aload_n hx hb dL_law_1340 rfl (lv_at hl 4 rfl) ?_
    refine lv_iload hx hb dL_law_1341 (lv_at hl 0 rfl) ?_
    refine lv_iconst (v := 1) hx hb dL_law_1343 (by decide) ?_
    refine lv_iadd hx hb dL_law_1344 ?_
    refine va_sld hx hb hX hbl hbA hS (hin _ (by decide) (by decide)) dL_law_1345 ?_
    refine lv_aload_n hx hb dL_law_1346 rfl (lv_at hl 4 rfl) ?_
    refine lv_iload hx hb dL_law_1347 (lv_at hl 0 rfl) ?_
    refine lv_iconst (v := 2) hx hb dL_law_1349 (by decide) ?_
    refine lv_iadd hx hb dL_law_1350 ?_
    refine va_sld hx hb hX hbl hbA hS (hin _ (by decide) (by decide)) dL_law_1351 ?_
    refine lv_if_eq (tgt := 1359) hx hb dL_law_1352 (by decide) (fun h => absurd h c1) (fun _ => ?_)
    refine lv_iconst (v := 1) hx hb dL_law_1355 (by decide) ?_
    refine lv_goto (tgt := 1360) hx hb dL_law_1356 (by decide) ?_
    refine zl_cm (n := 2) (As := [.int ((xs (i + 1).toNatClampNeg)), .int 1]) (rest := [.int v]) hC hW hS (ctX12_mark l e2) (fx_l4 wL_174 wI_X12_mark wS_X12_mark kN_X12) wC_X12_mark (by decide +kernel) rfl ⟨Nat.le_of_ble_eq_true rfl, Nat.le_of_ble_eq_true rfl⟩ hc0 hl.1 (Nat.le_of_ble_eq_true rfl) rfl dL_law_1360 (fun H locs hW hS => ?_)
    refine lv_icmp_eq (tgt := 1393) hx hb dL_law_1363 (by decide) (fun _ => ?_) (fun h => absurd rfl h)
    refine W.widen (Nat.le_succ _) (Nat.le_add_right _ 6) ?_
    exact nx _ _ _ _ _ _ hR2 hW hS hl

theorem lw_c1368 (hfl : l.stackTraces = false) (hC : zl_C p s m args c D cy adx adm ec sa o b L xs) {n : Nat} (hn : n < 600) (hR : Rel n σx σm) (hW : zl_W D cy adx adm o σx σm f H) (hS : va_S (zAL s) s.heap H locs) {i : Int32} (hl : lv_has ls 7 [(4, .int i), (3, .ref o), (2, .ref (adm 0)), (1, .ref (adx 0)), (0, .ref b)]) (hin : ∀ j : Int32, 1 ≤ j → j ≤ 6 → vp_in (i + j) L) (hcs : cells + 1 ≤ room_1.cells ∧ slots + 6 ≤ room_1.slots)
    (nx : ∀ (σx' σm' : FH) (f' : Nat → Int64) (H1 : Heap) (locs1 : List Loc) (ls1 : Array Slot), Rel (n + 1) σx' σm' → zl_W D cy adx adm o σx' σm' f' H1 → va_S (zAL s) s.heap H1 locs1 → lv_has ls1 7 [(4, .int i), (3, .ref o), (2, .ref (adm 0)), (1, .ref (adx 0)), (0, .ref b)] → W p l e room_1 s m args below meth c H1 locs1 (cells + 1) (slots + 6) Q (F0 m 1393 ls1 [])) : W p l e room_1 s m args below meth c H locs cells slots Q (F0 m 1368 ls []) := by
  obtain ⟨hx, hb, -, hown, hts, hK, -⟩ := hC.1
  have hX := hC.2.2.2.2.2.2.1
  have hbl := hC.2.2.2.2.2.2.2.1
  have hbA : ¬ zAL s b := Nat.not_le.mpr hbl
  have hc0 : cells ≤ room_1.cells ∧ slots ≤ room_1.slots := ⟨Nat.le_trans (Nat.le_succ _) hcs.1, Nat.le_trans (Nat.le_add_right _ 6) hcs.2⟩
  obtain ⟨v, σm2, e1, e2, hR2⟩ := op_count ((xs (i + 1).toNatClampNeg)) n σx σm hn hR
  refine lv_aload_n hx hb dL_law_1368 rfl (lv_at hl 3 rfl) ?_
  refine lv_aload_n hx hb dL_law_1369 rfl (lv_at hl 4 rfl) ?_
  refine lv_iload hx hb dL_law_1370 (lv_at hl 0 rfl) ?_
  refine lv_iconst (v := 1) hx hb dL_law_1372 (by decide) ?_
  refine lv_iadd hx hb dL_law_1373 ?_
  refine va_sld hx hb hX hbl hbA hS (hin _ (by decide) (by decide)) dL_law_1374 ?_
  refine zl_cx (n := 1) (As := [.int ((xs (i + 1).toNatClampNeg))]) (rest := []) hC hW hS (ctX11_count l e1) (fx_l4 wL_175 wI_X11_count wS_X11_count kN_X11) wC_X11_count (by decide +kernel) rfl ⟨Nat.le_of_ble_eq_true rfl, Nat.le_of_ble_eq_true rfl⟩ hc0 hl.1 (Nat.le_of_ble_eq_true rfl) rfl dL_law_1375 (fun H locs hW hS => ?_)
  refine lv_aload_n hx hb dL_law_1378 rfl (lv_at hl 2 rfl) ?_
  refine lv_aload_n hx hb dL_law_1379 rfl (lv_at hl 4 rfl) ?_
  refine lv_iload hx hb dL_law_1380 (lv_at hl 0 rfl) ?_
  refine lv_iconst (v := 1) hx hb dL_law_1382 (by decide) ?_
  refine lv_iadd hx hb dL_law_1383 ?_
  refine va_sld hx hb hX hbl hbA hS (hin _ (by decide) (by decide)) dL_law_1384 ?_
  refine zl_cm (n := 1) (As := [.int ((xs (i + 1).toNatClampNeg))]) (rest := [.int v]) hC hW hS (ctX12_count l e2) (fx_l4 wL_178 wI_X12_count wS_X12_count kN_X12) wC_X12_count (by decide +kernel) rfl ⟨Nat.le_of_ble_eq_true rfl, Nat.le_of_ble_eq_true rfl⟩ hc0 hl.1 (Nat.le_of_ble_eq_true rfl) rfl dL_law_1385 (fun H locs hW hS => ?_)
  refine lv_icmp_eq (tgt := 1393) hx hb dL_law_1388 (by decide) (fun _ => ?_) (fun h => absurd rfl h)
  refine W.widen (Nat.le_succ _) (Nat.le_add_right _ 6) ?_
  exact nx _ _ _ _ _ _ hR2 hW hS hl
end ZLC
