/-! words and decode rows of the law -/
theorem wm_RL_138 : Cond.methodLink RL 138 yX12_thrown ∈ BIG := bm 1413 (by decide +kernel) (by decide +kernel)
theorem wi_X12_thrown : Cond.instanceMethod yX12_thrown ∈ BIG := bm 1414 (by decide +kernel) (by decide +kernel)
theorem wse_X12_thrown : Cond.selects RX12 yX12_thrown yX12_thrown ∈ BIG := bm 1415 (by decide +kernel) (by decide +kernel)
theorem wc_X12_thrown : Cond.code yX12_thrown cX12_thrown 1 (some .int) ∈ BIG := bm 1416 (by decide +kernel) (by decide +kernel)
theorem wm_RL_122 : Cond.methodLink RL 122 yX11_feed ∈ BIG := bm 441 (by decide +kernel) (by decide +kernel)
theorem wi_X11_feed : Cond.instanceMethod yX11_feed ∈ BIG := bm 442 (by decide +kernel) (by decide +kernel)
theorem wse_X11_feed : Cond.selects RX11 yX11_feed yX11_feed ∈ BIG := bm 443 (by decide +kernel) (by decide +kernel)
theorem wc_X11_feed : Cond.code yX11_feed cX11_feed 6 (some .int) ∈ BIG := bm 444 (by decide +kernel) (by decide +kernel)
theorem wm_RL_126 : Cond.methodLink RL 126 yX12_feed ∈ BIG := bm 1417 (by decide +kernel) (by decide +kernel)
theorem wi_X12_feed : Cond.instanceMethod yX12_feed ∈ BIG := bm 1418 (by decide +kernel) (by decide +kernel)
theorem wse_X12_feed : Cond.selects RX12 yX12_feed yX12_feed ∈ BIG := bm 1419 (by decide +kernel) (by decide +kernel)
theorem wc_X12_feed : Cond.code yX12_feed cX12_feed 8 (some .int) ∈ BIG := bm 1420 (by decide +kernel) (by decide +kernel)
theorem wm_RL_127 : Cond.methodLink RL 127 yX11_end ∈ BIG := bm 449 (by decide +kernel) (by decide +kernel)
theorem wi_X11_end : Cond.instanceMethod yX11_end ∈ BIG := bm 450 (by decide +kernel) (by decide +kernel)
theorem wse_X11_end : Cond.selects RX11 yX11_end yX11_end ∈ BIG := bm 451 (by decide +kernel) (by decide +kernel)
theorem wc_X11_end : Cond.code yX11_end cX11_end 2 (some .boolean) ∈ BIG := bm 452 (by decide +kernel) (by decide +kernel)
theorem wm_RL_131 : Cond.methodLink RL 131 yX12_end ∈ BIG := bm 1421 (by decide +kernel) (by decide +kernel)
theorem wi_X12_end : Cond.instanceMethod yX12_end ∈ BIG := bm 1422 (by decide +kernel) (by decide +kernel)
theorem wse_X12_end : Cond.selects RX12 yX12_end yX12_end ∈ BIG := bm 1423 (by decide +kernel) (by decide +kernel)
theorem wc_X12_end : Cond.code yX12_end cX12_end 2 (some .boolean) ∈ BIG := bm 1424 (by decide +kernel) (by decide +kernel)
theorem wm_RL_137 : Cond.methodLink RL 137 yX12_cluster ∈ BIG := bm 1428 (by decide +kernel) (by decide +kernel)
theorem wi_X12_cluster : Cond.instanceMethod yX12_cluster ∈ BIG := bm 1429 (by decide +kernel) (by decide +kernel)
theorem wse_X12_cluster : Cond.selects RX12 yX12_cluster yX12_cluster ∈ BIG := bm 1430 (by decide +kernel) (by decide +kernel)
theorem wc_X12_cluster : Cond.code yX12_cluster cX12_cluster 2 (some .int) ∈ BIG := bm 1431 (by decide +kernel) (by decide +kernel)
theorem wm_RL_143 : Cond.methodLink RL 143 yX12_law ∈ BIG := bm 1560 (by decide +kernel) (by decide +kernel)
theorem wi_X12_law : Cond.instanceMethod yX12_law ∈ BIG := bm 1561 (by decide +kernel) (by decide +kernel)
theorem wse_X12_law : Cond.selects RX12 yX12_law yX12_law ∈ BIG := bm 1562 (by decide +kernel) (by decide +kernel)
theorem wc_X12_law : Cond.code yX12_law cX12_law 3 (some .int) ∈ BIG := bm 1563 (by decide +kernel) (by decide +kernel)
theorem wm_RL_144 : Cond.methodLink RL 144 yX11_fault ∈ BIG := bm 453 (by decide +kernel) (by decide +kernel)
theorem wi_X11_fault : Cond.instanceMethod yX11_fault ∈ BIG := bm 454 (by decide +kernel) (by decide +kernel)
theorem wse_X11_fault : Cond.selects RX11 yX11_fault yX11_fault ∈ BIG := bm 455 (by decide +kernel) (by decide +kernel)
theorem wc_X11_fault : Cond.code yX11_fault cX11_fault 1 (some .int) ∈ BIG := bm 456 (by decide +kernel) (by decide +kernel)
theorem wm_RL_147 : Cond.methodLink RL 147 yX12_fault ∈ BIG := bm 1564 (by decide +kernel) (by decide +kernel)
theorem wi_X12_fault : Cond.instanceMethod yX12_fault ∈ BIG := bm 1565 (by decide +kernel) (by decide +kernel)
theorem wse_X12_fault : Cond.selects RX12 yX12_fault yX12_fault ∈ BIG := bm 1566 (by decide +kernel) (by decide +kernel)
theorem wc_X12_fault : Cond.code yX12_fault cX12_fault 1 (some .int) ∈ BIG := bm 1567 (by decide +kernel) (by decide +kernel)
theorem wm_RL_151 : Cond.methodLink RL 151 yX12_node ∈ BIG := bm 1568 (by decide +kernel) (by decide +kernel)
theorem wi_X12_node : Cond.instanceMethod yX12_node ∈ BIG := bm 1569 (by decide +kernel) (by decide +kernel)
theorem wse_X12_node : Cond.selects RX12 yX12_node yX12_node ∈ BIG := bm 1570 (by decide +kernel) (by decide +kernel)
theorem wc_X12_node : Cond.code yX12_node cX12_node 3 (some .int) ∈ BIG := bm 1571 (by decide +kernel) (by decide +kernel)
theorem wm_RL_154 : Cond.methodLink RL 154 yX12_shift ∈ BIG := bm 1648 (by decide +kernel) (by decide +kernel)
theorem wi_X12_shift : Cond.instanceMethod yX12_shift ∈ BIG := bm 1649 (by decide +kernel) (by decide +kernel)
theorem wse_X12_shift : Cond.selects RX12 yX12_shift yX12_shift ∈ BIG := bm 1650 (by decide +kernel) (by decide +kernel)
theorem wc_X12_shift : Cond.code yX12_shift cX12_shift 3 (some .int) ∈ BIG := bm 1651 (by decide +kernel) (by decide +kernel)
theorem wm_RL_157 : Cond.methodLink RL 157 yX12_hears ∈ BIG := bm 1656 (by decide +kernel) (by decide +kernel)
theorem wi_X12_hears : Cond.instanceMethod yX12_hears ∈ BIG := bm 1657 (by decide +kernel) (by decide +kernel)
theorem wse_X12_hears : Cond.selects RX12 yX12_hears yX12_hears ∈ BIG := bm 1658 (by decide +kernel) (by decide +kernel)
theorem wc_X12_hears : Cond.code yX12_hears cX12_hears 3 (some .boolean) ∈ BIG := bm 1659 (by decide +kernel) (by decide +kernel)
theorem wm_RL_161 : Cond.methodLink RL 161 yX12_rounds ∈ BIG := bm 1660 (by decide +kernel) (by decide +kernel)
theorem wi_X12_rounds : Cond.instanceMethod yX12_rounds ∈ BIG := bm 1661 (by decide +kernel) (by decide +kernel)
theorem wse_X12_rounds : Cond.selects RX12 yX12_rounds yX12_rounds ∈ BIG := bm 1662 (by decide +kernel) (by decide +kernel)
theorem wc_X12_rounds : Cond.code yX12_rounds cX12_rounds 2 (some .int) ∈ BIG := bm 1663 (by decide +kernel) (by decide +kernel)
theorem wm_RL_164 : Cond.methodLink RL 164 yX12_add ∈ BIG := bm 1732 (by decide +kernel) (by decide +kernel)
theorem wi_X12_add : Cond.instanceMethod yX12_add ∈ BIG := bm 1733 (by decide +kernel) (by decide +kernel)
theorem wse_X12_add : Cond.selects RX12 yX12_add yX12_add ∈ BIG := bm 1734 (by decide +kernel) (by decide +kernel)
theorem wc_X12_add : Cond.code yX12_add cX12_add 2 (some .int) ∈ BIG := bm 1735 (by decide +kernel) (by decide +kernel)
theorem wm_RL_168 : Cond.methodLink RL 168 yX12_power ∈ BIG := bm 1736 (by decide +kernel) (by decide +kernel)
theorem wi_X12_power : Cond.instanceMethod yX12_power ∈ BIG := bm 1737 (by decide +kernel) (by decide +kernel)
theorem wse_X12_power : Cond.selects RX12 yX12_power yX12_power ∈ BIG := bm 1738 (by decide +kernel) (by decide +kernel)
theorem wc_X12_power : Cond.code yX12_power cX12_power 4 (some .int) ∈ BIG := bm 1739 (by decide +kernel) (by decide +kernel)
theorem wm_RL_172 : Cond.methodLink RL 172 yX12_spoil ∈ BIG := bm 1740 (by decide +kernel) (by decide +kernel)
theorem wi_X12_spoil : Cond.instanceMethod yX12_spoil ∈ BIG := bm 1741 (by decide +kernel) (by decide +kernel)
theorem wse_X12_spoil : Cond.selects RX12 yX12_spoil yX12_spoil ∈ BIG := bm 1742 (by decide +kernel) (by decide +kernel)
theorem wc_X12_spoil : Cond.code yX12_spoil cX12_spoil 5 (some .int) ∈ BIG := bm 1743 (by decide +kernel) (by decide +kernel)
theorem wm_RL_175 : Cond.methodLink RL 175 yX12_set ∈ BIG := bm 1748 (by decide +kernel) (by decide +kernel)
theorem wi_X12_set : Cond.instanceMethod yX12_set ∈ BIG := bm 1749 (by decide +kernel) (by decide +kernel)
theorem wse_X12_set : Cond.selects RX12 yX12_set yX12_set ∈ BIG := bm 1750 (by decide +kernel) (by decide +kernel)
theorem wc_X12_set : Cond.code yX12_set cX12_set 3 (some .int) ∈ BIG := bm 1751 (by decide +kernel) (by decide +kernel)
theorem wm_RL_179 : Cond.methodLink RL 179 yX12_tune ∈ BIG := bm 1752 (by decide +kernel) (by decide +kernel)
theorem wi_X12_tune : Cond.instanceMethod yX12_tune ∈ BIG := bm 1753 (by decide +kernel) (by decide +kernel)
theorem wse_X12_tune : Cond.selects RX12 yX12_tune yX12_tune ∈ BIG := bm 1754 (by decide +kernel) (by decide +kernel)
theorem wc_X12_tune : Cond.code yX12_tune cX12_tune 3 (some .int) ∈ BIG := bm 1755 (by decide +kernel) (by decide +kernel)
theorem wm_RL_182 : Cond.methodLink RL 182 yX12_mid ∈ BIG := bm 1756 (by decide +kernel) (by decide +kernel)
theorem wi_X12_mid : Cond.instanceMethod yX12_mid ∈ BIG := bm 1757 (by decide +kernel) (by decide +kernel)
theorem wse_X12_mid : Cond.selects RX12 yX12_mid yX12_mid ∈ BIG := bm 1758 (by decide +kernel) (by decide +kernel)
theorem wc_X12_mid : Cond.code yX12_mid cX12_mid 3 (some .int) ∈ BIG := bm 1759 (by decide +kernel) (by decide +kernel)
theorem wm_RL_183 : Cond.methodLink RL 183 yX11_spread ∈ BIG := bm 457 (by decide +kernel) (by decide +kernel)
theorem wi_X11_spread : Cond.instanceMethod yX11_spread ∈ BIG := bm 458 (by decide +kernel) (by decide +kernel)
theorem wse_X11_spread : Cond.selects RX11 yX11_spread yX11_spread ∈ BIG := bm 459 (by decide +kernel) (by decide +kernel)
theorem wc_X11_spread : Cond.code yX11_spread cX11_spread 1 (some .int) ∈ BIG := bm 460 (by decide +kernel) (by decide +kernel)
theorem wm_RL_186 : Cond.methodLink RL 186 yX12_spread ∈ BIG := bm 1760 (by decide +kernel) (by decide +kernel)
theorem wi_X12_spread : Cond.instanceMethod yX12_spread ∈ BIG := bm 1761 (by decide +kernel) (by decide +kernel)
theorem wse_X12_spread : Cond.selects RX12 yX12_spread yX12_spread ∈ BIG := bm 1762 (by decide +kernel) (by decide +kernel)
theorem wc_X12_spread : Cond.code yX12_spread cX12_spread 1 (some .int) ∈ BIG := bm 1763 (by decide +kernel) (by decide +kernel)
theorem wm_RL_187 : Cond.methodLink RL 187 yX11_agreed ∈ BIG := bm 471 (by decide +kernel) (by decide +kernel)
theorem wi_X11_agreed : Cond.instanceMethod yX11_agreed ∈ BIG := bm 472 (by decide +kernel) (by decide +kernel)
theorem wse_X11_agreed : Cond.selects RX11 yX11_agreed yX11_agreed ∈ BIG := bm 473 (by decide +kernel) (by decide +kernel)
theorem wc_X11_agreed : Cond.code yX11_agreed cX11_agreed 3 (some .boolean) ∈ BIG := bm 474 (by decide +kernel) (by decide +kernel)
theorem wm_RL_191 : Cond.methodLink RL 191 yX12_agreed ∈ BIG := bm 1770 (by decide +kernel) (by decide +kernel)
theorem wi_X12_agreed : Cond.instanceMethod yX12_agreed ∈ BIG := bm 1771 (by decide +kernel) (by decide +kernel)
theorem wse_X12_agreed : Cond.selects RX12 yX12_agreed yX12_agreed ∈ BIG := bm 1772 (by decide +kernel) (by decide +kernel)
theorem wc_X12_agreed : Cond.code yX12_agreed cX12_agreed 4 (some .boolean) ∈ BIG := bm 1773 (by decide +kernel) (by decide +kernel)
theorem wm_RL_192 : Cond.methodLink RL 192 yX11_cliques ∈ BIG := bm 475 (by decide +kernel) (by decide +kernel)
theorem wi_X11_cliques : Cond.instanceMethod yX11_cliques ∈ BIG := bm 476 (by decide +kernel) (by decide +kernel)
theorem wse_X11_cliques : Cond.selects RX11 yX11_cliques yX11_cliques ∈ BIG := bm 477 (by decide +kernel) (by decide +kernel)
theorem wc_X11_cliques : Cond.code yX11_cliques cX11_cliques 1 (some .int) ∈ BIG := bm 478 (by decide +kernel) (by decide +kernel)
theorem wm_RL_195 : Cond.methodLink RL 195 yX12_cliques ∈ BIG := bm 1774 (by decide +kernel) (by decide +kernel)
theorem wi_X12_cliques : Cond.instanceMethod yX12_cliques ∈ BIG := bm 1775 (by decide +kernel) (by decide +kernel)
theorem wse_X12_cliques : Cond.selects RX12 yX12_cliques yX12_cliques ∈ BIG := bm 1776 (by decide +kernel) (by decide +kernel)
theorem wc_X12_cliques : Cond.code yX12_cliques cX12_cliques 4 (some .int) ∈ BIG := bm 1777 (by decide +kernel) (by decide +kernel)
theorem wm_RL_198 : Cond.methodLink RL 198 yX12_settles ∈ BIG := bm 1778 (by decide +kernel) (by decide +kernel)
theorem wi_X12_settles : Cond.instanceMethod yX12_settles ∈ BIG := bm 1779 (by decide +kernel) (by decide +kernel)
theorem wse_X12_settles : Cond.selects RX12 yX12_settles yX12_settles ∈ BIG := bm 1780 (by decide +kernel) (by decide +kernel)
theorem wc_X12_settles : Cond.code yX12_settles cX12_settles 4 (some .int) ∈ BIG := bm 1781 (by decide +kernel) (by decide +kernel)
theorem wm_RL_201 : Cond.methodLink RL 201 yX12_widest ∈ BIG := bm 1782 (by decide +kernel) (by decide +kernel)
theorem wi_X12_widest : Cond.instanceMethod yX12_widest ∈ BIG := bm 1783 (by decide +kernel) (by decide +kernel)
theorem wse_X12_widest : Cond.selects RX12 yX12_widest yX12_widest ∈ BIG := bm 1784 (by decide +kernel) (by decide +kernel)
theorem wc_X12_widest : Cond.code yX12_widest cX12_widest 4 (some .int) ∈ BIG := bm 1785 (by decide +kernel) (by decide +kernel)
theorem wm_RL_202 : Cond.methodLink RL 202 yX11_leads ∈ BIG := bm 534 (by decide +kernel) (by decide +kernel)
theorem wi_X11_leads : Cond.instanceMethod yX11_leads ∈ BIG := bm 535 (by decide +kernel) (by decide +kernel)
theorem wse_X11_leads : Cond.selects RX11 yX11_leads yX11_leads ∈ BIG := bm 536 (by decide +kernel) (by decide +kernel)
theorem wc_X11_leads : Cond.code yX11_leads cX11_leads 4 (some .int) ∈ BIG := bm 537 (by decide +kernel) (by decide +kernel)
theorem wm_RL_205 : Cond.methodLink RL 205 yX12_leads ∈ BIG := bm 1786 (by decide +kernel) (by decide +kernel)
theorem wi_X12_leads : Cond.instanceMethod yX12_leads ∈ BIG := bm 1787 (by decide +kernel) (by decide +kernel)
theorem wse_X12_leads : Cond.selects RX12 yX12_leads yX12_leads ∈ BIG := bm 1788 (by decide +kernel) (by decide +kernel)
theorem wc_X12_leads : Cond.code yX12_leads cX12_leads 5 (some .int) ∈ BIG := bm 1789 (by decide +kernel) (by decide +kernel)
theorem wm_RL_206 : Cond.methodLink RL 206 yX11_narrow ∈ BIG := bm 626 (by decide +kernel) (by decide +kernel)
theorem wi_X11_narrow : Cond.instanceMethod yX11_narrow ∈ BIG := bm 627 (by decide +kernel) (by decide +kernel)
theorem wse_X11_narrow : Cond.selects RX11 yX11_narrow yX11_narrow ∈ BIG := bm 628 (by decide +kernel) (by decide +kernel)
theorem wc_X11_narrow : Cond.code yX11_narrow cX11_narrow 4 (some .int) ∈ BIG := bm 629 (by decide +kernel) (by decide +kernel)
theorem wm_RL_209 : Cond.methodLink RL 209 yX12_narrow ∈ BIG := bm 1793 (by decide +kernel) (by decide +kernel)
theorem wi_X12_narrow : Cond.instanceMethod yX12_narrow ∈ BIG := bm 1794 (by decide +kernel) (by decide +kernel)
theorem wse_X12_narrow : Cond.selects RX12 yX12_narrow yX12_narrow ∈ BIG := bm 1795 (by decide +kernel) (by decide +kernel)
theorem wc_X12_narrow : Cond.code yX12_narrow cX12_narrow 3 (some .int) ∈ BIG := bm 1796 (by decide +kernel) (by decide +kernel)
theorem wm_RL_210 : Cond.methodLink RL 210 yX11_tight ∈ BIG := bm 631 (by decide +kernel) (by decide +kernel)
theorem wi_X11_tight : Cond.instanceMethod yX11_tight ∈ BIG := bm 632 (by decide +kernel) (by decide +kernel)
theorem wse_X11_tight : Cond.selects RX11 yX11_tight yX11_tight ∈ BIG := bm 633 (by decide +kernel) (by decide +kernel)
theorem wc_X11_tight : Cond.code yX11_tight cX11_tight 5 (some .int) ∈ BIG := bm 634 (by decide +kernel) (by decide +kernel)
theorem wm_RL_213 : Cond.methodLink RL 213 yX12_tight ∈ BIG := bm 1800 (by decide +kernel) (by decide +kernel)
theorem wi_X12_tight : Cond.instanceMethod yX12_tight ∈ BIG := bm 1801 (by decide +kernel) (by decide +kernel)
theorem wse_X12_tight : Cond.selects RX12 yX12_tight yX12_tight ∈ BIG := bm 1802 (by decide +kernel) (by decide +kernel)
theorem wc_X12_tight : Cond.code yX12_tight cX12_tight 4 (some .int) ∈ BIG := bm 1803 (by decide +kernel) (by decide +kernel)
theorem wm_RL_214 : Cond.methodLink RL 214 yX11_spare ∈ BIG := bm 635 (by decide +kernel) (by decide +kernel)
theorem wi_X11_spare : Cond.instanceMethod yX11_spare ∈ BIG := bm 636 (by decide +kernel) (by decide +kernel)
theorem wse_X11_spare : Cond.selects RX11 yX11_spare yX11_spare ∈ BIG := bm 637 (by decide +kernel) (by decide +kernel)
theorem wc_X11_spare : Cond.code yX11_spare cX11_spare 1 (some .int) ∈ BIG := bm 638 (by decide +kernel) (by decide +kernel)
theorem wm_RL_217 : Cond.methodLink RL 217 yX12_spare ∈ BIG := bm 1804 (by decide +kernel) (by decide +kernel)
theorem wi_X12_spare : Cond.instanceMethod yX12_spare ∈ BIG := bm 1805 (by decide +kernel) (by decide +kernel)
theorem wse_X12_spare : Cond.selects RX12 yX12_spare yX12_spare ∈ BIG := bm 1806 (by decide +kernel) (by decide +kernel)
theorem wc_X12_spare : Cond.code yX12_spare cX12_spare 4 (some .int) ∈ BIG := bm 1807 (by decide +kernel) (by decide +kernel)
theorem wm_RL_218 : Cond.methodLink RL 218 yX11_order ∈ BIG := bm 648 (by decide +kernel) (by decide +kernel)
theorem wi_X11_order : Cond.instanceMethod yX11_order ∈ BIG := bm 649 (by decide +kernel) (by decide +kernel)
theorem wse_X11_order : Cond.selects RX11 yX11_order yX11_order ∈ BIG := bm 650 (by decide +kernel) (by decide +kernel)
theorem wc_X11_order : Cond.code yX11_order cX11_order 2 (some .int) ∈ BIG := bm 651 (by decide +kernel) (by decide +kernel)
theorem wm_RL_221 : Cond.methodLink RL 221 yX12_order ∈ BIG := bm 1812 (by decide +kernel) (by decide +kernel)
theorem wi_X12_order : Cond.instanceMethod yX12_order ∈ BIG := bm 1813 (by decide +kernel) (by decide +kernel)
theorem wse_X12_order : Cond.selects RX12 yX12_order yX12_order ∈ BIG := bm 1814 (by decide +kernel) (by decide +kernel)
theorem wc_X12_order : Cond.code yX12_order cX12_order 9 (some .int) ∈ BIG := bm 1815 (by decide +kernel) (by decide +kernel)
theorem wm_RL_225 : Cond.methodLink RL 225 yX12_read ∈ BIG := bm 1824 (by decide +kernel) (by decide +kernel)
theorem wi_X12_read : Cond.instanceMethod yX12_read ∈ BIG := bm 1825 (by decide +kernel) (by decide +kernel)
theorem wse_X12_read : Cond.selects RX12 yX12_read yX12_read ∈ BIG := bm 1826 (by decide +kernel) (by decide +kernel)
theorem wc_X12_read : Cond.code yX12_read cX12_read 8 (some .int) ∈ BIG := bm 1827 (by decide +kernel) (by decide +kernel)
theorem wm_RL_228 : Cond.methodLink RL 228 yX12_when ∈ BIG := bm 1839 (by decide +kernel) (by decide +kernel)
theorem wi_X12_when : Cond.instanceMethod yX12_when ∈ BIG := bm 1840 (by decide +kernel) (by decide +kernel)
theorem wse_X12_when : Cond.selects RX12 yX12_when yX12_when ∈ BIG := bm 1841 (by decide +kernel) (by decide +kernel)
theorem wc_X12_when : Cond.code yX12_when cX12_when 9 (some .int) ∈ BIG := bm 1842 (by decide +kernel) (by decide +kernel)
theorem wm_RL_231 : Cond.methodLink RL 231 yX12_blame ∈ BIG := bm 1843 (by decide +kernel) (by decide +kernel)
theorem wi_X12_blame : Cond.instanceMethod yX12_blame ∈ BIG := bm 1844 (by decide +kernel) (by decide +kernel)
theorem wse_X12_blame : Cond.selects RX12 yX12_blame yX12_blame ∈ BIG := bm 1845 (by decide +kernel) (by decide +kernel)
theorem wc_X12_blame : Cond.code yX12_blame cX12_blame 4 (some .int) ∈ BIG := bm 1846 (by decide +kernel) (by decide +kernel)
theorem wm_RL_234 : Cond.methodLink RL 234 yX12_guilty ∈ BIG := bm 1858 (by decide +kernel) (by decide +kernel)
theorem wi_X12_guilty : Cond.instanceMethod yX12_guilty ∈ BIG := bm 1859 (by decide +kernel) (by decide +kernel)
theorem wse_X12_guilty : Cond.selects RX12 yX12_guilty yX12_guilty ∈ BIG := bm 1860 (by decide +kernel) (by decide +kernel)
theorem wc_X12_guilty : Cond.code yX12_guilty cX12_guilty 5 (some .int) ∈ BIG := bm 1861 (by decide +kernel) (by decide +kernel)
theorem wm_RL_237 : Cond.methodLink RL 237 yX12_probe ∈ BIG := bm 1862 (by decide +kernel) (by decide +kernel)
theorem wi_X12_probe : Cond.instanceMethod yX12_probe ∈ BIG := bm 1863 (by decide +kernel) (by decide +kernel)
theorem wse_X12_probe : Cond.selects RX12 yX12_probe yX12_probe ∈ BIG := bm 1864 (by decide +kernel) (by decide +kernel)
theorem wc_X12_probe : Cond.code yX12_probe cX12_probe 8 (some .int) ∈ BIG := bm 1865 (by decide +kernel) (by decide +kernel)
theorem wm_RL_240 : Cond.methodLink RL 240 yX12_pairs ∈ BIG := bm 1866 (by decide +kernel) (by decide +kernel)
theorem wi_X12_pairs : Cond.instanceMethod yX12_pairs ∈ BIG := bm 1867 (by decide +kernel) (by decide +kernel)
theorem wse_X12_pairs : Cond.selects RX12 yX12_pairs yX12_pairs ∈ BIG := bm 1868 (by decide +kernel) (by decide +kernel)
theorem wc_X12_pairs : Cond.code yX12_pairs cX12_pairs 7 (some .int) ∈ BIG := bm 1869 (by decide +kernel) (by decide +kernel)
theorem wm_RL_243 : Cond.methodLink RL 243 yX12_share ∈ BIG := bm 1878 (by decide +kernel) (by decide +kernel)
theorem wi_X12_share : Cond.instanceMethod yX12_share ∈ BIG := bm 1879 (by decide +kernel) (by decide +kernel)
theorem wse_X12_share : Cond.selects RX12 yX12_share yX12_share ∈ BIG := bm 1880 (by decide +kernel) (by decide +kernel)
theorem wc_X12_share : Cond.code yX12_share cX12_share 6 (some .int) ∈ BIG := bm 1881 (by decide +kernel) (by decide +kernel)
theorem wm_RL_246 : Cond.methodLink RL 246 yX12_rests ∈ BIG := bm 1882 (by decide +kernel) (by decide +kernel)
theorem wi_X12_rests : Cond.instanceMethod yX12_rests ∈ BIG := bm 1883 (by decide +kernel) (by decide +kernel)
theorem wse_X12_rests : Cond.selects RX12 yX12_rests yX12_rests ∈ BIG := bm 1884 (by decide +kernel) (by decide +kernel)
theorem wc_X12_rests : Cond.code yX12_rests cX12_rests 6 (some .int) ∈ BIG := bm 1885 (by decide +kernel) (by decide +kernel)
theorem wm_RL_249 : Cond.methodLink RL 249 yX12_odds ∈ BIG := bm 1893 (by decide +kernel) (by decide +kernel)
theorem wi_X12_odds : Cond.instanceMethod yX12_odds ∈ BIG := bm 1894 (by decide +kernel) (by decide +kernel)
theorem wse_X12_odds : Cond.selects RX12 yX12_odds yX12_odds ∈ BIG := bm 1895 (by decide +kernel) (by decide +kernel)
theorem wc_X12_odds : Cond.code yX12_odds cX12_odds 13 (some .int) ∈ BIG := bm 1896 (by decide +kernel) (by decide +kernel)
theorem wm_RL_252 : Cond.methodLink RL 252 yX12_most ∈ BIG := bm 1899 (by decide +kernel) (by decide +kernel)
theorem wi_X12_most : Cond.instanceMethod yX12_most ∈ BIG := bm 1900 (by decide +kernel) (by decide +kernel)
theorem wse_X12_most : Cond.selects RX12 yX12_most yX12_most ∈ BIG := bm 1901 (by decide +kernel) (by decide +kernel)
theorem wc_X12_most : Cond.code yX12_most cX12_most 4 (some .int) ∈ BIG := bm 1902 (by decide +kernel) (by decide +kernel)
theorem wm_RL_255 : Cond.methodLink RL 255 yX12_byState ∈ BIG := bm 1907 (by decide +kernel) (by decide +kernel)
theorem wi_X12_byState : Cond.instanceMethod yX12_byState ∈ BIG := bm 1908 (by decide +kernel) (by decide +kernel)
theorem wse_X12_byState : Cond.selects RX12 yX12_byState yX12_byState ∈ BIG := bm 1909 (by decide +kernel) (by decide +kernel)
theorem wc_X12_byState : Cond.code yX12_byState cX12_byState 2 (some .int) ∈ BIG := bm 1910 (by decide +kernel) (by decide +kernel)
theorem wm_RL_256 : Cond.methodLink RL 256 yX11_twins ∈ BIG := bm 660 (by decide +kernel) (by decide +kernel)
theorem wi_X11_twins : Cond.instanceMethod yX11_twins ∈ BIG := bm 661 (by decide +kernel) (by decide +kernel)
theorem wse_X11_twins : Cond.selects RX11 yX11_twins yX11_twins ∈ BIG := bm 662 (by decide +kernel) (by decide +kernel)
theorem wc_X11_twins : Cond.code yX11_twins cX11_twins 5 (some .int) ∈ BIG := bm 663 (by decide +kernel) (by decide +kernel)
theorem wm_RL_259 : Cond.methodLink RL 259 yX12_twins ∈ BIG := bm 1911 (by decide +kernel) (by decide +kernel)
theorem wi_X12_twins : Cond.instanceMethod yX12_twins ∈ BIG := bm 1912 (by decide +kernel) (by decide +kernel)
theorem wse_X12_twins : Cond.selects RX12 yX12_twins yX12_twins ∈ BIG := bm 1913 (by decide +kernel) (by decide +kernel)
theorem wc_X12_twins : Cond.code yX12_twins cX12_twins 4 (some .int) ∈ BIG := bm 1914 (by decide +kernel) (by decide +kernel)
theorem wm_RL_263 : Cond.methodLink RL 263 yX12_ahead ∈ BIG := bm 1915 (by decide +kernel) (by decide +kernel)
theorem wi_X12_ahead : Cond.instanceMethod yX12_ahead ∈ BIG := bm 1916 (by decide +kernel) (by decide +kernel)
theorem wse_X12_ahead : Cond.selects RX12 yX12_ahead yX12_ahead ∈ BIG := bm 1917 (by decide +kernel) (by decide +kernel)
theorem wc_X12_ahead : Cond.code yX12_ahead cX12_ahead 6 (some .int) ∈ BIG := bm 1918 (by decide +kernel) (by decide +kernel)
theorem wm_RL_266 : Cond.methodLink RL 266 yX12_trial ∈ BIG := bm 1919 (by decide +kernel) (by decide +kernel)
theorem wi_X12_trial : Cond.instanceMethod yX12_trial ∈ BIG := bm 1920 (by decide +kernel) (by decide +kernel)
theorem wse_X12_trial : Cond.selects RX12 yX12_trial yX12_trial ∈ BIG := bm 1921 (by decide +kernel) (by decide +kernel)
theorem wc_X12_trial : Cond.code yX12_trial cX12_trial 5 (some .int) ∈ BIG := bm 1922 (by decide +kernel) (by decide +kernel)
theorem wm_RL_269 : Cond.methodLink RL 269 yX12_span ∈ BIG := bm 1923 (by decide +kernel) (by decide +kernel)
theorem wi_X12_span : Cond.instanceMethod yX12_span ∈ BIG := bm 1924 (by decide +kernel) (by decide +kernel)
theorem wse_X12_span : Cond.selects RX12 yX12_span yX12_span ∈ BIG := bm 1925 (by decide +kernel) (by decide +kernel)
theorem wc_X12_span : Cond.code yX12_span cX12_span 7 (some .int) ∈ BIG := bm 1926 (by decide +kernel) (by decide +kernel)
theorem wm_RL_272 : Cond.methodLink RL 272 yX12_led ∈ BIG := bm 1927 (by decide +kernel) (by decide +kernel)
theorem wi_X12_led : Cond.instanceMethod yX12_led ∈ BIG := bm 1928 (by decide +kernel) (by decide +kernel)
theorem wse_X12_led : Cond.selects RX12 yX12_led yX12_led ∈ BIG := bm 1929 (by decide +kernel) (by decide +kernel)
theorem wc_X12_led : Cond.code yX12_led cX12_led 6 (some .int) ∈ BIG := bm 1930 (by decide +kernel) (by decide +kernel)
theorem wm_RL_275 : Cond.methodLink RL 275 yX12_log ∈ BIG := bm 1935 (by decide +kernel) (by decide +kernel)
theorem wi_X12_log : Cond.instanceMethod yX12_log ∈ BIG := bm 1936 (by decide +kernel) (by decide +kernel)
theorem wse_X12_log : Cond.selects RX12 yX12_log yX12_log ∈ BIG := bm 1937 (by decide +kernel) (by decide +kernel)
theorem wc_X12_log : Cond.code yX12_log cX12_log 3 (some .int) ∈ BIG := bm 1938 (by decide +kernel) (by decide +kernel)
theorem wm_RL_276 : Cond.methodLink RL 276 yX11_seed ∈ BIG := bm 664 (by decide +kernel) (by decide +kernel)
theorem wi_X11_seed : Cond.instanceMethod yX11_seed ∈ BIG := bm 665 (by decide +kernel) (by decide +kernel)
theorem wse_X11_seed : Cond.selects RX11 yX11_seed yX11_seed ∈ BIG := bm 666 (by decide +kernel) (by decide +kernel)
theorem wc_X11_seed : Cond.code yX11_seed cX11_seed 3 (some .int) ∈ BIG := bm 667 (by decide +kernel) (by decide +kernel)
theorem wm_RL_279 : Cond.methodLink RL 279 yX12_seed ∈ BIG := bm 1939 (by decide +kernel) (by decide +kernel)
theorem wi_X12_seed : Cond.instanceMethod yX12_seed ∈ BIG := bm 1940 (by decide +kernel) (by decide +kernel)
theorem wse_X12_seed : Cond.selects RX12 yX12_seed yX12_seed ∈ BIG := bm 1941 (by decide +kernel) (by decide +kernel)
theorem wc_X12_seed : Cond.code yX12_seed cX12_seed 3 (some .int) ∈ BIG := bm 1942 (by decide +kernel) (by decide +kernel)
theorem wm_RL_280 : Cond.methodLink RL 280 yX11_undo ∈ BIG := bm 668 (by decide +kernel) (by decide +kernel)
theorem wi_X11_undo : Cond.instanceMethod yX11_undo ∈ BIG := bm 669 (by decide +kernel) (by decide +kernel)
theorem wse_X11_undo : Cond.selects RX11 yX11_undo yX11_undo ∈ BIG := bm 670 (by decide +kernel) (by decide +kernel)
theorem wc_X11_undo : Cond.code yX11_undo cX11_undo 1 (some .boolean) ∈ BIG := bm 671 (by decide +kernel) (by decide +kernel)
theorem wm_RL_283 : Cond.methodLink RL 283 yX12_undo ∈ BIG := bm 1943 (by decide +kernel) (by decide +kernel)
theorem wi_X12_undo : Cond.instanceMethod yX12_undo ∈ BIG := bm 1944 (by decide +kernel) (by decide +kernel)
theorem wse_X12_undo : Cond.selects RX12 yX12_undo yX12_undo ∈ BIG := bm 1945 (by decide +kernel) (by decide +kernel)
theorem wc_X12_undo : Cond.code yX12_undo cX12_undo 2 (some .boolean) ∈ BIG := bm 1946 (by decide +kernel) (by decide +kernel)
theorem wm_RL_284 : Cond.methodLink RL 284 yX11_image ∈ BIG := bm 677 (by decide +kernel) (by decide +kernel)
theorem wi_X11_image : Cond.instanceMethod yX11_image ∈ BIG := bm 678 (by decide +kernel) (by decide +kernel)
theorem wse_X11_image : Cond.selects RX11 yX11_image yX11_image ∈ BIG := bm 679 (by decide +kernel) (by decide +kernel)
theorem wc_X11_image : Cond.code yX11_image cX11_image 1 none ∈ BIG := bm 680 (by decide +kernel) (by decide +kernel)
theorem wm_RL_287 : Cond.methodLink RL 287 yX12_image ∈ BIG := bm 1947 (by decide +kernel) (by decide +kernel)
theorem wi_X12_image : Cond.instanceMethod yX12_image ∈ BIG := bm 1948 (by decide +kernel) (by decide +kernel)
theorem wse_X12_image : Cond.selects RX12 yX12_image yX12_image ∈ BIG := bm 1949 (by decide +kernel) (by decide +kernel)
theorem wc_X12_image : Cond.code yX12_image cX12_image 2 none ∈ BIG := bm 1950 (by decide +kernel) (by decide +kernel)
theorem wm_RL_288 : Cond.methodLink RL 288 yX11_back ∈ BIG := bm 681 (by decide +kernel) (by decide +kernel)
theorem wi_X11_back : Cond.instanceMethod yX11_back ∈ BIG := bm 682 (by decide +kernel) (by decide +kernel)
theorem wse_X11_back : Cond.selects RX11 yX11_back yX11_back ∈ BIG := bm 683 (by decide +kernel) (by decide +kernel)
theorem wc_X11_back : Cond.code yX11_back cX11_back 1 (some .boolean) ∈ BIG := bm 684 (by decide +kernel) (by decide +kernel)
theorem wm_RL_291 : Cond.methodLink RL 291 yX12_back ∈ BIG := bm 1951 (by decide +kernel) (by decide +kernel)
theorem wi_X12_back : Cond.instanceMethod yX12_back ∈ BIG := bm 1952 (by decide +kernel) (by decide +kernel)
theorem wse_X12_back : Cond.selects RX12 yX12_back yX12_back ∈ BIG := bm 1953 (by decide +kernel) (by decide +kernel)
theorem wc_X12_back : Cond.code yX12_back cX12_back 2 (some .boolean) ∈ BIG := bm 1954 (by decide +kernel) (by decide +kernel)
theorem wm_RL_292 : Cond.methodLink RL 292 yX11_count ∈ BIG := bm 689 (by decide +kernel) (by decide +kernel)
theorem wi_X11_count : Cond.instanceMethod yX11_count ∈ BIG := bm 690 (by decide +kernel) (by decide +kernel)
theorem wse_X11_count : Cond.selects RX11 yX11_count yX11_count ∈ BIG := bm 691 (by decide +kernel) (by decide +kernel)
theorem wc_X11_count : Cond.code yX11_count cX11_count 2 (some .int) ∈ BIG := bm 692 (by decide +kernel) (by decide +kernel)
theorem wm_RL_295 : Cond.methodLink RL 295 yX12_count ∈ BIG := bm 1955 (by decide +kernel) (by decide +kernel)
theorem wi_X12_count : Cond.instanceMethod yX12_count ∈ BIG := bm 1956 (by decide +kernel) (by decide +kernel)
theorem wse_X12_count : Cond.selects RX12 yX12_count yX12_count ∈ BIG := bm 1957 (by decide +kernel) (by decide +kernel)
theorem wc_X12_count : Cond.code yX12_count cX12_count 2 (some .int) ∈ BIG := bm 1958 (by decide +kernel) (by decide +kernel)
theorem hdL_cluster : yL_cluster.cls ≠ "java/lang/invoke/MethodHandle" ∧ yL_cluster.cls ≠ "java/lang/invoke/VarHandle" ∧ (parseMethodDescriptor yL_cluster.desc).map (fun d => d.parameters.length) = some 2 := by decide +kernel
theorem hdL_node : yL_node.cls ≠ "java/lang/invoke/MethodHandle" ∧ yL_node.cls ≠ "java/lang/invoke/VarHandle" ∧ (parseMethodDescriptor yL_node.desc).map (fun d => d.parameters.length) = some 4 := by decide +kernel
theorem hdL_shift : yL_shift.cls ≠ "java/lang/invoke/MethodHandle" ∧ yL_shift.cls ≠ "java/lang/invoke/VarHandle" ∧ (parseMethodDescriptor yL_shift.desc).map (fun d => d.parameters.length) = some 4 := by decide +kernel
theorem hdL_hears : yL_hears.cls ≠ "java/lang/invoke/MethodHandle" ∧ yL_hears.cls ≠ "java/lang/invoke/VarHandle" ∧ (parseMethodDescriptor yL_hears.desc).map (fun d => d.parameters.length) = some 4 := by decide +kernel
theorem hdL_rounds : yL_rounds.cls ≠ "java/lang/invoke/MethodHandle" ∧ yL_rounds.cls ≠ "java/lang/invoke/VarHandle" ∧ (parseMethodDescriptor yL_rounds.desc).map (fun d => d.parameters.length) = some 3 := by decide +kernel
theorem hdL_add : yL_add.cls ≠ "java/lang/invoke/MethodHandle" ∧ yL_add.cls ≠ "java/lang/invoke/VarHandle" ∧ (parseMethodDescriptor yL_add.desc).map (fun d => d.parameters.length) = some 3 := by decide +kernel
theorem hdL_power : yL_power.cls ≠ "java/lang/invoke/MethodHandle" ∧ yL_power.cls ≠ "java/lang/invoke/VarHandle" ∧ (parseMethodDescriptor yL_power.desc).map (fun d => d.parameters.length) = some 4 := by decide +kernel
theorem hdL_spoil : yL_spoil.cls ≠ "java/lang/invoke/MethodHandle" ∧ yL_spoil.cls ≠ "java/lang/invoke/VarHandle" ∧ (parseMethodDescriptor yL_spoil.desc).map (fun d => d.parameters.length) = some 5 := by decide +kernel
theorem hdL_set : yL_set.cls ≠ "java/lang/invoke/MethodHandle" ∧ yL_set.cls ≠ "java/lang/invoke/VarHandle" ∧ (parseMethodDescriptor yL_set.desc).map (fun d => d.parameters.length) = some 4 := by decide +kernel
theorem hdL_tune : yL_tune.cls ≠ "java/lang/invoke/MethodHandle" ∧ yL_tune.cls ≠ "java/lang/invoke/VarHandle" ∧ (parseMethodDescriptor yL_tune.desc).map (fun d => d.parameters.length) = some 4 := by decide +kernel
theorem hdL_mid : yL_mid.cls ≠ "java/lang/invoke/MethodHandle" ∧ yL_mid.cls ≠ "java/lang/invoke/VarHandle" ∧ (parseMethodDescriptor yL_mid.desc).map (fun d => d.parameters.length) = some 2 := by decide +kernel
theorem hdL_settles : yL_settles.cls ≠ "java/lang/invoke/MethodHandle" ∧ yL_settles.cls ≠ "java/lang/invoke/VarHandle" ∧ (parseMethodDescriptor yL_settles.desc).map (fun d => d.parameters.length) = some 3 := by decide +kernel
theorem hdL_widest : yL_widest.cls ≠ "java/lang/invoke/MethodHandle" ∧ yL_widest.cls ≠ "java/lang/invoke/VarHandle" ∧ (parseMethodDescriptor yL_widest.desc).map (fun d => d.parameters.length) = some 3 := by decide +kernel
theorem hdL_read : yL_read.cls ≠ "java/lang/invoke/MethodHandle" ∧ yL_read.cls ≠ "java/lang/invoke/VarHandle" ∧ (parseMethodDescriptor yL_read.desc).map (fun d => d.parameters.length) = some 3 := by decide +kernel
theorem hdL_when : yL_when.cls ≠ "java/lang/invoke/MethodHandle" ∧ yL_when.cls ≠ "java/lang/invoke/VarHandle" ∧ (parseMethodDescriptor yL_when.desc).map (fun d => d.parameters.length) = some 2 := by decide +kernel
theorem hdL_blame : yL_blame.cls ≠ "java/lang/invoke/MethodHandle" ∧ yL_blame.cls ≠ "java/lang/invoke/VarHandle" ∧ (parseMethodDescriptor yL_blame.desc).map (fun d => d.parameters.length) = some 2 := by decide +kernel
theorem hdL_guilty : yL_guilty.cls ≠ "java/lang/invoke/MethodHandle" ∧ yL_guilty.cls ≠ "java/lang/invoke/VarHandle" ∧ (parseMethodDescriptor yL_guilty.desc).map (fun d => d.parameters.length) = some 2 := by decide +kernel
theorem hdL_probe : yL_probe.cls ≠ "java/lang/invoke/MethodHandle" ∧ yL_probe.cls ≠ "java/lang/invoke/VarHandle" ∧ (parseMethodDescriptor yL_probe.desc).map (fun d => d.parameters.length) = some 2 := by decide +kernel
theorem hdL_pairs : yL_pairs.cls ≠ "java/lang/invoke/MethodHandle" ∧ yL_pairs.cls ≠ "java/lang/invoke/VarHandle" ∧ (parseMethodDescriptor yL_pairs.desc).map (fun d => d.parameters.length) = some 3 := by decide +kernel
theorem hdL_share : yL_share.cls ≠ "java/lang/invoke/MethodHandle" ∧ yL_share.cls ≠ "java/lang/invoke/VarHandle" ∧ (parseMethodDescriptor yL_share.desc).map (fun d => d.parameters.length) = some 4 := by decide +kernel
theorem hdL_rests : yL_rests.cls ≠ "java/lang/invoke/MethodHandle" ∧ yL_rests.cls ≠ "java/lang/invoke/VarHandle" ∧ (parseMethodDescriptor yL_rests.desc).map (fun d => d.parameters.length) = some 3 := by decide +kernel
theorem hdL_odds : yL_odds.cls ≠ "java/lang/invoke/MethodHandle" ∧ yL_odds.cls ≠ "java/lang/invoke/VarHandle" ∧ (parseMethodDescriptor yL_odds.desc).map (fun d => d.parameters.length) = some 5 := by decide +kernel
theorem hdL_most : yL_most.cls ≠ "java/lang/invoke/MethodHandle" ∧ yL_most.cls ≠ "java/lang/invoke/VarHandle" ∧ (parseMethodDescriptor yL_most.desc).map (fun d => d.parameters.length) = some 3 := by decide +kernel
theorem hdL_byState : yL_byState.cls ≠ "java/lang/invoke/MethodHandle" ∧ yL_byState.cls ≠ "java/lang/invoke/VarHandle" ∧ (parseMethodDescriptor yL_byState.desc).map (fun d => d.parameters.length) = some 3 := by decide +kernel
theorem hdL_ahead : yL_ahead.cls ≠ "java/lang/invoke/MethodHandle" ∧ yL_ahead.cls ≠ "java/lang/invoke/VarHandle" ∧ (parseMethodDescriptor yL_ahead.desc).map (fun d => d.parameters.length) = some 5 := by decide +kernel
theorem hdL_trial : yL_trial.cls ≠ "java/lang/invoke/MethodHandle" ∧ yL_trial.cls ≠ "java/lang/invoke/VarHandle" ∧ (parseMethodDescriptor yL_trial.desc).map (fun d => d.parameters.length) = some 4 := by decide +kernel
theorem hdL_span : yL_span.cls ≠ "java/lang/invoke/MethodHandle" ∧ yL_span.cls ≠ "java/lang/invoke/VarHandle" ∧ (parseMethodDescriptor yL_span.desc).map (fun d => d.parameters.length) = some 4 := by decide +kernel
theorem hdL_led : yL_led.cls ≠ "java/lang/invoke/MethodHandle" ∧ yL_led.cls ≠ "java/lang/invoke/VarHandle" ∧ (parseMethodDescriptor yL_led.desc).map (fun d => d.parameters.length) = some 4 := by decide +kernel
theorem hdL_log : yL_log.cls ≠ "java/lang/invoke/MethodHandle" ∧ yL_log.cls ≠ "java/lang/invoke/VarHandle" ∧ (parseMethodDescriptor yL_log.desc).map (fun d => d.parameters.length) = some 4 := by decide +kernel
theorem dL_law__0 : decode cL_law_ 0 = .ok (.new 8, 3) := by decide +kernel
theorem dL_law__3 : decode cL_law_ 3 = .ok (.dup, 1) := by decide +kernel
theorem dL_law__4 : decode cL_law_ 4 = .ok (.invokespecial 118, 3) := by decide +kernel
theorem dL_law__7 : decode cL_law_ 7 = .ok (.astore_n 1, 1) := by decide +kernel
theorem dL_law__8 : decode cL_law_ 8 = .ok (.new 119, 3) := by decide +kernel
theorem dL_law__11 : decode cL_law_ 11 = .ok (.dup, 1) := by decide +kernel
theorem dL_law__12 : decode cL_law_ 12 = .ok (.invokespecial 121, 3) := by decide +kernel
theorem dL_law__15 : decode cL_law_ 15 = .ok (.astore_n 2, 1) := by decide +kernel
theorem dL_law__16 : decode cL_law_ 16 = .ok (.iconst 1, 1) := by decide +kernel
theorem dL_law__17 : decode cL_law_ 17 = .ok (.newarray .long, 2) := by decide +kernel
theorem dL_law__19 : decode cL_law_ 19 = .ok (.astore_n 3, 1) := by decide +kernel
theorem dL_law__20 : decode cL_law_ 20 = .ok (.iconst 0, 1) := by decide +kernel
theorem dL_law__21 : decode cL_law_ 21 = .ok (.istore 4, 2) := by decide +kernel
theorem dL_law__23 : decode cL_law_ 23 = .ok (.iload 4, 2) := by decide +kernel
theorem dL_law__25 : decode cL_law_ 25 = .ok (.aload_n 0, 1) := by decide +kernel
theorem dL_law__26 : decode cL_law_ 26 = .ok (.arraylength, 1) := by decide +kernel
theorem dL_law__27 : decode cL_law_ 27 = .ok (.bipush 6, 2) := by decide +kernel
theorem dL_law__29 : decode cL_law_ 29 = .ok (.isub, 1) := by decide +kernel
theorem dL_law__30 : decode cL_law_ 30 = .ok (.if_icmp .gt 2494, 3) := by decide +kernel
theorem dL_law__33 : decode cL_law_ 33 = .ok (.aload_n 0, 1) := by decide +kernel
theorem dL_law__34 : decode cL_law_ 34 = .ok (.iload 4, 2) := by decide +kernel
theorem dL_law__36 : decode cL_law_ 36 = .ok (.iaload, 1) := by decide +kernel
theorem dL_law__37 : decode cL_law_ 37 = .ok (.bipush 63, 2) := by decide +kernel
theorem dL_law__39 : decode cL_law_ 39 = .ok (.iand, 1) := by decide +kernel
theorem dL_law__40 : decode cL_law_ 40 = .ok (.tableswitch 2478 0 46 #[204, 277, 302, 346, 390, 403, 471, 539, 614, 670, 726, 810, 890, 958, 1042, 1086, 1099, 1112, 1125, 1181, 1237, 1278, 1291, 1304, 1317, 1342, 1414, 1458, 1502, 1546, 1590, 1646, 1714, 1770, 1850, 1906, 1962, 1975, 2071, 2155, 2239, 2323, 2391, 2416, 2429, 2440, 2453], 204) := by decide +kernel
theorem dL_law__244 : decode cL_law_ 244 = .ok (.aload_n 1, 1) := by decide +kernel
theorem dL_law__245 : decode cL_law_ 245 = .ok (.aload_n 0, 1) := by decide +kernel
theorem dL_law__246 : decode cL_law_ 246 = .ok (.iload 4, 2) := by decide +kernel
theorem dL_law__248 : decode cL_law_ 248 = .ok (.iconst 1, 1) := by decide +kernel
theorem dL_law__249 : decode cL_law_ 249 = .ok (.iadd, 1) := by decide +kernel
theorem dL_law__250 : decode cL_law_ 250 = .ok (.iaload, 1) := by decide +kernel
theorem dL_law__251 : decode cL_law_ 251 = .ok (.aload_n 0, 1) := by decide +kernel
theorem dL_law__252 : decode cL_law_ 252 = .ok (.iload 4, 2) := by decide +kernel
theorem dL_law__254 : decode cL_law_ 254 = .ok (.iconst 2, 1) := by decide +kernel
theorem dL_law__255 : decode cL_law_ 255 = .ok (.iadd, 1) := by decide +kernel
theorem dL_law__256 : decode cL_law_ 256 = .ok (.iaload, 1) := by decide +kernel
theorem dL_law__257 : decode cL_law_ 257 = .ok (.aload_n 0, 1) := by decide +kernel
theorem dL_law__258 : decode cL_law_ 258 = .ok (.iload 4, 2) := by decide +kernel
theorem dL_law__260 : decode cL_law_ 260 = .ok (.iconst 3, 1) := by decide +kernel
theorem dL_law__261 : decode cL_law_ 261 = .ok (.iadd, 1) := by decide +kernel
theorem dL_law__262 : decode cL_law_ 262 = .ok (.iaload, 1) := by decide +kernel
theorem dL_law__263 : decode cL_law_ 263 = .ok (.aload_n 0, 1) := by decide +kernel
theorem dL_law__264 : decode cL_law_ 264 = .ok (.iload 4, 2) := by decide +kernel
theorem dL_law__266 : decode cL_law_ 266 = .ok (.iconst 4, 1) := by decide +kernel
theorem dL_law__267 : decode cL_law_ 267 = .ok (.iadd, 1) := by decide +kernel
theorem dL_law__268 : decode cL_law_ 268 = .ok (.iaload, 1) := by decide +kernel
theorem dL_law__269 : decode cL_law_ 269 = .ok (.aload_n 0, 1) := by decide +kernel
theorem dL_law__270 : decode cL_law_ 270 = .ok (.iload 4, 2) := by decide +kernel
theorem dL_law__272 : decode cL_law_ 272 = .ok (.iconst 5, 1) := by decide +kernel
theorem dL_law__273 : decode cL_law_ 273 = .ok (.iadd, 1) := by decide +kernel
theorem dL_law__274 : decode cL_law_ 274 = .ok (.iaload, 1) := by decide +kernel
theorem dL_law__275 : decode cL_law_ 275 = .ok (.invokevirtual 122, 3) := by decide +kernel
theorem dL_law__278 : decode cL_law_ 278 = .ok (.aload_n 2, 1) := by decide +kernel
theorem dL_law__279 : decode cL_law_ 279 = .ok (.aload_n 0, 1) := by decide +kernel
theorem dL_law__280 : decode cL_law_ 280 = .ok (.iload 4, 2) := by decide +kernel
theorem dL_law__282 : decode cL_law_ 282 = .ok (.iconst 1, 1) := by decide +kernel
theorem dL_law__283 : decode cL_law_ 283 = .ok (.iadd, 1) := by decide +kernel
theorem dL_law__284 : decode cL_law_ 284 = .ok (.iaload, 1) := by decide +kernel
theorem dL_law__285 : decode cL_law_ 285 = .ok (.aload_n 0, 1) := by decide +kernel
theorem dL_law__286 : decode cL_law_ 286 = .ok (.iload 4, 2) := by decide +kernel
theorem dL_law__288 : decode cL_law_ 288 = .ok (.iconst 2, 1) := by decide +kernel
theorem dL_law__289 : decode cL_law_ 289 = .ok (.iadd, 1) := by decide +kernel
theorem dL_law__290 : decode cL_law_ 290 = .ok (.iaload, 1) := by decide +kernel
theorem dL_law__291 : decode cL_law_ 291 = .ok (.aload_n 0, 1) := by decide +kernel
theorem dL_law__292 : decode cL_law_ 292 = .ok (.iload 4, 2) := by decide +kernel
theorem dL_law__294 : decode cL_law_ 294 = .ok (.iconst 3, 1) := by decide +kernel
theorem dL_law__295 : decode cL_law_ 295 = .ok (.iadd, 1) := by decide +kernel
theorem dL_law__296 : decode cL_law_ 296 = .ok (.iaload, 1) := by decide +kernel
theorem dL_law__297 : decode cL_law_ 297 = .ok (.aload_n 0, 1) := by decide +kernel
theorem dL_law__298 : decode cL_law_ 298 = .ok (.iload 4, 2) := by decide +kernel
theorem dL_law__300 : decode cL_law_ 300 = .ok (.iconst 4, 1) := by decide +kernel
theorem dL_law__301 : decode cL_law_ 301 = .ok (.iadd, 1) := by decide +kernel
theorem dL_law__302 : decode cL_law_ 302 = .ok (.iaload, 1) := by decide +kernel
theorem dL_law__303 : decode cL_law_ 303 = .ok (.aload_n 0, 1) := by decide +kernel
theorem dL_law__304 : decode cL_law_ 304 = .ok (.iload 4, 2) := by decide +kernel
theorem dL_law__306 : decode cL_law_ 306 = .ok (.iconst 5, 1) := by decide +kernel
theorem dL_law__307 : decode cL_law_ 307 = .ok (.iadd, 1) := by decide +kernel
theorem dL_law__308 : decode cL_law_ 308 = .ok (.iaload, 1) := by decide +kernel
theorem dL_law__309 : decode cL_law_ 309 = .ok (.invokevirtual 126, 3) := by decide +kernel
theorem dL_law__312 : decode cL_law_ 312 = .ok (.if_icmp .eq 2206, 3) := by decide +kernel
theorem dL_law__315 : decode cL_law_ 315 = .ok (.iconst 0, 1) := by decide +kernel
theorem dL_law__316 : decode cL_law_ 316 = .ok (.ireturn, 1) := by decide +kernel
theorem dL_law__317 : decode cL_law_ 317 = .ok (.aload_n 1, 1) := by decide +kernel
theorem dL_law__318 : decode cL_law_ 318 = .ok (.aload_n 0, 1) := by decide +kernel
theorem dL_law__319 : decode cL_law_ 319 = .ok (.iload 4, 2) := by decide +kernel
theorem dL_law__321 : decode cL_law_ 321 = .ok (.iconst 1, 1) := by decide +kernel
theorem dL_law__322 : decode cL_law_ 322 = .ok (.iadd, 1) := by decide +kernel
theorem dL_law__323 : decode cL_law_ 323 = .ok (.iaload, 1) := by decide +kernel
theorem dL_law__324 : decode cL_law_ 324 = .ok (.invokevirtual 127, 3) := by decide +kernel
theorem dL_law__327 : decode cL_law_ 327 = .ok (.aload_n 2, 1) := by decide +kernel
theorem dL_law__328 : decode cL_law_ 328 = .ok (.aload_n 0, 1) := by decide +kernel
theorem dL_law__329 : decode cL_law_ 329 = .ok (.iload 4, 2) := by decide +kernel
theorem dL_law__331 : decode cL_law_ 331 = .ok (.iconst 1, 1) := by decide +kernel
theorem dL_law__332 : decode cL_law_ 332 = .ok (.iadd, 1) := by decide +kernel
theorem dL_law__333 : decode cL_law_ 333 = .ok (.iaload, 1) := by decide +kernel
theorem dL_law__334 : decode cL_law_ 334 = .ok (.invokevirtual 131, 3) := by decide +kernel
theorem dL_law__337 : decode cL_law_ 337 = .ok (.if_icmp .eq 2181, 3) := by decide +kernel
theorem dL_law__340 : decode cL_law_ 340 = .ok (.iconst 0, 1) := by decide +kernel
theorem dL_law__341 : decode cL_law_ 341 = .ok (.ireturn, 1) := by decide +kernel
theorem dL_law__342 : decode cL_law_ 342 = .ok (.aload_n 1, 1) := by decide +kernel
theorem dL_law__343 : decode cL_law_ 343 = .ok (.aload_n 3, 1) := by decide +kernel
theorem dL_law__344 : decode cL_law_ 344 = .ok (.invokestatic 132, 3) := by decide +kernel
theorem dL_law__347 : decode cL_law_ 347 = .ok (.istore 5, 2) := by decide +kernel
theorem dL_law__349 : decode cL_law_ 349 = .ok (.aload_n 2, 1) := by decide +kernel
theorem dL_law__350 : decode cL_law_ 350 = .ok (.invokevirtual 137, 3) := by decide +kernel
theorem dL_law__353 : decode cL_law_ 353 = .ok (.istore 6, 2) := by decide +kernel
theorem dL_law__355 : decode cL_law_ 355 = .ok (.aload_n 2, 1) := by decide +kernel
theorem dL_law__356 : decode cL_law_ 356 = .ok (.invokevirtual 138, 3) := by decide +kernel
theorem dL_law__359 : decode cL_law_ 359 = .ok (.iload 5, 2) := by decide +kernel
theorem dL_law__361 : decode cL_law_ 361 = .ok (.if_icmp .eq 5, 3) := by decide +kernel
theorem dL_law__364 : decode cL_law_ 364 = .ok (.iconst 0, 1) := by decide +kernel
theorem dL_law__365 : decode cL_law_ 365 = .ok (.ireturn, 1) := by decide +kernel
theorem dL_law__366 : decode cL_law_ 366 = .ok (.iload 5, 2) := by decide +kernel
theorem dL_law__368 : decode cL_law_ 368 = .ok (.ifCond .ne 15, 3) := by decide +kernel
theorem dL_law__371 : decode cL_law_ 371 = .ok (.aload_n 3, 1) := by decide +kernel
theorem dL_law__372 : decode cL_law_ 372 = .ok (.iconst 0, 1) := by decide +kernel
theorem dL_law__373 : decode cL_law_ 373 = .ok (.laload, 1) := by decide +kernel
theorem dL_law__374 : decode cL_law_ 374 = .ok (.iload 6, 2) := by decide +kernel
theorem dL_law__376 : decode cL_law_ 376 = .ok (.i2l, 1) := by decide +kernel
theorem dL_law__377 : decode cL_law_ 377 = .ok (.lcmp, 1) := by decide +kernel
theorem dL_law__378 : decode cL_law_ 378 = .ok (.ifCond .eq 5, 3) := by decide +kernel
theorem dL_law__381 : decode cL_law_ 381 = .ok (.iconst 0, 1) := by decide +kernel
theorem dL_law__382 : decode cL_law_ 382 = .ok (.ireturn, 1) := by decide +kernel
theorem dL_law__383 : decode cL_law_ 383 = .ok (.goto 2135, 3) := by decide +kernel
theorem dL_law__386 : decode cL_law_ 386 = .ok (.aload_n 1, 1) := by decide +kernel
theorem dL_law__387 : decode cL_law_ 387 = .ok (.aload_n 3, 1) := by decide +kernel
theorem dL_law__388 : decode cL_law_ 388 = .ok (.invokestatic 141, 3) := by decide +kernel
theorem dL_law__391 : decode cL_law_ 391 = .ok (.istore 5, 2) := by decide +kernel
theorem dL_law__393 : decode cL_law_ 393 = .ok (.aload_n 2, 1) := by decide +kernel
theorem dL_law__394 : decode cL_law_ 394 = .ok (.invokevirtual 143, 3) := by decide +kernel
theorem dL_law__397 : decode cL_law_ 397 = .ok (.istore 6, 2) := by decide +kernel
theorem dL_law__399 : decode cL_law_ 399 = .ok (.aload_n 2, 1) := by decide +kernel
theorem dL_law__400 : decode cL_law_ 400 = .ok (.invokevirtual 138, 3) := by decide +kernel
theorem dL_law__403 : decode cL_law_ 403 = .ok (.iload 5, 2) := by decide +kernel
theorem dL_law__405 : decode cL_law_ 405 = .ok (.if_icmp .eq 5, 3) := by decide +kernel
theorem dL_law__408 : decode cL_law_ 408 = .ok (.iconst 0, 1) := by decide +kernel
theorem dL_law__409 : decode cL_law_ 409 = .ok (.ireturn, 1) := by decide +kernel
theorem dL_law__410 : decode cL_law_ 410 = .ok (.iload 5, 2) := by decide +kernel
theorem dL_law__412 : decode cL_law_ 412 = .ok (.ifCond .ne 15, 3) := by decide +kernel
theorem dL_law__415 : decode cL_law_ 415 = .ok (.aload_n 3, 1) := by decide +kernel
theorem dL_law__416 : decode cL_law_ 416 = .ok (.iconst 0, 1) := by decide +kernel
theorem dL_law__417 : decode cL_law_ 417 = .ok (.laload, 1) := by decide +kernel
theorem dL_law__418 : decode cL_law_ 418 = .ok (.iload 6, 2) := by decide +kernel
theorem dL_law__420 : decode cL_law_ 420 = .ok (.i2l, 1) := by decide +kernel
theorem dL_law__421 : decode cL_law_ 421 = .ok (.lcmp, 1) := by decide +kernel
theorem dL_law__422 : decode cL_law_ 422 = .ok (.ifCond .eq 5, 3) := by decide +kernel
theorem dL_law__425 : decode cL_law_ 425 = .ok (.iconst 0, 1) := by decide +kernel
theorem dL_law__426 : decode cL_law_ 426 = .ok (.ireturn, 1) := by decide +kernel
theorem dL_law__427 : decode cL_law_ 427 = .ok (.goto 2091, 3) := by decide +kernel
theorem dL_law__430 : decode cL_law_ 430 = .ok (.aload_n 1, 1) := by decide +kernel
theorem dL_law__431 : decode cL_law_ 431 = .ok (.invokevirtual 144, 3) := by decide +kernel
theorem dL_law__434 : decode cL_law_ 434 = .ok (.aload_n 2, 1) := by decide +kernel
theorem dL_law__435 : decode cL_law_ 435 = .ok (.invokevirtual 147, 3) := by decide +kernel
theorem dL_law__438 : decode cL_law_ 438 = .ok (.if_icmp .eq 2080, 3) := by decide +kernel
theorem dL_law__441 : decode cL_law_ 441 = .ok (.iconst 0, 1) := by decide +kernel
theorem dL_law__442 : decode cL_law_ 442 = .ok (.ireturn, 1) := by decide +kernel
theorem dL_law__443 : decode cL_law_ 443 = .ok (.aload_n 1, 1) := by decide +kernel
theorem dL_law__444 : decode cL_law_ 444 = .ok (.aload_n 0, 1) := by decide +kernel
theorem dL_law__445 : decode cL_law_ 445 = .ok (.iload 4, 2) := by decide +kernel
theorem dL_law__447 : decode cL_law_ 447 = .ok (.iconst 1, 1) := by decide +kernel
theorem dL_law__448 : decode cL_law_ 448 = .ok (.iadd, 1) := by decide +kernel
theorem dL_law__449 : decode cL_law_ 449 = .ok (.iaload, 1) := by decide +kernel
theorem dL_law__450 : decode cL_law_ 450 = .ok (.aload_n 0, 1) := by decide +kernel
theorem dL_law__451 : decode cL_law_ 451 = .ok (.iload 4, 2) := by decide +kernel
theorem dL_law__453 : decode cL_law_ 453 = .ok (.iconst 2, 1) := by decide +kernel
theorem dL_law__454 : decode cL_law_ 454 = .ok (.iadd, 1) := by decide +kernel
theorem dL_law__455 : decode cL_law_ 455 = .ok (.iaload, 1) := by decide +kernel
theorem dL_law__456 : decode cL_law_ 456 = .ok (.aload_n 3, 1) := by decide +kernel
theorem dL_law__457 : decode cL_law_ 457 = .ok (.invokestatic 148, 3) := by decide +kernel
theorem dL_law__460 : decode cL_law_ 460 = .ok (.istore 5, 2) := by decide +kernel
theorem dL_law__462 : decode cL_law_ 462 = .ok (.aload_n 2, 1) := by decide +kernel
theorem dL_law__463 : decode cL_law_ 463 = .ok (.aload_n 0, 1) := by decide +kernel
theorem dL_law__464 : decode cL_law_ 464 = .ok (.iload 4, 2) := by decide +kernel
theorem dL_law__466 : decode cL_law_ 466 = .ok (.iconst 1, 1) := by decide +kernel
theorem dL_law__467 : decode cL_law_ 467 = .ok (.iadd, 1) := by decide +kernel
theorem dL_law__468 : decode cL_law_ 468 = .ok (.iaload, 1) := by decide +kernel
theorem dL_law__469 : decode cL_law_ 469 = .ok (.aload_n 0, 1) := by decide +kernel
theorem dL_law__470 : decode cL_law_ 470 = .ok (.iload 4, 2) := by decide +kernel
theorem dL_law__472 : decode cL_law_ 472 = .ok (.iconst 2, 1) := by decide +kernel
theorem dL_law__473 : decode cL_law_ 473 = .ok (.iadd, 1) := by decide +kernel
theorem dL_law__474 : decode cL_law_ 474 = .ok (.iaload, 1) := by decide +kernel
theorem dL_law__475 : decode cL_law_ 475 = .ok (.invokevirtual 151, 3) := by decide +kernel
theorem dL_law__478 : decode cL_law_ 478 = .ok (.istore 6, 2) := by decide +kernel
theorem dL_law__480 : decode cL_law_ 480 = .ok (.aload_n 2, 1) := by decide +kernel
theorem dL_law__481 : decode cL_law_ 481 = .ok (.invokevirtual 138, 3) := by decide +kernel
theorem dL_law__484 : decode cL_law_ 484 = .ok (.iload 5, 2) := by decide +kernel
theorem dL_law__486 : decode cL_law_ 486 = .ok (.if_icmp .eq 5, 3) := by decide +kernel
theorem dL_law__489 : decode cL_law_ 489 = .ok (.iconst 0, 1) := by decide +kernel
theorem dL_law__490 : decode cL_law_ 490 = .ok (.ireturn, 1) := by decide +kernel
theorem dL_law__491 : decode cL_law_ 491 = .ok (.iload 5, 2) := by decide +kernel
theorem dL_law__493 : decode cL_law_ 493 = .ok (.ifCond .ne 15, 3) := by decide +kernel
theorem dL_law__496 : decode cL_law_ 496 = .ok (.aload_n 3, 1) := by decide +kernel
theorem dL_law__497 : decode cL_law_ 497 = .ok (.iconst 0, 1) := by decide +kernel
theorem dL_law__498 : decode cL_law_ 498 = .ok (.laload, 1) := by decide +kernel
theorem dL_law__499 : decode cL_law_ 499 = .ok (.iload 6, 2) := by decide +kernel
theorem dL_law__501 : decode cL_law_ 501 = .ok (.i2l, 1) := by decide +kernel
theorem dL_law__502 : decode cL_law_ 502 = .ok (.lcmp, 1) := by decide +kernel
theorem dL_law__503 : decode cL_law_ 503 = .ok (.ifCond .eq 5, 3) := by decide +kernel
theorem dL_law__506 : decode cL_law_ 506 = .ok (.iconst 0, 1) := by decide +kernel
theorem dL_law__507 : decode cL_law_ 507 = .ok (.ireturn, 1) := by decide +kernel
theorem dL_law__508 : decode cL_law_ 508 = .ok (.goto 2010, 3) := by decide +kernel
theorem dL_law__511 : decode cL_law_ 511 = .ok (.aload_n 1, 1) := by decide +kernel
theorem dL_law__512 : decode cL_law_ 512 = .ok (.aload_n 0, 1) := by decide +kernel
theorem dL_law__513 : decode cL_law_ 513 = .ok (.iload 4, 2) := by decide +kernel
theorem dL_law__515 : decode cL_law_ 515 = .ok (.iconst 1, 1) := by decide +kernel
theorem dL_law__516 : decode cL_law_ 516 = .ok (.iadd, 1) := by decide +kernel
theorem dL_law__517 : decode cL_law_ 517 = .ok (.iaload, 1) := by decide +kernel
theorem dL_law__518 : decode cL_law_ 518 = .ok (.aload_n 0, 1) := by decide +kernel
theorem dL_law__519 : decode cL_law_ 519 = .ok (.iload 4, 2) := by decide +kernel
theorem dL_law__521 : decode cL_law_ 521 = .ok (.iconst 2, 1) := by decide +kernel
theorem dL_law__522 : decode cL_law_ 522 = .ok (.iadd, 1) := by decide +kernel
theorem dL_law__523 : decode cL_law_ 523 = .ok (.iaload, 1) := by decide +kernel
theorem dL_law__524 : decode cL_law_ 524 = .ok (.aload_n 3, 1) := by decide +kernel
theorem dL_law__525 : decode cL_law_ 525 = .ok (.invokestatic 152, 3) := by decide +kernel
theorem dL_law__528 : decode cL_law_ 528 = .ok (.istore 5, 2) := by decide +kernel
theorem dL_law__530 : decode cL_law_ 530 = .ok (.aload_n 2, 1) := by decide +kernel
theorem dL_law__531 : decode cL_law_ 531 = .ok (.aload_n 0, 1) := by decide +kernel
theorem dL_law__532 : decode cL_law_ 532 = .ok (.iload 4, 2) := by decide +kernel
theorem dL_law__534 : decode cL_law_ 534 = .ok (.iconst 1, 1) := by decide +kernel
theorem dL_law__535 : decode cL_law_ 535 = .ok (.iadd, 1) := by decide +kernel
theorem dL_law__536 : decode cL_law_ 536 = .ok (.iaload, 1) := by decide +kernel
theorem dL_law__537 : decode cL_law_ 537 = .ok (.aload_n 0, 1) := by decide +kernel
theorem dL_law__538 : decode cL_law_ 538 = .ok (.iload 4, 2) := by decide +kernel
theorem dL_law__540 : decode cL_law_ 540 = .ok (.iconst 2, 1) := by decide +kernel
theorem dL_law__541 : decode cL_law_ 541 = .ok (.iadd, 1) := by decide +kernel
theorem dL_law__542 : decode cL_law_ 542 = .ok (.iaload, 1) := by decide +kernel
theorem dL_law__543 : decode cL_law_ 543 = .ok (.invokevirtual 154, 3) := by decide +kernel
theorem dL_law__546 : decode cL_law_ 546 = .ok (.istore 6, 2) := by decide +kernel
theorem dL_law__548 : decode cL_law_ 548 = .ok (.aload_n 2, 1) := by decide +kernel
theorem dL_law__549 : decode cL_law_ 549 = .ok (.invokevirtual 138, 3) := by decide +kernel
theorem dL_law__552 : decode cL_law_ 552 = .ok (.iload 5, 2) := by decide +kernel
theorem dL_law__554 : decode cL_law_ 554 = .ok (.if_icmp .eq 5, 3) := by decide +kernel
theorem dL_law__557 : decode cL_law_ 557 = .ok (.iconst 0, 1) := by decide +kernel
theorem dL_law__558 : decode cL_law_ 558 = .ok (.ireturn, 1) := by decide +kernel
theorem dL_law__559 : decode cL_law_ 559 = .ok (.iload 5, 2) := by decide +kernel
theorem dL_law__561 : decode cL_law_ 561 = .ok (.ifCond .ne 15, 3) := by decide +kernel
theorem dL_law__564 : decode cL_law_ 564 = .ok (.aload_n 3, 1) := by decide +kernel
theorem dL_law__565 : decode cL_law_ 565 = .ok (.iconst 0, 1) := by decide +kernel
theorem dL_law__566 : decode cL_law_ 566 = .ok (.laload, 1) := by decide +kernel
theorem dL_law__567 : decode cL_law_ 567 = .ok (.iload 6, 2) := by decide +kernel
theorem dL_law__569 : decode cL_law_ 569 = .ok (.i2l, 1) := by decide +kernel
theorem dL_law__570 : decode cL_law_ 570 = .ok (.lcmp, 1) := by decide +kernel
theorem dL_law__571 : decode cL_law_ 571 = .ok (.ifCond .eq 5, 3) := by decide +kernel
theorem dL_law__574 : decode cL_law_ 574 = .ok (.iconst 0, 1) := by decide +kernel
theorem dL_law__575 : decode cL_law_ 575 = .ok (.ireturn, 1) := by decide +kernel
theorem dL_law__576 : decode cL_law_ 576 = .ok (.goto 1942, 3) := by decide +kernel
theorem dL_law__579 : decode cL_law_ 579 = .ok (.aload_n 1, 1) := by decide +kernel
theorem dL_law__580 : decode cL_law_ 580 = .ok (.aload_n 0, 1) := by decide +kernel
theorem dL_law__581 : decode cL_law_ 581 = .ok (.iload 4, 2) := by decide +kernel
theorem dL_law__583 : decode cL_law_ 583 = .ok (.iconst 1, 1) := by decide +kernel
theorem dL_law__584 : decode cL_law_ 584 = .ok (.iadd, 1) := by decide +kernel
theorem dL_law__585 : decode cL_law_ 585 = .ok (.iaload, 1) := by decide +kernel
theorem dL_law__586 : decode cL_law_ 586 = .ok (.aload_n 0, 1) := by decide +kernel
theorem dL_law__587 : decode cL_law_ 587 = .ok (.iload 4, 2) := by decide +kernel
theorem dL_law__589 : decode cL_law_ 589 = .ok (.iconst 2, 1) := by decide +kernel
theorem dL_law__590 : decode cL_law_ 590 = .ok (.iadd, 1) := by decide +kernel
theorem dL_law__591 : decode cL_law_ 591 = .ok (.iaload, 1) := by decide +kernel
theorem dL_law__592 : decode cL_law_ 592 = .ok (.aload_n 3, 1) := by decide +kernel
theorem dL_law__593 : decode cL_law_ 593 = .ok (.invokestatic 155, 3) := by decide +kernel
theorem dL_law__596 : decode cL_law_ 596 = .ok (.istore 5, 2) := by decide +kernel
theorem dL_law__598 : decode cL_law_ 598 = .ok (.aload_n 2, 1) := by decide +kernel
theorem dL_law__599 : decode cL_law_ 599 = .ok (.aload_n 0, 1) := by decide +kernel
theorem dL_law__600 : decode cL_law_ 600 = .ok (.iload 4, 2) := by decide +kernel
theorem dL_law__602 : decode cL_law_ 602 = .ok (.iconst 1, 1) := by decide +kernel
theorem dL_law__603 : decode cL_law_ 603 = .ok (.iadd, 1) := by decide +kernel
theorem dL_law__604 : decode cL_law_ 604 = .ok (.iaload, 1) := by decide +kernel
theorem dL_law__605 : decode cL_law_ 605 = .ok (.aload_n 0, 1) := by decide +kernel
theorem dL_law__606 : decode cL_law_ 606 = .ok (.iload 4, 2) := by decide +kernel
theorem dL_law__608 : decode cL_law_ 608 = .ok (.iconst 2, 1) := by decide +kernel
theorem dL_law__609 : decode cL_law_ 609 = .ok (.iadd, 1) := by decide +kernel
theorem dL_law__610 : decode cL_law_ 610 = .ok (.iaload, 1) := by decide +kernel
theorem dL_law__611 : decode cL_law_ 611 = .ok (.invokevirtual 157, 3) := by decide +kernel
theorem dL_law__614 : decode cL_law_ 614 = .ok (.istore 6, 2) := by decide +kernel
theorem dL_law__616 : decode cL_law_ 616 = .ok (.aload_n 2, 1) := by decide +kernel
theorem dL_law__617 : decode cL_law_ 617 = .ok (.invokevirtual 138, 3) := by decide +kernel
theorem dL_law__620 : decode cL_law_ 620 = .ok (.iload 5, 2) := by decide +kernel
theorem dL_law__622 : decode cL_law_ 622 = .ok (.if_icmp .eq 5, 3) := by decide +kernel
theorem dL_law__625 : decode cL_law_ 625 = .ok (.iconst 0, 1) := by decide +kernel
theorem dL_law__626 : decode cL_law_ 626 = .ok (.ireturn, 1) := by decide +kernel
theorem dL_law__627 : decode cL_law_ 627 = .ok (.iload 5, 2) := by decide +kernel
theorem dL_law__629 : decode cL_law_ 629 = .ok (.ifCond .ne 22, 3) := by decide +kernel
theorem dL_law__632 : decode cL_law_ 632 = .ok (.aload_n 3, 1) := by decide +kernel
theorem dL_law__633 : decode cL_law_ 633 = .ok (.iconst 0, 1) := by decide +kernel
theorem dL_law__634 : decode cL_law_ 634 = .ok (.laload, 1) := by decide +kernel
theorem dL_law__635 : decode cL_law_ 635 = .ok (.iload 6, 2) := by decide +kernel
theorem dL_law__637 : decode cL_law_ 637 = .ok (.ifCond .eq 7, 3) := by decide +kernel
theorem dL_law__640 : decode cL_law_ 640 = .ok (.lconst 1, 1) := by decide +kernel
theorem dL_law__641 : decode cL_law_ 641 = .ok (.goto 4, 3) := by decide +kernel
theorem dL_law__644 : decode cL_law_ 644 = .ok (.lconst 0, 1) := by decide +kernel
theorem dL_law__645 : decode cL_law_ 645 = .ok (.lcmp, 1) := by decide +kernel
theorem dL_law__646 : decode cL_law_ 646 = .ok (.ifCond .eq 5, 3) := by decide +kernel
theorem dL_law__649 : decode cL_law_ 649 = .ok (.iconst 0, 1) := by decide +kernel
theorem dL_law__650 : decode cL_law_ 650 = .ok (.ireturn, 1) := by decide +kernel
theorem dL_law__651 : decode cL_law_ 651 = .ok (.goto 1867, 3) := by decide +kernel
theorem dL_law__654 : decode cL_law_ 654 = .ok (.aload_n 1, 1) := by decide +kernel
theorem dL_law__655 : decode cL_law_ 655 = .ok (.aload_n 0, 1) := by decide +kernel
theorem dL_law__656 : decode cL_law_ 656 = .ok (.iload 4, 2) := by decide +kernel
theorem dL_law__658 : decode cL_law_ 658 = .ok (.iconst 1, 1) := by decide +kernel
theorem dL_law__659 : decode cL_law_ 659 = .ok (.iadd, 1) := by decide +kernel
theorem dL_law__660 : decode cL_law_ 660 = .ok (.iaload, 1) := by decide +kernel
theorem dL_law__661 : decode cL_law_ 661 = .ok (.aload_n 3, 1) := by decide +kernel
theorem dL_law__662 : decode cL_law_ 662 = .ok (.invokestatic 158, 3) := by decide +kernel
theorem dL_law__665 : decode cL_law_ 665 = .ok (.istore 5, 2) := by decide +kernel
theorem dL_law__667 : decode cL_law_ 667 = .ok (.aload_n 2, 1) := by decide +kernel
theorem dL_law__668 : decode cL_law_ 668 = .ok (.aload_n 0, 1) := by decide +kernel
theorem dL_law__669 : decode cL_law_ 669 = .ok (.iload 4, 2) := by decide +kernel
theorem dL_law__671 : decode cL_law_ 671 = .ok (.iconst 1, 1) := by decide +kernel
theorem dL_law__672 : decode cL_law_ 672 = .ok (.iadd, 1) := by decide +kernel
theorem dL_law__673 : decode cL_law_ 673 = .ok (.iaload, 1) := by decide +kernel
theorem dL_law__674 : decode cL_law_ 674 = .ok (.invokevirtual 161, 3) := by decide +kernel
theorem dL_law__677 : decode cL_law_ 677 = .ok (.istore 6, 2) := by decide +kernel
theorem dL_law__679 : decode cL_law_ 679 = .ok (.aload_n 2, 1) := by decide +kernel
theorem dL_law__680 : decode cL_law_ 680 = .ok (.invokevirtual 138, 3) := by decide +kernel
theorem dL_law__683 : decode cL_law_ 683 = .ok (.iload 5, 2) := by decide +kernel
theorem dL_law__685 : decode cL_law_ 685 = .ok (.if_icmp .eq 5, 3) := by decide +kernel
theorem dL_law__688 : decode cL_law_ 688 = .ok (.iconst 0, 1) := by decide +kernel
theorem dL_law__689 : decode cL_law_ 689 = .ok (.ireturn, 1) := by decide +kernel
theorem dL_law__690 : decode cL_law_ 690 = .ok (.iload 5, 2) := by decide +kernel
theorem dL_law__692 : decode cL_law_ 692 = .ok (.ifCond .ne 15, 3) := by decide +kernel
theorem dL_law__695 : decode cL_law_ 695 = .ok (.aload_n 3, 1) := by decide +kernel
theorem dL_law__696 : decode cL_law_ 696 = .ok (.iconst 0, 1) := by decide +kernel
theorem dL_law__697 : decode cL_law_ 697 = .ok (.laload, 1) := by decide +kernel
theorem dL_law__698 : decode cL_law_ 698 = .ok (.iload 6, 2) := by decide +kernel
theorem dL_law__700 : decode cL_law_ 700 = .ok (.i2l, 1) := by decide +kernel
theorem dL_law__701 : decode cL_law_ 701 = .ok (.lcmp, 1) := by decide +kernel
theorem dL_law__702 : decode cL_law_ 702 = .ok (.ifCond .eq 5, 3) := by decide +kernel
theorem dL_law__705 : decode cL_law_ 705 = .ok (.iconst 0, 1) := by decide +kernel
theorem dL_law__706 : decode cL_law_ 706 = .ok (.ireturn, 1) := by decide +kernel
theorem dL_law__707 : decode cL_law_ 707 = .ok (.goto 1811, 3) := by decide +kernel
theorem dL_law__710 : decode cL_law_ 710 = .ok (.aload_n 1, 1) := by decide +kernel
theorem dL_law__711 : decode cL_law_ 711 = .ok (.aload_n 0, 1) := by decide +kernel
theorem dL_law__712 : decode cL_law_ 712 = .ok (.iload 4, 2) := by decide +kernel
theorem dL_law__714 : decode cL_law_ 714 = .ok (.iconst 1, 1) := by decide +kernel
theorem dL_law__715 : decode cL_law_ 715 = .ok (.iadd, 1) := by decide +kernel
theorem dL_law__716 : decode cL_law_ 716 = .ok (.iaload, 1) := by decide +kernel
theorem dL_law__717 : decode cL_law_ 717 = .ok (.aload_n 3, 1) := by decide +kernel
theorem dL_law__718 : decode cL_law_ 718 = .ok (.invokestatic 162, 3) := by decide +kernel
theorem dL_law__721 : decode cL_law_ 721 = .ok (.istore 5, 2) := by decide +kernel
theorem dL_law__723 : decode cL_law_ 723 = .ok (.aload_n 2, 1) := by decide +kernel
theorem dL_law__724 : decode cL_law_ 724 = .ok (.aload_n 0, 1) := by decide +kernel
theorem dL_law__725 : decode cL_law_ 725 = .ok (.iload 4, 2) := by decide +kernel
theorem dL_law__727 : decode cL_law_ 727 = .ok (.iconst 1, 1) := by decide +kernel
theorem dL_law__728 : decode cL_law_ 728 = .ok (.iadd, 1) := by decide +kernel
theorem dL_law__729 : decode cL_law_ 729 = .ok (.iaload, 1) := by decide +kernel
theorem dL_law__730 : decode cL_law_ 730 = .ok (.invokevirtual 164, 3) := by decide +kernel
theorem dL_law__733 : decode cL_law_ 733 = .ok (.istore 6, 2) := by decide +kernel
theorem dL_law__735 : decode cL_law_ 735 = .ok (.aload_n 2, 1) := by decide +kernel
theorem dL_law__736 : decode cL_law_ 736 = .ok (.invokevirtual 138, 3) := by decide +kernel
theorem dL_law__739 : decode cL_law_ 739 = .ok (.iload 5, 2) := by decide +kernel
theorem dL_law__741 : decode cL_law_ 741 = .ok (.if_icmp .eq 5, 3) := by decide +kernel
theorem dL_law__744 : decode cL_law_ 744 = .ok (.iconst 0, 1) := by decide +kernel
theorem dL_law__745 : decode cL_law_ 745 = .ok (.ireturn, 1) := by decide +kernel
theorem dL_law__746 : decode cL_law_ 746 = .ok (.iload 5, 2) := by decide +kernel
theorem dL_law__748 : decode cL_law_ 748 = .ok (.ifCond .ne 15, 3) := by decide +kernel
theorem dL_law__751 : decode cL_law_ 751 = .ok (.aload_n 3, 1) := by decide +kernel
theorem dL_law__752 : decode cL_law_ 752 = .ok (.iconst 0, 1) := by decide +kernel
theorem dL_law__753 : decode cL_law_ 753 = .ok (.laload, 1) := by decide +kernel
theorem dL_law__754 : decode cL_law_ 754 = .ok (.iload 6, 2) := by decide +kernel
theorem dL_law__756 : decode cL_law_ 756 = .ok (.i2l, 1) := by decide +kernel
theorem dL_law__757 : decode cL_law_ 757 = .ok (.lcmp, 1) := by decide +kernel
theorem dL_law__758 : decode cL_law_ 758 = .ok (.ifCond .eq 5, 3) := by decide +kernel
theorem dL_law__761 : decode cL_law_ 761 = .ok (.iconst 0, 1) := by decide +kernel
theorem dL_law__762 : decode cL_law_ 762 = .ok (.ireturn, 1) := by decide +kernel
theorem dL_law__763 : decode cL_law_ 763 = .ok (.goto 1755, 3) := by decide +kernel
theorem dL_law__766 : decode cL_law_ 766 = .ok (.aload_n 1, 1) := by decide +kernel
theorem dL_law__767 : decode cL_law_ 767 = .ok (.aload_n 0, 1) := by decide +kernel
theorem dL_law__768 : decode cL_law_ 768 = .ok (.iload 4, 2) := by decide +kernel
theorem dL_law__770 : decode cL_law_ 770 = .ok (.iconst 1, 1) := by decide +kernel
theorem dL_law__771 : decode cL_law_ 771 = .ok (.iadd, 1) := by decide +kernel
theorem dL_law__772 : decode cL_law_ 772 = .ok (.iaload, 1) := by decide +kernel
theorem dL_law__773 : decode cL_law_ 773 = .ok (.aload_n 0, 1) := by decide +kernel
theorem dL_law__774 : decode cL_law_ 774 = .ok (.iload 4, 2) := by decide +kernel
theorem dL_law__776 : decode cL_law_ 776 = .ok (.iconst 2, 1) := by decide +kernel
theorem dL_law__777 : decode cL_law_ 777 = .ok (.iadd, 1) := by decide +kernel
theorem dL_law__778 : decode cL_law_ 778 = .ok (.iaload, 1) := by decide +kernel
theorem dL_law__779 : decode cL_law_ 779 = .ok (.ifCond .eq 7, 3) := by decide +kernel
theorem dL_law__782 : decode cL_law_ 782 = .ok (.iconst 1, 1) := by decide +kernel
theorem dL_law__783 : decode cL_law_ 783 = .ok (.goto 4, 3) := by decide +kernel
theorem dL_law__786 : decode cL_law_ 786 = .ok (.iconst 0, 1) := by decide +kernel
theorem dL_law__787 : decode cL_law_ 787 = .ok (.aload_n 3, 1) := by decide +kernel
theorem dL_law__788 : decode cL_law_ 788 = .ok (.invokestatic 165, 3) := by decide +kernel
theorem dL_law__791 : decode cL_law_ 791 = .ok (.istore 5, 2) := by decide +kernel
theorem dL_law__793 : decode cL_law_ 793 = .ok (.aload_n 2, 1) := by decide +kernel
theorem dL_law__794 : decode cL_law_ 794 = .ok (.aload_n 0, 1) := by decide +kernel
theorem dL_law__795 : decode cL_law_ 795 = .ok (.iload 4, 2) := by decide +kernel
theorem dL_law__797 : decode cL_law_ 797 = .ok (.iconst 1, 1) := by decide +kernel
theorem dL_law__798 : decode cL_law_ 798 = .ok (.iadd, 1) := by decide +kernel
theorem dL_law__799 : decode cL_law_ 799 = .ok (.iaload, 1) := by decide +kernel
theorem dL_law__800 : decode cL_law_ 800 = .ok (.aload_n 0, 1) := by decide +kernel
theorem dL_law__801 : decode cL_law_ 801 = .ok (.iload 4, 2) := by decide +kernel
theorem dL_law__803 : decode cL_law_ 803 = .ok (.iconst 2, 1) := by decide +kernel
theorem dL_law__804 : decode cL_law_ 804 = .ok (.iadd, 1) := by decide +kernel
theorem dL_law__805 : decode cL_law_ 805 = .ok (.iaload, 1) := by decide +kernel
theorem dL_law__806 : decode cL_law_ 806 = .ok (.ifCond .eq 7, 3) := by decide +kernel
theorem dL_law__809 : decode cL_law_ 809 = .ok (.iconst 1, 1) := by decide +kernel
theorem dL_law__810 : decode cL_law_ 810 = .ok (.goto 4, 3) := by decide +kernel
theorem dL_law__813 : decode cL_law_ 813 = .ok (.iconst 0, 1) := by decide +kernel
theorem dL_law__814 : decode cL_law_ 814 = .ok (.invokevirtual 168, 3) := by decide +kernel
theorem dL_law__817 : decode cL_law_ 817 = .ok (.istore 6, 2) := by decide +kernel
theorem dL_law__819 : decode cL_law_ 819 = .ok (.aload_n 2, 1) := by decide +kernel
theorem dL_law__820 : decode cL_law_ 820 = .ok (.invokevirtual 138, 3) := by decide +kernel
theorem dL_law__823 : decode cL_law_ 823 = .ok (.iload 5, 2) := by decide +kernel
theorem dL_law__825 : decode cL_law_ 825 = .ok (.if_icmp .eq 5, 3) := by decide +kernel
theorem dL_law__828 : decode cL_law_ 828 = .ok (.iconst 0, 1) := by decide +kernel
theorem dL_law__829 : decode cL_law_ 829 = .ok (.ireturn, 1) := by decide +kernel
theorem dL_law__830 : decode cL_law_ 830 = .ok (.iload 5, 2) := by decide +kernel
theorem dL_law__832 : decode cL_law_ 832 = .ok (.ifCond .ne 15, 3) := by decide +kernel
theorem dL_law__835 : decode cL_law_ 835 = .ok (.aload_n 3, 1) := by decide +kernel
theorem dL_law__836 : decode cL_law_ 836 = .ok (.iconst 0, 1) := by decide +kernel
theorem dL_law__837 : decode cL_law_ 837 = .ok (.laload, 1) := by decide +kernel
theorem dL_law__838 : decode cL_law_ 838 = .ok (.iload 6, 2) := by decide +kernel
theorem dL_law__840 : decode cL_law_ 840 = .ok (.i2l, 1) := by decide +kernel
theorem dL_law__841 : decode cL_law_ 841 = .ok (.lcmp, 1) := by decide +kernel
theorem dL_law__842 : decode cL_law_ 842 = .ok (.ifCond .eq 5, 3) := by decide +kernel
theorem dL_law__845 : decode cL_law_ 845 = .ok (.iconst 0, 1) := by decide +kernel
theorem dL_law__846 : decode cL_law_ 846 = .ok (.ireturn, 1) := by decide +kernel
theorem dL_law__847 : decode cL_law_ 847 = .ok (.goto 1671, 3) := by decide +kernel
theorem dL_law__850 : decode cL_law_ 850 = .ok (.aload_n 1, 1) := by decide +kernel
theorem dL_law__851 : decode cL_law_ 851 = .ok (.aload_n 0, 1) := by decide +kernel
theorem dL_law__852 : decode cL_law_ 852 = .ok (.iload 4, 2) := by decide +kernel
theorem dL_law__854 : decode cL_law_ 854 = .ok (.iconst 1, 1) := by decide +kernel
theorem dL_law__855 : decode cL_law_ 855 = .ok (.iadd, 1) := by decide +kernel
theorem dL_law__856 : decode cL_law_ 856 = .ok (.iaload, 1) := by decide +kernel
theorem dL_law__857 : decode cL_law_ 857 = .ok (.aload_n 0, 1) := by decide +kernel
theorem dL_law__858 : decode cL_law_ 858 = .ok (.iload 4, 2) := by decide +kernel
theorem dL_law__860 : decode cL_law_ 860 = .ok (.iconst 2, 1) := by decide +kernel
theorem dL_law__861 : decode cL_law_ 861 = .ok (.iadd, 1) := by decide +kernel
theorem dL_law__862 : decode cL_law_ 862 = .ok (.iaload, 1) := by decide +kernel
theorem dL_law__863 : decode cL_law_ 863 = .ok (.aload_n 0, 1) := by decide +kernel
theorem dL_law__864 : decode cL_law_ 864 = .ok (.iload 4, 2) := by decide +kernel
theorem dL_law__866 : decode cL_law_ 866 = .ok (.iconst 3, 1) := by decide +kernel
theorem dL_law__867 : decode cL_law_ 867 = .ok (.iadd, 1) := by decide +kernel
theorem dL_law__868 : decode cL_law_ 868 = .ok (.iaload, 1) := by decide +kernel
theorem dL_law__869 : decode cL_law_ 869 = .ok (.aload_n 3, 1) := by decide +kernel
theorem dL_law__870 : decode cL_law_ 870 = .ok (.invokestatic 169, 3) := by decide +kernel
theorem dL_law__873 : decode cL_law_ 873 = .ok (.istore 5, 2) := by decide +kernel
theorem dL_law__875 : decode cL_law_ 875 = .ok (.aload_n 2, 1) := by decide +kernel
theorem dL_law__876 : decode cL_law_ 876 = .ok (.aload_n 0, 1) := by decide +kernel
theorem dL_law__877 : decode cL_law_ 877 = .ok (.iload 4, 2) := by decide +kernel
theorem dL_law__879 : decode cL_law_ 879 = .ok (.iconst 1, 1) := by decide +kernel
theorem dL_law__880 : decode cL_law_ 880 = .ok (.iadd, 1) := by decide +kernel
theorem dL_law__881 : decode cL_law_ 881 = .ok (.iaload, 1) := by decide +kernel
theorem dL_law__882 : decode cL_law_ 882 = .ok (.aload_n 0, 1) := by decide +kernel
theorem dL_law__883 : decode cL_law_ 883 = .ok (.iload 4, 2) := by decide +kernel
theorem dL_law__885 : decode cL_law_ 885 = .ok (.iconst 2, 1) := by decide +kernel
theorem dL_law__886 : decode cL_law_ 886 = .ok (.iadd, 1) := by decide +kernel
theorem dL_law__887 : decode cL_law_ 887 = .ok (.iaload, 1) := by decide +kernel
theorem dL_law__888 : decode cL_law_ 888 = .ok (.aload_n 0, 1) := by decide +kernel
theorem dL_law__889 : decode cL_law_ 889 = .ok (.iload 4, 2) := by decide +kernel
theorem dL_law__891 : decode cL_law_ 891 = .ok (.iconst 3, 1) := by decide +kernel
theorem dL_law__892 : decode cL_law_ 892 = .ok (.iadd, 1) := by decide +kernel
theorem dL_law__893 : decode cL_law_ 893 = .ok (.iaload, 1) := by decide +kernel
theorem dL_law__894 : decode cL_law_ 894 = .ok (.invokevirtual 172, 3) := by decide +kernel
theorem dL_law__897 : decode cL_law_ 897 = .ok (.istore 6, 2) := by decide +kernel
theorem dL_law__899 : decode cL_law_ 899 = .ok (.aload_n 2, 1) := by decide +kernel
theorem dL_law__900 : decode cL_law_ 900 = .ok (.invokevirtual 138, 3) := by decide +kernel
theorem dL_law__903 : decode cL_law_ 903 = .ok (.iload 5, 2) := by decide +kernel
theorem dL_law__905 : decode cL_law_ 905 = .ok (.if_icmp .eq 5, 3) := by decide +kernel
theorem dL_law__908 : decode cL_law_ 908 = .ok (.iconst 0, 1) := by decide +kernel
theorem dL_law__909 : decode cL_law_ 909 = .ok (.ireturn, 1) := by decide +kernel
theorem dL_law__910 : decode cL_law_ 910 = .ok (.iload 5, 2) := by decide +kernel
theorem dL_law__912 : decode cL_law_ 912 = .ok (.ifCond .ne 15, 3) := by decide +kernel
theorem dL_law__915 : decode cL_law_ 915 = .ok (.aload_n 3, 1) := by decide +kernel
theorem dL_law__916 : decode cL_law_ 916 = .ok (.iconst 0, 1) := by decide +kernel
theorem dL_law__917 : decode cL_law_ 917 = .ok (.laload, 1) := by decide +kernel
theorem dL_law__918 : decode cL_law_ 918 = .ok (.iload 6, 2) := by decide +kernel
theorem dL_law__920 : decode cL_law_ 920 = .ok (.i2l, 1) := by decide +kernel
theorem dL_law__921 : decode cL_law_ 921 = .ok (.lcmp, 1) := by decide +kernel
theorem dL_law__922 : decode cL_law_ 922 = .ok (.ifCond .eq 5, 3) := by decide +kernel
theorem dL_law__925 : decode cL_law_ 925 = .ok (.iconst 0, 1) := by decide +kernel
theorem dL_law__926 : decode cL_law_ 926 = .ok (.ireturn, 1) := by decide +kernel
theorem dL_law__927 : decode cL_law_ 927 = .ok (.goto 1591, 3) := by decide +kernel
theorem dL_law__930 : decode cL_law_ 930 = .ok (.aload_n 1, 1) := by decide +kernel
theorem dL_law__931 : decode cL_law_ 931 = .ok (.aload_n 0, 1) := by decide +kernel
theorem dL_law__932 : decode cL_law_ 932 = .ok (.iload 4, 2) := by decide +kernel
theorem dL_law__934 : decode cL_law_ 934 = .ok (.iconst 1, 1) := by decide +kernel
theorem dL_law__935 : decode cL_law_ 935 = .ok (.iadd, 1) := by decide +kernel
theorem dL_law__936 : decode cL_law_ 936 = .ok (.iaload, 1) := by decide +kernel
theorem dL_law__937 : decode cL_law_ 937 = .ok (.aload_n 0, 1) := by decide +kernel
theorem dL_law__938 : decode cL_law_ 938 = .ok (.iload 4, 2) := by decide +kernel
theorem dL_law__940 : decode cL_law_ 940 = .ok (.iconst 2, 1) := by decide +kernel
theorem dL_law__941 : decode cL_law_ 941 = .ok (.iadd, 1) := by decide +kernel
theorem dL_law__942 : decode cL_law_ 942 = .ok (.iaload, 1) := by decide +kernel
theorem dL_law__943 : decode cL_law_ 943 = .ok (.aload_n 3, 1) := by decide +kernel
theorem dL_law__944 : decode cL_law_ 944 = .ok (.invokestatic 173, 3) := by decide +kernel
theorem dL_law__947 : decode cL_law_ 947 = .ok (.istore 5, 2) := by decide +kernel
theorem dL_law__949 : decode cL_law_ 949 = .ok (.aload_n 2, 1) := by decide +kernel
theorem dL_law__950 : decode cL_law_ 950 = .ok (.aload_n 0, 1) := by decide +kernel
theorem dL_law__951 : decode cL_law_ 951 = .ok (.iload 4, 2) := by decide +kernel
theorem dL_law__953 : decode cL_law_ 953 = .ok (.iconst 1, 1) := by decide +kernel
theorem dL_law__954 : decode cL_law_ 954 = .ok (.iadd, 1) := by decide +kernel
theorem dL_law__955 : decode cL_law_ 955 = .ok (.iaload, 1) := by decide +kernel
theorem dL_law__956 : decode cL_law_ 956 = .ok (.aload_n 0, 1) := by decide +kernel
theorem dL_law__957 : decode cL_law_ 957 = .ok (.iload 4, 2) := by decide +kernel
theorem dL_law__959 : decode cL_law_ 959 = .ok (.iconst 2, 1) := by decide +kernel
theorem dL_law__960 : decode cL_law_ 960 = .ok (.iadd, 1) := by decide +kernel
theorem dL_law__961 : decode cL_law_ 961 = .ok (.iaload, 1) := by decide +kernel
theorem dL_law__962 : decode cL_law_ 962 = .ok (.invokevirtual 175, 3) := by decide +kernel
theorem dL_law__965 : decode cL_law_ 965 = .ok (.istore 6, 2) := by decide +kernel
theorem dL_law__967 : decode cL_law_ 967 = .ok (.aload_n 2, 1) := by decide +kernel
theorem dL_law__968 : decode cL_law_ 968 = .ok (.invokevirtual 138, 3) := by decide +kernel
theorem dL_law__971 : decode cL_law_ 971 = .ok (.iload 5, 2) := by decide +kernel
theorem dL_law__973 : decode cL_law_ 973 = .ok (.if_icmp .eq 5, 3) := by decide +kernel
theorem dL_law__976 : decode cL_law_ 976 = .ok (.iconst 0, 1) := by decide +kernel
theorem dL_law__977 : decode cL_law_ 977 = .ok (.ireturn, 1) := by decide +kernel
theorem dL_law__978 : decode cL_law_ 978 = .ok (.iload 5, 2) := by decide +kernel
theorem dL_law__980 : decode cL_law_ 980 = .ok (.ifCond .ne 15, 3) := by decide +kernel
theorem dL_law__983 : decode cL_law_ 983 = .ok (.aload_n 3, 1) := by decide +kernel
theorem dL_law__984 : decode cL_law_ 984 = .ok (.iconst 0, 1) := by decide +kernel
theorem dL_law__985 : decode cL_law_ 985 = .ok (.laload, 1) := by decide +kernel
theorem dL_law__986 : decode cL_law_ 986 = .ok (.iload 6, 2) := by decide +kernel
theorem dL_law__988 : decode cL_law_ 988 = .ok (.i2l, 1) := by decide +kernel
theorem dL_law__989 : decode cL_law_ 989 = .ok (.lcmp, 1) := by decide +kernel
theorem dL_law__990 : decode cL_law_ 990 = .ok (.ifCond .eq 5, 3) := by decide +kernel
theorem dL_law__993 : decode cL_law_ 993 = .ok (.iconst 0, 1) := by decide +kernel
theorem dL_law__994 : decode cL_law_ 994 = .ok (.ireturn, 1) := by decide +kernel
theorem dL_law__995 : decode cL_law_ 995 = .ok (.goto 1523, 3) := by decide +kernel
theorem dL_law__998 : decode cL_law_ 998 = .ok (.aload_n 1, 1) := by decide +kernel
theorem dL_law__999 : decode cL_law_ 999 = .ok (.aload_n 0, 1) := by decide +kernel
theorem dL_law__1000 : decode cL_law_ 1000 = .ok (.iload 4, 2) := by decide +kernel
theorem dL_law__1002 : decode cL_law_ 1002 = .ok (.iconst 1, 1) := by decide +kernel
theorem dL_law__1003 : decode cL_law_ 1003 = .ok (.iadd, 1) := by decide +kernel
theorem dL_law__1004 : decode cL_law_ 1004 = .ok (.iaload, 1) := by decide +kernel
theorem dL_law__1005 : decode cL_law_ 1005 = .ok (.ifCond .eq 7, 3) := by decide +kernel
theorem dL_law__1008 : decode cL_law_ 1008 = .ok (.iconst 1, 1) := by decide +kernel
theorem dL_law__1009 : decode cL_law_ 1009 = .ok (.goto 4, 3) := by decide +kernel
theorem dL_law__1012 : decode cL_law_ 1012 = .ok (.iconst 0, 1) := by decide +kernel
theorem dL_law__1013 : decode cL_law_ 1013 = .ok (.aload_n 0, 1) := by decide +kernel
theorem dL_law__1014 : decode cL_law_ 1014 = .ok (.iload 4, 2) := by decide +kernel
theorem dL_law__1016 : decode cL_law_ 1016 = .ok (.iconst 2, 1) := by decide +kernel
theorem dL_law__1017 : decode cL_law_ 1017 = .ok (.iadd, 1) := by decide +kernel
theorem dL_law__1018 : decode cL_law_ 1018 = .ok (.iaload, 1) := by decide +kernel
theorem dL_law__1019 : decode cL_law_ 1019 = .ok (.aload_n 3, 1) := by decide +kernel
theorem dL_law__1020 : decode cL_law_ 1020 = .ok (.invokestatic 176, 3) := by decide +kernel
theorem dL_law__1023 : decode cL_law_ 1023 = .ok (.istore 5, 2) := by decide +kernel
theorem dL_law__1025 : decode cL_law_ 1025 = .ok (.aload_n 2, 1) := by decide +kernel
theorem dL_law__1026 : decode cL_law_ 1026 = .ok (.aload_n 0, 1) := by decide +kernel
theorem dL_law__1027 : decode cL_law_ 1027 = .ok (.iload 4, 2) := by decide +kernel
theorem dL_law__1029 : decode cL_law_ 1029 = .ok (.iconst 1, 1) := by decide +kernel
theorem dL_law__1030 : decode cL_law_ 1030 = .ok (.iadd, 1) := by decide +kernel
theorem dL_law__1031 : decode cL_law_ 1031 = .ok (.iaload, 1) := by decide +kernel
theorem dL_law__1032 : decode cL_law_ 1032 = .ok (.ifCond .eq 7, 3) := by decide +kernel
theorem dL_law__1035 : decode cL_law_ 1035 = .ok (.iconst 1, 1) := by decide +kernel
theorem dL_law__1036 : decode cL_law_ 1036 = .ok (.goto 4, 3) := by decide +kernel
theorem dL_law__1039 : decode cL_law_ 1039 = .ok (.iconst 0, 1) := by decide +kernel
theorem dL_law__1040 : decode cL_law_ 1040 = .ok (.aload_n 0, 1) := by decide +kernel
theorem dL_law__1041 : decode cL_law_ 1041 = .ok (.iload 4, 2) := by decide +kernel
theorem dL_law__1043 : decode cL_law_ 1043 = .ok (.iconst 2, 1) := by decide +kernel
theorem dL_law__1044 : decode cL_law_ 1044 = .ok (.iadd, 1) := by decide +kernel
theorem dL_law__1045 : decode cL_law_ 1045 = .ok (.iaload, 1) := by decide +kernel
theorem dL_law__1046 : decode cL_law_ 1046 = .ok (.invokevirtual 179, 3) := by decide +kernel
theorem dL_law__1049 : decode cL_law_ 1049 = .ok (.istore 6, 2) := by decide +kernel
theorem dL_law__1051 : decode cL_law_ 1051 = .ok (.aload_n 2, 1) := by decide +kernel
theorem dL_law__1052 : decode cL_law_ 1052 = .ok (.invokevirtual 138, 3) := by decide +kernel
theorem dL_law__1055 : decode cL_law_ 1055 = .ok (.iload 5, 2) := by decide +kernel
theorem dL_law__1057 : decode cL_law_ 1057 = .ok (.if_icmp .eq 5, 3) := by decide +kernel
theorem dL_law__1060 : decode cL_law_ 1060 = .ok (.iconst 0, 1) := by decide +kernel
theorem dL_law__1061 : decode cL_law_ 1061 = .ok (.ireturn, 1) := by decide +kernel
theorem dL_law__1062 : decode cL_law_ 1062 = .ok (.iload 5, 2) := by decide +kernel
theorem dL_law__1064 : decode cL_law_ 1064 = .ok (.ifCond .ne 15, 3) := by decide +kernel
theorem dL_law__1067 : decode cL_law_ 1067 = .ok (.aload_n 3, 1) := by decide +kernel
theorem dL_law__1068 : decode cL_law_ 1068 = .ok (.iconst 0, 1) := by decide +kernel
theorem dL_law__1069 : decode cL_law_ 1069 = .ok (.laload, 1) := by decide +kernel
theorem dL_law__1070 : decode cL_law_ 1070 = .ok (.iload 6, 2) := by decide +kernel
theorem dL_law__1072 : decode cL_law_ 1072 = .ok (.i2l, 1) := by decide +kernel
theorem dL_law__1073 : decode cL_law_ 1073 = .ok (.lcmp, 1) := by decide +kernel
theorem dL_law__1074 : decode cL_law_ 1074 = .ok (.ifCond .eq 5, 3) := by decide +kernel
theorem dL_law__1077 : decode cL_law_ 1077 = .ok (.iconst 0, 1) := by decide +kernel
theorem dL_law__1078 : decode cL_law_ 1078 = .ok (.ireturn, 1) := by decide +kernel
theorem dL_law__1079 : decode cL_law_ 1079 = .ok (.goto 1439, 3) := by decide +kernel
theorem dL_law__1082 : decode cL_law_ 1082 = .ok (.aload_n 1, 1) := by decide +kernel
theorem dL_law__1083 : decode cL_law_ 1083 = .ok (.aload_n 3, 1) := by decide +kernel
theorem dL_law__1084 : decode cL_law_ 1084 = .ok (.invokestatic 180, 3) := by decide +kernel
theorem dL_law__1087 : decode cL_law_ 1087 = .ok (.istore 5, 2) := by decide +kernel
theorem dL_law__1089 : decode cL_law_ 1089 = .ok (.aload_n 2, 1) := by decide +kernel
theorem dL_law__1090 : decode cL_law_ 1090 = .ok (.invokevirtual 182, 3) := by decide +kernel
theorem dL_law__1093 : decode cL_law_ 1093 = .ok (.istore 6, 2) := by decide +kernel
theorem dL_law__1095 : decode cL_law_ 1095 = .ok (.aload_n 2, 1) := by decide +kernel
theorem dL_law__1096 : decode cL_law_ 1096 = .ok (.invokevirtual 138, 3) := by decide +kernel
theorem dL_law__1099 : decode cL_law_ 1099 = .ok (.iload 5, 2) := by decide +kernel
theorem dL_law__1101 : decode cL_law_ 1101 = .ok (.if_icmp .eq 5, 3) := by decide +kernel
theorem dL_law__1104 : decode cL_law_ 1104 = .ok (.iconst 0, 1) := by decide +kernel
theorem dL_law__1105 : decode cL_law_ 1105 = .ok (.ireturn, 1) := by decide +kernel
theorem dL_law__1106 : decode cL_law_ 1106 = .ok (.iload 5, 2) := by decide +kernel
theorem dL_law__1108 : decode cL_law_ 1108 = .ok (.ifCond .ne 15, 3) := by decide +kernel
theorem dL_law__1111 : decode cL_law_ 1111 = .ok (.aload_n 3, 1) := by decide +kernel
theorem dL_law__1112 : decode cL_law_ 1112 = .ok (.iconst 0, 1) := by decide +kernel
theorem dL_law__1113 : decode cL_law_ 1113 = .ok (.laload, 1) := by decide +kernel
theorem dL_law__1114 : decode cL_law_ 1114 = .ok (.iload 6, 2) := by decide +kernel
theorem dL_law__1116 : decode cL_law_ 1116 = .ok (.i2l, 1) := by decide +kernel
theorem dL_law__1117 : decode cL_law_ 1117 = .ok (.lcmp, 1) := by decide +kernel
theorem dL_law__1118 : decode cL_law_ 1118 = .ok (.ifCond .eq 5, 3) := by decide +kernel
theorem dL_law__1121 : decode cL_law_ 1121 = .ok (.iconst 0, 1) := by decide +kernel
theorem dL_law__1122 : decode cL_law_ 1122 = .ok (.ireturn, 1) := by decide +kernel
theorem dL_law__1123 : decode cL_law_ 1123 = .ok (.goto 1395, 3) := by decide +kernel
theorem dL_law__1126 : decode cL_law_ 1126 = .ok (.aload_n 1, 1) := by decide +kernel
theorem dL_law__1127 : decode cL_law_ 1127 = .ok (.invokevirtual 183, 3) := by decide +kernel
theorem dL_law__1130 : decode cL_law_ 1130 = .ok (.aload_n 2, 1) := by decide +kernel
theorem dL_law__1131 : decode cL_law_ 1131 = .ok (.invokevirtual 186, 3) := by decide +kernel
theorem dL_law__1134 : decode cL_law_ 1134 = .ok (.if_icmp .eq 1384, 3) := by decide +kernel
theorem dL_law__1137 : decode cL_law_ 1137 = .ok (.iconst 0, 1) := by decide +kernel
theorem dL_law__1138 : decode cL_law_ 1138 = .ok (.ireturn, 1) := by decide +kernel
theorem dL_law__1139 : decode cL_law_ 1139 = .ok (.aload_n 1, 1) := by decide +kernel
theorem dL_law__1140 : decode cL_law_ 1140 = .ok (.invokevirtual 187, 3) := by decide +kernel
theorem dL_law__1143 : decode cL_law_ 1143 = .ok (.aload_n 2, 1) := by decide +kernel
theorem dL_law__1144 : decode cL_law_ 1144 = .ok (.invokevirtual 191, 3) := by decide +kernel
theorem dL_law__1147 : decode cL_law_ 1147 = .ok (.if_icmp .eq 1371, 3) := by decide +kernel
theorem dL_law__1150 : decode cL_law_ 1150 = .ok (.iconst 0, 1) := by decide +kernel
theorem dL_law__1151 : decode cL_law_ 1151 = .ok (.ireturn, 1) := by decide +kernel
theorem dL_law__1152 : decode cL_law_ 1152 = .ok (.aload_n 1, 1) := by decide +kernel
theorem dL_law__1153 : decode cL_law_ 1153 = .ok (.invokevirtual 192, 3) := by decide +kernel
theorem dL_law__1156 : decode cL_law_ 1156 = .ok (.aload_n 2, 1) := by decide +kernel
theorem dL_law__1157 : decode cL_law_ 1157 = .ok (.invokevirtual 195, 3) := by decide +kernel
theorem dL_law__1160 : decode cL_law_ 1160 = .ok (.if_icmp .eq 1358, 3) := by decide +kernel
theorem dL_law__1163 : decode cL_law_ 1163 = .ok (.iconst 0, 1) := by decide +kernel
theorem dL_law__1164 : decode cL_law_ 1164 = .ok (.ireturn, 1) := by decide +kernel
theorem dL_law__1165 : decode cL_law_ 1165 = .ok (.aload_n 1, 1) := by decide +kernel
theorem dL_law__1166 : decode cL_law_ 1166 = .ok (.aload_n 0, 1) := by decide +kernel
theorem dL_law__1167 : decode cL_law_ 1167 = .ok (.iload 4, 2) := by decide +kernel
theorem dL_law__1169 : decode cL_law_ 1169 = .ok (.iconst 1, 1) := by decide +kernel
theorem dL_law__1170 : decode cL_law_ 1170 = .ok (.iadd, 1) := by decide +kernel
theorem dL_law__1171 : decode cL_law_ 1171 = .ok (.iaload, 1) := by decide +kernel
theorem dL_law__1172 : decode cL_law_ 1172 = .ok (.aload_n 3, 1) := by decide +kernel
theorem dL_law__1173 : decode cL_law_ 1173 = .ok (.invokestatic 196, 3) := by decide +kernel
theorem dL_law__1176 : decode cL_law_ 1176 = .ok (.istore 5, 2) := by decide +kernel
theorem dL_law__1178 : decode cL_law_ 1178 = .ok (.aload_n 2, 1) := by decide +kernel
theorem dL_law__1179 : decode cL_law_ 1179 = .ok (.aload_n 0, 1) := by decide +kernel
theorem dL_law__1180 : decode cL_law_ 1180 = .ok (.iload 4, 2) := by decide +kernel
theorem dL_law__1182 : decode cL_law_ 1182 = .ok (.iconst 1, 1) := by decide +kernel
theorem dL_law__1183 : decode cL_law_ 1183 = .ok (.iadd, 1) := by decide +kernel
theorem dL_law__1184 : decode cL_law_ 1184 = .ok (.iaload, 1) := by decide +kernel
theorem dL_law__1185 : decode cL_law_ 1185 = .ok (.invokevirtual 198, 3) := by decide +kernel
theorem dL_law__1188 : decode cL_law_ 1188 = .ok (.istore 6, 2) := by decide +kernel
theorem dL_law__1190 : decode cL_law_ 1190 = .ok (.aload_n 2, 1) := by decide +kernel
theorem dL_law__1191 : decode cL_law_ 1191 = .ok (.invokevirtual 138, 3) := by decide +kernel
theorem dL_law__1194 : decode cL_law_ 1194 = .ok (.iload 5, 2) := by decide +kernel
theorem dL_law__1196 : decode cL_law_ 1196 = .ok (.if_icmp .eq 5, 3) := by decide +kernel
theorem dL_law__1199 : decode cL_law_ 1199 = .ok (.iconst 0, 1) := by decide +kernel
theorem dL_law__1200 : decode cL_law_ 1200 = .ok (.ireturn, 1) := by decide +kernel
theorem dL_law__1201 : decode cL_law_ 1201 = .ok (.iload 5, 2) := by decide +kernel
theorem dL_law__1203 : decode cL_law_ 1203 = .ok (.ifCond .ne 15, 3) := by decide +kernel
theorem dL_law__1206 : decode cL_law_ 1206 = .ok (.aload_n 3, 1) := by decide +kernel
theorem dL_law__1207 : decode cL_law_ 1207 = .ok (.iconst 0, 1) := by decide +kernel
theorem dL_law__1208 : decode cL_law_ 1208 = .ok (.laload, 1) := by decide +kernel
theorem dL_law__1209 : decode cL_law_ 1209 = .ok (.iload 6, 2) := by decide +kernel
theorem dL_law__1211 : decode cL_law_ 1211 = .ok (.i2l, 1) := by decide +kernel
theorem dL_law__1212 : decode cL_law_ 1212 = .ok (.lcmp, 1) := by decide +kernel
theorem dL_law__1213 : decode cL_law_ 1213 = .ok (.ifCond .eq 5, 3) := by decide +kernel
theorem dL_law__1216 : decode cL_law_ 1216 = .ok (.iconst 0, 1) := by decide +kernel
theorem dL_law__1217 : decode cL_law_ 1217 = .ok (.ireturn, 1) := by decide +kernel
theorem dL_law__1218 : decode cL_law_ 1218 = .ok (.goto 1300, 3) := by decide +kernel
theorem dL_law__1221 : decode cL_law_ 1221 = .ok (.aload_n 1, 1) := by decide +kernel
theorem dL_law__1222 : decode cL_law_ 1222 = .ok (.aload_n 0, 1) := by decide +kernel
theorem dL_law__1223 : decode cL_law_ 1223 = .ok (.iload 4, 2) := by decide +kernel
theorem dL_law__1225 : decode cL_law_ 1225 = .ok (.iconst 1, 1) := by decide +kernel
theorem dL_law__1226 : decode cL_law_ 1226 = .ok (.iadd, 1) := by decide +kernel
theorem dL_law__1227 : decode cL_law_ 1227 = .ok (.iaload, 1) := by decide +kernel
theorem dL_law__1228 : decode cL_law_ 1228 = .ok (.aload_n 3, 1) := by decide +kernel
theorem dL_law__1229 : decode cL_law_ 1229 = .ok (.invokestatic 199, 3) := by decide +kernel
theorem dL_law__1232 : decode cL_law_ 1232 = .ok (.istore 5, 2) := by decide +kernel
theorem dL_law__1234 : decode cL_law_ 1234 = .ok (.aload_n 2, 1) := by decide +kernel
theorem dL_law__1235 : decode cL_law_ 1235 = .ok (.aload_n 0, 1) := by decide +kernel
theorem dL_law__1236 : decode cL_law_ 1236 = .ok (.iload 4, 2) := by decide +kernel
theorem dL_law__1238 : decode cL_law_ 1238 = .ok (.iconst 1, 1) := by decide +kernel
theorem dL_law__1239 : decode cL_law_ 1239 = .ok (.iadd, 1) := by decide +kernel
theorem dL_law__1240 : decode cL_law_ 1240 = .ok (.iaload, 1) := by decide +kernel
theorem dL_law__1241 : decode cL_law_ 1241 = .ok (.invokevirtual 201, 3) := by decide +kernel
theorem dL_law__1244 : decode cL_law_ 1244 = .ok (.istore 6, 2) := by decide +kernel
theorem dL_law__1246 : decode cL_law_ 1246 = .ok (.aload_n 2, 1) := by decide +kernel
theorem dL_law__1247 : decode cL_law_ 1247 = .ok (.invokevirtual 138, 3) := by decide +kernel
theorem dL_law__1250 : decode cL_law_ 1250 = .ok (.iload 5, 2) := by decide +kernel
theorem dL_law__1252 : decode cL_law_ 1252 = .ok (.if_icmp .eq 5, 3) := by decide +kernel
theorem dL_law__1255 : decode cL_law_ 1255 = .ok (.iconst 0, 1) := by decide +kernel
theorem dL_law__1256 : decode cL_law_ 1256 = .ok (.ireturn, 1) := by decide +kernel
theorem dL_law__1257 : decode cL_law_ 1257 = .ok (.iload 5, 2) := by decide +kernel
theorem dL_law__1259 : decode cL_law_ 1259 = .ok (.ifCond .ne 15, 3) := by decide +kernel
theorem dL_law__1262 : decode cL_law_ 1262 = .ok (.aload_n 3, 1) := by decide +kernel
theorem dL_law__1263 : decode cL_law_ 1263 = .ok (.iconst 0, 1) := by decide +kernel
theorem dL_law__1264 : decode cL_law_ 1264 = .ok (.laload, 1) := by decide +kernel
theorem dL_law__1265 : decode cL_law_ 1265 = .ok (.iload 6, 2) := by decide +kernel
theorem dL_law__1267 : decode cL_law_ 1267 = .ok (.i2l, 1) := by decide +kernel
theorem dL_law__1268 : decode cL_law_ 1268 = .ok (.lcmp, 1) := by decide +kernel
theorem dL_law__1269 : decode cL_law_ 1269 = .ok (.ifCond .eq 5, 3) := by decide +kernel
theorem dL_law__1272 : decode cL_law_ 1272 = .ok (.iconst 0, 1) := by decide +kernel
theorem dL_law__1273 : decode cL_law_ 1273 = .ok (.ireturn, 1) := by decide +kernel
theorem dL_law__1274 : decode cL_law_ 1274 = .ok (.goto 1244, 3) := by decide +kernel
theorem dL_law__1277 : decode cL_law_ 1277 = .ok (.aload_n 1, 1) := by decide +kernel
theorem dL_law__1278 : decode cL_law_ 1278 = .ok (.aload_n 0, 1) := by decide +kernel
theorem dL_law__1279 : decode cL_law_ 1279 = .ok (.iload 4, 2) := by decide +kernel
theorem dL_law__1281 : decode cL_law_ 1281 = .ok (.iconst 1, 1) := by decide +kernel
theorem dL_law__1282 : decode cL_law_ 1282 = .ok (.iadd, 1) := by decide +kernel
theorem dL_law__1283 : decode cL_law_ 1283 = .ok (.iaload, 1) := by decide +kernel
theorem dL_law__1284 : decode cL_law_ 1284 = .ok (.ifCond .eq 7, 3) := by decide +kernel
theorem dL_law__1287 : decode cL_law_ 1287 = .ok (.iconst 1, 1) := by decide +kernel
theorem dL_law__1288 : decode cL_law_ 1288 = .ok (.goto 4, 3) := by decide +kernel
theorem dL_law__1291 : decode cL_law_ 1291 = .ok (.iconst 0, 1) := by decide +kernel
theorem dL_law__1292 : decode cL_law_ 1292 = .ok (.invokevirtual 202, 3) := by decide +kernel
theorem dL_law__1295 : decode cL_law_ 1295 = .ok (.aload_n 2, 1) := by decide +kernel
theorem dL_law__1296 : decode cL_law_ 1296 = .ok (.aload_n 0, 1) := by decide +kernel
theorem dL_law__1297 : decode cL_law_ 1297 = .ok (.iload 4, 2) := by decide +kernel
theorem dL_law__1299 : decode cL_law_ 1299 = .ok (.iconst 1, 1) := by decide +kernel
theorem dL_law__1300 : decode cL_law_ 1300 = .ok (.iadd, 1) := by decide +kernel
theorem dL_law__1301 : decode cL_law_ 1301 = .ok (.iaload, 1) := by decide +kernel
theorem dL_law__1302 : decode cL_law_ 1302 = .ok (.ifCond .eq 7, 3) := by decide +kernel
theorem dL_law__1305 : decode cL_law_ 1305 = .ok (.iconst 1, 1) := by decide +kernel
theorem dL_law__1306 : decode cL_law_ 1306 = .ok (.goto 4, 3) := by decide +kernel
theorem dL_law__1309 : decode cL_law_ 1309 = .ok (.iconst 0, 1) := by decide +kernel
theorem dL_law__1310 : decode cL_law_ 1310 = .ok (.invokevirtual 205, 3) := by decide +kernel
theorem dL_law__1313 : decode cL_law_ 1313 = .ok (.if_icmp .eq 1205, 3) := by decide +kernel
theorem dL_law__1316 : decode cL_law_ 1316 = .ok (.iconst 0, 1) := by decide +kernel
theorem dL_law__1317 : decode cL_law_ 1317 = .ok (.ireturn, 1) := by decide +kernel
theorem dL_law__1318 : decode cL_law_ 1318 = .ok (.aload_n 1, 1) := by decide +kernel
theorem dL_law__1319 : decode cL_law_ 1319 = .ok (.invokevirtual 206, 3) := by decide +kernel
theorem dL_law__1322 : decode cL_law_ 1322 = .ok (.aload_n 2, 1) := by decide +kernel
theorem dL_law__1323 : decode cL_law_ 1323 = .ok (.invokevirtual 209, 3) := by decide +kernel
theorem dL_law__1326 : decode cL_law_ 1326 = .ok (.if_icmp .eq 1192, 3) := by decide +kernel
theorem dL_law__1329 : decode cL_law_ 1329 = .ok (.iconst 0, 1) := by decide +kernel
theorem dL_law__1330 : decode cL_law_ 1330 = .ok (.ireturn, 1) := by decide +kernel
theorem dL_law__1331 : decode cL_law_ 1331 = .ok (.aload_n 1, 1) := by decide +kernel
theorem dL_law__1332 : decode cL_law_ 1332 = .ok (.invokevirtual 210, 3) := by decide +kernel
theorem dL_law__1335 : decode cL_law_ 1335 = .ok (.aload_n 2, 1) := by decide +kernel
theorem dL_law__1336 : decode cL_law_ 1336 = .ok (.invokevirtual 213, 3) := by decide +kernel
theorem dL_law__1339 : decode cL_law_ 1339 = .ok (.if_icmp .eq 1179, 3) := by decide +kernel
theorem dL_law__1342 : decode cL_law_ 1342 = .ok (.iconst 0, 1) := by decide +kernel
theorem dL_law__1343 : decode cL_law_ 1343 = .ok (.ireturn, 1) := by decide +kernel
theorem dL_law__1344 : decode cL_law_ 1344 = .ok (.aload_n 1, 1) := by decide +kernel
theorem dL_law__1345 : decode cL_law_ 1345 = .ok (.invokevirtual 214, 3) := by decide +kernel
theorem dL_law__1348 : decode cL_law_ 1348 = .ok (.aload_n 2, 1) := by decide +kernel
theorem dL_law__1349 : decode cL_law_ 1349 = .ok (.invokevirtual 217, 3) := by decide +kernel
theorem dL_law__1352 : decode cL_law_ 1352 = .ok (.if_icmp .eq 1166, 3) := by decide +kernel
theorem dL_law__1355 : decode cL_law_ 1355 = .ok (.iconst 0, 1) := by decide +kernel
theorem dL_law__1356 : decode cL_law_ 1356 = .ok (.ireturn, 1) := by decide +kernel
theorem dL_law__1357 : decode cL_law_ 1357 = .ok (.aload_n 1, 1) := by decide +kernel
theorem dL_law__1358 : decode cL_law_ 1358 = .ok (.aload_n 0, 1) := by decide +kernel
theorem dL_law__1359 : decode cL_law_ 1359 = .ok (.iload 4, 2) := by decide +kernel
theorem dL_law__1361 : decode cL_law_ 1361 = .ok (.iconst 1, 1) := by decide +kernel
theorem dL_law__1362 : decode cL_law_ 1362 = .ok (.iadd, 1) := by decide +kernel
theorem dL_law__1363 : decode cL_law_ 1363 = .ok (.iaload, 1) := by decide +kernel
theorem dL_law__1364 : decode cL_law_ 1364 = .ok (.invokevirtual 218, 3) := by decide +kernel
theorem dL_law__1367 : decode cL_law_ 1367 = .ok (.aload_n 2, 1) := by decide +kernel
theorem dL_law__1368 : decode cL_law_ 1368 = .ok (.aload_n 0, 1) := by decide +kernel
theorem dL_law__1369 : decode cL_law_ 1369 = .ok (.iload 4, 2) := by decide +kernel
theorem dL_law__1371 : decode cL_law_ 1371 = .ok (.iconst 1, 1) := by decide +kernel
theorem dL_law__1372 : decode cL_law_ 1372 = .ok (.iadd, 1) := by decide +kernel
theorem dL_law__1373 : decode cL_law_ 1373 = .ok (.iaload, 1) := by decide +kernel
theorem dL_law__1374 : decode cL_law_ 1374 = .ok (.invokevirtual 221, 3) := by decide +kernel
theorem dL_law__1377 : decode cL_law_ 1377 = .ok (.if_icmp .eq 1141, 3) := by decide +kernel
theorem dL_law__1380 : decode cL_law_ 1380 = .ok (.iconst 0, 1) := by decide +kernel
theorem dL_law__1381 : decode cL_law_ 1381 = .ok (.ireturn, 1) := by decide +kernel
theorem dL_law__1382 : decode cL_law_ 1382 = .ok (.aload_n 1, 1) := by decide +kernel
theorem dL_law__1383 : decode cL_law_ 1383 = .ok (.aload_n 0, 1) := by decide +kernel
theorem dL_law__1384 : decode cL_law_ 1384 = .ok (.iload 4, 2) := by decide +kernel
theorem dL_law__1386 : decode cL_law_ 1386 = .ok (.iconst 1, 1) := by decide +kernel
theorem dL_law__1387 : decode cL_law_ 1387 = .ok (.iadd, 1) := by decide +kernel
theorem dL_law__1388 : decode cL_law_ 1388 = .ok (.iaload, 1) := by decide +kernel
theorem dL_law__1389 : decode cL_law_ 1389 = .ok (.ifCond .eq 7, 3) := by decide +kernel
theorem dL_law__1392 : decode cL_law_ 1392 = .ok (.iconst 1, 1) := by decide +kernel
theorem dL_law__1393 : decode cL_law_ 1393 = .ok (.goto 4, 3) := by decide +kernel
theorem dL_law__1396 : decode cL_law_ 1396 = .ok (.iconst 0, 1) := by decide +kernel
theorem dL_law__1397 : decode cL_law_ 1397 = .ok (.aload_n 3, 1) := by decide +kernel
theorem dL_law__1398 : decode cL_law_ 1398 = .ok (.invokestatic 222, 3) := by decide +kernel
theorem dL_law__1401 : decode cL_law_ 1401 = .ok (.istore 5, 2) := by decide +kernel
theorem dL_law__1403 : decode cL_law_ 1403 = .ok (.aload_n 2, 1) := by decide +kernel
theorem dL_law__1404 : decode cL_law_ 1404 = .ok (.aload_n 0, 1) := by decide +kernel
theorem dL_law__1405 : decode cL_law_ 1405 = .ok (.iload 4, 2) := by decide +kernel
theorem dL_law__1407 : decode cL_law_ 1407 = .ok (.iconst 1, 1) := by decide +kernel
theorem dL_law__1408 : decode cL_law_ 1408 = .ok (.iadd, 1) := by decide +kernel
theorem dL_law__1409 : decode cL_law_ 1409 = .ok (.iaload, 1) := by decide +kernel
theorem dL_law__1410 : decode cL_law_ 1410 = .ok (.ifCond .eq 7, 3) := by decide +kernel
theorem dL_law__1413 : decode cL_law_ 1413 = .ok (.iconst 1, 1) := by decide +kernel
theorem dL_law__1414 : decode cL_law_ 1414 = .ok (.goto 4, 3) := by decide +kernel
theorem dL_law__1417 : decode cL_law_ 1417 = .ok (.iconst 0, 1) := by decide +kernel
theorem dL_law__1418 : decode cL_law_ 1418 = .ok (.invokevirtual 225, 3) := by decide +kernel
theorem dL_law__1421 : decode cL_law_ 1421 = .ok (.istore 6, 2) := by decide +kernel
theorem dL_law__1423 : decode cL_law_ 1423 = .ok (.aload_n 2, 1) := by decide +kernel
theorem dL_law__1424 : decode cL_law_ 1424 = .ok (.invokevirtual 138, 3) := by decide +kernel
theorem dL_law__1427 : decode cL_law_ 1427 = .ok (.iload 5, 2) := by decide +kernel
theorem dL_law__1429 : decode cL_law_ 1429 = .ok (.if_icmp .eq 5, 3) := by decide +kernel
theorem dL_law__1432 : decode cL_law_ 1432 = .ok (.iconst 0, 1) := by decide +kernel
theorem dL_law__1433 : decode cL_law_ 1433 = .ok (.ireturn, 1) := by decide +kernel
theorem dL_law__1434 : decode cL_law_ 1434 = .ok (.iload 5, 2) := by decide +kernel
theorem dL_law__1436 : decode cL_law_ 1436 = .ok (.ifCond .ne 15, 3) := by decide +kernel
theorem dL_law__1439 : decode cL_law_ 1439 = .ok (.aload_n 3, 1) := by decide +kernel
theorem dL_law__1440 : decode cL_law_ 1440 = .ok (.iconst 0, 1) := by decide +kernel
theorem dL_law__1441 : decode cL_law_ 1441 = .ok (.laload, 1) := by decide +kernel
theorem dL_law__1442 : decode cL_law_ 1442 = .ok (.iload 6, 2) := by decide +kernel
theorem dL_law__1444 : decode cL_law_ 1444 = .ok (.i2l, 1) := by decide +kernel
theorem dL_law__1445 : decode cL_law_ 1445 = .ok (.lcmp, 1) := by decide +kernel
theorem dL_law__1446 : decode cL_law_ 1446 = .ok (.ifCond .eq 5, 3) := by decide +kernel
theorem dL_law__1449 : decode cL_law_ 1449 = .ok (.iconst 0, 1) := by decide +kernel
theorem dL_law__1450 : decode cL_law_ 1450 = .ok (.ireturn, 1) := by decide +kernel
theorem dL_law__1451 : decode cL_law_ 1451 = .ok (.goto 1067, 3) := by decide +kernel
theorem dL_law__1454 : decode cL_law_ 1454 = .ok (.aload_n 1, 1) := by decide +kernel
theorem dL_law__1455 : decode cL_law_ 1455 = .ok (.aload_n 3, 1) := by decide +kernel
theorem dL_law__1456 : decode cL_law_ 1456 = .ok (.invokestatic 226, 3) := by decide +kernel
theorem dL_law__1459 : decode cL_law_ 1459 = .ok (.istore 5, 2) := by decide +kernel
theorem dL_law__1461 : decode cL_law_ 1461 = .ok (.aload_n 2, 1) := by decide +kernel
theorem dL_law__1462 : decode cL_law_ 1462 = .ok (.invokevirtual 228, 3) := by decide +kernel
theorem dL_law__1465 : decode cL_law_ 1465 = .ok (.istore 6, 2) := by decide +kernel
theorem dL_law__1467 : decode cL_law_ 1467 = .ok (.aload_n 2, 1) := by decide +kernel
theorem dL_law__1468 : decode cL_law_ 1468 = .ok (.invokevirtual 138, 3) := by decide +kernel
theorem dL_law__1471 : decode cL_law_ 1471 = .ok (.iload 5, 2) := by decide +kernel
theorem dL_law__1473 : decode cL_law_ 1473 = .ok (.if_icmp .eq 5, 3) := by decide +kernel
theorem dL_law__1476 : decode cL_law_ 1476 = .ok (.iconst 0, 1) := by decide +kernel
theorem dL_law__1477 : decode cL_law_ 1477 = .ok (.ireturn, 1) := by decide +kernel
theorem dL_law__1478 : decode cL_law_ 1478 = .ok (.iload 5, 2) := by decide +kernel
theorem dL_law__1480 : decode cL_law_ 1480 = .ok (.ifCond .ne 15, 3) := by decide +kernel
theorem dL_law__1483 : decode cL_law_ 1483 = .ok (.aload_n 3, 1) := by decide +kernel
theorem dL_law__1484 : decode cL_law_ 1484 = .ok (.iconst 0, 1) := by decide +kernel
theorem dL_law__1485 : decode cL_law_ 1485 = .ok (.laload, 1) := by decide +kernel
theorem dL_law__1486 : decode cL_law_ 1486 = .ok (.iload 6, 2) := by decide +kernel
theorem dL_law__1488 : decode cL_law_ 1488 = .ok (.i2l, 1) := by decide +kernel
theorem dL_law__1489 : decode cL_law_ 1489 = .ok (.lcmp, 1) := by decide +kernel
theorem dL_law__1490 : decode cL_law_ 1490 = .ok (.ifCond .eq 5, 3) := by decide +kernel
theorem dL_law__1493 : decode cL_law_ 1493 = .ok (.iconst 0, 1) := by decide +kernel
theorem dL_law__1494 : decode cL_law_ 1494 = .ok (.ireturn, 1) := by decide +kernel
theorem dL_law__1495 : decode cL_law_ 1495 = .ok (.goto 1023, 3) := by decide +kernel
theorem dL_law__1498 : decode cL_law_ 1498 = .ok (.aload_n 1, 1) := by decide +kernel
theorem dL_law__1499 : decode cL_law_ 1499 = .ok (.aload_n 3, 1) := by decide +kernel
theorem dL_law__1500 : decode cL_law_ 1500 = .ok (.invokestatic 229, 3) := by decide +kernel
theorem dL_law__1503 : decode cL_law_ 1503 = .ok (.istore 5, 2) := by decide +kernel
theorem dL_law__1505 : decode cL_law_ 1505 = .ok (.aload_n 2, 1) := by decide +kernel
theorem dL_law__1506 : decode cL_law_ 1506 = .ok (.invokevirtual 231, 3) := by decide +kernel
theorem dL_law__1509 : decode cL_law_ 1509 = .ok (.istore 6, 2) := by decide +kernel
theorem dL_law__1511 : decode cL_law_ 1511 = .ok (.aload_n 2, 1) := by decide +kernel
theorem dL_law__1512 : decode cL_law_ 1512 = .ok (.invokevirtual 138, 3) := by decide +kernel
theorem dL_law__1515 : decode cL_law_ 1515 = .ok (.iload 5, 2) := by decide +kernel
theorem dL_law__1517 : decode cL_law_ 1517 = .ok (.if_icmp .eq 5, 3) := by decide +kernel
theorem dL_law__1520 : decode cL_law_ 1520 = .ok (.iconst 0, 1) := by decide +kernel
theorem dL_law__1521 : decode cL_law_ 1521 = .ok (.ireturn, 1) := by decide +kernel
theorem dL_law__1522 : decode cL_law_ 1522 = .ok (.iload 5, 2) := by decide +kernel
theorem dL_law__1524 : decode cL_law_ 1524 = .ok (.ifCond .ne 15, 3) := by decide +kernel
theorem dL_law__1527 : decode cL_law_ 1527 = .ok (.aload_n 3, 1) := by decide +kernel
theorem dL_law__1528 : decode cL_law_ 1528 = .ok (.iconst 0, 1) := by decide +kernel
theorem dL_law__1529 : decode cL_law_ 1529 = .ok (.laload, 1) := by decide +kernel
theorem dL_law__1530 : decode cL_law_ 1530 = .ok (.iload 6, 2) := by decide +kernel
theorem dL_law__1532 : decode cL_law_ 1532 = .ok (.i2l, 1) := by decide +kernel
theorem dL_law__1533 : decode cL_law_ 1533 = .ok (.lcmp, 1) := by decide +kernel
theorem dL_law__1534 : decode cL_law_ 1534 = .ok (.ifCond .eq 5, 3) := by decide +kernel
theorem dL_law__1537 : decode cL_law_ 1537 = .ok (.iconst 0, 1) := by decide +kernel
theorem dL_law__1538 : decode cL_law_ 1538 = .ok (.ireturn, 1) := by decide +kernel
theorem dL_law__1539 : decode cL_law_ 1539 = .ok (.goto 979, 3) := by decide +kernel
theorem dL_law__1542 : decode cL_law_ 1542 = .ok (.aload_n 1, 1) := by decide +kernel
theorem dL_law__1543 : decode cL_law_ 1543 = .ok (.aload_n 3, 1) := by decide +kernel
theorem dL_law__1544 : decode cL_law_ 1544 = .ok (.invokestatic 232, 3) := by decide +kernel
theorem dL_law__1547 : decode cL_law_ 1547 = .ok (.istore 5, 2) := by decide +kernel
theorem dL_law__1549 : decode cL_law_ 1549 = .ok (.aload_n 2, 1) := by decide +kernel
theorem dL_law__1550 : decode cL_law_ 1550 = .ok (.invokevirtual 234, 3) := by decide +kernel
theorem dL_law__1553 : decode cL_law_ 1553 = .ok (.istore 6, 2) := by decide +kernel
theorem dL_law__1555 : decode cL_law_ 1555 = .ok (.aload_n 2, 1) := by decide +kernel
theorem dL_law__1556 : decode cL_law_ 1556 = .ok (.invokevirtual 138, 3) := by decide +kernel
theorem dL_law__1559 : decode cL_law_ 1559 = .ok (.iload 5, 2) := by decide +kernel
theorem dL_law__1561 : decode cL_law_ 1561 = .ok (.if_icmp .eq 5, 3) := by decide +kernel
theorem dL_law__1564 : decode cL_law_ 1564 = .ok (.iconst 0, 1) := by decide +kernel
theorem dL_law__1565 : decode cL_law_ 1565 = .ok (.ireturn, 1) := by decide +kernel
theorem dL_law__1566 : decode cL_law_ 1566 = .ok (.iload 5, 2) := by decide +kernel
theorem dL_law__1568 : decode cL_law_ 1568 = .ok (.ifCond .ne 15, 3) := by decide +kernel
theorem dL_law__1571 : decode cL_law_ 1571 = .ok (.aload_n 3, 1) := by decide +kernel
theorem dL_law__1572 : decode cL_law_ 1572 = .ok (.iconst 0, 1) := by decide +kernel
theorem dL_law__1573 : decode cL_law_ 1573 = .ok (.laload, 1) := by decide +kernel
theorem dL_law__1574 : decode cL_law_ 1574 = .ok (.iload 6, 2) := by decide +kernel
theorem dL_law__1576 : decode cL_law_ 1576 = .ok (.i2l, 1) := by decide +kernel
theorem dL_law__1577 : decode cL_law_ 1577 = .ok (.lcmp, 1) := by decide +kernel
theorem dL_law__1578 : decode cL_law_ 1578 = .ok (.ifCond .eq 5, 3) := by decide +kernel
theorem dL_law__1581 : decode cL_law_ 1581 = .ok (.iconst 0, 1) := by decide +kernel
theorem dL_law__1582 : decode cL_law_ 1582 = .ok (.ireturn, 1) := by decide +kernel
theorem dL_law__1583 : decode cL_law_ 1583 = .ok (.goto 935, 3) := by decide +kernel
theorem dL_law__1586 : decode cL_law_ 1586 = .ok (.aload_n 1, 1) := by decide +kernel
theorem dL_law__1587 : decode cL_law_ 1587 = .ok (.aload_n 3, 1) := by decide +kernel
theorem dL_law__1588 : decode cL_law_ 1588 = .ok (.invokestatic 235, 3) := by decide +kernel
theorem dL_law__1591 : decode cL_law_ 1591 = .ok (.istore 5, 2) := by decide +kernel
theorem dL_law__1593 : decode cL_law_ 1593 = .ok (.aload_n 2, 1) := by decide +kernel
theorem dL_law__1594 : decode cL_law_ 1594 = .ok (.invokevirtual 237, 3) := by decide +kernel
theorem dL_law__1597 : decode cL_law_ 1597 = .ok (.istore 6, 2) := by decide +kernel
theorem dL_law__1599 : decode cL_law_ 1599 = .ok (.aload_n 2, 1) := by decide +kernel
theorem dL_law__1600 : decode cL_law_ 1600 = .ok (.invokevirtual 138, 3) := by decide +kernel
theorem dL_law__1603 : decode cL_law_ 1603 = .ok (.iload 5, 2) := by decide +kernel
theorem dL_law__1605 : decode cL_law_ 1605 = .ok (.if_icmp .eq 5, 3) := by decide +kernel
theorem dL_law__1608 : decode cL_law_ 1608 = .ok (.iconst 0, 1) := by decide +kernel
theorem dL_law__1609 : decode cL_law_ 1609 = .ok (.ireturn, 1) := by decide +kernel
theorem dL_law__1610 : decode cL_law_ 1610 = .ok (.iload 5, 2) := by decide +kernel
theorem dL_law__1612 : decode cL_law_ 1612 = .ok (.ifCond .ne 15, 3) := by decide +kernel
theorem dL_law__1615 : decode cL_law_ 1615 = .ok (.aload_n 3, 1) := by decide +kernel
theorem dL_law__1616 : decode cL_law_ 1616 = .ok (.iconst 0, 1) := by decide +kernel
theorem dL_law__1617 : decode cL_law_ 1617 = .ok (.laload, 1) := by decide +kernel
theorem dL_law__1618 : decode cL_law_ 1618 = .ok (.iload 6, 2) := by decide +kernel
theorem dL_law__1620 : decode cL_law_ 1620 = .ok (.i2l, 1) := by decide +kernel
theorem dL_law__1621 : decode cL_law_ 1621 = .ok (.lcmp, 1) := by decide +kernel
theorem dL_law__1622 : decode cL_law_ 1622 = .ok (.ifCond .eq 5, 3) := by decide +kernel
theorem dL_law__1625 : decode cL_law_ 1625 = .ok (.iconst 0, 1) := by decide +kernel
theorem dL_law__1626 : decode cL_law_ 1626 = .ok (.ireturn, 1) := by decide +kernel
theorem dL_law__1627 : decode cL_law_ 1627 = .ok (.goto 891, 3) := by decide +kernel
theorem dL_law__1630 : decode cL_law_ 1630 = .ok (.aload_n 1, 1) := by decide +kernel
theorem dL_law__1631 : decode cL_law_ 1631 = .ok (.aload_n 0, 1) := by decide +kernel
theorem dL_law__1632 : decode cL_law_ 1632 = .ok (.iload 4, 2) := by decide +kernel
theorem dL_law__1634 : decode cL_law_ 1634 = .ok (.iconst 1, 1) := by decide +kernel
theorem dL_law__1635 : decode cL_law_ 1635 = .ok (.iadd, 1) := by decide +kernel
theorem dL_law__1636 : decode cL_law_ 1636 = .ok (.iaload, 1) := by decide +kernel
theorem dL_law__1637 : decode cL_law_ 1637 = .ok (.aload_n 3, 1) := by decide +kernel
theorem dL_law__1638 : decode cL_law_ 1638 = .ok (.invokestatic 238, 3) := by decide +kernel
theorem dL_law__1641 : decode cL_law_ 1641 = .ok (.istore 5, 2) := by decide +kernel
theorem dL_law__1643 : decode cL_law_ 1643 = .ok (.aload_n 2, 1) := by decide +kernel
theorem dL_law__1644 : decode cL_law_ 1644 = .ok (.aload_n 0, 1) := by decide +kernel
theorem dL_law__1645 : decode cL_law_ 1645 = .ok (.iload 4, 2) := by decide +kernel
theorem dL_law__1647 : decode cL_law_ 1647 = .ok (.iconst 1, 1) := by decide +kernel
theorem dL_law__1648 : decode cL_law_ 1648 = .ok (.iadd, 1) := by decide +kernel
theorem dL_law__1649 : decode cL_law_ 1649 = .ok (.iaload, 1) := by decide +kernel
theorem dL_law__1650 : decode cL_law_ 1650 = .ok (.invokevirtual 240, 3) := by decide +kernel
theorem dL_law__1653 : decode cL_law_ 1653 = .ok (.istore 6, 2) := by decide +kernel
theorem dL_law__1655 : decode cL_law_ 1655 = .ok (.aload_n 2, 1) := by decide +kernel
theorem dL_law__1656 : decode cL_law_ 1656 = .ok (.invokevirtual 138, 3) := by decide +kernel
theorem dL_law__1659 : decode cL_law_ 1659 = .ok (.iload 5, 2) := by decide +kernel
theorem dL_law__1661 : decode cL_law_ 1661 = .ok (.if_icmp .eq 5, 3) := by decide +kernel
theorem dL_law__1664 : decode cL_law_ 1664 = .ok (.iconst 0, 1) := by decide +kernel
theorem dL_law__1665 : decode cL_law_ 1665 = .ok (.ireturn, 1) := by decide +kernel
theorem dL_law__1666 : decode cL_law_ 1666 = .ok (.iload 5, 2) := by decide +kernel
theorem dL_law__1668 : decode cL_law_ 1668 = .ok (.ifCond .ne 15, 3) := by decide +kernel
theorem dL_law__1671 : decode cL_law_ 1671 = .ok (.aload_n 3, 1) := by decide +kernel
theorem dL_law__1672 : decode cL_law_ 1672 = .ok (.iconst 0, 1) := by decide +kernel
theorem dL_law__1673 : decode cL_law_ 1673 = .ok (.laload, 1) := by decide +kernel
theorem dL_law__1674 : decode cL_law_ 1674 = .ok (.iload 6, 2) := by decide +kernel
theorem dL_law__1676 : decode cL_law_ 1676 = .ok (.i2l, 1) := by decide +kernel
theorem dL_law__1677 : decode cL_law_ 1677 = .ok (.lcmp, 1) := by decide +kernel
theorem dL_law__1678 : decode cL_law_ 1678 = .ok (.ifCond .eq 5, 3) := by decide +kernel
theorem dL_law__1681 : decode cL_law_ 1681 = .ok (.iconst 0, 1) := by decide +kernel
theorem dL_law__1682 : decode cL_law_ 1682 = .ok (.ireturn, 1) := by decide +kernel
theorem dL_law__1683 : decode cL_law_ 1683 = .ok (.goto 835, 3) := by decide +kernel
theorem dL_law__1686 : decode cL_law_ 1686 = .ok (.aload_n 1, 1) := by decide +kernel
theorem dL_law__1687 : decode cL_law_ 1687 = .ok (.aload_n 0, 1) := by decide +kernel
theorem dL_law__1688 : decode cL_law_ 1688 = .ok (.iload 4, 2) := by decide +kernel
theorem dL_law__1690 : decode cL_law_ 1690 = .ok (.iconst 1, 1) := by decide +kernel
theorem dL_law__1691 : decode cL_law_ 1691 = .ok (.iadd, 1) := by decide +kernel
theorem dL_law__1692 : decode cL_law_ 1692 = .ok (.iaload, 1) := by decide +kernel
theorem dL_law__1693 : decode cL_law_ 1693 = .ok (.aload_n 0, 1) := by decide +kernel
theorem dL_law__1694 : decode cL_law_ 1694 = .ok (.iload 4, 2) := by decide +kernel
theorem dL_law__1696 : decode cL_law_ 1696 = .ok (.iconst 2, 1) := by decide +kernel
theorem dL_law__1697 : decode cL_law_ 1697 = .ok (.iadd, 1) := by decide +kernel
theorem dL_law__1698 : decode cL_law_ 1698 = .ok (.iaload, 1) := by decide +kernel
theorem dL_law__1699 : decode cL_law_ 1699 = .ok (.aload_n 3, 1) := by decide +kernel
theorem dL_law__1700 : decode cL_law_ 1700 = .ok (.invokestatic 241, 3) := by decide +kernel
theorem dL_law__1703 : decode cL_law_ 1703 = .ok (.istore 5, 2) := by decide +kernel
theorem dL_law__1705 : decode cL_law_ 1705 = .ok (.aload_n 2, 1) := by decide +kernel
theorem dL_law__1706 : decode cL_law_ 1706 = .ok (.aload_n 0, 1) := by decide +kernel
theorem dL_law__1707 : decode cL_law_ 1707 = .ok (.iload 4, 2) := by decide +kernel
theorem dL_law__1709 : decode cL_law_ 1709 = .ok (.iconst 1, 1) := by decide +kernel
theorem dL_law__1710 : decode cL_law_ 1710 = .ok (.iadd, 1) := by decide +kernel
theorem dL_law__1711 : decode cL_law_ 1711 = .ok (.iaload, 1) := by decide +kernel
theorem dL_law__1712 : decode cL_law_ 1712 = .ok (.aload_n 0, 1) := by decide +kernel
theorem dL_law__1713 : decode cL_law_ 1713 = .ok (.iload 4, 2) := by decide +kernel
theorem dL_law__1715 : decode cL_law_ 1715 = .ok (.iconst 2, 1) := by decide +kernel
theorem dL_law__1716 : decode cL_law_ 1716 = .ok (.iadd, 1) := by decide +kernel
theorem dL_law__1717 : decode cL_law_ 1717 = .ok (.iaload, 1) := by decide +kernel
theorem dL_law__1718 : decode cL_law_ 1718 = .ok (.invokevirtual 243, 3) := by decide +kernel
theorem dL_law__1721 : decode cL_law_ 1721 = .ok (.istore 6, 2) := by decide +kernel
theorem dL_law__1723 : decode cL_law_ 1723 = .ok (.aload_n 2, 1) := by decide +kernel
theorem dL_law__1724 : decode cL_law_ 1724 = .ok (.invokevirtual 138, 3) := by decide +kernel
theorem dL_law__1727 : decode cL_law_ 1727 = .ok (.iload 5, 2) := by decide +kernel
theorem dL_law__1729 : decode cL_law_ 1729 = .ok (.if_icmp .eq 5, 3) := by decide +kernel
theorem dL_law__1732 : decode cL_law_ 1732 = .ok (.iconst 0, 1) := by decide +kernel
theorem dL_law__1733 : decode cL_law_ 1733 = .ok (.ireturn, 1) := by decide +kernel
theorem dL_law__1734 : decode cL_law_ 1734 = .ok (.iload 5, 2) := by decide +kernel
theorem dL_law__1736 : decode cL_law_ 1736 = .ok (.ifCond .ne 15, 3) := by decide +kernel
theorem dL_law__1739 : decode cL_law_ 1739 = .ok (.aload_n 3, 1) := by decide +kernel
theorem dL_law__1740 : decode cL_law_ 1740 = .ok (.iconst 0, 1) := by decide +kernel
theorem dL_law__1741 : decode cL_law_ 1741 = .ok (.laload, 1) := by decide +kernel
theorem dL_law__1742 : decode cL_law_ 1742 = .ok (.iload 6, 2) := by decide +kernel
theorem dL_law__1744 : decode cL_law_ 1744 = .ok (.i2l, 1) := by decide +kernel
theorem dL_law__1745 : decode cL_law_ 1745 = .ok (.lcmp, 1) := by decide +kernel
theorem dL_law__1746 : decode cL_law_ 1746 = .ok (.ifCond .eq 5, 3) := by decide +kernel
theorem dL_law__1749 : decode cL_law_ 1749 = .ok (.iconst 0, 1) := by decide +kernel
theorem dL_law__1750 : decode cL_law_ 1750 = .ok (.ireturn, 1) := by decide +kernel
theorem dL_law__1751 : decode cL_law_ 1751 = .ok (.goto 767, 3) := by decide +kernel
theorem dL_law__1754 : decode cL_law_ 1754 = .ok (.aload_n 1, 1) := by decide +kernel
theorem dL_law__1755 : decode cL_law_ 1755 = .ok (.aload_n 0, 1) := by decide +kernel
theorem dL_law__1756 : decode cL_law_ 1756 = .ok (.iload 4, 2) := by decide +kernel
theorem dL_law__1758 : decode cL_law_ 1758 = .ok (.iconst 1, 1) := by decide +kernel
theorem dL_law__1759 : decode cL_law_ 1759 = .ok (.iadd, 1) := by decide +kernel
theorem dL_law__1760 : decode cL_law_ 1760 = .ok (.iaload, 1) := by decide +kernel
theorem dL_law__1761 : decode cL_law_ 1761 = .ok (.aload_n 3, 1) := by decide +kernel
theorem dL_law__1762 : decode cL_law_ 1762 = .ok (.invokestatic 244, 3) := by decide +kernel
theorem dL_law__1765 : decode cL_law_ 1765 = .ok (.istore 5, 2) := by decide +kernel
theorem dL_law__1767 : decode cL_law_ 1767 = .ok (.aload_n 2, 1) := by decide +kernel
theorem dL_law__1768 : decode cL_law_ 1768 = .ok (.aload_n 0, 1) := by decide +kernel
theorem dL_law__1769 : decode cL_law_ 1769 = .ok (.iload 4, 2) := by decide +kernel
theorem dL_law__1771 : decode cL_law_ 1771 = .ok (.iconst 1, 1) := by decide +kernel
theorem dL_law__1772 : decode cL_law_ 1772 = .ok (.iadd, 1) := by decide +kernel
theorem dL_law__1773 : decode cL_law_ 1773 = .ok (.iaload, 1) := by decide +kernel
theorem dL_law__1774 : decode cL_law_ 1774 = .ok (.invokevirtual 246, 3) := by decide +kernel
theorem dL_law__1777 : decode cL_law_ 1777 = .ok (.istore 6, 2) := by decide +kernel
theorem dL_law__1779 : decode cL_law_ 1779 = .ok (.aload_n 2, 1) := by decide +kernel
theorem dL_law__1780 : decode cL_law_ 1780 = .ok (.invokevirtual 138, 3) := by decide +kernel
theorem dL_law__1783 : decode cL_law_ 1783 = .ok (.iload 5, 2) := by decide +kernel
theorem dL_law__1785 : decode cL_law_ 1785 = .ok (.if_icmp .eq 5, 3) := by decide +kernel
theorem dL_law__1788 : decode cL_law_ 1788 = .ok (.iconst 0, 1) := by decide +kernel
theorem dL_law__1789 : decode cL_law_ 1789 = .ok (.ireturn, 1) := by decide +kernel
theorem dL_law__1790 : decode cL_law_ 1790 = .ok (.iload 5, 2) := by decide +kernel
theorem dL_law__1792 : decode cL_law_ 1792 = .ok (.ifCond .ne 15, 3) := by decide +kernel
theorem dL_law__1795 : decode cL_law_ 1795 = .ok (.aload_n 3, 1) := by decide +kernel
theorem dL_law__1796 : decode cL_law_ 1796 = .ok (.iconst 0, 1) := by decide +kernel
theorem dL_law__1797 : decode cL_law_ 1797 = .ok (.laload, 1) := by decide +kernel
theorem dL_law__1798 : decode cL_law_ 1798 = .ok (.iload 6, 2) := by decide +kernel
theorem dL_law__1800 : decode cL_law_ 1800 = .ok (.i2l, 1) := by decide +kernel
theorem dL_law__1801 : decode cL_law_ 1801 = .ok (.lcmp, 1) := by decide +kernel
theorem dL_law__1802 : decode cL_law_ 1802 = .ok (.ifCond .eq 5, 3) := by decide +kernel
theorem dL_law__1805 : decode cL_law_ 1805 = .ok (.iconst 0, 1) := by decide +kernel
theorem dL_law__1806 : decode cL_law_ 1806 = .ok (.ireturn, 1) := by decide +kernel
theorem dL_law__1807 : decode cL_law_ 1807 = .ok (.goto 711, 3) := by decide +kernel
theorem dL_law__1810 : decode cL_law_ 1810 = .ok (.aload_n 1, 1) := by decide +kernel
theorem dL_law__1811 : decode cL_law_ 1811 = .ok (.aload_n 0, 1) := by decide +kernel
theorem dL_law__1812 : decode cL_law_ 1812 = .ok (.iload 4, 2) := by decide +kernel
theorem dL_law__1814 : decode cL_law_ 1814 = .ok (.iconst 1, 1) := by decide +kernel
theorem dL_law__1815 : decode cL_law_ 1815 = .ok (.iadd, 1) := by decide +kernel
theorem dL_law__1816 : decode cL_law_ 1816 = .ok (.iaload, 1) := by decide +kernel
theorem dL_law__1817 : decode cL_law_ 1817 = .ok (.aload_n 0, 1) := by decide +kernel
theorem dL_law__1818 : decode cL_law_ 1818 = .ok (.iload 4, 2) := by decide +kernel
theorem dL_law__1820 : decode cL_law_ 1820 = .ok (.iconst 2, 1) := by decide +kernel
theorem dL_law__1821 : decode cL_law_ 1821 = .ok (.iadd, 1) := by decide +kernel
theorem dL_law__1822 : decode cL_law_ 1822 = .ok (.iaload, 1) := by decide +kernel
theorem dL_law__1823 : decode cL_law_ 1823 = .ok (.aload_n 0, 1) := by decide +kernel
theorem dL_law__1824 : decode cL_law_ 1824 = .ok (.iload 4, 2) := by decide +kernel
theorem dL_law__1826 : decode cL_law_ 1826 = .ok (.iconst 3, 1) := by decide +kernel
theorem dL_law__1827 : decode cL_law_ 1827 = .ok (.iadd, 1) := by decide +kernel
theorem dL_law__1828 : decode cL_law_ 1828 = .ok (.iaload, 1) := by decide +kernel
theorem dL_law__1829 : decode cL_law_ 1829 = .ok (.aload_n 3, 1) := by decide +kernel
theorem dL_law__1830 : decode cL_law_ 1830 = .ok (.invokestatic 247, 3) := by decide +kernel
theorem dL_law__1833 : decode cL_law_ 1833 = .ok (.istore 5, 2) := by decide +kernel
theorem dL_law__1835 : decode cL_law_ 1835 = .ok (.aload_n 2, 1) := by decide +kernel
theorem dL_law__1836 : decode cL_law_ 1836 = .ok (.aload_n 0, 1) := by decide +kernel
theorem dL_law__1837 : decode cL_law_ 1837 = .ok (.iload 4, 2) := by decide +kernel
theorem dL_law__1839 : decode cL_law_ 1839 = .ok (.iconst 1, 1) := by decide +kernel
theorem dL_law__1840 : decode cL_law_ 1840 = .ok (.iadd, 1) := by decide +kernel
theorem dL_law__1841 : decode cL_law_ 1841 = .ok (.iaload, 1) := by decide +kernel
theorem dL_law__1842 : decode cL_law_ 1842 = .ok (.aload_n 0, 1) := by decide +kernel
theorem dL_law__1843 : decode cL_law_ 1843 = .ok (.iload 4, 2) := by decide +kernel
theorem dL_law__1845 : decode cL_law_ 1845 = .ok (.iconst 2, 1) := by decide +kernel
theorem dL_law__1846 : decode cL_law_ 1846 = .ok (.iadd, 1) := by decide +kernel
theorem dL_law__1847 : decode cL_law_ 1847 = .ok (.iaload, 1) := by decide +kernel
theorem dL_law__1848 : decode cL_law_ 1848 = .ok (.aload_n 0, 1) := by decide +kernel
theorem dL_law__1849 : decode cL_law_ 1849 = .ok (.iload 4, 2) := by decide +kernel
theorem dL_law__1851 : decode cL_law_ 1851 = .ok (.iconst 3, 1) := by decide +kernel
theorem dL_law__1852 : decode cL_law_ 1852 = .ok (.iadd, 1) := by decide +kernel
theorem dL_law__1853 : decode cL_law_ 1853 = .ok (.iaload, 1) := by decide +kernel
theorem dL_law__1854 : decode cL_law_ 1854 = .ok (.invokevirtual 249, 3) := by decide +kernel
theorem dL_law__1857 : decode cL_law_ 1857 = .ok (.istore 6, 2) := by decide +kernel
theorem dL_law__1859 : decode cL_law_ 1859 = .ok (.aload_n 2, 1) := by decide +kernel
theorem dL_law__1860 : decode cL_law_ 1860 = .ok (.invokevirtual 138, 3) := by decide +kernel
theorem dL_law__1863 : decode cL_law_ 1863 = .ok (.iload 5, 2) := by decide +kernel
theorem dL_law__1865 : decode cL_law_ 1865 = .ok (.if_icmp .eq 5, 3) := by decide +kernel
theorem dL_law__1868 : decode cL_law_ 1868 = .ok (.iconst 0, 1) := by decide +kernel
theorem dL_law__1869 : decode cL_law_ 1869 = .ok (.ireturn, 1) := by decide +kernel
theorem dL_law__1870 : decode cL_law_ 1870 = .ok (.iload 5, 2) := by decide +kernel
theorem dL_law__1872 : decode cL_law_ 1872 = .ok (.ifCond .ne 15, 3) := by decide +kernel
theorem dL_law__1875 : decode cL_law_ 1875 = .ok (.aload_n 3, 1) := by decide +kernel
theorem dL_law__1876 : decode cL_law_ 1876 = .ok (.iconst 0, 1) := by decide +kernel
theorem dL_law__1877 : decode cL_law_ 1877 = .ok (.laload, 1) := by decide +kernel
theorem dL_law__1878 : decode cL_law_ 1878 = .ok (.iload 6, 2) := by decide +kernel
theorem dL_law__1880 : decode cL_law_ 1880 = .ok (.i2l, 1) := by decide +kernel
theorem dL_law__1881 : decode cL_law_ 1881 = .ok (.lcmp, 1) := by decide +kernel
theorem dL_law__1882 : decode cL_law_ 1882 = .ok (.ifCond .eq 5, 3) := by decide +kernel
theorem dL_law__1885 : decode cL_law_ 1885 = .ok (.iconst 0, 1) := by decide +kernel
theorem dL_law__1886 : decode cL_law_ 1886 = .ok (.ireturn, 1) := by decide +kernel
theorem dL_law__1887 : decode cL_law_ 1887 = .ok (.goto 631, 3) := by decide +kernel
theorem dL_law__1890 : decode cL_law_ 1890 = .ok (.aload_n 1, 1) := by decide +kernel
theorem dL_law__1891 : decode cL_law_ 1891 = .ok (.aload_n 0, 1) := by decide +kernel
theorem dL_law__1892 : decode cL_law_ 1892 = .ok (.iload 4, 2) := by decide +kernel
theorem dL_law__1894 : decode cL_law_ 1894 = .ok (.iconst 1, 1) := by decide +kernel
theorem dL_law__1895 : decode cL_law_ 1895 = .ok (.iadd, 1) := by decide +kernel
theorem dL_law__1896 : decode cL_law_ 1896 = .ok (.iaload, 1) := by decide +kernel
theorem dL_law__1897 : decode cL_law_ 1897 = .ok (.aload_n 3, 1) := by decide +kernel
theorem dL_law__1898 : decode cL_law_ 1898 = .ok (.invokestatic 250, 3) := by decide +kernel
theorem dL_law__1901 : decode cL_law_ 1901 = .ok (.istore 5, 2) := by decide +kernel
theorem dL_law__1903 : decode cL_law_ 1903 = .ok (.aload_n 2, 1) := by decide +kernel
theorem dL_law__1904 : decode cL_law_ 1904 = .ok (.aload_n 0, 1) := by decide +kernel
theorem dL_law__1905 : decode cL_law_ 1905 = .ok (.iload 4, 2) := by decide +kernel
theorem dL_law__1907 : decode cL_law_ 1907 = .ok (.iconst 1, 1) := by decide +kernel
theorem dL_law__1908 : decode cL_law_ 1908 = .ok (.iadd, 1) := by decide +kernel
theorem dL_law__1909 : decode cL_law_ 1909 = .ok (.iaload, 1) := by decide +kernel
theorem dL_law__1910 : decode cL_law_ 1910 = .ok (.invokevirtual 252, 3) := by decide +kernel
theorem dL_law__1913 : decode cL_law_ 1913 = .ok (.istore 6, 2) := by decide +kernel
theorem dL_law__1915 : decode cL_law_ 1915 = .ok (.aload_n 2, 1) := by decide +kernel
theorem dL_law__1916 : decode cL_law_ 1916 = .ok (.invokevirtual 138, 3) := by decide +kernel
theorem dL_law__1919 : decode cL_law_ 1919 = .ok (.iload 5, 2) := by decide +kernel
theorem dL_law__1921 : decode cL_law_ 1921 = .ok (.if_icmp .eq 5, 3) := by decide +kernel
theorem dL_law__1924 : decode cL_law_ 1924 = .ok (.iconst 0, 1) := by decide +kernel
theorem dL_law__1925 : decode cL_law_ 1925 = .ok (.ireturn, 1) := by decide +kernel
theorem dL_law__1926 : decode cL_law_ 1926 = .ok (.iload 5, 2) := by decide +kernel
theorem dL_law__1928 : decode cL_law_ 1928 = .ok (.ifCond .ne 15, 3) := by decide +kernel
theorem dL_law__1931 : decode cL_law_ 1931 = .ok (.aload_n 3, 1) := by decide +kernel
theorem dL_law__1932 : decode cL_law_ 1932 = .ok (.iconst 0, 1) := by decide +kernel
theorem dL_law__1933 : decode cL_law_ 1933 = .ok (.laload, 1) := by decide +kernel
theorem dL_law__1934 : decode cL_law_ 1934 = .ok (.iload 6, 2) := by decide +kernel
theorem dL_law__1936 : decode cL_law_ 1936 = .ok (.i2l, 1) := by decide +kernel
theorem dL_law__1937 : decode cL_law_ 1937 = .ok (.lcmp, 1) := by decide +kernel
theorem dL_law__1938 : decode cL_law_ 1938 = .ok (.ifCond .eq 5, 3) := by decide +kernel
theorem dL_law__1941 : decode cL_law_ 1941 = .ok (.iconst 0, 1) := by decide +kernel
theorem dL_law__1942 : decode cL_law_ 1942 = .ok (.ireturn, 1) := by decide +kernel
theorem dL_law__1943 : decode cL_law_ 1943 = .ok (.goto 575, 3) := by decide +kernel
theorem dL_law__1946 : decode cL_law_ 1946 = .ok (.aload_n 1, 1) := by decide +kernel
theorem dL_law__1947 : decode cL_law_ 1947 = .ok (.aload_n 0, 1) := by decide +kernel
theorem dL_law__1948 : decode cL_law_ 1948 = .ok (.iload 4, 2) := by decide +kernel
theorem dL_law__1950 : decode cL_law_ 1950 = .ok (.iconst 1, 1) := by decide +kernel
theorem dL_law__1951 : decode cL_law_ 1951 = .ok (.iadd, 1) := by decide +kernel
theorem dL_law__1952 : decode cL_law_ 1952 = .ok (.iaload, 1) := by decide +kernel
theorem dL_law__1953 : decode cL_law_ 1953 = .ok (.aload_n 3, 1) := by decide +kernel
theorem dL_law__1954 : decode cL_law_ 1954 = .ok (.invokestatic 253, 3) := by decide +kernel
theorem dL_law__1957 : decode cL_law_ 1957 = .ok (.istore 5, 2) := by decide +kernel
theorem dL_law__1959 : decode cL_law_ 1959 = .ok (.aload_n 2, 1) := by decide +kernel
theorem dL_law__1960 : decode cL_law_ 1960 = .ok (.aload_n 0, 1) := by decide +kernel
theorem dL_law__1961 : decode cL_law_ 1961 = .ok (.iload 4, 2) := by decide +kernel
theorem dL_law__1963 : decode cL_law_ 1963 = .ok (.iconst 1, 1) := by decide +kernel
theorem dL_law__1964 : decode cL_law_ 1964 = .ok (.iadd, 1) := by decide +kernel
theorem dL_law__1965 : decode cL_law_ 1965 = .ok (.iaload, 1) := by decide +kernel
theorem dL_law__1966 : decode cL_law_ 1966 = .ok (.invokevirtual 255, 3) := by decide +kernel
theorem dL_law__1969 : decode cL_law_ 1969 = .ok (.istore 6, 2) := by decide +kernel
theorem dL_law__1971 : decode cL_law_ 1971 = .ok (.aload_n 2, 1) := by decide +kernel
theorem dL_law__1972 : decode cL_law_ 1972 = .ok (.invokevirtual 138, 3) := by decide +kernel
theorem dL_law__1975 : decode cL_law_ 1975 = .ok (.iload 5, 2) := by decide +kernel
theorem dL_law__1977 : decode cL_law_ 1977 = .ok (.if_icmp .eq 5, 3) := by decide +kernel
theorem dL_law__1980 : decode cL_law_ 1980 = .ok (.iconst 0, 1) := by decide +kernel
theorem dL_law__1981 : decode cL_law_ 1981 = .ok (.ireturn, 1) := by decide +kernel
theorem dL_law__1982 : decode cL_law_ 1982 = .ok (.iload 5, 2) := by decide +kernel
theorem dL_law__1984 : decode cL_law_ 1984 = .ok (.ifCond .ne 15, 3) := by decide +kernel
theorem dL_law__1987 : decode cL_law_ 1987 = .ok (.aload_n 3, 1) := by decide +kernel
theorem dL_law__1988 : decode cL_law_ 1988 = .ok (.iconst 0, 1) := by decide +kernel
theorem dL_law__1989 : decode cL_law_ 1989 = .ok (.laload, 1) := by decide +kernel
theorem dL_law__1990 : decode cL_law_ 1990 = .ok (.iload 6, 2) := by decide +kernel
theorem dL_law__1992 : decode cL_law_ 1992 = .ok (.i2l, 1) := by decide +kernel
theorem dL_law__1993 : decode cL_law_ 1993 = .ok (.lcmp, 1) := by decide +kernel
theorem dL_law__1994 : decode cL_law_ 1994 = .ok (.ifCond .eq 5, 3) := by decide +kernel
theorem dL_law__1997 : decode cL_law_ 1997 = .ok (.iconst 0, 1) := by decide +kernel
theorem dL_law__1998 : decode cL_law_ 1998 = .ok (.ireturn, 1) := by decide +kernel
theorem dL_law__1999 : decode cL_law_ 1999 = .ok (.goto 519, 3) := by decide +kernel
theorem dL_law__2002 : decode cL_law_ 2002 = .ok (.aload_n 1, 1) := by decide +kernel
theorem dL_law__2003 : decode cL_law_ 2003 = .ok (.invokevirtual 256, 3) := by decide +kernel
theorem dL_law__2006 : decode cL_law_ 2006 = .ok (.aload_n 2, 1) := by decide +kernel
theorem dL_law__2007 : decode cL_law_ 2007 = .ok (.invokevirtual 259, 3) := by decide +kernel
theorem dL_law__2010 : decode cL_law_ 2010 = .ok (.if_icmp .eq 508, 3) := by decide +kernel
theorem dL_law__2013 : decode cL_law_ 2013 = .ok (.iconst 0, 1) := by decide +kernel
theorem dL_law__2014 : decode cL_law_ 2014 = .ok (.ireturn, 1) := by decide +kernel
theorem dL_law__2015 : decode cL_law_ 2015 = .ok (.aload_n 1, 1) := by decide +kernel
theorem dL_law__2016 : decode cL_law_ 2016 = .ok (.aload_n 0, 1) := by decide +kernel
theorem dL_law__2017 : decode cL_law_ 2017 = .ok (.iload 4, 2) := by decide +kernel
theorem dL_law__2019 : decode cL_law_ 2019 = .ok (.iconst 1, 1) := by decide +kernel
theorem dL_law__2020 : decode cL_law_ 2020 = .ok (.iadd, 1) := by decide +kernel
theorem dL_law__2021 : decode cL_law_ 2021 = .ok (.iaload, 1) := by decide +kernel
theorem dL_law__2022 : decode cL_law_ 2022 = .ok (.aload_n 0, 1) := by decide +kernel
theorem dL_law__2023 : decode cL_law_ 2023 = .ok (.iload 4, 2) := by decide +kernel
theorem dL_law__2025 : decode cL_law_ 2025 = .ok (.iconst 2, 1) := by decide +kernel
theorem dL_law__2026 : decode cL_law_ 2026 = .ok (.iadd, 1) := by decide +kernel
theorem dL_law__2027 : decode cL_law_ 2027 = .ok (.iaload, 1) := by decide +kernel
theorem dL_law__2028 : decode cL_law_ 2028 = .ok (.aload_n 0, 1) := by decide +kernel
theorem dL_law__2029 : decode cL_law_ 2029 = .ok (.iload 4, 2) := by decide +kernel
theorem dL_law__2031 : decode cL_law_ 2031 = .ok (.iconst 3, 1) := by decide +kernel
theorem dL_law__2032 : decode cL_law_ 2032 = .ok (.iadd, 1) := by decide +kernel
theorem dL_law__2033 : decode cL_law_ 2033 = .ok (.iaload, 1) := by decide +kernel
theorem dL_law__2034 : decode cL_law_ 2034 = .ok (.ifCond .eq 7, 3) := by decide +kernel
theorem dL_law__2037 : decode cL_law_ 2037 = .ok (.iconst 1, 1) := by decide +kernel
theorem dL_law__2038 : decode cL_law_ 2038 = .ok (.goto 4, 3) := by decide +kernel
theorem dL_law__2041 : decode cL_law_ 2041 = .ok (.iconst 0, 1) := by decide +kernel
theorem dL_law__2042 : decode cL_law_ 2042 = .ok (.aload_n 3, 1) := by decide +kernel
theorem dL_law__2043 : decode cL_law_ 2043 = .ok (.invokestatic 260, 3) := by decide +kernel
theorem dL_law__2046 : decode cL_law_ 2046 = .ok (.istore 5, 2) := by decide +kernel
theorem dL_law__2048 : decode cL_law_ 2048 = .ok (.aload_n 2, 1) := by decide +kernel
theorem dL_law__2049 : decode cL_law_ 2049 = .ok (.aload_n 0, 1) := by decide +kernel
theorem dL_law__2050 : decode cL_law_ 2050 = .ok (.iload 4, 2) := by decide +kernel
theorem dL_law__2052 : decode cL_law_ 2052 = .ok (.iconst 1, 1) := by decide +kernel
theorem dL_law__2053 : decode cL_law_ 2053 = .ok (.iadd, 1) := by decide +kernel
theorem dL_law__2054 : decode cL_law_ 2054 = .ok (.iaload, 1) := by decide +kernel
theorem dL_law__2055 : decode cL_law_ 2055 = .ok (.aload_n 0, 1) := by decide +kernel
theorem dL_law__2056 : decode cL_law_ 2056 = .ok (.iload 4, 2) := by decide +kernel
theorem dL_law__2058 : decode cL_law_ 2058 = .ok (.iconst 2, 1) := by decide +kernel
theorem dL_law__2059 : decode cL_law_ 2059 = .ok (.iadd, 1) := by decide +kernel
theorem dL_law__2060 : decode cL_law_ 2060 = .ok (.iaload, 1) := by decide +kernel
theorem dL_law__2061 : decode cL_law_ 2061 = .ok (.aload_n 0, 1) := by decide +kernel
theorem dL_law__2062 : decode cL_law_ 2062 = .ok (.iload 4, 2) := by decide +kernel
theorem dL_law__2064 : decode cL_law_ 2064 = .ok (.iconst 3, 1) := by decide +kernel
theorem dL_law__2065 : decode cL_law_ 2065 = .ok (.iadd, 1) := by decide +kernel
theorem dL_law__2066 : decode cL_law_ 2066 = .ok (.iaload, 1) := by decide +kernel
theorem dL_law__2067 : decode cL_law_ 2067 = .ok (.ifCond .eq 7, 3) := by decide +kernel
theorem dL_law__2070 : decode cL_law_ 2070 = .ok (.iconst 1, 1) := by decide +kernel
theorem dL_law__2071 : decode cL_law_ 2071 = .ok (.goto 4, 3) := by decide +kernel
theorem dL_law__2074 : decode cL_law_ 2074 = .ok (.iconst 0, 1) := by decide +kernel
theorem dL_law__2075 : decode cL_law_ 2075 = .ok (.invokevirtual 263, 3) := by decide +kernel
theorem dL_law__2078 : decode cL_law_ 2078 = .ok (.istore 6, 2) := by decide +kernel
theorem dL_law__2080 : decode cL_law_ 2080 = .ok (.aload_n 2, 1) := by decide +kernel
theorem dL_law__2081 : decode cL_law_ 2081 = .ok (.invokevirtual 138, 3) := by decide +kernel
theorem dL_law__2084 : decode cL_law_ 2084 = .ok (.iload 5, 2) := by decide +kernel
theorem dL_law__2086 : decode cL_law_ 2086 = .ok (.if_icmp .eq 5, 3) := by decide +kernel
theorem dL_law__2089 : decode cL_law_ 2089 = .ok (.iconst 0, 1) := by decide +kernel
theorem dL_law__2090 : decode cL_law_ 2090 = .ok (.ireturn, 1) := by decide +kernel
theorem dL_law__2091 : decode cL_law_ 2091 = .ok (.iload 5, 2) := by decide +kernel
theorem dL_law__2093 : decode cL_law_ 2093 = .ok (.ifCond .ne 15, 3) := by decide +kernel
theorem dL_law__2096 : decode cL_law_ 2096 = .ok (.aload_n 3, 1) := by decide +kernel
theorem dL_law__2097 : decode cL_law_ 2097 = .ok (.iconst 0, 1) := by decide +kernel
theorem dL_law__2098 : decode cL_law_ 2098 = .ok (.laload, 1) := by decide +kernel
theorem dL_law__2099 : decode cL_law_ 2099 = .ok (.iload 6, 2) := by decide +kernel
theorem dL_law__2101 : decode cL_law_ 2101 = .ok (.i2l, 1) := by decide +kernel
theorem dL_law__2102 : decode cL_law_ 2102 = .ok (.lcmp, 1) := by decide +kernel
theorem dL_law__2103 : decode cL_law_ 2103 = .ok (.ifCond .eq 5, 3) := by decide +kernel
theorem dL_law__2106 : decode cL_law_ 2106 = .ok (.iconst 0, 1) := by decide +kernel
theorem dL_law__2107 : decode cL_law_ 2107 = .ok (.ireturn, 1) := by decide +kernel
theorem dL_law__2108 : decode cL_law_ 2108 = .ok (.goto 410, 3) := by decide +kernel
theorem dL_law__2111 : decode cL_law_ 2111 = .ok (.aload_n 1, 1) := by decide +kernel
theorem dL_law__2112 : decode cL_law_ 2112 = .ok (.aload_n 0, 1) := by decide +kernel
theorem dL_law__2113 : decode cL_law_ 2113 = .ok (.iload 4, 2) := by decide +kernel
theorem dL_law__2115 : decode cL_law_ 2115 = .ok (.iconst 1, 1) := by decide +kernel
theorem dL_law__2116 : decode cL_law_ 2116 = .ok (.iadd, 1) := by decide +kernel
theorem dL_law__2117 : decode cL_law_ 2117 = .ok (.iaload, 1) := by decide +kernel
theorem dL_law__2118 : decode cL_law_ 2118 = .ok (.aload_n 0, 1) := by decide +kernel
theorem dL_law__2119 : decode cL_law_ 2119 = .ok (.iload 4, 2) := by decide +kernel
theorem dL_law__2121 : decode cL_law_ 2121 = .ok (.iconst 2, 1) := by decide +kernel
theorem dL_law__2122 : decode cL_law_ 2122 = .ok (.iadd, 1) := by decide +kernel
theorem dL_law__2123 : decode cL_law_ 2123 = .ok (.iaload, 1) := by decide +kernel
theorem dL_law__2124 : decode cL_law_ 2124 = .ok (.ifCond .eq 7, 3) := by decide +kernel
theorem dL_law__2127 : decode cL_law_ 2127 = .ok (.iconst 1, 1) := by decide +kernel
theorem dL_law__2128 : decode cL_law_ 2128 = .ok (.goto 4, 3) := by decide +kernel
theorem dL_law__2131 : decode cL_law_ 2131 = .ok (.iconst 0, 1) := by decide +kernel
theorem dL_law__2132 : decode cL_law_ 2132 = .ok (.aload_n 3, 1) := by decide +kernel
theorem dL_law__2133 : decode cL_law_ 2133 = .ok (.invokestatic 264, 3) := by decide +kernel
theorem dL_law__2136 : decode cL_law_ 2136 = .ok (.istore 5, 2) := by decide +kernel
theorem dL_law__2138 : decode cL_law_ 2138 = .ok (.aload_n 2, 1) := by decide +kernel
theorem dL_law__2139 : decode cL_law_ 2139 = .ok (.aload_n 0, 1) := by decide +kernel
theorem dL_law__2140 : decode cL_law_ 2140 = .ok (.iload 4, 2) := by decide +kernel
theorem dL_law__2142 : decode cL_law_ 2142 = .ok (.iconst 1, 1) := by decide +kernel
theorem dL_law__2143 : decode cL_law_ 2143 = .ok (.iadd, 1) := by decide +kernel
theorem dL_law__2144 : decode cL_law_ 2144 = .ok (.iaload, 1) := by decide +kernel
theorem dL_law__2145 : decode cL_law_ 2145 = .ok (.aload_n 0, 1) := by decide +kernel
theorem dL_law__2146 : decode cL_law_ 2146 = .ok (.iload 4, 2) := by decide +kernel
theorem dL_law__2148 : decode cL_law_ 2148 = .ok (.iconst 2, 1) := by decide +kernel
theorem dL_law__2149 : decode cL_law_ 2149 = .ok (.iadd, 1) := by decide +kernel
theorem dL_law__2150 : decode cL_law_ 2150 = .ok (.iaload, 1) := by decide +kernel
theorem dL_law__2151 : decode cL_law_ 2151 = .ok (.ifCond .eq 7, 3) := by decide +kernel
theorem dL_law__2154 : decode cL_law_ 2154 = .ok (.iconst 1, 1) := by decide +kernel
theorem dL_law__2155 : decode cL_law_ 2155 = .ok (.goto 4, 3) := by decide +kernel
theorem dL_law__2158 : decode cL_law_ 2158 = .ok (.iconst 0, 1) := by decide +kernel
theorem dL_law__2159 : decode cL_law_ 2159 = .ok (.invokevirtual 266, 3) := by decide +kernel
theorem dL_law__2162 : decode cL_law_ 2162 = .ok (.istore 6, 2) := by decide +kernel
theorem dL_law__2164 : decode cL_law_ 2164 = .ok (.aload_n 2, 1) := by decide +kernel
theorem dL_law__2165 : decode cL_law_ 2165 = .ok (.invokevirtual 138, 3) := by decide +kernel
theorem dL_law__2168 : decode cL_law_ 2168 = .ok (.iload 5, 2) := by decide +kernel
theorem dL_law__2170 : decode cL_law_ 2170 = .ok (.if_icmp .eq 5, 3) := by decide +kernel
theorem dL_law__2173 : decode cL_law_ 2173 = .ok (.iconst 0, 1) := by decide +kernel
theorem dL_law__2174 : decode cL_law_ 2174 = .ok (.ireturn, 1) := by decide +kernel
theorem dL_law__2175 : decode cL_law_ 2175 = .ok (.iload 5, 2) := by decide +kernel
theorem dL_law__2177 : decode cL_law_ 2177 = .ok (.ifCond .ne 15, 3) := by decide +kernel
theorem dL_law__2180 : decode cL_law_ 2180 = .ok (.aload_n 3, 1) := by decide +kernel
theorem dL_law__2181 : decode cL_law_ 2181 = .ok (.iconst 0, 1) := by decide +kernel
theorem dL_law__2182 : decode cL_law_ 2182 = .ok (.laload, 1) := by decide +kernel
theorem dL_law__2183 : decode cL_law_ 2183 = .ok (.iload 6, 2) := by decide +kernel
theorem dL_law__2185 : decode cL_law_ 2185 = .ok (.i2l, 1) := by decide +kernel
theorem dL_law__2186 : decode cL_law_ 2186 = .ok (.lcmp, 1) := by decide +kernel
theorem dL_law__2187 : decode cL_law_ 2187 = .ok (.ifCond .eq 5, 3) := by decide +kernel
theorem dL_law__2190 : decode cL_law_ 2190 = .ok (.iconst 0, 1) := by decide +kernel
theorem dL_law__2191 : decode cL_law_ 2191 = .ok (.ireturn, 1) := by decide +kernel
theorem dL_law__2192 : decode cL_law_ 2192 = .ok (.goto 326, 3) := by decide +kernel
theorem dL_law__2195 : decode cL_law_ 2195 = .ok (.aload_n 1, 1) := by decide +kernel
theorem dL_law__2196 : decode cL_law_ 2196 = .ok (.aload_n 0, 1) := by decide +kernel
theorem dL_law__2197 : decode cL_law_ 2197 = .ok (.iload 4, 2) := by decide +kernel
theorem dL_law__2199 : decode cL_law_ 2199 = .ok (.iconst 1, 1) := by decide +kernel
theorem dL_law__2200 : decode cL_law_ 2200 = .ok (.iadd, 1) := by decide +kernel
theorem dL_law__2201 : decode cL_law_ 2201 = .ok (.iaload, 1) := by decide +kernel
theorem dL_law__2202 : decode cL_law_ 2202 = .ok (.aload_n 0, 1) := by decide +kernel
theorem dL_law__2203 : decode cL_law_ 2203 = .ok (.iload 4, 2) := by decide +kernel
theorem dL_law__2205 : decode cL_law_ 2205 = .ok (.iconst 2, 1) := by decide +kernel
theorem dL_law__2206 : decode cL_law_ 2206 = .ok (.iadd, 1) := by decide +kernel
theorem dL_law__2207 : decode cL_law_ 2207 = .ok (.iaload, 1) := by decide +kernel
theorem dL_law__2208 : decode cL_law_ 2208 = .ok (.ifCond .eq 7, 3) := by decide +kernel
theorem dL_law__2211 : decode cL_law_ 2211 = .ok (.iconst 1, 1) := by decide +kernel
theorem dL_law__2212 : decode cL_law_ 2212 = .ok (.goto 4, 3) := by decide +kernel
theorem dL_law__2215 : decode cL_law_ 2215 = .ok (.iconst 0, 1) := by decide +kernel
theorem dL_law__2216 : decode cL_law_ 2216 = .ok (.aload_n 3, 1) := by decide +kernel
theorem dL_law__2217 : decode cL_law_ 2217 = .ok (.invokestatic 267, 3) := by decide +kernel
theorem dL_law__2220 : decode cL_law_ 2220 = .ok (.istore 5, 2) := by decide +kernel
theorem dL_law__2222 : decode cL_law_ 2222 = .ok (.aload_n 2, 1) := by decide +kernel
theorem dL_law__2223 : decode cL_law_ 2223 = .ok (.aload_n 0, 1) := by decide +kernel
theorem dL_law__2224 : decode cL_law_ 2224 = .ok (.iload 4, 2) := by decide +kernel
theorem dL_law__2226 : decode cL_law_ 2226 = .ok (.iconst 1, 1) := by decide +kernel
theorem dL_law__2227 : decode cL_law_ 2227 = .ok (.iadd, 1) := by decide +kernel
theorem dL_law__2228 : decode cL_law_ 2228 = .ok (.iaload, 1) := by decide +kernel
theorem dL_law__2229 : decode cL_law_ 2229 = .ok (.aload_n 0, 1) := by decide +kernel
theorem dL_law__2230 : decode cL_law_ 2230 = .ok (.iload 4, 2) := by decide +kernel
theorem dL_law__2232 : decode cL_law_ 2232 = .ok (.iconst 2, 1) := by decide +kernel
theorem dL_law__2233 : decode cL_law_ 2233 = .ok (.iadd, 1) := by decide +kernel
theorem dL_law__2234 : decode cL_law_ 2234 = .ok (.iaload, 1) := by decide +kernel
theorem dL_law__2235 : decode cL_law_ 2235 = .ok (.ifCond .eq 7, 3) := by decide +kernel
theorem dL_law__2238 : decode cL_law_ 2238 = .ok (.iconst 1, 1) := by decide +kernel
theorem dL_law__2239 : decode cL_law_ 2239 = .ok (.goto 4, 3) := by decide +kernel
theorem dL_law__2242 : decode cL_law_ 2242 = .ok (.iconst 0, 1) := by decide +kernel
theorem dL_law__2243 : decode cL_law_ 2243 = .ok (.invokevirtual 269, 3) := by decide +kernel
theorem dL_law__2246 : decode cL_law_ 2246 = .ok (.istore 6, 2) := by decide +kernel
theorem dL_law__2248 : decode cL_law_ 2248 = .ok (.aload_n 2, 1) := by decide +kernel
theorem dL_law__2249 : decode cL_law_ 2249 = .ok (.invokevirtual 138, 3) := by decide +kernel
theorem dL_law__2252 : decode cL_law_ 2252 = .ok (.iload 5, 2) := by decide +kernel
theorem dL_law__2254 : decode cL_law_ 2254 = .ok (.if_icmp .eq 5, 3) := by decide +kernel
theorem dL_law__2257 : decode cL_law_ 2257 = .ok (.iconst 0, 1) := by decide +kernel
theorem dL_law__2258 : decode cL_law_ 2258 = .ok (.ireturn, 1) := by decide +kernel
theorem dL_law__2259 : decode cL_law_ 2259 = .ok (.iload 5, 2) := by decide +kernel
theorem dL_law__2261 : decode cL_law_ 2261 = .ok (.ifCond .ne 15, 3) := by decide +kernel
theorem dL_law__2264 : decode cL_law_ 2264 = .ok (.aload_n 3, 1) := by decide +kernel
theorem dL_law__2265 : decode cL_law_ 2265 = .ok (.iconst 0, 1) := by decide +kernel
theorem dL_law__2266 : decode cL_law_ 2266 = .ok (.laload, 1) := by decide +kernel
theorem dL_law__2267 : decode cL_law_ 2267 = .ok (.iload 6, 2) := by decide +kernel
theorem dL_law__2269 : decode cL_law_ 2269 = .ok (.i2l, 1) := by decide +kernel
theorem dL_law__2270 : decode cL_law_ 2270 = .ok (.lcmp, 1) := by decide +kernel
theorem dL_law__2271 : decode cL_law_ 2271 = .ok (.ifCond .eq 5, 3) := by decide +kernel
theorem dL_law__2274 : decode cL_law_ 2274 = .ok (.iconst 0, 1) := by decide +kernel
theorem dL_law__2275 : decode cL_law_ 2275 = .ok (.ireturn, 1) := by decide +kernel
theorem dL_law__2276 : decode cL_law_ 2276 = .ok (.goto 242, 3) := by decide +kernel
theorem dL_law__2279 : decode cL_law_ 2279 = .ok (.aload_n 1, 1) := by decide +kernel
theorem dL_law__2280 : decode cL_law_ 2280 = .ok (.aload_n 0, 1) := by decide +kernel
theorem dL_law__2281 : decode cL_law_ 2281 = .ok (.iload 4, 2) := by decide +kernel
theorem dL_law__2283 : decode cL_law_ 2283 = .ok (.iconst 1, 1) := by decide +kernel
theorem dL_law__2284 : decode cL_law_ 2284 = .ok (.iadd, 1) := by decide +kernel
theorem dL_law__2285 : decode cL_law_ 2285 = .ok (.iaload, 1) := by decide +kernel
theorem dL_law__2286 : decode cL_law_ 2286 = .ok (.aload_n 0, 1) := by decide +kernel
theorem dL_law__2287 : decode cL_law_ 2287 = .ok (.iload 4, 2) := by decide +kernel
theorem dL_law__2289 : decode cL_law_ 2289 = .ok (.iconst 2, 1) := by decide +kernel
theorem dL_law__2290 : decode cL_law_ 2290 = .ok (.iadd, 1) := by decide +kernel
theorem dL_law__2291 : decode cL_law_ 2291 = .ok (.iaload, 1) := by decide +kernel
theorem dL_law__2292 : decode cL_law_ 2292 = .ok (.ifCond .eq 7, 3) := by decide +kernel
theorem dL_law__2295 : decode cL_law_ 2295 = .ok (.iconst 1, 1) := by decide +kernel
theorem dL_law__2296 : decode cL_law_ 2296 = .ok (.goto 4, 3) := by decide +kernel
theorem dL_law__2299 : decode cL_law_ 2299 = .ok (.iconst 0, 1) := by decide +kernel
theorem dL_law__2300 : decode cL_law_ 2300 = .ok (.aload_n 3, 1) := by decide +kernel
theorem dL_law__2301 : decode cL_law_ 2301 = .ok (.invokestatic 270, 3) := by decide +kernel
theorem dL_law__2304 : decode cL_law_ 2304 = .ok (.istore 5, 2) := by decide +kernel
theorem dL_law__2306 : decode cL_law_ 2306 = .ok (.aload_n 2, 1) := by decide +kernel
theorem dL_law__2307 : decode cL_law_ 2307 = .ok (.aload_n 0, 1) := by decide +kernel
theorem dL_law__2308 : decode cL_law_ 2308 = .ok (.iload 4, 2) := by decide +kernel
theorem dL_law__2310 : decode cL_law_ 2310 = .ok (.iconst 1, 1) := by decide +kernel
theorem dL_law__2311 : decode cL_law_ 2311 = .ok (.iadd, 1) := by decide +kernel
theorem dL_law__2312 : decode cL_law_ 2312 = .ok (.iaload, 1) := by decide +kernel
theorem dL_law__2313 : decode cL_law_ 2313 = .ok (.aload_n 0, 1) := by decide +kernel
theorem dL_law__2314 : decode cL_law_ 2314 = .ok (.iload 4, 2) := by decide +kernel
theorem dL_law__2316 : decode cL_law_ 2316 = .ok (.iconst 2, 1) := by decide +kernel
theorem dL_law__2317 : decode cL_law_ 2317 = .ok (.iadd, 1) := by decide +kernel
theorem dL_law__2318 : decode cL_law_ 2318 = .ok (.iaload, 1) := by decide +kernel
theorem dL_law__2319 : decode cL_law_ 2319 = .ok (.ifCond .eq 7, 3) := by decide +kernel
theorem dL_law__2322 : decode cL_law_ 2322 = .ok (.iconst 1, 1) := by decide +kernel
theorem dL_law__2323 : decode cL_law_ 2323 = .ok (.goto 4, 3) := by decide +kernel
theorem dL_law__2326 : decode cL_law_ 2326 = .ok (.iconst 0, 1) := by decide +kernel
theorem dL_law__2327 : decode cL_law_ 2327 = .ok (.invokevirtual 272, 3) := by decide +kernel
theorem dL_law__2330 : decode cL_law_ 2330 = .ok (.istore 6, 2) := by decide +kernel
theorem dL_law__2332 : decode cL_law_ 2332 = .ok (.aload_n 2, 1) := by decide +kernel
theorem dL_law__2333 : decode cL_law_ 2333 = .ok (.invokevirtual 138, 3) := by decide +kernel
theorem dL_law__2336 : decode cL_law_ 2336 = .ok (.iload 5, 2) := by decide +kernel
theorem dL_law__2338 : decode cL_law_ 2338 = .ok (.if_icmp .eq 5, 3) := by decide +kernel
theorem dL_law__2341 : decode cL_law_ 2341 = .ok (.iconst 0, 1) := by decide +kernel
theorem dL_law__2342 : decode cL_law_ 2342 = .ok (.ireturn, 1) := by decide +kernel
theorem dL_law__2343 : decode cL_law_ 2343 = .ok (.iload 5, 2) := by decide +kernel
theorem dL_law__2345 : decode cL_law_ 2345 = .ok (.ifCond .ne 15, 3) := by decide +kernel
theorem dL_law__2348 : decode cL_law_ 2348 = .ok (.aload_n 3, 1) := by decide +kernel
theorem dL_law__2349 : decode cL_law_ 2349 = .ok (.iconst 0, 1) := by decide +kernel
theorem dL_law__2350 : decode cL_law_ 2350 = .ok (.laload, 1) := by decide +kernel
theorem dL_law__2351 : decode cL_law_ 2351 = .ok (.iload 6, 2) := by decide +kernel
theorem dL_law__2353 : decode cL_law_ 2353 = .ok (.i2l, 1) := by decide +kernel
theorem dL_law__2354 : decode cL_law_ 2354 = .ok (.lcmp, 1) := by decide +kernel
theorem dL_law__2355 : decode cL_law_ 2355 = .ok (.ifCond .eq 5, 3) := by decide +kernel
theorem dL_law__2358 : decode cL_law_ 2358 = .ok (.iconst 0, 1) := by decide +kernel
theorem dL_law__2359 : decode cL_law_ 2359 = .ok (.ireturn, 1) := by decide +kernel
theorem dL_law__2360 : decode cL_law_ 2360 = .ok (.goto 158, 3) := by decide +kernel
theorem dL_law__2363 : decode cL_law_ 2363 = .ok (.aload_n 1, 1) := by decide +kernel
theorem dL_law__2364 : decode cL_law_ 2364 = .ok (.aload_n 0, 1) := by decide +kernel
theorem dL_law__2365 : decode cL_law_ 2365 = .ok (.iload 4, 2) := by decide +kernel
theorem dL_law__2367 : decode cL_law_ 2367 = .ok (.iconst 1, 1) := by decide +kernel
theorem dL_law__2368 : decode cL_law_ 2368 = .ok (.iadd, 1) := by decide +kernel
theorem dL_law__2369 : decode cL_law_ 2369 = .ok (.iaload, 1) := by decide +kernel
theorem dL_law__2370 : decode cL_law_ 2370 = .ok (.aload_n 0, 1) := by decide +kernel
theorem dL_law__2371 : decode cL_law_ 2371 = .ok (.iload 4, 2) := by decide +kernel
theorem dL_law__2373 : decode cL_law_ 2373 = .ok (.iconst 2, 1) := by decide +kernel
theorem dL_law__2374 : decode cL_law_ 2374 = .ok (.iadd, 1) := by decide +kernel
theorem dL_law__2375 : decode cL_law_ 2375 = .ok (.iaload, 1) := by decide +kernel
theorem dL_law__2376 : decode cL_law_ 2376 = .ok (.aload_n 3, 1) := by decide +kernel
theorem dL_law__2377 : decode cL_law_ 2377 = .ok (.invokestatic 273, 3) := by decide +kernel
theorem dL_law__2380 : decode cL_law_ 2380 = .ok (.istore 5, 2) := by decide +kernel
theorem dL_law__2382 : decode cL_law_ 2382 = .ok (.aload_n 2, 1) := by decide +kernel
theorem dL_law__2383 : decode cL_law_ 2383 = .ok (.aload_n 0, 1) := by decide +kernel
theorem dL_law__2384 : decode cL_law_ 2384 = .ok (.iload 4, 2) := by decide +kernel
theorem dL_law__2386 : decode cL_law_ 2386 = .ok (.iconst 1, 1) := by decide +kernel
theorem dL_law__2387 : decode cL_law_ 2387 = .ok (.iadd, 1) := by decide +kernel
theorem dL_law__2388 : decode cL_law_ 2388 = .ok (.iaload, 1) := by decide +kernel
theorem dL_law__2389 : decode cL_law_ 2389 = .ok (.aload_n 0, 1) := by decide +kernel
theorem dL_law__2390 : decode cL_law_ 2390 = .ok (.iload 4, 2) := by decide +kernel
theorem dL_law__2392 : decode cL_law_ 2392 = .ok (.iconst 2, 1) := by decide +kernel
theorem dL_law__2393 : decode cL_law_ 2393 = .ok (.iadd, 1) := by decide +kernel
theorem dL_law__2394 : decode cL_law_ 2394 = .ok (.iaload, 1) := by decide +kernel
theorem dL_law__2395 : decode cL_law_ 2395 = .ok (.invokevirtual 275, 3) := by decide +kernel
theorem dL_law__2398 : decode cL_law_ 2398 = .ok (.istore 6, 2) := by decide +kernel
theorem dL_law__2400 : decode cL_law_ 2400 = .ok (.aload_n 2, 1) := by decide +kernel
theorem dL_law__2401 : decode cL_law_ 2401 = .ok (.invokevirtual 138, 3) := by decide +kernel
theorem dL_law__2404 : decode cL_law_ 2404 = .ok (.iload 5, 2) := by decide +kernel
theorem dL_law__2406 : decode cL_law_ 2406 = .ok (.if_icmp .eq 5, 3) := by decide +kernel
theorem dL_law__2409 : decode cL_law_ 2409 = .ok (.iconst 0, 1) := by decide +kernel
theorem dL_law__2410 : decode cL_law_ 2410 = .ok (.ireturn, 1) := by decide +kernel
theorem dL_law__2411 : decode cL_law_ 2411 = .ok (.iload 5, 2) := by decide +kernel
theorem dL_law__2413 : decode cL_law_ 2413 = .ok (.ifCond .ne 15, 3) := by decide +kernel
theorem dL_law__2416 : decode cL_law_ 2416 = .ok (.aload_n 3, 1) := by decide +kernel
theorem dL_law__2417 : decode cL_law_ 2417 = .ok (.iconst 0, 1) := by decide +kernel
theorem dL_law__2418 : decode cL_law_ 2418 = .ok (.laload, 1) := by decide +kernel
theorem dL_law__2419 : decode cL_law_ 2419 = .ok (.iload 6, 2) := by decide +kernel
theorem dL_law__2421 : decode cL_law_ 2421 = .ok (.i2l, 1) := by decide +kernel
theorem dL_law__2422 : decode cL_law_ 2422 = .ok (.lcmp, 1) := by decide +kernel
theorem dL_law__2423 : decode cL_law_ 2423 = .ok (.ifCond .eq 5, 3) := by decide +kernel
theorem dL_law__2426 : decode cL_law_ 2426 = .ok (.iconst 0, 1) := by decide +kernel
theorem dL_law__2427 : decode cL_law_ 2427 = .ok (.ireturn, 1) := by decide +kernel
theorem dL_law__2428 : decode cL_law_ 2428 = .ok (.goto 90, 3) := by decide +kernel
theorem dL_law__2431 : decode cL_law_ 2431 = .ok (.aload_n 1, 1) := by decide +kernel
theorem dL_law__2432 : decode cL_law_ 2432 = .ok (.aload_n 0, 1) := by decide +kernel
theorem dL_law__2433 : decode cL_law_ 2433 = .ok (.iload 4, 2) := by decide +kernel
theorem dL_law__2435 : decode cL_law_ 2435 = .ok (.iconst 1, 1) := by decide +kernel
theorem dL_law__2436 : decode cL_law_ 2436 = .ok (.iadd, 1) := by decide +kernel
theorem dL_law__2437 : decode cL_law_ 2437 = .ok (.iaload, 1) := by decide +kernel
theorem dL_law__2438 : decode cL_law_ 2438 = .ok (.invokevirtual 276, 3) := by decide +kernel
theorem dL_law__2441 : decode cL_law_ 2441 = .ok (.aload_n 2, 1) := by decide +kernel
theorem dL_law__2442 : decode cL_law_ 2442 = .ok (.aload_n 0, 1) := by decide +kernel
theorem dL_law__2443 : decode cL_law_ 2443 = .ok (.iload 4, 2) := by decide +kernel
theorem dL_law__2445 : decode cL_law_ 2445 = .ok (.iconst 1, 1) := by decide +kernel
theorem dL_law__2446 : decode cL_law_ 2446 = .ok (.iadd, 1) := by decide +kernel
theorem dL_law__2447 : decode cL_law_ 2447 = .ok (.iaload, 1) := by decide +kernel
theorem dL_law__2448 : decode cL_law_ 2448 = .ok (.invokevirtual 279, 3) := by decide +kernel
theorem dL_law__2451 : decode cL_law_ 2451 = .ok (.if_icmp .eq 67, 3) := by decide +kernel
theorem dL_law__2454 : decode cL_law_ 2454 = .ok (.iconst 0, 1) := by decide +kernel
theorem dL_law__2455 : decode cL_law_ 2455 = .ok (.ireturn, 1) := by decide +kernel
theorem dL_law__2456 : decode cL_law_ 2456 = .ok (.aload_n 1, 1) := by decide +kernel
theorem dL_law__2457 : decode cL_law_ 2457 = .ok (.invokevirtual 280, 3) := by decide +kernel
theorem dL_law__2460 : decode cL_law_ 2460 = .ok (.aload_n 2, 1) := by decide +kernel
theorem dL_law__2461 : decode cL_law_ 2461 = .ok (.invokevirtual 283, 3) := by decide +kernel
theorem dL_law__2464 : decode cL_law_ 2464 = .ok (.if_icmp .eq 54, 3) := by decide +kernel
theorem dL_law__2467 : decode cL_law_ 2467 = .ok (.iconst 0, 1) := by decide +kernel
theorem dL_law__2468 : decode cL_law_ 2468 = .ok (.ireturn, 1) := by decide +kernel
theorem dL_law__2469 : decode cL_law_ 2469 = .ok (.aload_n 1, 1) := by decide +kernel
theorem dL_law__2470 : decode cL_law_ 2470 = .ok (.invokevirtual 284, 3) := by decide +kernel
theorem dL_law__2473 : decode cL_law_ 2473 = .ok (.aload_n 2, 1) := by decide +kernel
theorem dL_law__2474 : decode cL_law_ 2474 = .ok (.invokevirtual 287, 3) := by decide +kernel
theorem dL_law__2477 : decode cL_law_ 2477 = .ok (.goto 41, 3) := by decide +kernel
theorem dL_law__2480 : decode cL_law_ 2480 = .ok (.aload_n 1, 1) := by decide +kernel
theorem dL_law__2481 : decode cL_law_ 2481 = .ok (.invokevirtual 288, 3) := by decide +kernel
theorem dL_law__2484 : decode cL_law_ 2484 = .ok (.aload_n 2, 1) := by decide +kernel
theorem dL_law__2485 : decode cL_law_ 2485 = .ok (.invokevirtual 291, 3) := by decide +kernel
theorem dL_law__2488 : decode cL_law_ 2488 = .ok (.if_icmp .eq 30, 3) := by decide +kernel
theorem dL_law__2491 : decode cL_law_ 2491 = .ok (.iconst 0, 1) := by decide +kernel
theorem dL_law__2492 : decode cL_law_ 2492 = .ok (.ireturn, 1) := by decide +kernel
theorem dL_law__2493 : decode cL_law_ 2493 = .ok (.aload_n 1, 1) := by decide +kernel
theorem dL_law__2494 : decode cL_law_ 2494 = .ok (.aload_n 0, 1) := by decide +kernel
theorem dL_law__2495 : decode cL_law_ 2495 = .ok (.iload 4, 2) := by decide +kernel
theorem dL_law__2497 : decode cL_law_ 2497 = .ok (.iconst 1, 1) := by decide +kernel
theorem dL_law__2498 : decode cL_law_ 2498 = .ok (.iadd, 1) := by decide +kernel
theorem dL_law__2499 : decode cL_law_ 2499 = .ok (.iaload, 1) := by decide +kernel
theorem dL_law__2500 : decode cL_law_ 2500 = .ok (.invokevirtual 292, 3) := by decide +kernel
theorem dL_law__2503 : decode cL_law_ 2503 = .ok (.aload_n 2, 1) := by decide +kernel
theorem dL_law__2504 : decode cL_law_ 2504 = .ok (.aload_n 0, 1) := by decide +kernel
theorem dL_law__2505 : decode cL_law_ 2505 = .ok (.iload 4, 2) := by decide +kernel
theorem dL_law__2507 : decode cL_law_ 2507 = .ok (.iconst 1, 1) := by decide +kernel
theorem dL_law__2508 : decode cL_law_ 2508 = .ok (.iadd, 1) := by decide +kernel
theorem dL_law__2509 : decode cL_law_ 2509 = .ok (.iaload, 1) := by decide +kernel
theorem dL_law__2510 : decode cL_law_ 2510 = .ok (.invokevirtual 295, 3) := by decide +kernel
theorem dL_law__2513 : decode cL_law_ 2513 = .ok (.if_icmp .eq 5, 3) := by decide +kernel
theorem dL_law__2516 : decode cL_law_ 2516 = .ok (.iconst 0, 1) := by decide +kernel
theorem dL_law__2517 : decode cL_law_ 2517 = .ok (.ireturn, 1) := by decide +kernel
theorem dL_law__2518 : decode cL_law_ 2518 = .ok (.iinc 4 6, 3) := by decide +kernel
theorem dL_law__2521 : decode cL_law_ 2521 = .ok (.goto (-2498), 3) := by decide +kernel
theorem dL_law__2524 : decode cL_law_ 2524 = .ok (.iconst 1, 1) := by decide +kernel
theorem dL_law__2525 : decode cL_law_ 2525 = .ok (.ireturn, 1) := by decide +kernel
