/-! THE LAW'S CASES: time, hasPassed, pointsOn, score, scoreByLosses, lineLoss, gateLoss, faultLoss (printed by wip/whole/law1.py) -/
def tc_time : aT := [(1584, .aload_n 1, 1585, 0, 0, 0, []), (1585, .aload_n 0, 1586, 0, 0, 0, []), (1586, .iload 5, 1588, 0, 0, 0, []), (1588, .iconst 1, 1589, 0, 0, 0, []), (1589, .iadd, 1590, 0, 0, 0, []), (1590, .iaload, 1591, 0, 0, 0, []), (1591, .aload_n 3, 1592, 0, 0, 0, []), (1592, .invokestatic 261, 1595, 3, 1, 259, []), (1595, .istore 6, 1597, 0, 0, 0, []), (1597, .aload_n 2, 1598, 0, 0, 0, []), (1598, .aload_n 0, 1599, 0, 0, 0, []), (1599, .iload 5, 1601, 0, 0, 0, []), (1601, .iconst 1, 1602, 0, 0, 0, []), (1602, .iadd, 1603, 0, 0, 0, []), (1603, .iaload, 1604, 0, 0, 0, []), (1604, .invokevirtual 263, 1607, 2, 0, 198, []), (1607, .istore 7, 1609, 0, 0, 0, []), (1609, .aload_n 2, 1610, 0, 0, 0, []), (1610, .invokevirtual 168, 1613, 1, 0, 133, []), (1613, .iload 6, 1615, 0, 0, 0, []), (1615, .if_icmp .eq 5, 1618, 1620, 0, 0, []), (1618, .iconst 0, 1619, 0, 0, 0, []), (1619, .ireturn, 1620, 0, 0, 0, []), (1620, .iload 6, 1622, 0, 0, 0, []), (1622, .ifCond .ne 15, 1625, 1637, 0, 0, []), (1625, .aload_n 3, 1626, 0, 0, 0, []), (1626, .iconst 0, 1627, 0, 0, 0, []), (1627, .laload, 1628, 0, 0, 0, []), (1628, .iload 7, 1630, 0, 0, 0, []), (1630, .i2l, 1631, 0, 0, 0, []), (1631, .lcmp, 1632, 0, 0, 0, []), (1632, .ifCond .eq 5, 1635, 1637, 0, 0, []), (1635, .iconst 0, 1636, 0, 0, 0, []), (1636, .ireturn, 1637, 0, 0, 0, []), (1637, .goto 1222, 1640, 2859, 0, 0, [])]
set_option maxRecDepth 100000 in
theorem kc_time : tc_time.all (fun q => aOk 281 8 (aMt 281).2.1 q.1 q.2) = true := by decide +kernel
def tc_hasPassed : aT := [(1640, .aload_n 1, 1641, 0, 0, 0, []), (1641, .aload_n 0, 1642, 0, 0, 0, []), (1642, .iload 5, 1644, 0, 0, 0, []), (1644, .iconst 1, 1645, 0, 0, 0, []), (1645, .iadd, 1646, 0, 0, 0, []), (1646, .iaload, 1647, 0, 0, 0, []), (1647, .aload_n 0, 1648, 0, 0, 0, []), (1648, .iload 5, 1650, 0, 0, 0, []), (1650, .iconst 2, 1651, 0, 0, 0, []), (1651, .iadd, 1652, 0, 0, 0, []), (1652, .iaload, 1653, 0, 0, 0, []), (1653, .aload_n 3, 1654, 0, 0, 0, []), (1654, .invokestatic 264, 1657, 4, 1, 260, []), (1657, .istore 6, 1659, 0, 0, 0, []), (1659, .aload_n 2, 1660, 0, 0, 0, []), (1660, .aload_n 0, 1661, 0, 0, 0, []), (1661, .iload 5, 1663, 0, 0, 0, []), (1663, .iconst 1, 1664, 0, 0, 0, []), (1664, .iadd, 1665, 0, 0, 0, []), (1665, .iaload, 1666, 0, 0, 0, []), (1666, .aload_n 0, 1667, 0, 0, 0, []), (1667, .iload 5, 1669, 0, 0, 0, []), (1669, .iconst 2, 1670, 0, 0, 0, []), (1670, .iadd, 1671, 0, 0, 0, []), (1671, .iaload, 1672, 0, 0, 0, []), (1672, .invokevirtual 266, 1675, 3, 0, 200, []), (1675, .istore 7, 1677, 0, 0, 0, []), (1677, .aload_n 2, 1678, 0, 0, 0, []), (1678, .invokevirtual 168, 1681, 1, 0, 133, []), (1681, .iload 6, 1683, 0, 0, 0, []), (1683, .if_icmp .eq 5, 1686, 1688, 0, 0, []), (1686, .iconst 0, 1687, 0, 0, 0, []), (1687, .ireturn, 1688, 0, 0, 0, []), (1688, .iload 6, 1690, 0, 0, 0, []), (1690, .ifCond .ne 22, 1693, 1712, 0, 0, []), (1693, .aload_n 3, 1694, 0, 0, 0, []), (1694, .iconst 0, 1695, 0, 0, 0, []), (1695, .laload, 1696, 0, 0, 0, []), (1696, .iload 7, 1698, 0, 0, 0, []), (1698, .ifCond .eq 7, 1701, 1705, 0, 0, []), (1701, .lconst 1, 1702, 0, 0, 0, []), (1702, .goto 4, 1705, 1706, 0, 0, []), (1705, .lconst 0, 1706, 0, 0, 0, []), (1706, .lcmp, 1707, 0, 0, 0, []), (1707, .ifCond .eq 5, 1710, 1712, 0, 0, []), (1710, .iconst 0, 1711, 0, 0, 0, []), (1711, .ireturn, 1712, 0, 0, 0, []), (1712, .goto 1147, 1715, 2859, 0, 0, [])]
set_option maxRecDepth 100000 in
theorem kc_hasPassed : tc_hasPassed.all (fun q => aOk 281 8 (aMt 281).2.1 q.1 q.2) = true := by decide +kernel
def tc_pointsOn : aT := [(1715, .aload_n 1, 1716, 0, 0, 0, []), (1716, .aload_n 0, 1717, 0, 0, 0, []), (1717, .iload 5, 1719, 0, 0, 0, []), (1719, .iconst 1, 1720, 0, 0, 0, []), (1720, .iadd, 1721, 0, 0, 0, []), (1721, .iaload, 1722, 0, 0, 0, []), (1722, .aload_n 0, 1723, 0, 0, 0, []), (1723, .iload 5, 1725, 0, 0, 0, []), (1725, .iconst 2, 1726, 0, 0, 0, []), (1726, .iadd, 1727, 0, 0, 0, []), (1727, .iaload, 1728, 0, 0, 0, []), (1728, .aload_n 3, 1729, 0, 0, 0, []), (1729, .invokestatic 267, 1732, 4, 1, 261, []), (1732, .istore 6, 1734, 0, 0, 0, []), (1734, .aload_n 2, 1735, 0, 0, 0, []), (1735, .aload_n 0, 1736, 0, 0, 0, []), (1736, .iload 5, 1738, 0, 0, 0, []), (1738, .iconst 1, 1739, 0, 0, 0, []), (1739, .iadd, 1740, 0, 0, 0, []), (1740, .iaload, 1741, 0, 0, 0, []), (1741, .aload_n 0, 1742, 0, 0, 0, []), (1742, .iload 5, 1744, 0, 0, 0, []), (1744, .iconst 2, 1745, 0, 0, 0, []), (1745, .iadd, 1746, 0, 0, 0, []), (1746, .iaload, 1747, 0, 0, 0, []), (1747, .invokevirtual 269, 1750, 3, 0, 201, []), (1750, .istore 7, 1752, 0, 0, 0, []), (1752, .aload_n 2, 1753, 0, 0, 0, []), (1753, .invokevirtual 168, 1756, 1, 0, 133, []), (1756, .iload 6, 1758, 0, 0, 0, []), (1758, .if_icmp .eq 5, 1761, 1763, 0, 0, []), (1761, .iconst 0, 1762, 0, 0, 0, []), (1762, .ireturn, 1763, 0, 0, 0, []), (1763, .iload 6, 1765, 0, 0, 0, []), (1765, .ifCond .ne 15, 1768, 1780, 0, 0, []), (1768, .aload_n 3, 1769, 0, 0, 0, []), (1769, .iconst 0, 1770, 0, 0, 0, []), (1770, .laload, 1771, 0, 0, 0, []), (1771, .iload 7, 1773, 0, 0, 0, []), (1773, .i2l, 1774, 0, 0, 0, []), (1774, .lcmp, 1775, 0, 0, 0, []), (1775, .ifCond .eq 5, 1778, 1780, 0, 0, []), (1778, .iconst 0, 1779, 0, 0, 0, []), (1779, .ireturn, 1780, 0, 0, 0, []), (1780, .goto 1079, 1783, 2859, 0, 0, [])]
set_option maxRecDepth 100000 in
theorem kc_pointsOn : tc_pointsOn.all (fun q => aOk 281 8 (aMt 281).2.1 q.1 q.2) = true := by decide +kernel
def tc_score : aT := [(1783, .aload_n 1, 1784, 0, 0, 0, []), (1784, .aload_n 0, 1785, 0, 0, 0, []), (1785, .iload 5, 1787, 0, 0, 0, []), (1787, .iconst 1, 1788, 0, 0, 0, []), (1788, .iadd, 1789, 0, 0, 0, []), (1789, .iaload, 1790, 0, 0, 0, []), (1790, .aload_n 3, 1791, 0, 0, 0, []), (1791, .invokestatic 270, 1794, 3, 1, 262, []), (1794, .istore 6, 1796, 0, 0, 0, []), (1796, .aload_n 2, 1797, 0, 0, 0, []), (1797, .aload_n 0, 1798, 0, 0, 0, []), (1798, .iload 5, 1800, 0, 0, 0, []), (1800, .iconst 1, 1801, 0, 0, 0, []), (1801, .iadd, 1802, 0, 0, 0, []), (1802, .iaload, 1803, 0, 0, 0, []), (1803, .invokevirtual 272, 1806, 2, 0, 203, []), (1806, .istore 7, 1808, 0, 0, 0, []), (1808, .aload_n 2, 1809, 0, 0, 0, []), (1809, .invokevirtual 168, 1812, 1, 0, 133, []), (1812, .iload 6, 1814, 0, 0, 0, []), (1814, .if_icmp .eq 5, 1817, 1819, 0, 0, []), (1817, .iconst 0, 1818, 0, 0, 0, []), (1818, .ireturn, 1819, 0, 0, 0, []), (1819, .iload 6, 1821, 0, 0, 0, []), (1821, .ifCond .ne 15, 1824, 1836, 0, 0, []), (1824, .aload_n 3, 1825, 0, 0, 0, []), (1825, .iconst 0, 1826, 0, 0, 0, []), (1826, .laload, 1827, 0, 0, 0, []), (1827, .iload 7, 1829, 0, 0, 0, []), (1829, .i2l, 1830, 0, 0, 0, []), (1830, .lcmp, 1831, 0, 0, 0, []), (1831, .ifCond .eq 5, 1834, 1836, 0, 0, []), (1834, .iconst 0, 1835, 0, 0, 0, []), (1835, .ireturn, 1836, 0, 0, 0, []), (1836, .goto 1023, 1839, 2859, 0, 0, [])]
set_option maxRecDepth 100000 in
theorem kc_score : tc_score.all (fun q => aOk 281 8 (aMt 281).2.1 q.1 q.2) = true := by decide +kernel
def tc_scoreByLosses : aT := [(1839, .aload_n 1, 1840, 0, 0, 0, []), (1840, .aload_n 0, 1841, 0, 0, 0, []), (1841, .iload 5, 1843, 0, 0, 0, []), (1843, .iconst 1, 1844, 0, 0, 0, []), (1844, .iadd, 1845, 0, 0, 0, []), (1845, .iaload, 1846, 0, 0, 0, []), (1846, .aload_n 3, 1847, 0, 0, 0, []), (1847, .invokestatic 273, 1850, 3, 1, 263, []), (1850, .istore 6, 1852, 0, 0, 0, []), (1852, .aload_n 2, 1853, 0, 0, 0, []), (1853, .aload_n 0, 1854, 0, 0, 0, []), (1854, .iload 5, 1856, 0, 0, 0, []), (1856, .iconst 1, 1857, 0, 0, 0, []), (1857, .iadd, 1858, 0, 0, 0, []), (1858, .iaload, 1859, 0, 0, 0, []), (1859, .invokevirtual 275, 1862, 2, 0, 204, []), (1862, .istore 7, 1864, 0, 0, 0, []), (1864, .aload_n 2, 1865, 0, 0, 0, []), (1865, .invokevirtual 168, 1868, 1, 0, 133, []), (1868, .iload 6, 1870, 0, 0, 0, []), (1870, .if_icmp .eq 5, 1873, 1875, 0, 0, []), (1873, .iconst 0, 1874, 0, 0, 0, []), (1874, .ireturn, 1875, 0, 0, 0, []), (1875, .iload 6, 1877, 0, 0, 0, []), (1877, .ifCond .ne 15, 1880, 1892, 0, 0, []), (1880, .aload_n 3, 1881, 0, 0, 0, []), (1881, .iconst 0, 1882, 0, 0, 0, []), (1882, .laload, 1883, 0, 0, 0, []), (1883, .iload 7, 1885, 0, 0, 0, []), (1885, .i2l, 1886, 0, 0, 0, []), (1886, .lcmp, 1887, 0, 0, 0, []), (1887, .ifCond .eq 5, 1890, 1892, 0, 0, []), (1890, .iconst 0, 1891, 0, 0, 0, []), (1891, .ireturn, 1892, 0, 0, 0, []), (1892, .goto 967, 1895, 2859, 0, 0, [])]
set_option maxRecDepth 100000 in
theorem kc_scoreByLosses : tc_scoreByLosses.all (fun q => aOk 281 8 (aMt 281).2.1 q.1 q.2) = true := by decide +kernel
def tc_lineLoss : aT := [(1895, .aload_n 1, 1896, 0, 0, 0, []), (1896, .aload_n 0, 1897, 0, 0, 0, []), (1897, .iload 5, 1899, 0, 0, 0, []), (1899, .iconst 1, 1900, 0, 0, 0, []), (1900, .iadd, 1901, 0, 0, 0, []), (1901, .iaload, 1902, 0, 0, 0, []), (1902, .aload_n 3, 1903, 0, 0, 0, []), (1903, .invokestatic 276, 1906, 3, 1, 264, []), (1906, .istore 6, 1908, 0, 0, 0, []), (1908, .aload_n 2, 1909, 0, 0, 0, []), (1909, .aload_n 0, 1910, 0, 0, 0, []), (1910, .iload 5, 1912, 0, 0, 0, []), (1912, .iconst 1, 1913, 0, 0, 0, []), (1913, .iadd, 1914, 0, 0, 0, []), (1914, .iaload, 1915, 0, 0, 0, []), (1915, .invokevirtual 278, 1918, 2, 0, 205, []), (1918, .istore 7, 1920, 0, 0, 0, []), (1920, .aload_n 2, 1921, 0, 0, 0, []), (1921, .invokevirtual 168, 1924, 1, 0, 133, []), (1924, .iload 6, 1926, 0, 0, 0, []), (1926, .if_icmp .eq 5, 1929, 1931, 0, 0, []), (1929, .iconst 0, 1930, 0, 0, 0, []), (1930, .ireturn, 1931, 0, 0, 0, []), (1931, .iload 6, 1933, 0, 0, 0, []), (1933, .ifCond .ne 15, 1936, 1948, 0, 0, []), (1936, .aload_n 3, 1937, 0, 0, 0, []), (1937, .iconst 0, 1938, 0, 0, 0, []), (1938, .laload, 1939, 0, 0, 0, []), (1939, .iload 7, 1941, 0, 0, 0, []), (1941, .i2l, 1942, 0, 0, 0, []), (1942, .lcmp, 1943, 0, 0, 0, []), (1943, .ifCond .eq 5, 1946, 1948, 0, 0, []), (1946, .iconst 0, 1947, 0, 0, 0, []), (1947, .ireturn, 1948, 0, 0, 0, []), (1948, .goto 911, 1951, 2859, 0, 0, [])]
set_option maxRecDepth 100000 in
theorem kc_lineLoss : tc_lineLoss.all (fun q => aOk 281 8 (aMt 281).2.1 q.1 q.2) = true := by decide +kernel
def tc_gateLoss : aT := [(1951, .aload_n 1, 1952, 0, 0, 0, []), (1952, .aload_n 0, 1953, 0, 0, 0, []), (1953, .iload 5, 1955, 0, 0, 0, []), (1955, .iconst 1, 1956, 0, 0, 0, []), (1956, .iadd, 1957, 0, 0, 0, []), (1957, .iaload, 1958, 0, 0, 0, []), (1958, .aload_n 3, 1959, 0, 0, 0, []), (1959, .invokestatic 279, 1962, 3, 1, 265, []), (1962, .istore 6, 1964, 0, 0, 0, []), (1964, .aload_n 2, 1965, 0, 0, 0, []), (1965, .aload_n 0, 1966, 0, 0, 0, []), (1966, .iload 5, 1968, 0, 0, 0, []), (1968, .iconst 1, 1969, 0, 0, 0, []), (1969, .iadd, 1970, 0, 0, 0, []), (1970, .iaload, 1971, 0, 0, 0, []), (1971, .invokevirtual 281, 1974, 2, 0, 206, []), (1974, .istore 7, 1976, 0, 0, 0, []), (1976, .aload_n 2, 1977, 0, 0, 0, []), (1977, .invokevirtual 168, 1980, 1, 0, 133, []), (1980, .iload 6, 1982, 0, 0, 0, []), (1982, .if_icmp .eq 5, 1985, 1987, 0, 0, []), (1985, .iconst 0, 1986, 0, 0, 0, []), (1986, .ireturn, 1987, 0, 0, 0, []), (1987, .iload 6, 1989, 0, 0, 0, []), (1989, .ifCond .ne 15, 1992, 2004, 0, 0, []), (1992, .aload_n 3, 1993, 0, 0, 0, []), (1993, .iconst 0, 1994, 0, 0, 0, []), (1994, .laload, 1995, 0, 0, 0, []), (1995, .iload 7, 1997, 0, 0, 0, []), (1997, .i2l, 1998, 0, 0, 0, []), (1998, .lcmp, 1999, 0, 0, 0, []), (1999, .ifCond .eq 5, 2002, 2004, 0, 0, []), (2002, .iconst 0, 2003, 0, 0, 0, []), (2003, .ireturn, 2004, 0, 0, 0, []), (2004, .goto 855, 2007, 2859, 0, 0, [])]
set_option maxRecDepth 100000 in
theorem kc_gateLoss : tc_gateLoss.all (fun q => aOk 281 8 (aMt 281).2.1 q.1 q.2) = true := by decide +kernel
def tc_faultLoss : aT := [(2007, .aload_n 1, 2008, 0, 0, 0, []), (2008, .aload_n 0, 2009, 0, 0, 0, []), (2009, .iload 5, 2011, 0, 0, 0, []), (2011, .iconst 1, 2012, 0, 0, 0, []), (2012, .iadd, 2013, 0, 0, 0, []), (2013, .iaload, 2014, 0, 0, 0, []), (2014, .aload_n 3, 2015, 0, 0, 0, []), (2015, .invokestatic 282, 2018, 3, 1, 266, []), (2018, .istore 6, 2020, 0, 0, 0, []), (2020, .aload_n 2, 2021, 0, 0, 0, []), (2021, .aload_n 0, 2022, 0, 0, 0, []), (2022, .iload 5, 2024, 0, 0, 0, []), (2024, .iconst 1, 2025, 0, 0, 0, []), (2025, .iadd, 2026, 0, 0, 0, []), (2026, .iaload, 2027, 0, 0, 0, []), (2027, .invokevirtual 284, 2030, 2, 0, 207, []), (2030, .istore 7, 2032, 0, 0, 0, []), (2032, .aload_n 2, 2033, 0, 0, 0, []), (2033, .invokevirtual 168, 2036, 1, 0, 133, []), (2036, .iload 6, 2038, 0, 0, 0, []), (2038, .if_icmp .eq 5, 2041, 2043, 0, 0, []), (2041, .iconst 0, 2042, 0, 0, 0, []), (2042, .ireturn, 2043, 0, 0, 0, []), (2043, .iload 6, 2045, 0, 0, 0, []), (2045, .ifCond .ne 15, 2048, 2060, 0, 0, []), (2048, .aload_n 3, 2049, 0, 0, 0, []), (2049, .iconst 0, 2050, 0, 0, 0, []), (2050, .laload, 2051, 0, 0, 0, []), (2051, .iload 7, 2053, 0, 0, 0, []), (2053, .i2l, 2054, 0, 0, 0, []), (2054, .lcmp, 2055, 0, 0, 0, []), (2055, .ifCond .eq 5, 2058, 2060, 0, 0, []), (2058, .iconst 0, 2059, 0, 0, 0, []), (2059, .ireturn, 2060, 0, 0, 0, []), (2060, .goto 799, 2063, 2859, 0, 0, [])]
set_option maxRecDepth 100000 in
theorem kc_faultLoss : tc_faultLoss.all (fun q => aOk 281 8 (aMt 281).2.1 q.1 q.2) = true := by decide +kernel
section LC
variable {l : Launch} {g : aG} {Q : Option aV → aSt → aM → Prop} {X : Nat → aSt → aM → Prop} {B : aK → aM → Nat → List (Option aV) → List aV → Prop} {S : Int → Int} {z : aM} {A : aAb} {i : Int} {c1 c2 : Nat}
theorem wL_time (hB : lBt l g Q X B) (h : lIn g S z A i c1 c2) (hN : lNx S B i c1 c2) : B (none, c1, c2) z 1584 [some (.inr (.inr (.inl (31, 0, 0)))), some (.inr (.inr (.inl (0, 0, 0)))), some (.inr (.inr (.inl (16, 0, 0)))), some (.inr (.inr (.inl (18, 0, 0)))), some (.inr (.inr (.inl (19, 0, 0)))), some (.inl i), none, none, none] [] := by
  obtain ⟨hs, hS, ⟨i0, i1⟩, k1, k2⟩ := h
  obtain ⟨⟨hC, hM⟩, ⟨hI, hL⟩, hz⟩ := id hs
  obtain ⟨x1, e1⟩ : ∃ x, x = z (31, 0, 0) (i + 1) := ⟨_, rfl⟩
  have h1 : aIR x1 := by rw [e1, hz]; exact hS _
  have lv := lV_time (r := x1) hI
  have ct : lOp l g nL_time 19 [.inr (.inr (.inl (0, 0, 0))), .inl (z (31, 0, 0) (i + 1)), .inr (.inr (.inl (18, 0, 0)))] z (lQ z (qR (isN (wM A) x1) (wM A (59 + 13 * x1 + 1)) A)) := by
    rw [← e1]
    exact lT_time (by decide) (cT_time h1 (by decide) hC hI) lv.1 lv.2
  have hIL : InvW (qR (isN (wM A) x1) (wM A (59 + 13 * x1 + 1)) A).2.2 ∧ InvL (qR (isN (wM A) x1) (wM A (59 + 13 * x1 + 1)) A).2.2 := lI_A qR_A hI hL
  have cm0 : ∀ z1, RelM z1 A → mOp l g nX7_time 19 [.inr (.inr (.inl (16, 0, 0))), .inl x1] z1 (qR (isN (wM A) x1) (wM A (59 + 13 * x1 + 1)) A) := fun z1 md => cM_time h1 (by decide) md hI
  obtain ⟨R, eR⟩ : ∃ R : aRes, R = (qR (isN (wM A) x1) (wM A (59 + 13 * x1 + 1)) A) := ⟨_, rfl⟩
  rw [← eR] at lv ct hIL
  simp only [← eR] at cm0
  clear eR
  have lt0 : 0 ≤ R.1 ∧ R.1 ≤ 3 := by have := lv.1; omega
  have l3 : ∀ (z2 : aM) (t : Int) (v : Int) (A2 : aAb), lS S z2 A2 → (0 ≤ t ∧ t ≤ 3) → z2 (16, 0, 0) 9 = t → (t = 0 → z2 (18, 0, 0) 0 = v) → (t = 0 → aIR v) → B (none, c1 + 1, c2 + 6) z2 1607 [some (.inr (.inr (.inl (31, 0, 0)))), some (.inr (.inr (.inl (0, 0, 0)))), some (.inr (.inr (.inl (16, 0, 0)))), some (.inr (.inr (.inl (18, 0, 0)))), some (.inr (.inr (.inl (19, 0, 0)))), some (.inl i), some (.inl t), none, none] [.inl v] := by
    intro z2 t v A2 hs2 ht e9 e18 hv
    have fin := hN z2 A2 (some (.inl t)) (some (.inl v)) none (c1 + 1) (c2 + 6) hs2 (Nat.le_refl _) (Nat.le_refl _)
    have th := cM_thrown (l := l) (g := g) (d := 19) (z := z2)
    by_cases t0 : t = 0
    · have f18 := e18 t0
      have fv := hv t0
      have ec : aCmp (z2 (18, 0, 0) 0) v = 0 := by rw [f18]; exact aCmp_rf v
      unfold aIR at fv
      refine hB tc_time kc_time [2859] 1000 _ _ _ _ _ ?_
      repeat' (first | exact fin | refine And.intro ?_ ?_ | (intro hh; first | exact absurd hh (by decide) | exact absurd rfl hh | (exfalso; omega) | skip) | refine Or.inl (uE th ?_) | fail)
      all_goals first | omega | (exact rfl) | (show (1 : Nat) ≤ 20; decide)
    · refine hB tc_time kc_time [2859] 1000 _ _ _ _ _ ?_
      repeat' (first | exact fin | refine And.intro ?_ ?_ | (intro hh; first | exact absurd hh (by decide) | exact absurd rfl hh | (exfalso; omega) | skip) | refine Or.inl (uE th ?_) | fail)
      all_goals first | omega | (exact rfl) | (show (1 : Nat) ≤ 20; decide)
  have l2 : ∀ r z1, lQ z R r z1 → aPu r [] (fun st => B (none, c1 + 1, c2 + 6) z1 1595 [some (.inr (.inr (.inl (31, 0, 0)))), some (.inr (.inr (.inl (0, 0, 0)))), some (.inr (.inr (.inl (16, 0, 0)))), some (.inr (.inr (.inl (18, 0, 0)))), some (.inr (.inr (.inl (19, 0, 0)))), some (.inl i), none, none, none] st) := by
    intro r z1 hz1
    obtain ⟨rfl, q1, q2, q3⟩ := hz1
    have md := hs.mid q3
    have a1 : z1 (31, 0, 0) (i + 1) = x1 := by rw [md.2]; exact e1.symm
    have cm : mOp l g nX7_time 19 [.inr (.inr (.inl (16, 0, 0))), .inl (z1 (31, 0, 0) (i + 1))] z1 R := by
      rw [a1]
      exact cm0 z1 md.1
    have l4 : ∀ r z2, (r = some (.inl R.2.1) ∧ (RelM z2 R.2.2 ∧ z2 (16, 0, 0) 9 = R.1) ∧ fM z1 z2) → aPu r [] (fun st => B (none, c1 + 1, c2 + 6) z2 1607 [some (.inr (.inr (.inl (31, 0, 0)))), some (.inr (.inr (.inl (0, 0, 0)))), some (.inr (.inr (.inl (16, 0, 0)))), some (.inr (.inr (.inl (18, 0, 0)))), some (.inr (.inr (.inl (19, 0, 0)))), some (.inl i), some (.inl R.1), none, none] st) := by
      intro r z2 hz2
      obtain ⟨rfl, ⟨p1, p2⟩, p3⟩ := hz2
      exact l3 z2 R.1 R.2.1 R.2.2 (hs.fin q3 q2 p1 p3 hIL.1 hIL.2) lt0 p2 (fun w => by rw [p3 (18, 0, 0) ⟨by decide, by decide⟩]; exact q1 w) lv.2
    refine hB tc_time kc_time [1607] 1000 _ _ _ _ _ ?_
    repeat' (first | exact Or.inl (uA cm l4) | refine And.intro ?_ ?_ | (intro hh; first | exact absurd hh (by decide) | exact absurd rfl hh | (exfalso; omega) | skip) | fail)
    all_goals first | omega | (exact rfl) | (show (1 : Nat) ≤ 20; decide)
  refine hB tc_time kc_time [1595] 1000 _ _ _ _ _ ?_
  repeat' (first | exact Or.inr (Or.inr ⟨1, 6, ⟨k1, k2⟩, uL ct l2⟩) | refine And.intro ?_ ?_ | (intro hh; first | exact absurd hh (by decide) | exact absurd rfl hh | (exfalso; omega) | skip) | fail)
  all_goals first | omega | (exact rfl) | (show (1 : Nat) ≤ 20; decide)
theorem wL_hasPassed (hB : lBt l g Q X B) (h : lIn g S z A i c1 c2) (hN : lNx S B i c1 c2) : B (none, c1, c2) z 1640 [some (.inr (.inr (.inl (31, 0, 0)))), some (.inr (.inr (.inl (0, 0, 0)))), some (.inr (.inr (.inl (16, 0, 0)))), some (.inr (.inr (.inl (18, 0, 0)))), some (.inr (.inr (.inl (19, 0, 0)))), some (.inl i), none, none, none] [] := by
  obtain ⟨hs, hS, ⟨i0, i1⟩, k1, k2⟩ := h
  obtain ⟨⟨hC, hM⟩, ⟨hI, hL⟩, hz⟩ := id hs
  obtain ⟨x1, e1⟩ : ∃ x, x = z (31, 0, 0) (i + 1) := ⟨_, rfl⟩
  have h1 : aIR x1 := by rw [e1, hz]; exact hS _
  obtain ⟨x2, e2⟩ : ∃ x, x = z (31, 0, 0) (i + 2) := ⟨_, rfl⟩
  have h2 : aIR x2 := by rw [e2, hz]; exact hS _
  have lv := lV_hasPassed (r := x1) (k := x2) hI
  have ct : lOp l g nL_hasPassed 19 [.inr (.inr (.inl (0, 0, 0))), .inl (z (31, 0, 0) (i + 1)), .inl (z (31, 0, 0) (i + 2)), .inr (.inr (.inl (18, 0, 0)))] z (lQ z (qPassed x1 x2 A)) := by
    rw [← e1]
    rw [← e2]
    exact lT_hasPassed (by decide) (cT_hasPassed h1 h2 (by decide) hC hI) lv.1 lv.2
  have hIL : InvW (qPassed x1 x2 A).2.2 ∧ InvL (qPassed x1 x2 A).2.2 := lI_A qPassed_A hI hL
  have cm0 : ∀ z1, RelM z1 A → mOp l g nX7_hasPassed 19 [.inr (.inr (.inl (16, 0, 0))), .inl x1, .inl x2] z1 (qPassed x1 x2 A) := fun z1 md => cM_hasPassed h1 h2 (by decide) md hI
  obtain ⟨R, eR⟩ : ∃ R : aRes, R = (qPassed x1 x2 A) := ⟨_, rfl⟩
  rw [← eR] at lv ct hIL
  simp only [← eR] at cm0
  clear eR
  have lt0 : 0 ≤ R.1 ∧ R.1 ≤ 3 := by have := lv.1; omega
  have l3 : ∀ (z2 : aM) (t : Int) (v : Int) (A2 : aAb), lS S z2 A2 → (0 ≤ t ∧ t ≤ 3) → z2 (16, 0, 0) 9 = t → (t = 0 → z2 (18, 0, 0) 0 = v) → (t = 0 → v = 0 ∨ v = 1) → B (none, c1 + 1, c2 + 6) z2 1675 [some (.inr (.inr (.inl (31, 0, 0)))), some (.inr (.inr (.inl (0, 0, 0)))), some (.inr (.inr (.inl (16, 0, 0)))), some (.inr (.inr (.inl (18, 0, 0)))), some (.inr (.inr (.inl (19, 0, 0)))), some (.inl i), some (.inl t), none, none] [.inl v] := by
    intro z2 t v A2 hs2 ht e9 e18 hv
    have fin := hN z2 A2 (some (.inl t)) (some (.inl v)) none (c1 + 1) (c2 + 6) hs2 (Nat.le_refl _) (Nat.le_refl _)
    have th := cM_thrown (l := l) (g := g) (d := 19) (z := z2)
    by_cases t0 : t = 0
    · have f18 := e18 t0
      rcases hv t0 with rfl | rfl
      · have ec : aCmp (z2 (18, 0, 0) 0) 0 = 0 := by rw [f18]; exact aCmp_rf 0
        refine hB tc_hasPassed kc_hasPassed [2859] 1000 _ _ _ _ _ ?_
        repeat' (first | exact fin | refine And.intro ?_ ?_ | (intro hh; first | exact absurd hh (by decide) | exact absurd rfl hh | (exfalso; omega) | skip) | refine Or.inl (uE th ?_) | fail)
        all_goals first | omega | (exact rfl) | (show (1 : Nat) ≤ 20; decide)
      · have ec : aCmp (z2 (18, 0, 0) 0) 1 = 0 := by rw [f18]; exact aCmp_rf 1
        refine hB tc_hasPassed kc_hasPassed [2859] 1000 _ _ _ _ _ ?_
        repeat' (first | exact fin | refine And.intro ?_ ?_ | (intro hh; first | exact absurd hh (by decide) | exact absurd rfl hh | (exfalso; omega) | skip) | refine Or.inl (uE th ?_) | fail)
        all_goals first | omega | (exact rfl) | (show (1 : Nat) ≤ 20; decide)
    · refine hB tc_hasPassed kc_hasPassed [2859] 1000 _ _ _ _ _ ?_
      repeat' (first | exact fin | refine And.intro ?_ ?_ | (intro hh; first | exact absurd hh (by decide) | exact absurd rfl hh | (exfalso; omega) | skip) | refine Or.inl (uE th ?_) | fail)
      all_goals first | omega | (exact rfl) | (show (1 : Nat) ≤ 20; decide)
  have l2 : ∀ r z1, lQ z R r z1 → aPu r [] (fun st => B (none, c1 + 1, c2 + 6) z1 1657 [some (.inr (.inr (.inl (31, 0, 0)))), some (.inr (.inr (.inl (0, 0, 0)))), some (.inr (.inr (.inl (16, 0, 0)))), some (.inr (.inr (.inl (18, 0, 0)))), some (.inr (.inr (.inl (19, 0, 0)))), some (.inl i), none, none, none] st) := by
    intro r z1 hz1
    obtain ⟨rfl, q1, q2, q3⟩ := hz1
    have md := hs.mid q3
    have a1 : z1 (31, 0, 0) (i + 1) = x1 := by rw [md.2]; exact e1.symm
    have a2 : z1 (31, 0, 0) (i + 2) = x2 := by rw [md.2]; exact e2.symm
    have cm : mOp l g nX7_hasPassed 19 [.inr (.inr (.inl (16, 0, 0))), .inl (z1 (31, 0, 0) (i + 1)), .inl (z1 (31, 0, 0) (i + 2))] z1 R := by
      rw [a1]
      rw [a2]
      exact cm0 z1 md.1
    have l4 : ∀ r z2, (r = some (.inl R.2.1) ∧ (RelM z2 R.2.2 ∧ z2 (16, 0, 0) 9 = R.1) ∧ fM z1 z2) → aPu r [] (fun st => B (none, c1 + 1, c2 + 6) z2 1675 [some (.inr (.inr (.inl (31, 0, 0)))), some (.inr (.inr (.inl (0, 0, 0)))), some (.inr (.inr (.inl (16, 0, 0)))), some (.inr (.inr (.inl (18, 0, 0)))), some (.inr (.inr (.inl (19, 0, 0)))), some (.inl i), some (.inl R.1), none, none] st) := by
      intro r z2 hz2
      obtain ⟨rfl, ⟨p1, p2⟩, p3⟩ := hz2
      exact l3 z2 R.1 R.2.1 R.2.2 (hs.fin q3 q2 p1 p3 hIL.1 hIL.2) lt0 p2 (fun w => by rw [p3 (18, 0, 0) ⟨by decide, by decide⟩]; exact q1 w) lv.2
    refine hB tc_hasPassed kc_hasPassed [1675] 1000 _ _ _ _ _ ?_
    repeat' (first | exact Or.inl (uA cm l4) | refine And.intro ?_ ?_ | (intro hh; first | exact absurd hh (by decide) | exact absurd rfl hh | (exfalso; omega) | skip) | fail)
    all_goals first | omega | (exact rfl) | (show (1 : Nat) ≤ 20; decide)
  refine hB tc_hasPassed kc_hasPassed [1657] 1000 _ _ _ _ _ ?_
  repeat' (first | exact Or.inr (Or.inr ⟨1, 6, ⟨k1, k2⟩, uL ct l2⟩) | refine And.intro ?_ ?_ | (intro hh; first | exact absurd hh (by decide) | exact absurd rfl hh | (exfalso; omega) | skip) | fail)
  all_goals first | omega | (exact rfl) | (show (1 : Nat) ≤ 20; decide)
theorem wL_pointsOn (hB : lBt l g Q X B) (h : lIn g S z A i c1 c2) (hN : lNx S B i c1 c2) : B (none, c1, c2) z 1715 [some (.inr (.inr (.inl (31, 0, 0)))), some (.inr (.inr (.inl (0, 0, 0)))), some (.inr (.inr (.inl (16, 0, 0)))), some (.inr (.inr (.inl (18, 0, 0)))), some (.inr (.inr (.inl (19, 0, 0)))), some (.inl i), none, none, none] [] := by
  obtain ⟨hs, hS, ⟨i0, i1⟩, k1, k2⟩ := h
  obtain ⟨⟨hC, hM⟩, ⟨hI, hL⟩, hz⟩ := id hs
  obtain ⟨x1, e1⟩ : ∃ x, x = z (31, 0, 0) (i + 1) := ⟨_, rfl⟩
  have h1 : aIR x1 := by rw [e1, hz]; exact hS _
  obtain ⟨x2, e2⟩ : ∃ x, x = z (31, 0, 0) (i + 2) := ⟨_, rfl⟩
  have h2 : aIR x2 := by rw [e2, hz]; exact hS _
  have lv := lV_pointsOn (r := x1) (k := x2) hI
  have ct : lOp l g nL_pointsOn 19 [.inr (.inr (.inl (0, 0, 0))), .inl (z (31, 0, 0) (i + 1)), .inl (z (31, 0, 0) (i + 2)), .inr (.inr (.inl (18, 0, 0)))] z (lQ z (qR (isN (wM A) x1 ∧ isL (wM A) x2) (wM A (59 + 13 * x1 + 7 + x2)) A)) := by
    rw [← e1]
    rw [← e2]
    exact lT_pointsOn (by decide) (cT_pointsOn h1 h2 (by decide) hC hI) lv.1 lv.2
  have hIL : InvW (qR (isN (wM A) x1 ∧ isL (wM A) x2) (wM A (59 + 13 * x1 + 7 + x2)) A).2.2 ∧ InvL (qR (isN (wM A) x1 ∧ isL (wM A) x2) (wM A (59 + 13 * x1 + 7 + x2)) A).2.2 := lI_A qR_A hI hL
  have cm0 : ∀ z1, RelM z1 A → mOp l g nX7_pointsOn 19 [.inr (.inr (.inl (16, 0, 0))), .inl x1, .inl x2] z1 (qR (isN (wM A) x1 ∧ isL (wM A) x2) (wM A (59 + 13 * x1 + 7 + x2)) A) := fun z1 md => cM_pointsOn h1 h2 (by decide) md hI
  obtain ⟨R, eR⟩ : ∃ R : aRes, R = (qR (isN (wM A) x1 ∧ isL (wM A) x2) (wM A (59 + 13 * x1 + 7 + x2)) A) := ⟨_, rfl⟩
  rw [← eR] at lv ct hIL
  simp only [← eR] at cm0
  clear eR
  have lt0 : 0 ≤ R.1 ∧ R.1 ≤ 3 := by have := lv.1; omega
  have l3 : ∀ (z2 : aM) (t : Int) (v : Int) (A2 : aAb), lS S z2 A2 → (0 ≤ t ∧ t ≤ 3) → z2 (16, 0, 0) 9 = t → (t = 0 → z2 (18, 0, 0) 0 = v) → (t = 0 → aIR v) → B (none, c1 + 1, c2 + 6) z2 1750 [some (.inr (.inr (.inl (31, 0, 0)))), some (.inr (.inr (.inl (0, 0, 0)))), some (.inr (.inr (.inl (16, 0, 0)))), some (.inr (.inr (.inl (18, 0, 0)))), some (.inr (.inr (.inl (19, 0, 0)))), some (.inl i), some (.inl t), none, none] [.inl v] := by
    intro z2 t v A2 hs2 ht e9 e18 hv
    have fin := hN z2 A2 (some (.inl t)) (some (.inl v)) none (c1 + 1) (c2 + 6) hs2 (Nat.le_refl _) (Nat.le_refl _)
    have th := cM_thrown (l := l) (g := g) (d := 19) (z := z2)
    by_cases t0 : t = 0
    · have f18 := e18 t0
      have fv := hv t0
      have ec : aCmp (z2 (18, 0, 0) 0) v = 0 := by rw [f18]; exact aCmp_rf v
      unfold aIR at fv
      refine hB tc_pointsOn kc_pointsOn [2859] 1000 _ _ _ _ _ ?_
      repeat' (first | exact fin | refine And.intro ?_ ?_ | (intro hh; first | exact absurd hh (by decide) | exact absurd rfl hh | (exfalso; omega) | skip) | refine Or.inl (uE th ?_) | fail)
      all_goals first | omega | (exact rfl) | (show (1 : Nat) ≤ 20; decide)
    · refine hB tc_pointsOn kc_pointsOn [2859] 1000 _ _ _ _ _ ?_
      repeat' (first | exact fin | refine And.intro ?_ ?_ | (intro hh; first | exact absurd hh (by decide) | exact absurd rfl hh | (exfalso; omega) | skip) | refine Or.inl (uE th ?_) | fail)
      all_goals first | omega | (exact rfl) | (show (1 : Nat) ≤ 20; decide)
  have l2 : ∀ r z1, lQ z R r z1 → aPu r [] (fun st => B (none, c1 + 1, c2 + 6) z1 1732 [some (.inr (.inr (.inl (31, 0, 0)))), some (.inr (.inr (.inl (0, 0, 0)))), some (.inr (.inr (.inl (16, 0, 0)))), some (.inr (.inr (.inl (18, 0, 0)))), some (.inr (.inr (.inl (19, 0, 0)))), some (.inl i), none, none, none] st) := by
    intro r z1 hz1
    obtain ⟨rfl, q1, q2, q3⟩ := hz1
    have md := hs.mid q3
    have a1 : z1 (31, 0, 0) (i + 1) = x1 := by rw [md.2]; exact e1.symm
    have a2 : z1 (31, 0, 0) (i + 2) = x2 := by rw [md.2]; exact e2.symm
    have cm : mOp l g nX7_pointsOn 19 [.inr (.inr (.inl (16, 0, 0))), .inl (z1 (31, 0, 0) (i + 1)), .inl (z1 (31, 0, 0) (i + 2))] z1 R := by
      rw [a1]
      rw [a2]
      exact cm0 z1 md.1
    have l4 : ∀ r z2, (r = some (.inl R.2.1) ∧ (RelM z2 R.2.2 ∧ z2 (16, 0, 0) 9 = R.1) ∧ fM z1 z2) → aPu r [] (fun st => B (none, c1 + 1, c2 + 6) z2 1750 [some (.inr (.inr (.inl (31, 0, 0)))), some (.inr (.inr (.inl (0, 0, 0)))), some (.inr (.inr (.inl (16, 0, 0)))), some (.inr (.inr (.inl (18, 0, 0)))), some (.inr (.inr (.inl (19, 0, 0)))), some (.inl i), some (.inl R.1), none, none] st) := by
      intro r z2 hz2
      obtain ⟨rfl, ⟨p1, p2⟩, p3⟩ := hz2
      exact l3 z2 R.1 R.2.1 R.2.2 (hs.fin q3 q2 p1 p3 hIL.1 hIL.2) lt0 p2 (fun w => by rw [p3 (18, 0, 0) ⟨by decide, by decide⟩]; exact q1 w) lv.2
    refine hB tc_pointsOn kc_pointsOn [1750] 1000 _ _ _ _ _ ?_
    repeat' (first | exact Or.inl (uA cm l4) | refine And.intro ?_ ?_ | (intro hh; first | exact absurd hh (by decide) | exact absurd rfl hh | (exfalso; omega) | skip) | fail)
    all_goals first | omega | (exact rfl) | (show (1 : Nat) ≤ 20; decide)
  refine hB tc_pointsOn kc_pointsOn [1732] 1000 _ _ _ _ _ ?_
  repeat' (first | exact Or.inr (Or.inr ⟨1, 6, ⟨k1, k2⟩, uL ct l2⟩) | refine And.intro ?_ ?_ | (intro hh; first | exact absurd hh (by decide) | exact absurd rfl hh | (exfalso; omega) | skip) | fail)
  all_goals first | omega | (exact rfl) | (show (1 : Nat) ≤ 20; decide)
theorem wL_score (hB : lBt l g Q X B) (h : lIn g S z A i c1 c2) (hN : lNx S B i c1 c2) : B (none, c1, c2) z 1783 [some (.inr (.inr (.inl (31, 0, 0)))), some (.inr (.inr (.inl (0, 0, 0)))), some (.inr (.inr (.inl (16, 0, 0)))), some (.inr (.inr (.inl (18, 0, 0)))), some (.inr (.inr (.inl (19, 0, 0)))), some (.inl i), none, none, none] [] := by
  obtain ⟨hs, hS, ⟨i0, i1⟩, k1, k2⟩ := h
  obtain ⟨⟨hC, hM⟩, ⟨hI, hL⟩, hz⟩ := id hs
  obtain ⟨x1, e1⟩ : ∃ x, x = z (31, 0, 0) (i + 1) := ⟨_, rfl⟩
  have h1 : aIR x1 := by rw [e1, hz]; exact hS _
  have lv := lV_score (r := x1) hI
  have ct : lOp l g nL_score 19 [.inr (.inr (.inl (0, 0, 0))), .inl (z (31, 0, 0) (i + 1)), .inr (.inr (.inl (18, 0, 0)))] z (lQ z (qR (isN (wM A) x1) (sSum (wM A) x1) A)) := by
    rw [← e1]
    exact lT_score (by decide) (cT_score h1 (by decide) hC hI) lv.1 lv.2
  have hIL : InvW (qR (isN (wM A) x1) (sSum (wM A) x1) A).2.2 ∧ InvL (qR (isN (wM A) x1) (sSum (wM A) x1) A).2.2 := lI_A qR_A hI hL
  have cm0 : ∀ z1, RelM z1 A → mOp l g nX7_score 19 [.inr (.inr (.inl (16, 0, 0))), .inl x1] z1 (qR (isN (wM A) x1) (sSum (wM A) x1) A) := fun z1 md => cM_score h1 (by decide) md hI
  obtain ⟨R, eR⟩ : ∃ R : aRes, R = (qR (isN (wM A) x1) (sSum (wM A) x1) A) := ⟨_, rfl⟩
  rw [← eR] at lv ct hIL
  simp only [← eR] at cm0
  clear eR
  have lt0 : 0 ≤ R.1 ∧ R.1 ≤ 3 := by have := lv.1; omega
  have l3 : ∀ (z2 : aM) (t : Int) (v : Int) (A2 : aAb), lS S z2 A2 → (0 ≤ t ∧ t ≤ 3) → z2 (16, 0, 0) 9 = t → (t = 0 → z2 (18, 0, 0) 0 = v) → (t = 0 → aIR v) → B (none, c1 + 1, c2 + 6) z2 1806 [some (.inr (.inr (.inl (31, 0, 0)))), some (.inr (.inr (.inl (0, 0, 0)))), some (.inr (.inr (.inl (16, 0, 0)))), some (.inr (.inr (.inl (18, 0, 0)))), some (.inr (.inr (.inl (19, 0, 0)))), some (.inl i), some (.inl t), none, none] [.inl v] := by
    intro z2 t v A2 hs2 ht e9 e18 hv
    have fin := hN z2 A2 (some (.inl t)) (some (.inl v)) none (c1 + 1) (c2 + 6) hs2 (Nat.le_refl _) (Nat.le_refl _)
    have th := cM_thrown (l := l) (g := g) (d := 19) (z := z2)
    by_cases t0 : t = 0
    · have f18 := e18 t0
      have fv := hv t0
      have ec : aCmp (z2 (18, 0, 0) 0) v = 0 := by rw [f18]; exact aCmp_rf v
      unfold aIR at fv
      refine hB tc_score kc_score [2859] 1000 _ _ _ _ _ ?_
      repeat' (first | exact fin | refine And.intro ?_ ?_ | (intro hh; first | exact absurd hh (by decide) | exact absurd rfl hh | (exfalso; omega) | skip) | refine Or.inl (uE th ?_) | fail)
      all_goals first | omega | (exact rfl) | (show (1 : Nat) ≤ 20; decide)
    · refine hB tc_score kc_score [2859] 1000 _ _ _ _ _ ?_
      repeat' (first | exact fin | refine And.intro ?_ ?_ | (intro hh; first | exact absurd hh (by decide) | exact absurd rfl hh | (exfalso; omega) | skip) | refine Or.inl (uE th ?_) | fail)
      all_goals first | omega | (exact rfl) | (show (1 : Nat) ≤ 20; decide)
  have l2 : ∀ r z1, lQ z R r z1 → aPu r [] (fun st => B (none, c1 + 1, c2 + 6) z1 1794 [some (.inr (.inr (.inl (31, 0, 0)))), some (.inr (.inr (.inl (0, 0, 0)))), some (.inr (.inr (.inl (16, 0, 0)))), some (.inr (.inr (.inl (18, 0, 0)))), some (.inr (.inr (.inl (19, 0, 0)))), some (.inl i), none, none, none] st) := by
    intro r z1 hz1
    obtain ⟨rfl, q1, q2, q3⟩ := hz1
    have md := hs.mid q3
    have a1 : z1 (31, 0, 0) (i + 1) = x1 := by rw [md.2]; exact e1.symm
    have cm : mOp l g nX7_score 19 [.inr (.inr (.inl (16, 0, 0))), .inl (z1 (31, 0, 0) (i + 1))] z1 R := by
      rw [a1]
      exact cm0 z1 md.1
    have l4 : ∀ r z2, (r = some (.inl R.2.1) ∧ (RelM z2 R.2.2 ∧ z2 (16, 0, 0) 9 = R.1) ∧ fM z1 z2) → aPu r [] (fun st => B (none, c1 + 1, c2 + 6) z2 1806 [some (.inr (.inr (.inl (31, 0, 0)))), some (.inr (.inr (.inl (0, 0, 0)))), some (.inr (.inr (.inl (16, 0, 0)))), some (.inr (.inr (.inl (18, 0, 0)))), some (.inr (.inr (.inl (19, 0, 0)))), some (.inl i), some (.inl R.1), none, none] st) := by
      intro r z2 hz2
      obtain ⟨rfl, ⟨p1, p2⟩, p3⟩ := hz2
      exact l3 z2 R.1 R.2.1 R.2.2 (hs.fin q3 q2 p1 p3 hIL.1 hIL.2) lt0 p2 (fun w => by rw [p3 (18, 0, 0) ⟨by decide, by decide⟩]; exact q1 w) lv.2
    refine hB tc_score kc_score [1806] 1000 _ _ _ _ _ ?_
    repeat' (first | exact Or.inl (uA cm l4) | refine And.intro ?_ ?_ | (intro hh; first | exact absurd hh (by decide) | exact absurd rfl hh | (exfalso; omega) | skip) | fail)
    all_goals first | omega | (exact rfl) | (show (1 : Nat) ≤ 20; decide)
  refine hB tc_score kc_score [1794] 1000 _ _ _ _ _ ?_
  repeat' (first | exact Or.inr (Or.inr ⟨1, 6, ⟨k1, k2⟩, uL ct l2⟩) | refine And.intro ?_ ?_ | (intro hh; first | exact absurd hh (by decide) | exact absurd rfl hh | (exfalso; omega) | skip) | fail)
  all_goals first | omega | (exact rfl) | (show (1 : Nat) ≤ 20; decide)
theorem wL_scoreByLosses (hB : lBt l g Q X B) (h : lIn g S z A i c1 c2) (hN : lNx S B i c1 c2) : B (none, c1, c2) z 1839 [some (.inr (.inr (.inl (31, 0, 0)))), some (.inr (.inr (.inl (0, 0, 0)))), some (.inr (.inr (.inl (16, 0, 0)))), some (.inr (.inr (.inl (18, 0, 0)))), some (.inr (.inr (.inl (19, 0, 0)))), some (.inl i), none, none, none] [] := by
  obtain ⟨hs, hS, ⟨i0, i1⟩, k1, k2⟩ := h
  obtain ⟨⟨hC, hM⟩, ⟨hI, hL⟩, hz⟩ := id hs
  obtain ⟨x1, e1⟩ : ∃ x, x = z (31, 0, 0) (i + 1) := ⟨_, rfl⟩
  have h1 : aIR x1 := by rw [e1, hz]; exact hS _
  have lv := lV_score (r := x1) hI
  have ct : lOp l g nL_scoreByLosses 19 [.inr (.inr (.inl (0, 0, 0))), .inl (z (31, 0, 0) (i + 1)), .inr (.inr (.inl (18, 0, 0)))] z (lQ z (qR (isN (wM A) x1) (sSum (wM A) x1) A)) := by
    rw [← e1]
    exact lT_scoreByLosses (by decide) (cT_scoreByLosses h1 (by decide) hC hI) lv.1 lv.2
  have hIL : InvW (qR (isN (wM A) x1) (sSum (wM A) x1) A).2.2 ∧ InvL (qR (isN (wM A) x1) (sSum (wM A) x1) A).2.2 := lI_A qR_A hI hL
  have cm0 : ∀ z1, RelM z1 A → mOp l g nX7_scoreByLosses 19 [.inr (.inr (.inl (16, 0, 0))), .inl x1] z1 (qR (isN (wM A) x1) (sSum (wM A) x1) A) := fun z1 md => cM_scoreByLosses h1 (by decide) md hI
  obtain ⟨R, eR⟩ : ∃ R : aRes, R = (qR (isN (wM A) x1) (sSum (wM A) x1) A) := ⟨_, rfl⟩
  rw [← eR] at lv ct hIL
  simp only [← eR] at cm0
  clear eR
  have lt0 : 0 ≤ R.1 ∧ R.1 ≤ 3 := by have := lv.1; omega
  have l3 : ∀ (z2 : aM) (t : Int) (v : Int) (A2 : aAb), lS S z2 A2 → (0 ≤ t ∧ t ≤ 3) → z2 (16, 0, 0) 9 = t → (t = 0 → z2 (18, 0, 0) 0 = v) → (t = 0 → aIR v) → B (none, c1 + 1, c2 + 6) z2 1862 [some (.inr (.inr (.inl (31, 0, 0)))), some (.inr (.inr (.inl (0, 0, 0)))), some (.inr (.inr (.inl (16, 0, 0)))), some (.inr (.inr (.inl (18, 0, 0)))), some (.inr (.inr (.inl (19, 0, 0)))), some (.inl i), some (.inl t), none, none] [.inl v] := by
    intro z2 t v A2 hs2 ht e9 e18 hv
    have fin := hN z2 A2 (some (.inl t)) (some (.inl v)) none (c1 + 1) (c2 + 6) hs2 (Nat.le_refl _) (Nat.le_refl _)
    have th := cM_thrown (l := l) (g := g) (d := 19) (z := z2)
    by_cases t0 : t = 0
    · have f18 := e18 t0
      have fv := hv t0
      have ec : aCmp (z2 (18, 0, 0) 0) v = 0 := by rw [f18]; exact aCmp_rf v
      unfold aIR at fv
      refine hB tc_scoreByLosses kc_scoreByLosses [2859] 1000 _ _ _ _ _ ?_
      repeat' (first | exact fin | refine And.intro ?_ ?_ | (intro hh; first | exact absurd hh (by decide) | exact absurd rfl hh | (exfalso; omega) | skip) | refine Or.inl (uE th ?_) | fail)
      all_goals first | omega | (exact rfl) | (show (1 : Nat) ≤ 20; decide)
    · refine hB tc_scoreByLosses kc_scoreByLosses [2859] 1000 _ _ _ _ _ ?_
      repeat' (first | exact fin | refine And.intro ?_ ?_ | (intro hh; first | exact absurd hh (by decide) | exact absurd rfl hh | (exfalso; omega) | skip) | refine Or.inl (uE th ?_) | fail)
      all_goals first | omega | (exact rfl) | (show (1 : Nat) ≤ 20; decide)
  have l2 : ∀ r z1, lQ z R r z1 → aPu r [] (fun st => B (none, c1 + 1, c2 + 6) z1 1850 [some (.inr (.inr (.inl (31, 0, 0)))), some (.inr (.inr (.inl (0, 0, 0)))), some (.inr (.inr (.inl (16, 0, 0)))), some (.inr (.inr (.inl (18, 0, 0)))), some (.inr (.inr (.inl (19, 0, 0)))), some (.inl i), none, none, none] st) := by
    intro r z1 hz1
    obtain ⟨rfl, q1, q2, q3⟩ := hz1
    have md := hs.mid q3
    have a1 : z1 (31, 0, 0) (i + 1) = x1 := by rw [md.2]; exact e1.symm
    have cm : mOp l g nX7_scoreByLosses 19 [.inr (.inr (.inl (16, 0, 0))), .inl (z1 (31, 0, 0) (i + 1))] z1 R := by
      rw [a1]
      exact cm0 z1 md.1
    have l4 : ∀ r z2, (r = some (.inl R.2.1) ∧ (RelM z2 R.2.2 ∧ z2 (16, 0, 0) 9 = R.1) ∧ fM z1 z2) → aPu r [] (fun st => B (none, c1 + 1, c2 + 6) z2 1862 [some (.inr (.inr (.inl (31, 0, 0)))), some (.inr (.inr (.inl (0, 0, 0)))), some (.inr (.inr (.inl (16, 0, 0)))), some (.inr (.inr (.inl (18, 0, 0)))), some (.inr (.inr (.inl (19, 0, 0)))), some (.inl i), some (.inl R.1), none, none] st) := by
      intro r z2 hz2
      obtain ⟨rfl, ⟨p1, p2⟩, p3⟩ := hz2
      exact l3 z2 R.1 R.2.1 R.2.2 (hs.fin q3 q2 p1 p3 hIL.1 hIL.2) lt0 p2 (fun w => by rw [p3 (18, 0, 0) ⟨by decide, by decide⟩]; exact q1 w) lv.2
    refine hB tc_scoreByLosses kc_scoreByLosses [1862] 1000 _ _ _ _ _ ?_
    repeat' (first | exact Or.inl (uA cm l4) | refine And.intro ?_ ?_ | (intro hh; first | exact absurd hh (by decide) | exact absurd rfl hh | (exfalso; omega) | skip) | fail)
    all_goals first | omega | (exact rfl) | (show (1 : Nat) ≤ 20; decide)
  refine hB tc_scoreByLosses kc_scoreByLosses [1850] 1000 _ _ _ _ _ ?_
  repeat' (first | exact Or.inr (Or.inr ⟨1, 6, ⟨k1, k2⟩, uL ct l2⟩) | refine And.intro ?_ ?_ | (intro hh; first | exact absurd hh (by decide) | exact absurd rfl hh | (exfalso; omega) | skip) | fail)
  all_goals first | omega | (exact rfl) | (show (1 : Nat) ≤ 20; decide)
theorem wL_lineLoss (hB : lBt l g Q X B) (h : lIn g S z A i c1 c2) (hN : lNx S B i c1 c2) : B (none, c1, c2) z 1895 [some (.inr (.inr (.inl (31, 0, 0)))), some (.inr (.inr (.inl (0, 0, 0)))), some (.inr (.inr (.inl (16, 0, 0)))), some (.inr (.inr (.inl (18, 0, 0)))), some (.inr (.inr (.inl (19, 0, 0)))), some (.inl i), none, none, none] [] := by
  obtain ⟨hs, hS, ⟨i0, i1⟩, k1, k2⟩ := h
  obtain ⟨⟨hC, hM⟩, ⟨hI, hL⟩, hz⟩ := id hs
  obtain ⟨x1, e1⟩ : ∃ x, x = z (31, 0, 0) (i + 1) := ⟨_, rfl⟩
  have h1 : aIR x1 := by rw [e1, hz]; exact hS _
  have lv := lV_lineLoss (r := x1) hI
  have ct : lOp l g nL_lineLoss 19 [.inr (.inr (.inl (0, 0, 0))), .inl (z (31, 0, 0) (i + 1)), .inr (.inr (.inl (18, 0, 0)))] z (lQ z (qR (isN (wM A) x1) (wM A (59 + 13 * x1 + 2)) A)) := by
    rw [← e1]
    exact lT_lineLoss (by decide) (cT_lineLoss h1 (by decide) hC hI) lv.1 lv.2
  have hIL : InvW (qR (isN (wM A) x1) (wM A (59 + 13 * x1 + 2)) A).2.2 ∧ InvL (qR (isN (wM A) x1) (wM A (59 + 13 * x1 + 2)) A).2.2 := lI_A qR_A hI hL
  have cm0 : ∀ z1, RelM z1 A → mOp l g nX7_lineLoss 19 [.inr (.inr (.inl (16, 0, 0))), .inl x1] z1 (qR (isN (wM A) x1) (wM A (59 + 13 * x1 + 2)) A) := fun z1 md => cM_lineLoss h1 (by decide) md hI
  obtain ⟨R, eR⟩ : ∃ R : aRes, R = (qR (isN (wM A) x1) (wM A (59 + 13 * x1 + 2)) A) := ⟨_, rfl⟩
  rw [← eR] at lv ct hIL
  simp only [← eR] at cm0
  clear eR
  have lt0 : 0 ≤ R.1 ∧ R.1 ≤ 3 := by have := lv.1; omega
  have l3 : ∀ (z2 : aM) (t : Int) (v : Int) (A2 : aAb), lS S z2 A2 → (0 ≤ t ∧ t ≤ 3) → z2 (16, 0, 0) 9 = t → (t = 0 → z2 (18, 0, 0) 0 = v) → (t = 0 → aIR v) → B (none, c1 + 1, c2 + 6) z2 1918 [some (.inr (.inr (.inl (31, 0, 0)))), some (.inr (.inr (.inl (0, 0, 0)))), some (.inr (.inr (.inl (16, 0, 0)))), some (.inr (.inr (.inl (18, 0, 0)))), some (.inr (.inr (.inl (19, 0, 0)))), some (.inl i), some (.inl t), none, none] [.inl v] := by
    intro z2 t v A2 hs2 ht e9 e18 hv
    have fin := hN z2 A2 (some (.inl t)) (some (.inl v)) none (c1 + 1) (c2 + 6) hs2 (Nat.le_refl _) (Nat.le_refl _)
    have th := cM_thrown (l := l) (g := g) (d := 19) (z := z2)
    by_cases t0 : t = 0
    · have f18 := e18 t0
      have fv := hv t0
      have ec : aCmp (z2 (18, 0, 0) 0) v = 0 := by rw [f18]; exact aCmp_rf v
      unfold aIR at fv
      refine hB tc_lineLoss kc_lineLoss [2859] 1000 _ _ _ _ _ ?_
      repeat' (first | exact fin | refine And.intro ?_ ?_ | (intro hh; first | exact absurd hh (by decide) | exact absurd rfl hh | (exfalso; omega) | skip) | refine Or.inl (uE th ?_) | fail)
      all_goals first | omega | (exact rfl) | (show (1 : Nat) ≤ 20; decide)
    · refine hB tc_lineLoss kc_lineLoss [2859] 1000 _ _ _ _ _ ?_
      repeat' (first | exact fin | refine And.intro ?_ ?_ | (intro hh; first | exact absurd hh (by decide) | exact absurd rfl hh | (exfalso; omega) | skip) | refine Or.inl (uE th ?_) | fail)
      all_goals first | omega | (exact rfl) | (show (1 : Nat) ≤ 20; decide)
  have l2 : ∀ r z1, lQ z R r z1 → aPu r [] (fun st => B (none, c1 + 1, c2 + 6) z1 1906 [some (.inr (.inr (.inl (31, 0, 0)))), some (.inr (.inr (.inl (0, 0, 0)))), some (.inr (.inr (.inl (16, 0, 0)))), some (.inr (.inr (.inl (18, 0, 0)))), some (.inr (.inr (.inl (19, 0, 0)))), some (.inl i), none, none, none] st) := by
    intro r z1 hz1
    obtain ⟨rfl, q1, q2, q3⟩ := hz1
    have md := hs.mid q3
    have a1 : z1 (31, 0, 0) (i + 1) = x1 := by rw [md.2]; exact e1.symm
    have cm : mOp l g nX7_lineLoss 19 [.inr (.inr (.inl (16, 0, 0))), .inl (z1 (31, 0, 0) (i + 1))] z1 R := by
      rw [a1]
      exact cm0 z1 md.1
    have l4 : ∀ r z2, (r = some (.inl R.2.1) ∧ (RelM z2 R.2.2 ∧ z2 (16, 0, 0) 9 = R.1) ∧ fM z1 z2) → aPu r [] (fun st => B (none, c1 + 1, c2 + 6) z2 1918 [some (.inr (.inr (.inl (31, 0, 0)))), some (.inr (.inr (.inl (0, 0, 0)))), some (.inr (.inr (.inl (16, 0, 0)))), some (.inr (.inr (.inl (18, 0, 0)))), some (.inr (.inr (.inl (19, 0, 0)))), some (.inl i), some (.inl R.1), none, none] st) := by
      intro r z2 hz2
      obtain ⟨rfl, ⟨p1, p2⟩, p3⟩ := hz2
      exact l3 z2 R.1 R.2.1 R.2.2 (hs.fin q3 q2 p1 p3 hIL.1 hIL.2) lt0 p2 (fun w => by rw [p3 (18, 0, 0) ⟨by decide, by decide⟩]; exact q1 w) lv.2
    refine hB tc_lineLoss kc_lineLoss [1918] 1000 _ _ _ _ _ ?_
    repeat' (first | exact Or.inl (uA cm l4) | refine And.intro ?_ ?_ | (intro hh; first | exact absurd hh (by decide) | exact absurd rfl hh | (exfalso; omega) | skip) | fail)
    all_goals first | omega | (exact rfl) | (show (1 : Nat) ≤ 20; decide)
  refine hB tc_lineLoss kc_lineLoss [1906] 1000 _ _ _ _ _ ?_
  repeat' (first | exact Or.inr (Or.inr ⟨1, 6, ⟨k1, k2⟩, uL ct l2⟩) | refine And.intro ?_ ?_ | (intro hh; first | exact absurd hh (by decide) | exact absurd rfl hh | (exfalso; omega) | skip) | fail)
  all_goals first | omega | (exact rfl) | (show (1 : Nat) ≤ 20; decide)
theorem wL_gateLoss (hB : lBt l g Q X B) (h : lIn g S z A i c1 c2) (hN : lNx S B i c1 c2) : B (none, c1, c2) z 1951 [some (.inr (.inr (.inl (31, 0, 0)))), some (.inr (.inr (.inl (0, 0, 0)))), some (.inr (.inr (.inl (16, 0, 0)))), some (.inr (.inr (.inl (18, 0, 0)))), some (.inr (.inr (.inl (19, 0, 0)))), some (.inl i), none, none, none] [] := by
  obtain ⟨hs, hS, ⟨i0, i1⟩, k1, k2⟩ := h
  obtain ⟨⟨hC, hM⟩, ⟨hI, hL⟩, hz⟩ := id hs
  obtain ⟨x1, e1⟩ : ∃ x, x = z (31, 0, 0) (i + 1) := ⟨_, rfl⟩
  have h1 : aIR x1 := by rw [e1, hz]; exact hS _
  have lv := lV_gateLoss (r := x1) hI
  have ct : lOp l g nL_gateLoss 19 [.inr (.inr (.inl (0, 0, 0))), .inl (z (31, 0, 0) (i + 1)), .inr (.inr (.inl (18, 0, 0)))] z (lQ z (qR (isN (wM A) x1) (wM A (59 + 13 * x1 + 3)) A)) := by
    rw [← e1]
    exact lT_gateLoss (by decide) (cT_gateLoss h1 (by decide) hC hI) lv.1 lv.2
  have hIL : InvW (qR (isN (wM A) x1) (wM A (59 + 13 * x1 + 3)) A).2.2 ∧ InvL (qR (isN (wM A) x1) (wM A (59 + 13 * x1 + 3)) A).2.2 := lI_A qR_A hI hL
  have cm0 : ∀ z1, RelM z1 A → mOp l g nX7_gateLoss 19 [.inr (.inr (.inl (16, 0, 0))), .inl x1] z1 (qR (isN (wM A) x1) (wM A (59 + 13 * x1 + 3)) A) := fun z1 md => cM_gateLoss h1 (by decide) md hI
  obtain ⟨R, eR⟩ : ∃ R : aRes, R = (qR (isN (wM A) x1) (wM A (59 + 13 * x1 + 3)) A) := ⟨_, rfl⟩
  rw [← eR] at lv ct hIL
  simp only [← eR] at cm0
  clear eR
  have lt0 : 0 ≤ R.1 ∧ R.1 ≤ 3 := by have := lv.1; omega
  have l3 : ∀ (z2 : aM) (t : Int) (v : Int) (A2 : aAb), lS S z2 A2 → (0 ≤ t ∧ t ≤ 3) → z2 (16, 0, 0) 9 = t → (t = 0 → z2 (18, 0, 0) 0 = v) → (t = 0 → aIR v) → B (none, c1 + 1, c2 + 6) z2 1974 [some (.inr (.inr (.inl (31, 0, 0)))), some (.inr (.inr (.inl (0, 0, 0)))), some (.inr (.inr (.inl (16, 0, 0)))), some (.inr (.inr (.inl (18, 0, 0)))), some (.inr (.inr (.inl (19, 0, 0)))), some (.inl i), some (.inl t), none, none] [.inl v] := by
    intro z2 t v A2 hs2 ht e9 e18 hv
    have fin := hN z2 A2 (some (.inl t)) (some (.inl v)) none (c1 + 1) (c2 + 6) hs2 (Nat.le_refl _) (Nat.le_refl _)
    have th := cM_thrown (l := l) (g := g) (d := 19) (z := z2)
    by_cases t0 : t = 0
    · have f18 := e18 t0
      have fv := hv t0
      have ec : aCmp (z2 (18, 0, 0) 0) v = 0 := by rw [f18]; exact aCmp_rf v
      unfold aIR at fv
      refine hB tc_gateLoss kc_gateLoss [2859] 1000 _ _ _ _ _ ?_
      repeat' (first | exact fin | refine And.intro ?_ ?_ | (intro hh; first | exact absurd hh (by decide) | exact absurd rfl hh | (exfalso; omega) | skip) | refine Or.inl (uE th ?_) | fail)
      all_goals first | omega | (exact rfl) | (show (1 : Nat) ≤ 20; decide)
    · refine hB tc_gateLoss kc_gateLoss [2859] 1000 _ _ _ _ _ ?_
      repeat' (first | exact fin | refine And.intro ?_ ?_ | (intro hh; first | exact absurd hh (by decide) | exact absurd rfl hh | (exfalso; omega) | skip) | refine Or.inl (uE th ?_) | fail)
      all_goals first | omega | (exact rfl) | (show (1 : Nat) ≤ 20; decide)
  have l2 : ∀ r z1, lQ z R r z1 → aPu r [] (fun st => B (none, c1 + 1, c2 + 6) z1 1962 [some (.inr (.inr (.inl (31, 0, 0)))), some (.inr (.inr (.inl (0, 0, 0)))), some (.inr (.inr (.inl (16, 0, 0)))), some (.inr (.inr (.inl (18, 0, 0)))), some (.inr (.inr (.inl (19, 0, 0)))), some (.inl i), none, none, none] st) := by
    intro r z1 hz1
    obtain ⟨rfl, q1, q2, q3⟩ := hz1
    have md := hs.mid q3
    have a1 : z1 (31, 0, 0) (i + 1) = x1 := by rw [md.2]; exact e1.symm
    have cm : mOp l g nX7_gateLoss 19 [.inr (.inr (.inl (16, 0, 0))), .inl (z1 (31, 0, 0) (i + 1))] z1 R := by
      rw [a1]
      exact cm0 z1 md.1
    have l4 : ∀ r z2, (r = some (.inl R.2.1) ∧ (RelM z2 R.2.2 ∧ z2 (16, 0, 0) 9 = R.1) ∧ fM z1 z2) → aPu r [] (fun st => B (none, c1 + 1, c2 + 6) z2 1974 [some (.inr (.inr (.inl (31, 0, 0)))), some (.inr (.inr (.inl (0, 0, 0)))), some (.inr (.inr (.inl (16, 0, 0)))), some (.inr (.inr (.inl (18, 0, 0)))), some (.inr (.inr (.inl (19, 0, 0)))), some (.inl i), some (.inl R.1), none, none] st) := by
      intro r z2 hz2
      obtain ⟨rfl, ⟨p1, p2⟩, p3⟩ := hz2
      exact l3 z2 R.1 R.2.1 R.2.2 (hs.fin q3 q2 p1 p3 hIL.1 hIL.2) lt0 p2 (fun w => by rw [p3 (18, 0, 0) ⟨by decide, by decide⟩]; exact q1 w) lv.2
    refine hB tc_gateLoss kc_gateLoss [1974] 1000 _ _ _ _ _ ?_
    repeat' (first | exact Or.inl (uA cm l4) | refine And.intro ?_ ?_ | (intro hh; first | exact absurd hh (by decide) | exact absurd rfl hh | (exfalso; omega) | skip) | fail)
    all_goals first | omega | (exact rfl) | (show (1 : Nat) ≤ 20; decide)
  refine hB tc_gateLoss kc_gateLoss [1962] 1000 _ _ _ _ _ ?_
  repeat' (first | exact Or.inr (Or.inr ⟨1, 6, ⟨k1, k2⟩, uL ct l2⟩) | refine And.intro ?_ ?_ | (intro hh; first | exact absurd hh (by decide) | exact absurd rfl hh | (exfalso; omega) | skip) | fail)
  all_goals first | omega | (exact rfl) | (show (1 : Nat) ≤ 20; decide)
theorem wL_faultLoss (hB : lBt l g Q X B) (h : lIn g S z A i c1 c2) (hN : lNx S B i c1 c2) : B (none, c1, c2) z 2007 [some (.inr (.inr (.inl (31, 0, 0)))), some (.inr (.inr (.inl (0, 0, 0)))), some (.inr (.inr (.inl (16, 0, 0)))), some (.inr (.inr (.inl (18, 0, 0)))), some (.inr (.inr (.inl (19, 0, 0)))), some (.inl i), none, none, none] [] := by
  obtain ⟨hs, hS, ⟨i0, i1⟩, k1, k2⟩ := h
  obtain ⟨⟨hC, hM⟩, ⟨hI, hL⟩, hz⟩ := id hs
  obtain ⟨x1, e1⟩ : ∃ x, x = z (31, 0, 0) (i + 1) := ⟨_, rfl⟩
  have h1 : aIR x1 := by rw [e1, hz]; exact hS _
  have lv := lV_faultLoss (r := x1) hI
  have ct : lOp l g nL_faultLoss 19 [.inr (.inr (.inl (0, 0, 0))), .inl (z (31, 0, 0) (i + 1)), .inr (.inr (.inl (18, 0, 0)))] z (lQ z (qR (isN (wM A) x1) (wM A (59 + 13 * x1 + 4)) A)) := by
    rw [← e1]
    exact lT_faultLoss (by decide) (cT_faultLoss h1 (by decide) hC hI) lv.1 lv.2
  have hIL : InvW (qR (isN (wM A) x1) (wM A (59 + 13 * x1 + 4)) A).2.2 ∧ InvL (qR (isN (wM A) x1) (wM A (59 + 13 * x1 + 4)) A).2.2 := lI_A qR_A hI hL
  have cm0 : ∀ z1, RelM z1 A → mOp l g nX7_faultLoss 19 [.inr (.inr (.inl (16, 0, 0))), .inl x1] z1 (qR (isN (wM A) x1) (wM A (59 + 13 * x1 + 4)) A) := fun z1 md => cM_faultLoss h1 (by decide) md hI
  obtain ⟨R, eR⟩ : ∃ R : aRes, R = (qR (isN (wM A) x1) (wM A (59 + 13 * x1 + 4)) A) := ⟨_, rfl⟩
  rw [← eR] at lv ct hIL
  simp only [← eR] at cm0
  clear eR
  have lt0 : 0 ≤ R.1 ∧ R.1 ≤ 3 := by have := lv.1; omega
  have l3 : ∀ (z2 : aM) (t : Int) (v : Int) (A2 : aAb), lS S z2 A2 → (0 ≤ t ∧ t ≤ 3) → z2 (16, 0, 0) 9 = t → (t = 0 → z2 (18, 0, 0) 0 = v) → (t = 0 → aIR v) → B (none, c1 + 1, c2 + 6) z2 2030 [some (.inr (.inr (.inl (31, 0, 0)))), some (.inr (.inr (.inl (0, 0, 0)))), some (.inr (.inr (.inl (16, 0, 0)))), some (.inr (.inr (.inl (18, 0, 0)))), some (.inr (.inr (.inl (19, 0, 0)))), some (.inl i), some (.inl t), none, none] [.inl v] := by
    intro z2 t v A2 hs2 ht e9 e18 hv
    have fin := hN z2 A2 (some (.inl t)) (some (.inl v)) none (c1 + 1) (c2 + 6) hs2 (Nat.le_refl _) (Nat.le_refl _)
    have th := cM_thrown (l := l) (g := g) (d := 19) (z := z2)
    by_cases t0 : t = 0
    · have f18 := e18 t0
      have fv := hv t0
      have ec : aCmp (z2 (18, 0, 0) 0) v = 0 := by rw [f18]; exact aCmp_rf v
      unfold aIR at fv
      refine hB tc_faultLoss kc_faultLoss [2859] 1000 _ _ _ _ _ ?_
      repeat' (first | exact fin | refine And.intro ?_ ?_ | (intro hh; first | exact absurd hh (by decide) | exact absurd rfl hh | (exfalso; omega) | skip) | refine Or.inl (uE th ?_) | fail)
      all_goals first | omega | (exact rfl) | (show (1 : Nat) ≤ 20; decide)
    · refine hB tc_faultLoss kc_faultLoss [2859] 1000 _ _ _ _ _ ?_
      repeat' (first | exact fin | refine And.intro ?_ ?_ | (intro hh; first | exact absurd hh (by decide) | exact absurd rfl hh | (exfalso; omega) | skip) | refine Or.inl (uE th ?_) | fail)
      all_goals first | omega | (exact rfl) | (show (1 : Nat) ≤ 20; decide)
  have l2 : ∀ r z1, lQ z R r z1 → aPu r [] (fun st => B (none, c1 + 1, c2 + 6) z1 2018 [some (.inr (.inr (.inl (31, 0, 0)))), some (.inr (.inr (.inl (0, 0, 0)))), some (.inr (.inr (.inl (16, 0, 0)))), some (.inr (.inr (.inl (18, 0, 0)))), some (.inr (.inr (.inl (19, 0, 0)))), some (.inl i), none, none, none] st) := by
    intro r z1 hz1
    obtain ⟨rfl, q1, q2, q3⟩ := hz1
    have md := hs.mid q3
    have a1 : z1 (31, 0, 0) (i + 1) = x1 := by rw [md.2]; exact e1.symm
    have cm : mOp l g nX7_faultLoss 19 [.inr (.inr (.inl (16, 0, 0))), .inl (z1 (31, 0, 0) (i + 1))] z1 R := by
      rw [a1]
      exact cm0 z1 md.1
    have l4 : ∀ r z2, (r = some (.inl R.2.1) ∧ (RelM z2 R.2.2 ∧ z2 (16, 0, 0) 9 = R.1) ∧ fM z1 z2) → aPu r [] (fun st => B (none, c1 + 1, c2 + 6) z2 2030 [some (.inr (.inr (.inl (31, 0, 0)))), some (.inr (.inr (.inl (0, 0, 0)))), some (.inr (.inr (.inl (16, 0, 0)))), some (.inr (.inr (.inl (18, 0, 0)))), some (.inr (.inr (.inl (19, 0, 0)))), some (.inl i), some (.inl R.1), none, none] st) := by
      intro r z2 hz2
      obtain ⟨rfl, ⟨p1, p2⟩, p3⟩ := hz2
      exact l3 z2 R.1 R.2.1 R.2.2 (hs.fin q3 q2 p1 p3 hIL.1 hIL.2) lt0 p2 (fun w => by rw [p3 (18, 0, 0) ⟨by decide, by decide⟩]; exact q1 w) lv.2
    refine hB tc_faultLoss kc_faultLoss [2030] 1000 _ _ _ _ _ ?_
    repeat' (first | exact Or.inl (uA cm l4) | refine And.intro ?_ ?_ | (intro hh; first | exact absurd hh (by decide) | exact absurd rfl hh | (exfalso; omega) | skip) | fail)
    all_goals first | omega | (exact rfl) | (show (1 : Nat) ≤ 20; decide)
  refine hB tc_faultLoss kc_faultLoss [2018] 1000 _ _ _ _ _ ?_
  repeat' (first | exact Or.inr (Or.inr ⟨1, 6, ⟨k1, k2⟩, uL ct l2⟩) | refine And.intro ?_ ?_ | (intro hh; first | exact absurd hh (by decide) | exact absurd rfl hh | (exfalso; omega) | skip) | fail)
  all_goals first | omega | (exact rfl) | (show (1 : Nat) ≤ 20; decide)
end LC
